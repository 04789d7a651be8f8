abbrev rm_X2_sample : Room := { frames := 1, cells := 0, slots := 0, locals := 22 }
set_option maxHeartbeats 4000000 in
set_option maxRecDepth 100000 in
theorem c_X2_sample (l : Launch) (D : va_G) (cA : ClassId) (a : Nat → Nat) (u : StM) (x1 : Int32) (v : Int32 × StM) (hv : f_X2_sample u x1 = some v) (hd : djM a) : Met l yX2_sample wsX2_sample rm_X2_sample (va_Pc [.ref (a 0), .int x1] (roB D cA [wM cA a u])) (va_Qi (fun (r : Int32) (u1 : StM) => (r, u1) = v) (fun (u1 : StM) t => va_P D vwCl (wM cA a u1) t.heap) (inM a)) 0 0 (inM a) := by
  refine wr_i (wf := fun u => wM cA a u) (cc := cX2_sample) (maxL := 2) (own := RX2) (by decide) rfl rfl (Nat.le_of_ble_eq_true rfl) ?_
  intro p e s m args below meth c Q ls hC hK hZ hws hl fin
  obtain ⟨hx, hb, hml, hown, hts⟩ := id hC
  have hl : lv_has ls 2 [(0, .ref (a 0)), (1, .int x1)] := hl
  have hP : va_P D vwCl (wM cA a u) s.heap := hws _ (List.mem_of_getElem? (i := 0) rfl)
  have hinX2 : ∀ w ∈ wsX20, w ∈ wsX2_sample := fun w h => List.mem_cons_of_mem _ (List.mem_append_right _ h)
  have hS : va_S (inM a) s.heap s.heap [] := va_S.rf
  unfold f_X2_sample at hv
  skip
  refine lv_aload_n hx hb dX2_sample_0 rfl (lv_at hl 0 rfl) ?_
  refine lv_iconst (v := 0) hx hb dX2_sample_1 (by decide) ?_
  refine ptX2_thrown hx hb hts hinX2 hown hK hP (dM hd _) hS (by decide +kernel) dX2_sample_2 (fun H locs hP hS => ?_)
  refine lv_iload_n hx hb dX2_sample_5 rfl (lv_at hl 1 rfl) ?_
  refine lv_iconst (v := 0) hx hb dX2_sample_6 (by decide) ?_
  refine lv_sipush (v := 1000) hx hb dX2_sample_7 (by decide) ?_
  obtain ⟨r101, e101, hv⟩ := o_bind hv
  refine rcall_i (W.runS (As := [.int x1, .int (0 : Int32), .int (1000 : Int32)]) (rest := []) hC (c_X2_in l D cA x1 (0 : Int32) (1000 : Int32) r101 e101) (va_cwS 3 hts gX2_sample_X2_in rfl rfl rfl (by decide +kernel) ⟨Nat.le_of_ble_eq_true rfl, Nat.le_of_ble_eq_true rfl⟩) ⟨roB_blind, roB_pre hK hZ hws_0⟩ rfl rfl hl.1 rfl (lv_room (Nat.le_of_ble_eq_true rfl)) dX2_sample_10 ⟨Nat.le_of_ble_eq_true rfl, Nat.le_of_ble_eq_true rfl⟩) ?_
  refine lv_if_ne (tgt := 18) hx hb dX2_sample_13 (by decide) (fun c102 => ?_) (fun c102 => ?_)
  · have hv := o_neg hv c102
    refine lv_aload_n hx hb dX2_sample_18 rfl (lv_at hl 0 rfl) ?_
    refine gtX2_samples hx hb hts hinX2 hown hK hP (by decide +kernel) dX2_sample_19 ?_
    refine lv_bipush (v := 12) hx hb dX2_sample_22 (by decide) ?_
    refine lv_icmp_ne (tgt := 30) hx hb dX2_sample_24 (by decide) (fun c103 => ?_) (fun c103 => ?_)
    · have hv := o_neg hv c103
      refine lv_aload_n hx hb dX2_sample_30 rfl (lv_at hl 0 rfl) ?_
      refine gtX2_sample hx hb hts hinX2 hown hK hP (by decide +kernel) dX2_sample_31 ?_
      refine lv_aload_n hx hb dX2_sample_34 rfl (lv_at hl 0 rfl) ?_
      refine gtX2_samples hx hb hts hinX2 hown hK hP (by decide +kernel) dX2_sample_35 ?_
      refine lv_iload_n hx hb dX2_sample_38 rfl (lv_at hl 1 rfl) ?_
      obtain ⟨g104, hv⟩ := o_grd hv
      refine asX2_sample hx hb hK hP (dM hd _) hS g104 dX2_sample_39 (fun H locs hP hS => ?_)
      refine lv_aload_n hx hb dX2_sample_40 rfl (lv_at hl 0 rfl) ?_
      refine lv_dup hx hb dX2_sample_41 rfl ?_
      refine gtX2_samples hx hb hts hinX2 hown hK hP (by decide +kernel) dX2_sample_42 ?_
      refine lv_iconst (v := 1) hx hb dX2_sample_45 (by decide) ?_
      refine lv_iadd hx hb dX2_sample_46 ?_
      refine ptX2_samples hx hb hts hinX2 hown hK hP (dM hd _) hS (by decide +kernel) dX2_sample_47 (fun H locs hP hS => ?_)
      refine lv_aload_n hx hb dX2_sample_50 rfl (lv_at hl 0 rfl) ?_
      refine gtX2_samples hx hb hts hinX2 hown hK hP (by decide +kernel) dX2_sample_51 ?_
      exact fin hP hS dX2_sample_54 hv
    · have hv := o_pos hv c103
      refine lv_bipush (v := -3) hx hb dX2_sample_27 (by decide) ?_
      exact fin hP hS dX2_sample_29 hv
  · have hv := o_pos hv c102
    refine lv_iconst (v := -1) hx hb dX2_sample_16 (by decide) ?_
    exact fin hP hS dX2_sample_17 hv
abbrev rm_X2_clear : Room := { frames := 0, cells := 0, slots := 0, locals := 0 }
set_option maxHeartbeats 4000000 in
set_option maxRecDepth 100000 in
theorem c_X2_clear (l : Launch) (D : va_G) (cA : ClassId) (a : Nat → Nat) (u : StM) (v : Int32 × StM) (hv : f_X2_clear u = some v) (hd : djM a) : Met l yX2_clear wsX2_clear rm_X2_clear (va_Pc [.ref (a 0)] (roB D cA [wM cA a u])) (va_Qi (fun (r : Int32) (u1 : StM) => (r, u1) = v) (fun (u1 : StM) t => va_P D vwCl (wM cA a u1) t.heap) (inM a)) 0 0 (inM a) := by
  refine wr_i (wf := fun u => wM cA a u) (cc := cX2_clear) (maxL := 2) (own := RX2) (by decide) rfl rfl (Nat.le_of_ble_eq_true rfl) ?_
  intro p e s m args below meth c Q ls hC hK hZ hws hl fin
  obtain ⟨hx, hb, hml, hown, hts⟩ := id hC
  have hl : lv_has ls 2 [(0, .ref (a 0))] := hl
  have hP : va_P D vwCl (wM cA a u) s.heap := hws _ (List.mem_of_getElem? (i := 0) rfl)
  have hinX2 : ∀ w ∈ wsX20, w ∈ wsX2_clear := fun w h => List.mem_cons_of_mem _ (List.mem_append_right _ h)
  have hS : va_S (inM a) s.heap s.heap [] := va_S.rf
  unfold f_X2_clear at hv
  skip
  refine lv_aload_n hx hb dX2_clear_0 rfl (lv_at hl 0 rfl) ?_
  refine lv_iconst (v := 0) hx hb dX2_clear_1 (by decide) ?_
  refine ptX2_thrown hx hb hts hinX2 hown hK hP (dM hd _) hS (by decide +kernel) dX2_clear_2 (fun H locs hP hS => ?_)
  refine lv_aload_n hx hb dX2_clear_5 rfl (lv_at hl 0 rfl) ?_
  refine gtX2_samples hx hb hts hinX2 hown hK hP (by decide +kernel) dX2_clear_6 ?_
  refine lv_istore_n (lv' := [(1, .int (m_samples (m_set_thrown u (0 : Int32)))), (0, .ref (a 0))]) hx hb dX2_clear_9 rfl hl (by decide) rfl (fun ls hl => ?_)
  refine lv_aload_n hx hb dX2_clear_10 rfl (lv_at hl 1 rfl) ?_
  refine lv_iconst (v := 0) hx hb dX2_clear_11 (by decide) ?_
  refine ptX2_samples hx hb hts hinX2 hown hK hP (dM hd _) hS (by decide +kernel) dX2_clear_12 (fun H locs hP hS => ?_)
  refine lv_iload_n hx hb dX2_clear_15 rfl (lv_at hl 0 rfl) ?_
  exact fin hP hS dX2_clear_16 hv
abbrev rm_X2_learnt : Room := { frames := 0, cells := 0, slots := 0, locals := 0 }
set_option maxHeartbeats 4000000 in
set_option maxRecDepth 100000 in
theorem c_X2_learnt (l : Launch) (D : va_G) (cA : ClassId) (a : Nat → Nat) (u : StM) (v : Int32 × StM) (hv : f_X2_learnt u = some v) (hd : djM a) : Met l yX2_learnt wsX2_learnt rm_X2_learnt (va_Pc [.ref (a 0)] (roB D cA [wM cA a u])) (va_Qi (fun (r : Int32) (u1 : StM) => (r, u1) = v) (fun (u1 : StM) t => va_P D vwCl (wM cA a u1) t.heap) (inM a)) 0 0 (inM a) := by
  refine wr_i (wf := fun u => wM cA a u) (cc := cX2_learnt) (maxL := 6) (own := RX2) (by decide) rfl rfl (Nat.le_of_ble_eq_true rfl) ?_
  intro p e s m args below meth c Q ls hC hK hZ hws hl fin
  obtain ⟨hx, hb, hml, hown, hts⟩ := id hC
  have hl : lv_has ls 6 [(0, .ref (a 0))] := hl
  have hP : va_P D vwCl (wM cA a u) s.heap := hws _ (List.mem_of_getElem? (i := 0) rfl)
  have hinX2 : ∀ w ∈ wsX20, w ∈ wsX2_learnt := fun w h => List.mem_cons_of_mem _ (List.mem_append_right _ h)
  have hS : va_S (inM a) s.heap s.heap [] := va_S.rf
  have hB26 : ∀ (k67 : StM → Int32 → Int32 → Int32 → Int32 → Option (Int32 × StM)) (hk67 : ∀ (u : StM) (H : Heap) (locs : List Loc) (x1 : Int32) (x2 : Int32) (x3 : Int32) (x4 : Int32) (ls : Array Slot), va_P D vwCl (wM cA a u) H → va_S (inM a) s.heap H locs → lv_has ls 6 [(0, .ref (a 0)), (1, .int x1), (2, .int x2), (3, .int x3), (4, .int x4)] → k67 u x1 x2 x3 x4 = some v → W p l e rm_X2_learnt s m args below meth c H locs 0 0 Q (F0 m 67 ls [])) (n : Nat) (u : StM) (H : Heap) (locs : List Loc) (x1 : Int32) (x2 : Int32) (x3 : Int32) (x4 : Int32) (x5 : Int32) (ls : Array Slot), va_P D vwCl (wM cA a u) H → va_S (inM a) s.heap H locs → lv_has ls 6 [(0, .ref (a 0)), (1, .int x1), (2, .int x2), (3, .int x3), (4, .int x4), (5, .int x5)] → B_X2_learnt_26 k67 n u x1 x2 x3 x4 x5 = some v → W p l e rm_X2_learnt s m args below meth c H locs 0 0 Q (F0 m 26 ls []) := by
    intro k67 hk67 n
    induction n with
    | zero => intro u H locs x1 x2 x3 x4 x5 ls hP hS hl hv; exact absurd hv (by intro h; cases h)
    | succ n hk26 =>
      intro u H locs x1 x2 x3 x4 x5 ls hP hS hl hv
      rw [B_X2_learnt_26] at hv
      refine lv_iload hx hb dX2_learnt_26 (lv_at hl 5 rfl) ?_
      refine lv_aload_n hx hb dX2_learnt_28 rfl (lv_at hl 0 rfl) ?_
      refine gtX2_samples hx hb hts hinX2 hown hK hP (by decide +kernel) dX2_learnt_29 ?_
      refine lv_icmp_ge (tgt := 67) hx hb dX2_learnt_32 (by decide) (fun c101 => ?_) (fun c101 => ?_)
      · have hv := o_pos hv c101
        exact hk67 _ _ _ _ _ _ _  ls hP hS (lv_sub hl [0, 1, 2, 3, 4] rfl) hv
      · have hv := o_neg hv c101
        refine lv_iload hx hb dX2_learnt_35 (lv_at hl 4 rfl) ?_
        refine lv_aload_n hx hb dX2_learnt_37 rfl (lv_at hl 0 rfl) ?_
        refine gtX2_sample hx hb hts hinX2 hown hK hP (by decide +kernel) dX2_learnt_38 ?_
        refine lv_iload hx hb dX2_learnt_41 (lv_at hl 5 rfl) ?_
        obtain ⟨g102, hv⟩ := o_grd hv
        refine alX2_sample hx hb hK hP g102 dX2_learnt_43 ?_
        refine lv_aload_n hx hb dX2_learnt_44 rfl (lv_at hl 0 rfl) ?_
        refine gtX2_sample hx hb hts hinX2 hown hK hP (by decide +kernel) dX2_learnt_45 ?_
        refine lv_iload_n hx hb dX2_learnt_48 rfl (lv_at hl 3 rfl) ?_
        obtain ⟨g103, hv⟩ := o_grd hv
        refine alX2_sample hx hb hK hP g103 dX2_learnt_49 ?_
        refine lv_icmp_lt (tgt := 57) hx hb dX2_learnt_50 (by decide) (fun c104 => ?_) (fun c104 => ?_)
        · have hv := o_pos hv c104
          refine lv_iconst (v := 0) hx hb dX2_learnt_57 (by decide) ?_
          refine lv_iadd hx hb dX2_learnt_58 ?_
          refine lv_istore (lv' := [(4, .int (x4 + (0 : Int32))), (0, .ref (a 0)), (1, .int x1), (2, .int x2), (3, .int x3), (5, .int x5)]) hx hb dX2_learnt_59 hl (by decide) rfl (fun ls hl => ?_)
          refine lv_iinc (v := (x5 + 1)) (lv' := [(5, .int (x5 + 1)), (4, .int (x4 + (0 : Int32))), (0, .ref (a 0)), (1, .int x1), (2, .int x2), (3, .int x3)]) hx hb dX2_learnt_61 hl (k := 5) rfl rfl (by decide) rfl (fun ls hl => ?_)
          refine lv_goto (tgt := 26) hx hb dX2_learnt_64 (by decide) ?_
          exact hk26 _ _ _ _ _ _ _ _  ls hP hS (lv_sub hl [2, 3, 4, 5, 1, 0] rfl) hv
        · have hv := o_neg hv c104
          refine lv_iconst (v := 1) hx hb dX2_learnt_53 (by decide) ?_
          refine lv_goto (tgt := 58) hx hb dX2_learnt_54 (by decide) ?_
          refine lv_iadd hx hb dX2_learnt_58 ?_
          refine lv_istore (lv' := [(4, .int (x4 + (1 : Int32))), (0, .ref (a 0)), (1, .int x1), (2, .int x2), (3, .int x3), (5, .int x5)]) hx hb dX2_learnt_59 hl (by decide) rfl (fun ls hl => ?_)
          refine lv_iinc (v := (x5 + 1)) (lv' := [(5, .int (x5 + 1)), (4, .int (x4 + (1 : Int32))), (0, .ref (a 0)), (1, .int x1), (2, .int x2), (3, .int x3)]) hx hb dX2_learnt_61 hl (k := 5) rfl rfl (by decide) rfl (fun ls hl => ?_)
          refine lv_goto (tgt := 26) hx hb dX2_learnt_64 (by decide) ?_
          exact hk26 _ _ _ _ _ _ _ _  ls hP hS (lv_sub hl [2, 3, 4, 5, 1, 0] rfl) hv
  have hB12 : ∀ (k116 : StM → Int32 → Option (Int32 × StM)) (hk116 : ∀ (u : StM) (H : Heap) (locs : List Loc) (x1 : Int32) (ls : Array Slot), va_P D vwCl (wM cA a u) H → va_S (inM a) s.heap H locs → lv_has ls 6 [(1, .int x1)] → k116 u x1 = some v → W p l e rm_X2_learnt s m args below meth c H locs 0 0 Q (F0 m 116 ls [])) (n : Nat) (u : StM) (H : Heap) (locs : List Loc) (x1 : Int32) (x2 : Int32) (x3 : Int32) (ls : Array Slot), va_P D vwCl (wM cA a u) H → va_S (inM a) s.heap H locs → lv_has ls 6 [(0, .ref (a 0)), (1, .int x1), (2, .int x2), (3, .int x3)] → B_X2_learnt_12 k116 n u x1 x2 x3 = some v → W p l e rm_X2_learnt s m args below meth c H locs 0 0 Q (F0 m 12 ls []) := by
    intro k116 hk116 n
    induction n with
    | zero => intro u H locs x1 x2 x3 ls hP hS hl hv; exact absurd hv (by intro h; cases h)
    | succ n hk12 =>
      intro u H locs x1 x2 x3 ls hP hS hl hv
      rw [B_X2_learnt_12] at hv
      refine lv_iload_n hx hb dX2_learnt_12 rfl (lv_at hl 3 rfl) ?_
      refine lv_aload_n hx hb dX2_learnt_13 rfl (lv_at hl 0 rfl) ?_
      refine gtX2_samples hx hb hts hinX2 hown hK hP (by decide +kernel) dX2_learnt_14 ?_
      refine lv_icmp_ge (tgt := 116) hx hb dX2_learnt_17 (by decide) (fun c205 => ?_) (fun c205 => ?_)
      · have hv := o_pos hv c205
        exact hk116 _ _ _ _  ls hP hS (lv_sub hl [1] rfl) hv
      · have hv := o_neg hv c205
        refine lv_iconst (v := 0) hx hb dX2_learnt_20 (by decide) ?_
        refine lv_istore (lv' := [(4, .int (0 : Int32)), (0, .ref (a 0)), (1, .int x1), (2, .int x2), (3, .int x3)]) hx hb dX2_learnt_21 hl (by decide) rfl (fun ls hl => ?_)
        refine lv_iconst (v := 0) hx hb dX2_learnt_23 (by decide) ?_
        refine lv_istore (lv' := [(5, .int (0 : Int32)), (4, .int (0 : Int32)), (0, .ref (a 0)), (1, .int x1), (2, .int x2), (3, .int x3)]) hx hb dX2_learnt_24 hl (by decide) rfl (fun ls hl => ?_)
        refine hB26 _ (fun z206_u H locs z206_1 z206_2 z206_3 z206_4 ls hP hS hl hv => ?_) 1000 _ _ _ _ _ _ _ _ ls hP hS (lv_sub hl [2, 3, 4, 5, 1, 0] rfl) hv
        · skip
          refine lv_aload_n hx hb dX2_learnt_67 rfl (lv_at hl 0 rfl) ?_
          refine gtX2_sample hx hb hts hinX2 hown hK hP (by decide +kernel) dX2_learnt_68 ?_
          refine lv_iload_n hx hb dX2_learnt_71 rfl (lv_at hl 3 rfl) ?_
          obtain ⟨g207, hv⟩ := o_grd hv
          refine alX2_sample hx hb hK hP g207 dX2_learnt_72 ?_
          refine lv_iload hx hb dX2_learnt_73 (lv_at hl 4 rfl) ?_
          refine lv_imul hx hb dX2_learnt_75 ?_
          refine lv_istore (lv' := [(5, .int ((m_sample z206_u z206_3.toNatClampNeg) * z206_4)), (0, .ref (a 0)), (1, .int z206_1), (2, .int z206_2), (3, .int z206_3), (4, .int z206_4)]) hx hb dX2_learnt_76 hl (by decide) rfl (fun ls hl => ?_)
          refine lv_iload hx hb dX2_learnt_78 (lv_at hl 0 rfl) ?_
          refine lv_iload_n hx hb dX2_learnt_80 rfl (lv_at hl 3 rfl) ?_
          refine lv_icmp_gt (tgt := 100) hx hb dX2_learnt_81 (by decide) (fun c208 => ?_) (fun c208 => ?_)
          · have hv := o_pos hv c208
            refine lv_iload hx hb dX2_learnt_100 (lv_at hl 0 rfl) ?_
            refine lv_istore_n (lv' := [(2, .int ((m_sample z206_u z206_3.toNatClampNeg) * z206_4)), (5, .int ((m_sample z206_u z206_3.toNatClampNeg) * z206_4)), (0, .ref (a 0)), (1, .int z206_1), (3, .int z206_3), (4, .int z206_4)]) hx hb dX2_learnt_102 rfl hl (by decide) rfl (fun ls hl => ?_)
            refine lv_aload_n hx hb dX2_learnt_103 rfl (lv_at hl 2 rfl) ?_
            refine gtX2_sample hx hb hts hinX2 hown hK hP (by decide +kernel) dX2_learnt_104 ?_
            refine lv_iload_n hx hb dX2_learnt_107 rfl (lv_at hl 4 rfl) ?_
            obtain ⟨g209, hv⟩ := o_grd hv
            refine alX2_sample hx hb hK hP g209 dX2_learnt_108 ?_
            refine lv_istore_n (lv' := [(1, .int (m_sample z206_u z206_3.toNatClampNeg)), (2, .int ((m_sample z206_u z206_3.toNatClampNeg) * z206_4)), (5, .int ((m_sample z206_u z206_3.toNatClampNeg) * z206_4)), (0, .ref (a 0)), (3, .int z206_3), (4, .int z206_4)]) hx hb dX2_learnt_109 rfl hl (by decide) rfl (fun ls hl => ?_)
            refine lv_iinc (v := (z206_3 + 1)) (lv' := [(3, .int (z206_3 + 1)), (1, .int (m_sample z206_u z206_3.toNatClampNeg)), (2, .int ((m_sample z206_u z206_3.toNatClampNeg) * z206_4)), (5, .int ((m_sample z206_u z206_3.toNatClampNeg) * z206_4)), (0, .ref (a 0)), (4, .int z206_4)]) hx hb dX2_learnt_110 hl (k := 4) rfl rfl (by decide) rfl (fun ls hl => ?_)
            refine lv_goto (tgt := 12) hx hb dX2_learnt_113 (by decide) ?_
            exact hk12 _ _ _ _ _ _  ls hP hS (lv_sub hl [4, 1, 2, 0] rfl) hv
          · have hv := o_neg hv c208
            refine lv_iload hx hb dX2_learnt_84 (lv_at hl 0 rfl) ?_
            refine lv_iload_n hx hb dX2_learnt_86 rfl (lv_at hl 3 rfl) ?_
            refine lv_icmp_ne (tgt := 110) hx hb dX2_learnt_87 (by decide) (fun c210 => ?_) (fun c210 => ?_)
            · have hv := o_neg hv c210
              refine lv_iinc (v := (z206_3 + 1)) (lv' := [(3, .int (z206_3 + 1)), (5, .int ((m_sample z206_u z206_3.toNatClampNeg) * z206_4)), (0, .ref (a 0)), (1, .int z206_1), (2, .int z206_2), (4, .int z206_4)]) hx hb dX2_learnt_110 hl (k := 4) rfl rfl (by decide) rfl (fun ls hl => ?_)
              refine lv_goto (tgt := 12) hx hb dX2_learnt_113 (by decide) ?_
              exact hk12 _ _ _ _ _ _  ls hP hS (lv_sub hl [2, 3, 4, 0] rfl) hv
            · have hv := o_pos hv c210
              refine lv_aload_n hx hb dX2_learnt_90 rfl (lv_at hl 1 rfl) ?_
              refine gtX2_sample hx hb hts hinX2 hown hK hP (by decide +kernel) dX2_learnt_91 ?_
              refine lv_iload_n hx hb dX2_learnt_94 rfl (lv_at hl 4 rfl) ?_
              obtain ⟨g211, hv⟩ := o_grd hv
              refine alX2_sample hx hb hK hP g211 dX2_learnt_95 ?_
              refine lv_iload_n hx hb dX2_learnt_96 rfl (lv_at hl 2 rfl) ?_
              refine lv_icmp_ge (tgt := 110) hx hb dX2_learnt_97 (by decide) (fun c212 => ?_) (fun c212 => ?_)
              · have hv := o_pos hv c212
                refine lv_iinc (v := (z206_3 + 1)) (lv' := [(3, .int (z206_3 + 1)), (5, .int ((m_sample z206_u z206_3.toNatClampNeg) * z206_4)), (0, .ref (a 0)), (1, .int z206_1), (2, .int z206_2), (4, .int z206_4)]) hx hb dX2_learnt_110 hl (k := 4) rfl rfl (by decide) rfl (fun ls hl => ?_)
                refine lv_goto (tgt := 12) hx hb dX2_learnt_113 (by decide) ?_
                exact hk12 _ _ _ _ _ _  ls hP hS (lv_sub hl [2, 3, 4, 0] rfl) hv
              · have hv := o_neg hv c212
                refine lv_iload hx hb dX2_learnt_100 (lv_at hl 0 rfl) ?_
                refine lv_istore_n (lv' := [(2, .int ((m_sample z206_u z206_3.toNatClampNeg) * z206_4)), (5, .int ((m_sample z206_u z206_3.toNatClampNeg) * z206_4)), (0, .ref (a 0)), (1, .int z206_1), (3, .int z206_3), (4, .int z206_4)]) hx hb dX2_learnt_102 rfl hl (by decide) rfl (fun ls hl => ?_)
                refine lv_aload_n hx hb dX2_learnt_103 rfl (lv_at hl 2 rfl) ?_
                refine gtX2_sample hx hb hts hinX2 hown hK hP (by decide +kernel) dX2_learnt_104 ?_
                refine lv_iload_n hx hb dX2_learnt_107 rfl (lv_at hl 4 rfl) ?_
                obtain ⟨g213, hv⟩ := o_grd hv
                refine alX2_sample hx hb hK hP g213 dX2_learnt_108 ?_
                refine lv_istore_n (lv' := [(1, .int (m_sample z206_u z206_3.toNatClampNeg)), (2, .int ((m_sample z206_u z206_3.toNatClampNeg) * z206_4)), (5, .int ((m_sample z206_u z206_3.toNatClampNeg) * z206_4)), (0, .ref (a 0)), (3, .int z206_3), (4, .int z206_4)]) hx hb dX2_learnt_109 rfl hl (by decide) rfl (fun ls hl => ?_)
                refine lv_iinc (v := (z206_3 + 1)) (lv' := [(3, .int (z206_3 + 1)), (1, .int (m_sample z206_u z206_3.toNatClampNeg)), (2, .int ((m_sample z206_u z206_3.toNatClampNeg) * z206_4)), (5, .int ((m_sample z206_u z206_3.toNatClampNeg) * z206_4)), (0, .ref (a 0)), (4, .int z206_4)]) hx hb dX2_learnt_110 hl (k := 4) rfl rfl (by decide) rfl (fun ls hl => ?_)
                refine lv_goto (tgt := 12) hx hb dX2_learnt_113 (by decide) ?_
                exact hk12 _ _ _ _ _ _  ls hP hS (lv_sub hl [4, 1, 2, 0] rfl) hv
  unfold f_X2_learnt at hv
  skip
  refine lv_aload_n hx hb dX2_learnt_0 rfl (lv_at hl 0 rfl) ?_
  refine lv_iconst (v := 0) hx hb dX2_learnt_1 (by decide) ?_
  refine ptX2_thrown hx hb hts hinX2 hown hK hP (dM hd _) hS (by decide +kernel) dX2_learnt_2 (fun H locs hP hS => ?_)
  refine lv_bipush (v := -9) hx hb dX2_learnt_5 (by decide) ?_
  refine lv_istore_n (lv' := [(1, .int (-9 : Int32)), (0, .ref (a 0))]) hx hb dX2_learnt_7 rfl hl (by decide) rfl (fun ls hl => ?_)
  refine lv_iconst (v := -1) hx hb dX2_learnt_8 (by decide) ?_
  refine lv_istore_n (lv' := [(2, .int (-1 : Int32)), (1, .int (-9 : Int32)), (0, .ref (a 0))]) hx hb dX2_learnt_9 rfl hl (by decide) rfl (fun ls hl => ?_)
  refine lv_iconst (v := 0) hx hb dX2_learnt_10 (by decide) ?_
  refine lv_istore_n (lv' := [(3, .int (0 : Int32)), (2, .int (-1 : Int32)), (1, .int (-9 : Int32)), (0, .ref (a 0))]) hx hb dX2_learnt_11 rfl hl (by decide) rfl (fun ls hl => ?_)
  refine hB12 _ (fun z314_u H locs z314_1 ls hP hS hl hv => ?_) 1000 _ _ _ _ _ _ ls hP hS (lv_sub hl [3, 2, 1, 0] rfl) hv
  · skip
    refine lv_iload_n hx hb dX2_learnt_116 rfl (lv_at hl 0 rfl) ?_
    exact fin hP hS dX2_learnt_117 hv
abbrev rm_X2_count : Room := { frames := 0, cells := 0, slots := 0, locals := 0 }
set_option maxHeartbeats 4000000 in
set_option maxRecDepth 100000 in
theorem c_X2_count (l : Launch) (D : va_G) (cA : ClassId) (a : Nat → Nat) (u : StM) (x1 : Int32) (v : Int32 × StM) (hv : f_X2_count u x1 = some v) (hd : djM a) : Met l yX2_count wsX2_count rm_X2_count (va_Pc [.ref (a 0), .int x1] (roB D cA [wM cA a u])) (va_Qi (fun (r : Int32) (u1 : StM) => (r, u1) = v) (fun (u1 : StM) t => va_P D vwCl (wM cA a u1) t.heap) (inM a)) 0 0 (inM a) := by
  refine wr_i (wf := fun u => wM cA a u) (cc := cX2_count) (maxL := 2) (own := RX2) (by decide) rfl rfl (Nat.le_of_ble_eq_true rfl) ?_
  intro p e s m args below meth c Q ls hC hK hZ hws hl fin
  obtain ⟨hx, hb, hml, hown, hts⟩ := id hC
  have hl : lv_has ls 2 [(0, .ref (a 0)), (1, .int x1)] := hl
  have hP : va_P D vwCl (wM cA a u) s.heap := hws _ (List.mem_of_getElem? (i := 0) rfl)
  have hinX2 : ∀ w ∈ wsX20, w ∈ wsX2_count := fun w h => List.mem_cons_of_mem _ (List.mem_append_right _ h)
  have hS : va_S (inM a) s.heap s.heap [] := va_S.rf
  unfold f_X2_count at hv
  skip
  refine lv_aload_n hx hb dX2_count_0 rfl (lv_at hl 0 rfl) ?_
  refine lv_iconst (v := 0) hx hb dX2_count_1 (by decide) ?_
  refine ptX2_thrown hx hb hts hinX2 hown hK hP (dM hd _) hS (by decide +kernel) dX2_count_2 (fun H locs hP hS => ?_)
  refine lv_iload_n hx hb dX2_count_5 rfl (lv_at hl 1 rfl) ?_
  refine lv_if_ne (tgt := 16) hx hb dX2_count_6 (by decide) (fun c101 => ?_) (fun c101 => ?_)
  · have hv := o_neg hv c101
    refine lv_iload_n hx hb dX2_count_16 rfl (lv_at hl 1 rfl) ?_
    refine lv_iconst (v := 1) hx hb dX2_count_17 (by decide) ?_
    refine lv_icmp_ne (tgt := 28) hx hb dX2_count_18 (by decide) (fun c102 => ?_) (fun c102 => ?_)
    · have hv := o_neg hv c102
      refine lv_iload_n hx hb dX2_count_28 rfl (lv_at hl 1 rfl) ?_
      refine lv_iconst (v := 2) hx hb dX2_count_29 (by decide) ?_
      refine lv_icmp_ne (tgt := 40) hx hb dX2_count_30 (by decide) (fun c103 => ?_) (fun c103 => ?_)
      · have hv := o_neg hv c103
        refine lv_iconst (v := -1) hx hb dX2_count_40 (by decide) ?_
        exact fin hP hS dX2_count_41 hv
      · have hv := o_pos hv c103
        refine lv_aload_n hx hb dX2_count_33 rfl (lv_at hl 0 rfl) ?_
        refine gtX2_samples hx hb hts hinX2 hown hK hP (by decide +kernel) dX2_count_34 ?_
        refine lv_goto (tgt := 41) hx hb dX2_count_37 (by decide) ?_
        exact fin hP hS dX2_count_41 hv
    · have hv := o_pos hv c102
      refine lv_aload_n hx hb dX2_count_21 rfl (lv_at hl 0 rfl) ?_
      refine gtX2_reserve hx hb hts hinX2 hown hK hP (by decide +kernel) dX2_count_22 ?_
      refine lv_goto (tgt := 41) hx hb dX2_count_25 (by decide) ?_
      exact fin hP hS dX2_count_41 hv
  · have hv := o_pos hv c101
    refine lv_aload_n hx hb dX2_count_9 rfl (lv_at hl 0 rfl) ?_
    refine gtX2_n hx hb hts hinX2 hown hK hP (by decide +kernel) dX2_count_10 ?_
    refine lv_goto (tgt := 41) hx hb dX2_count_13 (by decide) ?_
    exact fin hP hS dX2_count_41 hv
abbrev rm_X2_trace : Room := { frames := 0, cells := 0, slots := 0, locals := 0 }
set_option maxHeartbeats 4000000 in
set_option maxRecDepth 100000 in
theorem c_X2_trace (l : Launch) (D : va_G) (cA : ClassId) (a : Nat → Nat) (u : StM) (v : Int64 × StM) (hv : f_X2_trace u = some v) (hd : djM a) : Met l yX2_trace wsX2_trace rm_X2_trace (va_Pc [.ref (a 0)] (roB D cA [wM cA a u])) (va_Ql (fun (r : Int64) (u1 : StM) => (r, u1) = v) (fun (u1 : StM) t => va_P D vwCl (wM cA a u1) t.heap) (inM a)) 0 0 (inM a) := by
  refine wr_l (wf := fun u => wM cA a u) (cc := cX2_trace) (maxL := 1) (own := RX2) (by decide) rfl rfl (Nat.le_of_ble_eq_true rfl) ?_
  intro p e s m args below meth c Q ls hC hK hZ hws hl fin
  obtain ⟨hx, hb, hml, hown, hts⟩ := id hC
  have hl : lv_has ls 1 [(0, .ref (a 0))] := hl
  have hP : va_P D vwCl (wM cA a u) s.heap := hws _ (List.mem_of_getElem? (i := 0) rfl)
  have hinX2 : ∀ w ∈ wsX20, w ∈ wsX2_trace := fun w h => List.mem_cons_of_mem _ (List.mem_append_right _ h)
  have hS : va_S (inM a) s.heap s.heap [] := va_S.rf
  unfold f_X2_trace at hv
  skip
  refine lv_aload_n hx hb dX2_trace_0 rfl (lv_at hl 0 rfl) ?_
  refine lv_iconst (v := 0) hx hb dX2_trace_1 (by decide) ?_
  refine ptX2_thrown hx hb hts hinX2 hown hK hP (dM hd _) hS (by decide +kernel) dX2_trace_2 (fun H locs hP hS => ?_)
  refine lv_aload_n hx hb dX2_trace_5 rfl (lv_at hl 0 rfl) ?_
  refine gtX2_trace hx hb hts hinX2 hown hK hP (by decide +kernel) dX2_trace_6 ?_
  exact fin hP hS dX2_trace_9 hv
