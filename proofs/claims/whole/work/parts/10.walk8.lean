abbrev rm_X2_average : Room := { frames := 3, cells := 0, slots := 0, locals := 68 }
set_option maxHeartbeats 4000000 in
set_option maxRecDepth 100000 in
theorem c_X2_average (l : Launch) (D : va_G) (cA : ClassId) (a : Nat → Nat) (u : StM) (x1 : Int32) (x2 : Int32) (v : Int64 × StM) (hv : f_X2_average u x1 x2 = some v) (hd : djM a) : Met l yX2_average wsX2_average rm_X2_average (va_Pc [.ref (a 0), .int x1, .int x2] (roB D cA [wM cA a u])) (va_Ql (fun (r : Int64) (u1 : StM) => (r, u1) = v) (fun (u1 : StM) t => va_P D vwCl (wM cA a u1) t.heap) (inM a)) 0 0 (inM a) := by
  refine wr_l (wf := fun u => wM cA a u) (cc := cX2_average) (maxL := 8) (own := RX2) (by decide) rfl rfl (Nat.le_of_ble_eq_true rfl) ?_
  intro p e s m args below meth c Q ls hC hK hZ hws hl fin
  obtain ⟨hx, hb, hml, hown, hts⟩ := id hC
  have hl : lv_has ls 8 [(0, .ref (a 0)), (1, .int x1), (2, .int x2)] := hl
  have hP : va_P D vwCl (wM cA a u) s.heap := hws _ (List.mem_of_getElem? (i := 0) rfl)
  have hinX2 : ∀ w ∈ wsX20, w ∈ wsX2_average := fun w h => List.mem_cons_of_mem _ (List.mem_append_right _ h)
  have hS : va_S (inM a) s.heap s.heap [] := va_S.rf
  have hB55 : ∀ (k94 : StM → Int32 → Int32 → Int64 → Int32 → Int32 → Option (Int64 × StM)) (hk94 : ∀ (u : StM) (H : Heap) (locs : List Loc) (x1 : Int32) (x2 : Int32) (x3 : Int64) (x5 : Int32) (x6 : Int32) (ls : Array Slot), va_P D vwCl (wM cA a u) H → va_S (inM a) s.heap H locs → lv_has ls 8 [(0, .ref (a 0)), (1, .int x1), (2, .int x2), (3, .long x3), (5, .int x5), (6, .int x6)] → k94 u x1 x2 x3 x5 x6 = some v → W p l e rm_X2_average s m args below meth c H locs 0 0 Q (F0 m 94 ls [])) (n : Nat) (u : StM) (H : Heap) (locs : List Loc) (x1 : Int32) (x2 : Int32) (x3 : Int64) (x5 : Int32) (x6 : Int32) (x7 : Int32) (ls : Array Slot), va_P D vwCl (wM cA a u) H → va_S (inM a) s.heap H locs → lv_has ls 8 [(0, .ref (a 0)), (1, .int x1), (2, .int x2), (3, .long x3), (5, .int x5), (6, .int x6), (7, .int x7)] → B_X2_average_55 k94 n u x1 x2 x3 x5 x6 x7 = some v → W p l e rm_X2_average s m args below meth c H locs 0 0 Q (F0 m 55 ls []) := by
    intro k94 hk94 n
    induction n with
    | zero => intro u H locs x1 x2 x3 x5 x6 x7 ls hP hS hl hv; exact absurd hv (by intro h; cases h)
    | succ n hk55 =>
      intro u H locs x1 x2 x3 x5 x6 x7 ls hP hS hl hv
      rw [B_X2_average_55] at hv
      refine lv_iload hx hb dX2_average_55 (lv_at hl 6 rfl) ?_
      refine lv_aload_n hx hb dX2_average_57 rfl (lv_at hl 0 rfl) ?_
      refine gtX2_n hx hb hts hinX2 hown hK hP (by decide +kernel) dX2_average_58 ?_
      refine lv_icmp_ge (tgt := 94) hx hb dX2_average_61 (by decide) (fun c101 => ?_) (fun c101 => ?_)
      · have hv := o_pos hv c101
        exact hk94 _ _ _ _ _ _ _ _  ls hP hS (lv_sub hl [0, 1, 2, 3, 4, 5] rfl) hv
      · have hv := o_neg hv c101
        refine lv_aload_n hx hb dX2_average_64 rfl (lv_at hl 0 rfl) ?_
        refine gtX2_told hx hb hts hinX2 hown hK hP (by decide +kernel) dX2_average_65 ?_
        refine lv_iload hx hb dX2_average_68 (lv_at hl 6 rfl) ?_
        refine lv_aload_n hx hb dX2_average_70 rfl (lv_at hl 0 rfl) ?_
        refine gtX2_worth hx hb hts hinX2 hown hK hP (by decide +kernel) dX2_average_71 ?_
        refine lv_iconst (v := 5) hx hb dX2_average_74 (by decide) ?_
        refine lv_iload hx hb dX2_average_75 (lv_at hl 6 rfl) ?_
        refine lv_imul hx hb dX2_average_77 ?_
        refine lv_aload_n hx hb dX2_average_78 rfl (lv_at hl 0 rfl) ?_
        refine gtX2_place hx hb hts hinX2 hown hK hP (by decide +kernel) dX2_average_79 ?_
        refine lv_iload hx hb dX2_average_82 (lv_at hl 6 rfl) ?_
        obtain ⟨g102, hv⟩ := o_grd hv
        refine alX2_place hx hb hK hP g102 dX2_average_84 ?_
        refine lv_iadd hx hb dX2_average_85 ?_
        obtain ⟨g103, hv⟩ := o_grd hv
        refine alX2_worth hx hb hK hP g103 dX2_average_86 ?_
        obtain ⟨g104, hv⟩ := o_grd hv
        refine asX2_told hx hb hK hP (dM hd _) hS g104 dX2_average_87 (fun H locs hP hS => ?_)
        refine lv_iinc (v := (x7 + 1)) (lv' := [(7, .int (x7 + 1)), (0, .ref (a 0)), (1, .int x1), (2, .int x2), (3, .long x3), (5, .int x5), (6, .int x6)]) hx hb dX2_average_88 hl (k := 6) rfl rfl (by decide) rfl (fun ls hl => ?_)
        refine lv_goto (tgt := 55) hx hb dX2_average_91 (by decide) ?_
        exact hk55 _ _ _ _ _ _ _ _ _  ls hP hS (lv_sub hl [1, 2, 3, 4, 5, 6, 0] rfl) hv
  have hB32 : ∀ (k128 : StM → Int32 → Int64 → Option (Int64 × StM)) (hk128 : ∀ (u : StM) (H : Heap) (locs : List Loc) (x2 : Int32) (x3 : Int64) (ls : Array Slot), va_P D vwCl (wM cA a u) H → va_S (inM a) s.heap H locs → lv_has ls 8 [(0, .ref (a 0)), (2, .int x2), (3, .long x3)] → k128 u x2 x3 = some v → W p l e rm_X2_average s m args below meth c H locs 0 0 Q (F0 m 128 ls [])) (n : Nat) (u : StM) (H : Heap) (locs : List Loc) (x1 : Int32) (x2 : Int32) (x3 : Int64) (x5 : Int32) (ls : Array Slot), va_P D vwCl (wM cA a u) H → va_S (inM a) s.heap H locs → lv_has ls 8 [(0, .ref (a 0)), (1, .int x1), (2, .int x2), (3, .long x3), (5, .int x5)] → B_X2_average_32 k128 n u x1 x2 x3 x5 = some v → W p l e rm_X2_average s m args below meth c H locs 0 0 Q (F0 m 32 ls []) := by
    intro k128 hk128 n
    induction n with
    | zero => intro u H locs x1 x2 x3 x5 ls hP hS hl hv; exact absurd hv (by intro h; cases h)
    | succ n hk32 =>
      intro u H locs x1 x2 x3 x5 ls hP hS hl hv
      rw [B_X2_average_32] at hv
      refine lv_iload hx hb dX2_average_32 (lv_at hl 4 rfl) ?_
      refine lv_bipush (v := 125) hx hb dX2_average_34 (by decide) ?_
      refine lv_icmp_ge (tgt := 128) hx hb dX2_average_36 (by decide) (fun c205 => ?_) (fun c205 => ?_)
      · have hv := o_pos hv c205
        exact hk128 _ _ _ _ _  ls hP hS (lv_sub hl [0, 2, 3] rfl) hv
      · have hv := o_neg hv c205
        refine lv_aload_n hx hb dX2_average_39 rfl (lv_at hl 0 rfl) ?_
        refine lv_iload hx hb dX2_average_40 (lv_at hl 4 rfl) ?_
        obtain ⟨⟨r206, w206⟩, e206, hv⟩ := o_bind hv
        refine wcall_i (va_runV (As := [.int x5]) (rest := []) hC (c_X2_comes l D cA a u x5 (r206, w206) e206 hd) (cwV 1 hts gX2_average_X2_comes rfl rfl rfl (by decide +kernel) ⟨Nat.le_of_ble_eq_true rfl, Nat.le_of_ble_eq_true rfl⟩) ⟨roB_blind, va_recv (ci := 2) (q0 := 0) hK hP rfl rfl, roB_pre hK hZ (hws_1 hP)⟩ rfl rfl hl.1 rfl (lv_room (Nat.le_of_ble_eq_true rfl)) dX2_average_42 ⟨Nat.le_of_ble_eq_true rfl, Nat.le_of_ble_eq_true rfl⟩) hS (fun _ h => h) (fun H locs hP1 hk1 hS => ?_)
        have hP := hP1
        refine lv_istore (lv' := [(6, .int r206), (0, .ref (a 0)), (1, .int x1), (2, .int x2), (3, .long x3), (5, .int x5)]) hx hb dX2_average_45 hl (by decide) rfl (fun ls hl => ?_)
        refine lv_iload hx hb dX2_average_47 (lv_at hl 0 rfl) ?_
        refine lv_if_le (tgt := 122) hx hb dX2_average_49 (by decide) (fun c207 => ?_) (fun c207 => ?_)
        · have hv := o_pos hv c207
          refine lv_iinc (v := (x5 + 1)) (lv' := [(5, .int (x5 + 1)), (6, .int r206), (0, .ref (a 0)), (1, .int x1), (2, .int x2), (3, .long x3)]) hx hb dX2_average_122 hl (k := 5) rfl rfl (by decide) rfl (fun ls hl => ?_)
          refine lv_goto (tgt := 32) hx hb dX2_average_125 (by decide) ?_
          exact hk32 _ _ _ _ _ _ _  ls hP hS (lv_sub hl [2, 3, 4, 5, 0] rfl) hv
        · have hv := o_neg hv c207
          refine lv_iconst (v := 0) hx hb dX2_average_52 (by decide) ?_
          refine lv_istore (lv' := [(7, .int (0 : Int32)), (6, .int r206), (0, .ref (a 0)), (1, .int x1), (2, .int x2), (3, .long x3), (5, .int x5)]) hx hb dX2_average_53 hl (by decide) rfl (fun ls hl => ?_)
          refine hB55 _ (fun z208_u H locs z208_1 z208_2 z208_3 z208_5 z208_6 ls hP hS hl hv => ?_) 1000 _ _ _ _ _ _ _ _ _ ls hP hS (lv_sub hl [2, 3, 4, 5, 6, 1, 0] rfl) hv
          · skip
            refine lv_aload_n hx hb dX2_average_94 rfl (lv_at hl 0 rfl) ?_
            refine lv_iload_n hx hb dX2_average_95 rfl (lv_at hl 1 rfl) ?_
            obtain ⟨r209, e209, hv⟩ := o_bind hv
            refine rcall_i (W.runV (As := [.int z208_1]) (rest := []) hC (c_X2_payOf l D cA a z208_u z208_1 r209 e209) (cwV 1 hts gX2_average_X2_payOf rfl rfl rfl (by decide +kernel) ⟨Nat.le_of_ble_eq_true rfl, Nat.le_of_ble_eq_true rfl⟩) ⟨roB_blind, va_recv (ci := 2) (q0 := 0) hK hP rfl rfl, roB_pre hK hZ (hws_1 hP)⟩ rfl rfl hl.1 rfl (lv_room (Nat.le_of_ble_eq_true rfl)) dX2_average_96 ⟨Nat.le_of_ble_eq_true rfl, Nat.le_of_ble_eq_true rfl⟩) ?_
            refine lv_istore (lv' := [(7, .int r209), (0, .ref (a 0)), (1, .int z208_1), (2, .int z208_2), (3, .long z208_3), (5, .int z208_5), (6, .int z208_6)]) hx hb dX2_average_99 hl (by decide) rfl (fun ls hl => ?_)
            refine lv_lload_n hx hb dX2_average_101 rfl (lv_at hl 4 rfl) ?_
            refine lv_iload hx hb dX2_average_102 (lv_at hl 0 rfl) ?_
            refine lv_bipush (v := -9) hx hb dX2_average_104 (by decide) ?_
            refine lv_icmp_ne (tgt := 113) hx hb dX2_average_106 (by decide) (fun c210 => ?_) (fun c210 => ?_)
            · have hv := o_neg hv c210
              refine lv_iload hx hb dX2_average_113 (lv_at hl 6 rfl) ?_
              refine lv_i2l hx hb dX2_average_115 rfl ?_
              refine lv_iload hx hb dX2_average_116 (lv_at hl 0 rfl) ?_
              refine lv_i2l hx hb dX2_average_118 rfl ?_
              refine lv_lmul hx hb dX2_average_119 ?_
              refine lv_ladd hx hb dX2_average_120 ?_
              refine lv_lstore_n (lv' := [(3, .long (z208_3 + ((z208_6).toInt64 * (r209).toInt64))), (7, .int r209), (0, .ref (a 0)), (1, .int z208_1), (2, .int z208_2), (5, .int z208_5), (6, .int z208_6)]) hx hb dX2_average_121 rfl hl (by decide) rfl (fun ls hl => ?_)
              refine lv_iinc (v := (z208_5 + 1)) (lv' := [(5, .int (z208_5 + 1)), (3, .long (z208_3 + ((z208_6).toInt64 * (r209).toInt64))), (7, .int r209), (0, .ref (a 0)), (1, .int z208_1), (2, .int z208_2), (6, .int z208_6)]) hx hb dX2_average_122 hl (k := 5) rfl rfl (by decide) rfl (fun ls hl => ?_)
              refine lv_goto (tgt := 32) hx hb dX2_average_125 (by decide) ?_
              exact hk32 _ _ _ _ _ _ _  ls hP hS (lv_sub hl [3, 4, 5, 1, 0] rfl) hv
            · have hv := o_pos hv c210
              refine lv_lconst (v := 0) hx hb dX2_average_109 (by decide) ?_
              refine lv_goto (tgt := 120) hx hb dX2_average_110 (by decide) ?_
              refine lv_ladd hx hb dX2_average_120 ?_
              refine lv_lstore_n (lv' := [(3, .long (z208_3 + (0 : Int64))), (7, .int r209), (0, .ref (a 0)), (1, .int z208_1), (2, .int z208_2), (5, .int z208_5), (6, .int z208_6)]) hx hb dX2_average_121 rfl hl (by decide) rfl (fun ls hl => ?_)
              refine lv_iinc (v := (z208_5 + 1)) (lv' := [(5, .int (z208_5 + 1)), (3, .long (z208_3 + (0 : Int64))), (7, .int r209), (0, .ref (a 0)), (1, .int z208_1), (2, .int z208_2), (6, .int z208_6)]) hx hb dX2_average_122 hl (k := 5) rfl rfl (by decide) rfl (fun ls hl => ?_)
              refine lv_goto (tgt := 32) hx hb dX2_average_125 (by decide) ?_
              exact hk32 _ _ _ _ _ _ _  ls hP hS (lv_sub hl [3, 4, 5, 1, 0] rfl) hv
  unfold f_X2_average at hv
  skip
  refine lv_aload_n hx hb dX2_average_0 rfl (lv_at hl 0 rfl) ?_
  refine lv_iconst (v := 0) hx hb dX2_average_1 (by decide) ?_
  refine ptX2_thrown hx hb hts hinX2 hown hK hP (dM hd _) hS (by decide +kernel) dX2_average_2 (fun H locs hP hS => ?_)
  refine lv_iload_n hx hb dX2_average_5 rfl (lv_at hl 1 rfl) ?_
  refine lv_iconst (v := 0) hx hb dX2_average_6 (by decide) ?_
  refine lv_iconst (v := 2) hx hb dX2_average_7 (by decide) ?_
  obtain ⟨r311, e311, hv⟩ := o_bind hv
  refine rcall_i (W.runS (As := [.int x1, .int (0 : Int32), .int (2 : Int32)]) (rest := []) hC (c_X2_in l D cA x1 (0 : Int32) (2 : Int32) r311 e311) (va_cwS 3 hts gX2_average_X2_in rfl rfl rfl (by decide +kernel) ⟨Nat.le_of_ble_eq_true rfl, Nat.le_of_ble_eq_true rfl⟩) ⟨roB_blind, roB_pre hK hZ hws_0⟩ rfl rfl hl.1 rfl (lv_room (Nat.le_of_ble_eq_true rfl)) dX2_average_8 ⟨Nat.le_of_ble_eq_true rfl, Nat.le_of_ble_eq_true rfl⟩) ?_
  refine lv_if_eq (tgt := 23) hx hb dX2_average_11 (by decide) (fun c312 => ?_) (fun c312 => ?_)
  · have hv := o_pos hv c312
    refine lv_ldc2 (v := -1000000000000000) hx hb hown (hts (.constantLong RX2 75 (-1000000000000000)) (by decide +kernel)) dX2_average_23 ?_
    exact fin hP hS dX2_average_26 hv
  · have hv := o_neg hv c312
    refine lv_iload_n hx hb dX2_average_14 rfl (lv_at hl 2 rfl) ?_
    refine lv_iconst (v := 0) hx hb dX2_average_15 (by decide) ?_
    refine lv_iconst (v := 1) hx hb dX2_average_16 (by decide) ?_
    obtain ⟨r313, e313, hv⟩ := o_bind hv
    refine rcall_i (W.runS (As := [.int x2, .int (0 : Int32), .int (1 : Int32)]) (rest := []) hC (c_X2_in l D cA x2 (0 : Int32) (1 : Int32) r313 e313) (va_cwS 3 hts gX2_average_X2_in rfl rfl rfl (by decide +kernel) ⟨Nat.le_of_ble_eq_true rfl, Nat.le_of_ble_eq_true rfl⟩) ⟨roB_blind, roB_pre hK hZ hws_0⟩ rfl rfl hl.1 rfl (lv_room (Nat.le_of_ble_eq_true rfl)) dX2_average_17 ⟨Nat.le_of_ble_eq_true rfl, Nat.le_of_ble_eq_true rfl⟩) ?_
    refine lv_if_ne (tgt := 27) hx hb dX2_average_20 (by decide) (fun c314 => ?_) (fun c314 => ?_)
    · have hv := o_neg hv c314
      refine lv_lconst (v := 0) hx hb dX2_average_27 (by decide) ?_
      refine lv_lstore_n (lv' := [(3, .long (0 : Int64)), (0, .ref (a 0)), (1, .int x1), (2, .int x2)]) hx hb dX2_average_28 rfl hl (by decide) rfl (fun ls hl => ?_)
      refine lv_iconst (v := 0) hx hb dX2_average_29 (by decide) ?_
      refine lv_istore (lv' := [(5, .int (0 : Int32)), (3, .long (0 : Int64)), (0, .ref (a 0)), (1, .int x1), (2, .int x2)]) hx hb dX2_average_30 hl (by decide) rfl (fun ls hl => ?_)
      refine hB32 _ (fun z315_u H locs z315_2 z315_3 ls hP hS hl hv => ?_) 1000 _ _ _ _ _ _ _ ls hP hS (lv_sub hl [2, 3, 4, 1, 0] rfl) hv
      · skip
        refine lv_aload_n hx hb dX2_average_128 rfl (lv_at hl 0 rfl) ?_
        refine lv_lload_n hx hb dX2_average_129 rfl (lv_at hl 2 rfl) ?_
        refine lv_aload_n hx hb dX2_average_130 rfl (lv_at hl 0 rfl) ?_
        obtain ⟨r316, e316, hv⟩ := o_bind hv
        refine rcall_i (W.runV (As := []) (rest := [.long z315_3, .ref (a 0)]) hC (c_X2_all l D cA a z315_u r316 e316) (cwV 0 hts gX2_average_X2_all rfl rfl rfl (by decide +kernel) ⟨Nat.le_of_ble_eq_true rfl, Nat.le_of_ble_eq_true rfl⟩) ⟨roB_blind, va_recv (ci := 2) (q0 := 0) hK hP rfl rfl, roB_pre hK hZ (hws_1 hP)⟩ rfl rfl hl.1 rfl (lv_room (Nat.le_of_ble_eq_true rfl)) dX2_average_131 ⟨Nat.le_of_ble_eq_true rfl, Nat.le_of_ble_eq_true rfl⟩) ?_
        refine lv_i2l hx hb dX2_average_134 rfl ?_
        refine lv_iload_n hx hb dX2_average_135 rfl (lv_at hl 1 rfl) ?_
        obtain ⟨r317, e317, hv⟩ := o_bind hv
        refine rcall_l (W.runV (As := [.long z315_3, .long ((r316).toInt64), .int z315_2]) (rest := []) hC (c_X2_part l D cA a z315_u z315_3 ((r316).toInt64) z315_2 r317 e317) (cwV 3 hts gX2_average_X2_part rfl rfl rfl (by decide +kernel) ⟨Nat.le_of_ble_eq_true rfl, Nat.le_of_ble_eq_true rfl⟩) ⟨roB_blind, va_recv (ci := 2) (q0 := 0) hK hP rfl rfl, roB_pre hK hZ (hws_1 hP)⟩ rfl rfl hl.1 rfl (lv_room (Nat.le_of_ble_eq_true rfl)) dX2_average_136 ⟨Nat.le_of_ble_eq_true rfl, Nat.le_of_ble_eq_true rfl⟩) ?_
        exact fin hP hS dX2_average_139 hv
    · have hv := o_pos hv c314
      refine lv_ldc2 (v := -1000000000000000) hx hb hown (hts (.constantLong RX2 75 (-1000000000000000)) (by decide +kernel)) dX2_average_23 ?_
      exact fin hP hS dX2_average_26 hv
abbrev rm_X2_offers : Room := { frames := 2, cells := 0, slots := 0, locals := 56 }
set_option maxHeartbeats 4000000 in
set_option maxRecDepth 100000 in
theorem c_X2_offers (l : Launch) (D : va_G) (cA : ClassId) (a : Nat → Nat) (u : StM) (x1 : Int32) (x2 : Int32) (v : Int64 × StM) (hv : f_X2_offers u x1 x2 = some v) (hd : djM a) : Met l yX2_offers wsX2_offers rm_X2_offers (va_Pc [.ref (a 0), .int x1, .int x2] (roB D cA [wM cA a u])) (va_Ql (fun (r : Int64) (u1 : StM) => (r, u1) = v) (fun (u1 : StM) t => va_P D vwCl (wM cA a u1) t.heap) (inM a)) 0 0 (inM a) := by
  refine wr_l (wf := fun u => wM cA a u) (cc := cX2_offers) (maxL := 20) (own := RX2) (by decide) rfl rfl (Nat.le_of_ble_eq_true rfl) ?_
  intro p e s m args below meth c Q ls hC hK hZ hws hl fin
  obtain ⟨hx, hb, hml, hown, hts⟩ := id hC
  have hl : lv_has ls 20 [(0, .ref (a 0)), (1, .int x1), (2, .int x2)] := hl
  have hP : va_P D vwCl (wM cA a u) s.heap := hws _ (List.mem_of_getElem? (i := 0) rfl)
  have hinX2 : ∀ w ∈ wsX20, w ∈ wsX2_offers := fun w h => List.mem_cons_of_mem _ (List.mem_append_right _ h)
  have hS : va_S (inM a) s.heap s.heap [] := va_S.rf
  have hB140 : ∀ (k223 : StM → Int32 → Int32 → Int32 → Int64 → Int32 → Int64 → Int64 → Option (Int64 × StM)) (hk223 : ∀ (u : StM) (H : Heap) (locs : List Loc) (x2 : Int32) (x3 : Int32) (x4 : Int32) (x7 : Int64) (x9 : Int32) (x11 : Int64) (x13 : Int64) (ls : Array Slot), va_P D vwCl (wM cA a u) H → va_S (inM a) s.heap H locs → lv_has ls 20 [(0, .ref (a 0)), (2, .int x2), (3, .int x3), (4, .int x4), (7, .long x7), (9, .int x9), (11, .long x11), (13, .long x13)] → k223 u x2 x3 x4 x7 x9 x11 x13 = some v → W p l e rm_X2_offers s m args below meth c H locs 0 0 Q (F0 m 223 ls [])) (n : Nat) (u : StM) (H : Heap) (locs : List Loc) (x2 : Int32) (x3 : Int32) (x4 : Int32) (x5 : Int64) (x7 : Int64) (x9 : Int32) (x10 : Int32) (x11 : Int64) (x13 : Int64) (x15 : Int32) (ls : Array Slot), va_P D vwCl (wM cA a u) H → va_S (inM a) s.heap H locs → lv_has ls 20 [(0, .ref (a 0)), (2, .int x2), (3, .int x3), (4, .int x4), (5, .long x5), (7, .long x7), (9, .int x9), (10, .int x10), (11, .long x11), (13, .long x13), (15, .int x15)] → B_X2_offers_140 k223 n u x2 x3 x4 x5 x7 x9 x10 x11 x13 x15 = some v → W p l e rm_X2_offers s m args below meth c H locs 0 0 Q (F0 m 140 ls []) := by
    intro k223 hk223 n
    induction n with
    | zero => intro u H locs x2 x3 x4 x5 x7 x9 x10 x11 x13 x15 ls hP hS hl hv; exact absurd hv (by intro h; cases h)
    | succ n hk140 =>
      intro u H locs x2 x3 x4 x5 x7 x9 x10 x11 x13 x15 ls hP hS hl hv
      rw [B_X2_offers_140] at hv
      refine lv_iload hx hb dX2_offers_140 (lv_at hl 10 rfl) ?_
      refine lv_if_lt (tgt := 223) hx hb dX2_offers_142 (by decide) (fun c101 => ?_) (fun c101 => ?_)
      · have hv := o_pos hv c101
        exact hk223 _ _ _ _ _ _ _ _ _ _  ls hP hS (lv_sub hl [0, 1, 2, 3, 5, 6, 8, 9] rfl) hv
      · have hv := o_neg hv c101
        refine lv_aload_n hx hb dX2_offers_145 rfl (lv_at hl 0 rfl) ?_
        refine lv_iload hx hb dX2_offers_146 (lv_at hl 7 rfl) ?_
        refine lv_iload hx hb dX2_offers_148 (lv_at hl 10 rfl) ?_
        obtain ⟨r102, e102, hv⟩ := o_bind hv
        refine rcall_i (W.runV (As := [.int x10, .int x15]) (rest := []) hC (c_X2_share l D cA a u x10 x15 r102 e102) (cwV 2 hts gX2_offers_X2_share rfl rfl rfl (by decide +kernel) ⟨Nat.le_of_ble_eq_true rfl, Nat.le_of_ble_eq_true rfl⟩) ⟨roB_blind, va_recv (ci := 2) (q0 := 0) hK hP rfl rfl, roB_pre hK hZ (hws_1 hP)⟩ rfl rfl hl.1 rfl (lv_room (Nat.le_of_ble_eq_true rfl)) dX2_offers_150 ⟨Nat.le_of_ble_eq_true rfl, Nat.le_of_ble_eq_true rfl⟩) ?_
        refine lv_i2l hx hb dX2_offers_153 rfl ?_
        refine lv_lstore (lv' := [(16, .long ((r102).toInt64)), (0, .ref (a 0)), (2, .int x2), (3, .int x3), (4, .int x4), (5, .long x5), (7, .long x7), (9, .int x9), (10, .int x10), (11, .long x11), (13, .long x13), (15, .int x15)]) hx hb dX2_offers_154 hl (by decide) rfl (fun ls hl => ?_)
        refine lv_aload_n hx hb dX2_offers_156 rfl (lv_at hl 1 rfl) ?_
        refine gtX2_worth hx hb hts hinX2 hown hK hP (by decide +kernel) dX2_offers_157 ?_
        refine lv_iconst (v := 5) hx hb dX2_offers_160 (by decide) ?_
        refine lv_iload hx hb dX2_offers_161 (lv_at hl 8 rfl) ?_
        refine lv_imul hx hb dX2_offers_163 ?_
        refine lv_iload hx hb dX2_offers_164 (lv_at hl 11 rfl) ?_
        refine lv_iadd hx hb dX2_offers_166 ?_
        obtain ⟨g103, hv⟩ := o_grd hv
        refine alX2_worth hx hb hK hP g103 dX2_offers_167 ?_
        refine lv_i2l hx hb dX2_offers_168 rfl ?_
        refine lv_lload hx hb dX2_offers_169 (lv_at hl 0 rfl) ?_
        refine lv_lmul hx hb dX2_offers_171 ?_
        refine lv_lload hx hb dX2_offers_172 (lv_at hl 6 rfl) ?_
        refine lv_lmul hx hb dX2_offers_174 ?_
        refine lv_lload hx hb dX2_offers_175 (lv_at hl 9 rfl) ?_
        refine lv_lload hx hb dX2_offers_177 (lv_at hl 0 rfl) ?_
        refine lv_lsub hx hb dX2_offers_179 ?_
        refine lv_lload hx hb dX2_offers_180 (lv_at hl 5 rfl) ?_
        refine lv_lmul hx hb dX2_offers_182 ?_
        refine lv_ladd hx hb dX2_offers_183 ?_
        refine lv_lstore (lv' := [(18, .long (((((m_worth u (((5 : Int32) * x10) + x15).toNatClampNeg)).toInt64 * (r102).toInt64) * x7) + ((x11 - (r102).toInt64) * x5))), (16, .long ((r102).toInt64)), (0, .ref (a 0)), (2, .int x2), (3, .int x3), (4, .int x4), (5, .long x5), (7, .long x7), (9, .int x9), (10, .int x10), (11, .long x11), (13, .long x13), (15, .int x15)]) hx hb dX2_offers_184 hl (by decide) rfl (fun ls hl => ?_)
        refine lv_lload hx hb dX2_offers_186 (lv_at hl 0 rfl) ?_
        refine lv_lload hx hb dX2_offers_188 (lv_at hl 11 rfl) ?_
        refine W.lcmp hx hb dX2_offers_190 ?_
        refine lv_if_lt (tgt := 217) hx hb dX2_offers_191 (by decide) (fun c104 => ?_) (fun c104 => ?_)
        · have hv := o_pos hv c104
          refine lv_iinc (v := (x15 + (-1))) (lv' := [(15, .int (x15 + (-1))), (18, .long (((((m_worth u (((5 : Int32) * x10) + x15).toNatClampNeg)).toInt64 * (r102).toInt64) * x7) + ((x11 - (r102).toInt64) * x5))), (16, .long ((r102).toInt64)), (0, .ref (a 0)), (2, .int x2), (3, .int x3), (4, .int x4), (5, .long x5), (7, .long x7), (9, .int x9), (10, .int x10), (11, .long x11), (13, .long x13)]) hx hb dX2_offers_217 hl (k := 12) rfl rfl (by decide) rfl (fun ls hl => ?_)
          refine lv_goto (tgt := 140) hx hb dX2_offers_220 (by decide) ?_
          exact hk140 _ _ _ _ _ _ _ _ _ _ _ _ _  ls hP hS (lv_sub hl [3, 4, 5, 6, 7, 8, 9, 10, 11, 12, 0] rfl) hv
        · have hv := o_neg hv c104
          refine lv_lload hx hb dX2_offers_194 (lv_at hl 0 rfl) ?_
          refine lv_lstore (lv' := [(13, .long (((((m_worth u (((5 : Int32) * x10) + x15).toNatClampNeg)).toInt64 * (r102).toInt64) * x7) + ((x11 - (r102).toInt64) * x5))), (18, .long (((((m_worth u (((5 : Int32) * x10) + x15).toNatClampNeg)).toInt64 * (r102).toInt64) * x7) + ((x11 - (r102).toInt64) * x5))), (16, .long ((r102).toInt64)), (0, .ref (a 0)), (2, .int x2), (3, .int x3), (4, .int x4), (5, .long x5), (7, .long x7), (9, .int x9), (10, .int x10), (11, .long x11), (15, .int x15)]) hx hb dX2_offers_196 hl (by decide) rfl (fun ls hl => ?_)
          refine lv_aload_n hx hb dX2_offers_198 rfl (lv_at hl 3 rfl) ?_
          refine gtX2_price hx hb hts hinX2 hown hK hP (by decide +kernel) dX2_offers_199 ?_
          refine lv_iload hx hb dX2_offers_202 (lv_at hl 10 rfl) ?_
          refine lv_aload_n hx hb dX2_offers_204 rfl (lv_at hl 3 rfl) ?_
          refine gtX2_worth hx hb hts hinX2 hown hK hP (by decide +kernel) dX2_offers_205 ?_
          refine lv_iconst (v := 5) hx hb dX2_offers_208 (by decide) ?_
          refine lv_iload hx hb dX2_offers_209 (lv_at hl 10 rfl) ?_
          refine lv_imul hx hb dX2_offers_211 ?_
          refine lv_iload hx hb dX2_offers_212 (lv_at hl 12 rfl) ?_
          refine lv_iadd hx hb dX2_offers_214 ?_
          obtain ⟨g105, hv⟩ := o_grd hv
          refine alX2_worth hx hb hK hP g105 dX2_offers_215 ?_
          obtain ⟨g106, hv⟩ := o_grd hv
          refine asX2_price hx hb hK hP (dM hd _) hS g106 dX2_offers_216 (fun H locs hP hS => ?_)
          refine lv_iinc (v := (x15 + (-1))) (lv' := [(15, .int (x15 + (-1))), (13, .long (((((m_worth u (((5 : Int32) * x10) + x15).toNatClampNeg)).toInt64 * (r102).toInt64) * x7) + ((x11 - (r102).toInt64) * x5))), (18, .long (((((m_worth u (((5 : Int32) * x10) + x15).toNatClampNeg)).toInt64 * (r102).toInt64) * x7) + ((x11 - (r102).toInt64) * x5))), (16, .long ((r102).toInt64)), (0, .ref (a 0)), (2, .int x2), (3, .int x3), (4, .int x4), (5, .long x5), (7, .long x7), (9, .int x9), (10, .int x10), (11, .long x11)]) hx hb dX2_offers_217 hl (k := 12) rfl rfl (by decide) rfl (fun ls hl => ?_)
          refine lv_goto (tgt := 140) hx hb dX2_offers_220 (by decide) ?_
          exact hk140 _ _ _ _ _ _ _ _ _ _ _ _ _  ls hP hS (lv_sub hl [4, 5, 6, 7, 8, 9, 10, 11, 12, 1, 0] rfl) hv
  have hB51 : ∀ (k89 : StM → Option (Int64 × StM)) (hk89 : ∀ (u : StM) (H : Heap) (locs : List Loc)  (ls : Array Slot), va_P D vwCl (wM cA a u) H → va_S (inM a) s.heap H locs → lv_has ls 20 [] → k89 u = some v → W p l e rm_X2_offers s m args below meth c H locs 0 0 Q (F0 m 89 ls [])) (k240 : StM → Int32 → Int32 → Int64 → Int64 → Option (Int64 × StM)) (hk240 : ∀ (u : StM) (H : Heap) (locs : List Loc) (x2 : Int32) (x3 : Int32) (x5 : Int64) (x7 : Int64) (ls : Array Slot), va_P D vwCl (wM cA a u) H → va_S (inM a) s.heap H locs → lv_has ls 20 [(0, .ref (a 0)), (2, .int x2), (3, .int x3), (5, .long x5), (7, .long x7)] → k240 u x2 x3 x5 x7 = some v → W p l e rm_X2_offers s m args below meth c H locs 0 0 Q (F0 m 240 ls [])) (n : Nat) (u : StM) (H : Heap) (locs : List Loc) (x2 : Int32) (x3 : Int32) (x4 : Int32) (x5 : Int64) (x7 : Int64) (x9 : Int32) (ls : Array Slot), va_P D vwCl (wM cA a u) H → va_S (inM a) s.heap H locs → lv_has ls 20 [(0, .ref (a 0)), (2, .int x2), (3, .int x3), (4, .int x4), (5, .long x5), (7, .long x7), (9, .int x9)] → B_X2_offers_51 k89 k240 n u x2 x3 x4 x5 x7 x9 = some v → W p l e rm_X2_offers s m args below meth c H locs 0 0 Q (F0 m 51 ls []) := by
    intro k89 hk89 k240 hk240 n
    induction n with
    | zero => intro u H locs x2 x3 x4 x5 x7 x9 ls hP hS hl hv; exact absurd hv (by intro h; cases h)
    | succ n hk51 =>
      intro u H locs x2 x3 x4 x5 x7 x9 ls hP hS hl hv
      rw [B_X2_offers_51] at hv
      refine lv_iload hx hb dX2_offers_51 (lv_at hl 6 rfl) ?_
      refine lv_aload_n hx hb dX2_offers_53 rfl (lv_at hl 0 rfl) ?_
      refine gtX2_n hx hb hts hinX2 hown hK hP (by decide +kernel) dX2_offers_54 ?_
      refine lv_icmp_ge (tgt := 240) hx hb dX2_offers_57 (by decide) (fun c207 => ?_) (fun c207 => ?_)
      · have hv := o_pos hv c207
        exact hk240 _ _ _ _ _ _ _  ls hP hS (lv_sub hl [0, 1, 2, 4, 5] rfl) hv
      · have hv := o_neg hv c207
        refine lv_iload_n hx hb dX2_offers_60 rfl (lv_at hl 2 rfl) ?_
        refine lv_iconst (v := 3) hx hb dX2_offers_61 (by decide) ?_
        refine lv_irem hx hb dX2_offers_62 (by decide) ?_
        refine lv_istore (lv' := [(10, .int (x3 - x3 / (3 : Int32) * (3 : Int32))), (0, .ref (a 0)), (2, .int x2), (3, .int x3), (4, .int x4), (5, .long x5), (7, .long x7), (9, .int x9)]) hx hb dX2_offers_63 hl (by decide) rfl (fun ls hl => ?_)
        refine lv_iload_n hx hb dX2_offers_65 rfl (lv_at hl 3 rfl) ?_
        refine lv_iconst (v := 3) hx hb dX2_offers_66 (by decide) ?_
        refine lv_idiv hx hb dX2_offers_67 (by decide) ?_
        refine lv_istore_n (lv' := [(3, .int (x3 / (3 : Int32))), (10, .int (x3 - x3 / (3 : Int32) * (3 : Int32))), (0, .ref (a 0)), (2, .int x2), (4, .int x4), (5, .long x5), (7, .long x7), (9, .int x9)]) hx hb dX2_offers_68 rfl hl (by decide) rfl (fun ls hl => ?_)
        refine lv_aload_n hx hb dX2_offers_69 rfl (lv_at hl 2 rfl) ?_
        refine lv_iload hx hb dX2_offers_70 (lv_at hl 1 rfl) ?_
        obtain ⟨r208, e208, hv⟩ := o_bind hv
        refine rcall_i (W.runV (As := [.int (x3 - x3 / (3 : Int32) * (3 : Int32))]) (rest := []) hC (c_X2_isBuyer l D cA a u (x3 - x3 / (3 : Int32) * (3 : Int32)) r208 e208) (cwV 1 hts gX2_offers_X2_isBuyer rfl rfl rfl (by decide +kernel) ⟨Nat.le_of_ble_eq_true rfl, Nat.le_of_ble_eq_true rfl⟩) ⟨roB_blind, va_recv (ci := 2) (q0 := 0) hK hP rfl rfl, roB_pre hK hZ (hws_1 hP)⟩ rfl rfl hl.1 rfl (lv_room (Nat.le_of_ble_eq_true rfl)) dX2_offers_72 ⟨Nat.le_of_ble_eq_true rfl, Nat.le_of_ble_eq_true rfl⟩) ?_
        refine lv_if_eq (tgt := 89) hx hb dX2_offers_75 (by decide) (fun c209 => ?_) (fun c209 => ?_)
        · have hv := o_pos hv c209
          exact hk89 _ _ _  ls hP hS (lv_sub hl [] rfl) hv
        · have hv := o_neg hv c209
          refine lv_iload hx hb dX2_offers_78 (lv_at hl 4 rfl) ?_
          refine lv_iload hx hb dX2_offers_80 (lv_at hl 1 rfl) ?_
          refine lv_ishr hx hb dX2_offers_82 ?_
          refine lv_iconst (v := 1) hx hb dX2_offers_83 (by decide) ?_
          refine lv_iand hx hb dX2_offers_84 ?_
          refine lv_iconst (v := 1) hx hb dX2_offers_85 (by decide) ?_
          refine lv_icmp_ne (tgt := 93) hx hb dX2_offers_86 (by decide) (fun c210 => ?_) (fun c210 => ?_)
          · have hv := o_neg hv c210
            refine lv_iload hx hb dX2_offers_93 (lv_at hl 4 rfl) ?_
            refine lv_iconst (v := 1) hx hb dX2_offers_95 (by decide) ?_
            refine lv_iload hx hb dX2_offers_96 (lv_at hl 1 rfl) ?_
            refine lv_ishl hx hb dX2_offers_98 ?_
            refine lv_ior hx hb dX2_offers_99 ?_
            refine lv_istore (lv' := [(4, .int (x4 ||| ((1 : Int32) <<< ((x3 - x3 / (3 : Int32) * (3 : Int32)) &&& 31)))), (3, .int (x3 / (3 : Int32))), (10, .int (x3 - x3 / (3 : Int32) * (3 : Int32))), (0, .ref (a 0)), (2, .int x2), (5, .long x5), (7, .long x7), (9, .int x9)]) hx hb dX2_offers_100 hl (by decide) rfl (fun ls hl => ?_)
            refine lv_aload_n hx hb dX2_offers_102 rfl (lv_at hl 3 rfl) ?_
            refine lv_iload hx hb dX2_offers_103 (lv_at hl 2 rfl) ?_
            refine lv_iconst (v := 0) hx hb dX2_offers_105 (by decide) ?_
            obtain ⟨r211, e211, hv⟩ := o_bind hv
            refine rcall_i (W.runV (As := [.int (x3 - x3 / (3 : Int32) * (3 : Int32)), .int (0 : Int32)]) (rest := []) hC (c_X2_share l D cA a u (x3 - x3 / (3 : Int32) * (3 : Int32)) (0 : Int32) r211 e211) (cwV 2 hts gX2_offers_X2_share rfl rfl rfl (by decide +kernel) ⟨Nat.le_of_ble_eq_true rfl, Nat.le_of_ble_eq_true rfl⟩) ⟨roB_blind, va_recv (ci := 2) (q0 := 0) hK hP rfl rfl, roB_pre hK hZ (hws_1 hP)⟩ rfl rfl hl.1 rfl (lv_room (Nat.le_of_ble_eq_true rfl)) dX2_offers_106 ⟨Nat.le_of_ble_eq_true rfl, Nat.le_of_ble_eq_true rfl⟩) ?_
            refine lv_i2l hx hb dX2_offers_109 rfl ?_
            refine lv_lstore (lv' := [(11, .long ((r211).toInt64)), (4, .int (x4 ||| ((1 : Int32) <<< ((x3 - x3 / (3 : Int32) * (3 : Int32)) &&& 31)))), (3, .int (x3 / (3 : Int32))), (10, .int (x3 - x3 / (3 : Int32) * (3 : Int32))), (0, .ref (a 0)), (2, .int x2), (5, .long x5), (7, .long x7), (9, .int x9)]) hx hb dX2_offers_110 hl (by decide) rfl (fun ls hl => ?_)
            refine lv_lload hx hb dX2_offers_112 (lv_at hl 6 rfl) ?_
            refine lv_lload hx hb dX2_offers_114 (lv_at hl 0 rfl) ?_
            refine lv_lmul hx hb dX2_offers_116 ?_
            refine lv_lstore (lv' := [(13, .long (x5 * (r211).toInt64)), (11, .long ((r211).toInt64)), (4, .int (x4 ||| ((1 : Int32) <<< ((x3 - x3 / (3 : Int32) * (3 : Int32)) &&& 31)))), (3, .int (x3 / (3 : Int32))), (10, .int (x3 - x3 / (3 : Int32) * (3 : Int32))), (0, .ref (a 0)), (2, .int x2), (5, .long x5), (7, .long x7), (9, .int x9)]) hx hb dX2_offers_117 hl (by decide) rfl (fun ls hl => ?_)
            refine lv_aload_n hx hb dX2_offers_119 rfl (lv_at hl 5 rfl) ?_
            refine gtX2_price hx hb hts hinX2 hown hK hP (by decide +kernel) dX2_offers_120 ?_
            refine lv_iload hx hb dX2_offers_123 (lv_at hl 4 rfl) ?_
            refine lv_sipush (v := 1001) hx hb dX2_offers_125 (by decide) ?_
            obtain ⟨g212, hv⟩ := o_grd hv
            refine asX2_price hx hb hK hP (dM hd _) hS g212 dX2_offers_128 (fun H locs hP hS => ?_)
            refine lv_aload_n hx hb dX2_offers_129 rfl (lv_at hl 5 rfl) ?_
            refine gtX2_many hx hb hts hinX2 hown hK hP (by decide +kernel) dX2_offers_130 ?_
            refine lv_iload hx hb dX2_offers_133 (lv_at hl 4 rfl) ?_
            obtain ⟨g213, hv⟩ := o_grd hv
            refine alX2_many hx hb hK hP g213 dX2_offers_135 ?_
            refine lv_iconst (v := 1) hx hb dX2_offers_136 (by decide) ?_
            refine lv_isub hx hb dX2_offers_137 ?_
            refine lv_istore (lv' := [(15, .int ((m_many (m_set_price u (upd (m_price u) (x3 - x3 / (3 : Int32) * (3 : Int32)).toNatClampNeg (1001 : Int32))) (x3 - x3 / (3 : Int32) * (3 : Int32)).toNatClampNeg) - (1 : Int32))), (13, .long (x5 * (r211).toInt64)), (11, .long ((r211).toInt64)), (4, .int (x4 ||| ((1 : Int32) <<< ((x3 - x3 / (3 : Int32) * (3 : Int32)) &&& 31)))), (3, .int (x3 / (3 : Int32))), (10, .int (x3 - x3 / (3 : Int32) * (3 : Int32))), (0, .ref (a 0)), (2, .int x2), (5, .long x5), (7, .long x7), (9, .int x9)]) hx hb dX2_offers_138 hl (by decide) rfl (fun ls hl => ?_)
            refine hB140 _ (fun z214_u H locs z214_2 z214_3 z214_4 z214_7 z214_9 z214_11 z214_13 ls hP hS hl hv => ?_) 1000 _ _ _ _ _ _ _ _ _ _ _ _ _ ls hP hS (lv_sub hl [6, 7, 4, 3, 8, 9, 10, 5, 2, 1, 0] rfl) hv
            · skip
              refine lv_lload hx hb dX2_offers_223 (lv_at hl 7 rfl) ?_
              refine lv_lstore (lv' := [(5, .long z214_13), (0, .ref (a 0)), (2, .int z214_2), (3, .int z214_3), (4, .int z214_4), (7, .long z214_7), (9, .int z214_9), (11, .long z214_11), (13, .long z214_13)]) hx hb dX2_offers_225 hl (by decide) rfl (fun ls hl => ?_)
              refine lv_lload hx hb dX2_offers_227 (lv_at hl 5 rfl) ?_
              refine lv_lload hx hb dX2_offers_229 (lv_at hl 7 rfl) ?_
              refine lv_lmul hx hb dX2_offers_231 ?_
              refine lv_lstore (lv' := [(7, .long (z214_7 * z214_11)), (5, .long z214_13), (0, .ref (a 0)), (2, .int z214_2), (3, .int z214_3), (4, .int z214_4), (9, .int z214_9), (11, .long z214_11), (13, .long z214_13)]) hx hb dX2_offers_232 hl (by decide) rfl (fun ls hl => ?_)
              refine lv_iinc (v := (z214_9 + 1)) (lv' := [(9, .int (z214_9 + 1)), (7, .long (z214_7 * z214_11)), (5, .long z214_13), (0, .ref (a 0)), (2, .int z214_2), (3, .int z214_3), (4, .int z214_4), (11, .long z214_11), (13, .long z214_13)]) hx hb dX2_offers_234 hl (k := 6) rfl rfl (by decide) rfl (fun ls hl => ?_)
              refine lv_goto (tgt := 51) hx hb dX2_offers_237 (by decide) ?_
              exact hk51 _ _ _ _ _ _ _ _ _  ls hP hS (lv_sub hl [3, 4, 5, 6, 2, 1, 0] rfl) hv
          · have hv := o_pos hv c210
            exact hk89 _ _ _  ls hP hS (lv_sub hl [] rfl) hv
  have hB37 : ∀ (u : StM) (H : Heap) (locs : List Loc) (x1 : Int32) (x2 : Int32) (ls : Array Slot), va_P D vwCl (wM cA a u) H → va_S (inM a) s.heap H locs → lv_has ls 20 [(0, .ref (a 0)), (1, .int x1), (2, .int x2)] → B_X2_offers_37 u x1 x2 = some v → W p l e rm_X2_offers s m args below meth c H locs 0 0 Q (F0 m 37 ls []) := by
    intro u H locs x1 x2 ls hP hS hl hv
    unfold B_X2_offers_37 at hv
    refine lv_iload_n hx hb dX2_offers_37 rfl (lv_at hl 1 rfl) ?_
    refine lv_istore_n (lv' := [(3, .int x1), (0, .ref (a 0)), (1, .int x1), (2, .int x2)]) hx hb dX2_offers_38 rfl hl (by decide) rfl (fun ls hl => ?_)
    refine lv_iconst (v := 0) hx hb dX2_offers_39 (by decide) ?_
    refine lv_istore (lv' := [(4, .int (0 : Int32)), (3, .int x1), (0, .ref (a 0)), (1, .int x1), (2, .int x2)]) hx hb dX2_offers_40 hl (by decide) rfl (fun ls hl => ?_)
    refine lv_lconst (v := 0) hx hb dX2_offers_42 (by decide) ?_
    refine lv_lstore (lv' := [(5, .long (0 : Int64)), (4, .int (0 : Int32)), (3, .int x1), (0, .ref (a 0)), (1, .int x1), (2, .int x2)]) hx hb dX2_offers_43 hl (by decide) rfl (fun ls hl => ?_)
    refine lv_lconst (v := 1) hx hb dX2_offers_45 (by decide) ?_
    refine lv_lstore (lv' := [(7, .long (1 : Int64)), (5, .long (0 : Int64)), (4, .int (0 : Int32)), (3, .int x1), (0, .ref (a 0)), (1, .int x1), (2, .int x2)]) hx hb dX2_offers_46 hl (by decide) rfl (fun ls hl => ?_)
    refine lv_iconst (v := 0) hx hb dX2_offers_48 (by decide) ?_
    refine lv_istore (lv' := [(9, .int (0 : Int32)), (7, .long (1 : Int64)), (5, .long (0 : Int64)), (4, .int (0 : Int32)), (3, .int x1), (0, .ref (a 0)), (1, .int x1), (2, .int x2)]) hx hb dX2_offers_49 hl (by decide) rfl (fun ls hl => ?_)
    refine hB51 _ (fun z315_u H locs ls hP hS hl hv => ?_) _ (fun z316_u H locs z316_2 z316_3 z316_5 z316_7 ls hP hS hl hv => ?_) 1000 _ _ _ _ _ _ _ _ _ ls hP hS (lv_sub hl [5, 7, 4, 3, 2, 1, 0] rfl) hv
    · skip
      refine lv_ldc2 (v := -1000000000000000) hx hb hown (hts (.constantLong RX2 75 (-1000000000000000)) (by decide +kernel)) dX2_offers_89 ?_
      exact fin hP hS dX2_offers_92 hv
    · skip
      refine lv_iload_n hx hb dX2_offers_240 rfl (lv_at hl 2 rfl) ?_
      refine lv_if_eq (tgt := 248) hx hb dX2_offers_241 (by decide) (fun c317 => ?_) (fun c317 => ?_)
      · have hv := o_pos hv c317
        refine lv_iload_n hx hb dX2_offers_248 rfl (lv_at hl 1 rfl) ?_
        refine lv_iconst (v := 1) hx hb dX2_offers_249 (by decide) ?_
        refine lv_icmp_le (tgt := 265) hx hb dX2_offers_250 (by decide) (fun c318 => ?_) (fun c318 => ?_)
        · have hv := o_pos hv c318
          refine lv_aload_n hx hb dX2_offers_265 rfl (lv_at hl 0 rfl) ?_
          refine lv_lload hx hb dX2_offers_266 (lv_at hl 3 rfl) ?_
          refine lv_lload hx hb dX2_offers_268 (lv_at hl 4 rfl) ?_
          refine lv_iload_n hx hb dX2_offers_270 rfl (lv_at hl 1 rfl) ?_
          obtain ⟨r319, e319, hv⟩ := o_bind hv
          refine rcall_l (W.runV (As := [.long z316_5, .long z316_7, .int z316_2]) (rest := []) hC (c_X2_part l D cA a z316_u z316_5 z316_7 z316_2 r319 e319) (cwV 3 hts gX2_offers_X2_part rfl rfl rfl (by decide +kernel) ⟨Nat.le_of_ble_eq_true rfl, Nat.le_of_ble_eq_true rfl⟩) ⟨roB_blind, va_recv (ci := 2) (q0 := 0) hK hP rfl rfl, roB_pre hK hZ (hws_1 hP)⟩ rfl rfl hl.1 rfl (lv_room (Nat.le_of_ble_eq_true rfl)) dX2_offers_271 ⟨Nat.le_of_ble_eq_true rfl, Nat.le_of_ble_eq_true rfl⟩) ?_
          exact fin hP hS dX2_offers_274 hv
        · have hv := o_neg hv c318
          refine lv_aload_n hx hb dX2_offers_253 rfl (lv_at hl 0 rfl) ?_
          refine gtX2_price hx hb hts hinX2 hown hK hP (by decide +kernel) dX2_offers_254 ?_
          refine lv_iload_n hx hb dX2_offers_257 rfl (lv_at hl 1 rfl) ?_
          refine lv_iconst (v := 2) hx hb dX2_offers_258 (by decide) ?_
          refine lv_isub hx hb dX2_offers_259 ?_
          obtain ⟨g320, hv⟩ := o_grd hv
          refine alX2_price hx hb hK hP g320 dX2_offers_260 ?_
          refine lv_i2l hx hb dX2_offers_261 rfl ?_
          refine lv_goto (tgt := 274) hx hb dX2_offers_262 (by decide) ?_
          exact fin hP hS dX2_offers_274 hv
      · have hv := o_neg hv c317
        refine lv_ldc2 (v := -1000000000000000) hx hb hown (hts (.constantLong RX2 75 (-1000000000000000)) (by decide +kernel)) dX2_offers_244 ?_
        exact fin hP hS dX2_offers_247 hv
  unfold f_X2_offers at hv
  skip
  refine lv_aload_n hx hb dX2_offers_0 rfl (lv_at hl 0 rfl) ?_
  refine lv_iconst (v := 0) hx hb dX2_offers_1 (by decide) ?_
  refine ptX2_thrown hx hb hts hinX2 hown hK hP (dM hd _) hS (by decide +kernel) dX2_offers_2 (fun H locs hP hS => ?_)
  refine lv_iload_n hx hb dX2_offers_5 rfl (lv_at hl 1 rfl) ?_
  refine lv_if_lt (tgt := 33) hx hb dX2_offers_6 (by decide) (fun c421 => ?_) (fun c421 => ?_)
  · have hv := o_pos hv c421
    refine lv_ldc2 (v := -1000000000000000) hx hb hown (hts (.constantLong RX2 75 (-1000000000000000)) (by decide +kernel)) dX2_offers_33 ?_
    exact fin hP hS dX2_offers_36 hv
  · have hv := o_neg hv c421
    refine lv_iload_n hx hb dX2_offers_9 rfl (lv_at hl 2 rfl) ?_
    refine lv_iconst (v := 0) hx hb dX2_offers_10 (by decide) ?_
    refine lv_iconst (v := 4) hx hb dX2_offers_11 (by decide) ?_
    obtain ⟨r422, e422, hv⟩ := o_bind hv
    refine rcall_i (W.runS (As := [.int x2, .int (0 : Int32), .int (4 : Int32)]) (rest := []) hC (c_X2_in l D cA x2 (0 : Int32) (4 : Int32) r422 e422) (va_cwS 3 hts gX2_offers_X2_in rfl rfl rfl (by decide +kernel) ⟨Nat.le_of_ble_eq_true rfl, Nat.le_of_ble_eq_true rfl⟩) ⟨roB_blind, roB_pre hK hZ hws_0⟩ rfl rfl hl.1 rfl (lv_room (Nat.le_of_ble_eq_true rfl)) dX2_offers_12 ⟨Nat.le_of_ble_eq_true rfl, Nat.le_of_ble_eq_true rfl⟩) ?_
    refine lv_if_eq (tgt := 33) hx hb dX2_offers_15 (by decide) (fun c423 => ?_) (fun c423 => ?_)
    · have hv := o_pos hv c423
      refine lv_ldc2 (v := -1000000000000000) hx hb hown (hts (.constantLong RX2 75 (-1000000000000000)) (by decide +kernel)) dX2_offers_33 ?_
      exact fin hP hS dX2_offers_36 hv
    · have hv := o_neg hv c423
      refine lv_iload_n hx hb dX2_offers_18 rfl (lv_at hl 2 rfl) ?_
      refine lv_iconst (v := 1) hx hb dX2_offers_19 (by decide) ?_
      refine lv_icmp_le (tgt := 37) hx hb dX2_offers_20 (by decide) (fun c424 => ?_) (fun c424 => ?_)
      · have hv := o_pos hv c424
        exact hB37 _ _ _ _ _  ls hP hS (lv_sub hl [0, 1, 2] rfl) hv
      · have hv := o_neg hv c424
        refine lv_aload_n hx hb dX2_offers_23 rfl (lv_at hl 0 rfl) ?_
        refine lv_iload_n hx hb dX2_offers_24 rfl (lv_at hl 2 rfl) ?_
        refine lv_iconst (v := 2) hx hb dX2_offers_25 (by decide) ?_
        refine lv_isub hx hb dX2_offers_26 ?_
        obtain ⟨r425, e425, hv⟩ := o_bind hv
        refine rcall_i (W.runV (As := [.int (x2 - (2 : Int32))]) (rest := []) hC (c_X2_isBuyer l D cA a (m_set_thrown u (0 : Int32)) (x2 - (2 : Int32)) r425 e425) (cwV 1 hts gX2_offers_X2_isBuyer rfl rfl rfl (by decide +kernel) ⟨Nat.le_of_ble_eq_true rfl, Nat.le_of_ble_eq_true rfl⟩) ⟨roB_blind, va_recv (ci := 2) (q0 := 0) hK hP rfl rfl, roB_pre hK hZ (hws_1 hP)⟩ rfl rfl hl.1 rfl (lv_room (Nat.le_of_ble_eq_true rfl)) dX2_offers_27 ⟨Nat.le_of_ble_eq_true rfl, Nat.le_of_ble_eq_true rfl⟩) ?_
        refine lv_if_ne (tgt := 37) hx hb dX2_offers_30 (by decide) (fun c426 => ?_) (fun c426 => ?_)
        · have hv := o_neg hv c426
          exact hB37 _ _ _ _ _  ls hP hS (lv_sub hl [0, 1, 2] rfl) hv
        · have hv := o_pos hv c426
          refine lv_ldc2 (v := -1000000000000000) hx hb hown (hts (.constantLong RX2 75 (-1000000000000000)) (by decide +kernel)) dX2_offers_33 ?_
          exact fin hP hS dX2_offers_36 hv
abbrev rm_X2_pairs : Room := { frames := 0, cells := 0, slots := 0, locals := 0 }
set_option maxHeartbeats 4000000 in
set_option maxRecDepth 100000 in
theorem c_X2_pairs (l : Launch) (D : va_G) (cA : ClassId) (a : Nat → Nat) (u : StM) (x1 : Int32) (x2 : Int32) (x3 : Int32) (v : Int32) (hv : f_X2_pairs u x1 x2 x3 = some v)  : Met l yX2_pairs wsX2_pairs rm_X2_pairs (va_Pc [.ref (a 0), .int x1, .int x2, .int x3] (roB D cA [wM cA a u])) (vp_Si (fun r => r = v)) 0 0 (fun _ => False) := by
  refine ro_i (cc := cX2_pairs) (maxL := 7) (own := RX2) (by decide) rfl rfl (Nat.le_of_ble_eq_true rfl) ?_
  intro p e s m args below meth c Q ls hC hK hZ hws hl fin
  obtain ⟨hx, hb, hml, hown, hts⟩ := id hC
  have hl : lv_has ls 7 [(0, .ref (a 0)), (1, .int x1), (2, .int x2), (3, .int x3)] := hl
  have hP : va_P D vwCl (wM cA a u) s.heap := hws _ (List.mem_of_getElem? (i := 0) rfl)
  have hinX2 : ∀ w ∈ wsX20, w ∈ wsX2_pairs := fun w h => List.mem_cons_of_mem _ (List.mem_append_right _ h)
  have hB20 : ∀ (k96 : Int32 → Int32 → Int32 → Int32 → Int32 → Option (Int32)) (hk96 : ∀ (x1 : Int32) (x2 : Int32) (x3 : Int32) (x4 : Int32) (x5 : Int32) (ls : Array Slot), lv_has ls 7 [(0, .ref (a 0)), (1, .int x1), (2, .int x2), (3, .int x3), (4, .int x4), (5, .int x5)] → k96 x1 x2 x3 x4 x5 = some v → W p l e rm_X2_pairs s m args below meth c s.heap [] 0 0 Q (F0 m 96 ls [])) (n : Nat) (x1 : Int32) (x2 : Int32) (x3 : Int32) (x4 : Int32) (x5 : Int32) (x6 : Int32) (ls : Array Slot), lv_has ls 7 [(0, .ref (a 0)), (1, .int x1), (2, .int x2), (3, .int x3), (4, .int x4), (5, .int x5), (6, .int x6)] → B_X2_pairs_20 u k96 n x1 x2 x3 x4 x5 x6 = some v → W p l e rm_X2_pairs s m args below meth c s.heap [] 0 0 Q (F0 m 20 ls []) := by
    intro k96 hk96 n
    induction n with
    | zero => intro x1 x2 x3 x4 x5 x6 ls hl hv; exact absurd hv (by intro h; cases h)
    | succ n hk20 =>
      intro x1 x2 x3 x4 x5 x6 ls hl hv
      rw [B_X2_pairs_20] at hv
      refine lv_iload hx hb dX2_pairs_20 (lv_at hl 6 rfl) ?_
      refine lv_aload_n hx hb dX2_pairs_22 rfl (lv_at hl 0 rfl) ?_
      refine gtX2_many hx hb hts hinX2 hown hK hP (by decide +kernel) dX2_pairs_23 ?_
      refine lv_iload_n hx hb dX2_pairs_26 rfl (lv_at hl 2 rfl) ?_
      obtain ⟨g101, hv⟩ := o_grd hv
      refine alX2_many hx hb hK hP g101 dX2_pairs_27 ?_
      refine lv_icmp_ge (tgt := 96) hx hb dX2_pairs_28 (by decide) (fun c102 => ?_) (fun c102 => ?_)
      · have hv := o_pos hv c102
        exact hk96 _ _ _ _ _  ls (lv_sub hl [0, 1, 2, 3, 4, 5] rfl) hv
      · have hv := o_neg hv c102
        refine lv_iload hx hb dX2_pairs_31 (lv_at hl 4 rfl) ?_
        refine lv_aload_n hx hb dX2_pairs_33 rfl (lv_at hl 0 rfl) ?_
        refine gtX2_worth hx hb hts hinX2 hown hK hP (by decide +kernel) dX2_pairs_34 ?_
        refine lv_iconst (v := 5) hx hb dX2_pairs_37 (by decide) ?_
        refine lv_iload_n hx hb dX2_pairs_38 rfl (lv_at hl 1 rfl) ?_
        refine lv_imul hx hb dX2_pairs_39 ?_
        refine lv_iload hx hb dX2_pairs_40 (lv_at hl 5 rfl) ?_
        refine lv_iadd hx hb dX2_pairs_42 ?_
        obtain ⟨g103, hv⟩ := o_grd hv
        refine alX2_worth hx hb hK hP g103 dX2_pairs_43 ?_
        refine lv_aload_n hx hb dX2_pairs_44 rfl (lv_at hl 0 rfl) ?_
        refine gtX2_worth hx hb hts hinX2 hown hK hP (by decide +kernel) dX2_pairs_45 ?_
        refine lv_iconst (v := 5) hx hb dX2_pairs_48 (by decide) ?_
        refine lv_iload_n hx hb dX2_pairs_49 rfl (lv_at hl 2 rfl) ?_
        refine lv_imul hx hb dX2_pairs_50 ?_
        refine lv_iload hx hb dX2_pairs_51 (lv_at hl 6 rfl) ?_
        refine lv_iadd hx hb dX2_pairs_53 ?_
        obtain ⟨g104, hv⟩ := o_grd hv
        refine alX2_worth hx hb hK hP g104 dX2_pairs_54 ?_
        refine lv_iadd hx hb dX2_pairs_55 ?_
        refine lv_iload_n hx hb dX2_pairs_56 rfl (lv_at hl 3 rfl) ?_
        refine lv_icmp_lt (tgt := 86) hx hb dX2_pairs_57 (by decide) (fun c105 => ?_) (fun c105 => ?_)
        · have hv := o_pos hv c105
          refine lv_iconst (v := 0) hx hb dX2_pairs_86 (by decide) ?_
          refine lv_iadd hx hb dX2_pairs_87 ?_
          refine lv_istore (lv' := [(4, .int (x4 + (0 : Int32))), (0, .ref (a 0)), (1, .int x1), (2, .int x2), (3, .int x3), (5, .int x5), (6, .int x6)]) hx hb dX2_pairs_88 hl (by decide) rfl (fun ls hl => ?_)
          refine lv_iinc (v := (x6 + 1)) (lv' := [(6, .int (x6 + 1)), (4, .int (x4 + (0 : Int32))), (0, .ref (a 0)), (1, .int x1), (2, .int x2), (3, .int x3), (5, .int x5)]) hx hb dX2_pairs_90 hl (k := 6) rfl rfl (by decide) rfl (fun ls hl => ?_)
          refine lv_goto (tgt := 20) hx hb dX2_pairs_93 (by decide) ?_
          exact hk20 _ _ _ _ _ _  ls (lv_sub hl [2, 3, 4, 5, 1, 6, 0] rfl) hv
        · have hv := o_neg hv c105
          refine lv_aload_n hx hb dX2_pairs_60 rfl (lv_at hl 0 rfl) ?_
          refine gtX2_weight hx hb hts hinX2 hown hK hP (by decide +kernel) dX2_pairs_61 ?_
          refine lv_iconst (v := 5) hx hb dX2_pairs_64 (by decide) ?_
          refine lv_iload_n hx hb dX2_pairs_65 rfl (lv_at hl 1 rfl) ?_
          refine lv_imul hx hb dX2_pairs_66 ?_
          refine lv_iload hx hb dX2_pairs_67 (lv_at hl 5 rfl) ?_
          refine lv_iadd hx hb dX2_pairs_69 ?_
          obtain ⟨g106, hv⟩ := o_grd hv
          refine alX2_weight hx hb hK hP g106 dX2_pairs_70 ?_
          refine lv_aload_n hx hb dX2_pairs_71 rfl (lv_at hl 0 rfl) ?_
          refine gtX2_weight hx hb hts hinX2 hown hK hP (by decide +kernel) dX2_pairs_72 ?_
          refine lv_iconst (v := 5) hx hb dX2_pairs_75 (by decide) ?_
          refine lv_iload_n hx hb dX2_pairs_76 rfl (lv_at hl 2 rfl) ?_
          refine lv_imul hx hb dX2_pairs_77 ?_
          refine lv_iload hx hb dX2_pairs_78 (lv_at hl 6 rfl) ?_
          refine lv_iadd hx hb dX2_pairs_80 ?_
          obtain ⟨g107, hv⟩ := o_grd hv
          refine alX2_weight hx hb hK hP g107 dX2_pairs_81 ?_
          refine lv_imul hx hb dX2_pairs_82 ?_
          refine lv_goto (tgt := 87) hx hb dX2_pairs_83 (by decide) ?_
          refine lv_iadd hx hb dX2_pairs_87 ?_
          refine lv_istore (lv' := [(4, .int (x4 + ((m_weight u (((5 : Int32) * x1) + x5).toNatClampNeg) * (m_weight u (((5 : Int32) * x2) + x6).toNatClampNeg)))), (0, .ref (a 0)), (1, .int x1), (2, .int x2), (3, .int x3), (5, .int x5), (6, .int x6)]) hx hb dX2_pairs_88 hl (by decide) rfl (fun ls hl => ?_)
          refine lv_iinc (v := (x6 + 1)) (lv' := [(6, .int (x6 + 1)), (4, .int (x4 + ((m_weight u (((5 : Int32) * x1) + x5).toNatClampNeg) * (m_weight u (((5 : Int32) * x2) + x6).toNatClampNeg)))), (0, .ref (a 0)), (1, .int x1), (2, .int x2), (3, .int x3), (5, .int x5)]) hx hb dX2_pairs_90 hl (k := 6) rfl rfl (by decide) rfl (fun ls hl => ?_)
          refine lv_goto (tgt := 20) hx hb dX2_pairs_93 (by decide) ?_
          exact hk20 _ _ _ _ _ _  ls (lv_sub hl [2, 3, 4, 5, 1, 6, 0] rfl) hv
  have hB6 : ∀ (k102 : Int32 → Option (Int32)) (hk102 : ∀ (x4 : Int32) (ls : Array Slot), lv_has ls 7 [(4, .int x4)] → k102 x4 = some v → W p l e rm_X2_pairs s m args below meth c s.heap [] 0 0 Q (F0 m 102 ls [])) (n : Nat) (x1 : Int32) (x2 : Int32) (x3 : Int32) (x4 : Int32) (x5 : Int32) (ls : Array Slot), lv_has ls 7 [(0, .ref (a 0)), (1, .int x1), (2, .int x2), (3, .int x3), (4, .int x4), (5, .int x5)] → B_X2_pairs_6 u k102 n x1 x2 x3 x4 x5 = some v → W p l e rm_X2_pairs s m args below meth c s.heap [] 0 0 Q (F0 m 6 ls []) := by
    intro k102 hk102 n
    induction n with
    | zero => intro x1 x2 x3 x4 x5 ls hl hv; exact absurd hv (by intro h; cases h)
    | succ n hk6 =>
      intro x1 x2 x3 x4 x5 ls hl hv
      rw [B_X2_pairs_6] at hv
      refine lv_iload hx hb dX2_pairs_6 (lv_at hl 5 rfl) ?_
      refine lv_aload_n hx hb dX2_pairs_8 rfl (lv_at hl 0 rfl) ?_
      refine gtX2_many hx hb hts hinX2 hown hK hP (by decide +kernel) dX2_pairs_9 ?_
      refine lv_iload_n hx hb dX2_pairs_12 rfl (lv_at hl 1 rfl) ?_
      obtain ⟨g208, hv⟩ := o_grd hv
      refine alX2_many hx hb hK hP g208 dX2_pairs_13 ?_
      refine lv_icmp_ge (tgt := 102) hx hb dX2_pairs_14 (by decide) (fun c209 => ?_) (fun c209 => ?_)
      · have hv := o_pos hv c209
        exact hk102 _  ls (lv_sub hl [4] rfl) hv
      · have hv := o_neg hv c209
        refine lv_iconst (v := 0) hx hb dX2_pairs_17 (by decide) ?_
        refine lv_istore (lv' := [(6, .int (0 : Int32)), (0, .ref (a 0)), (1, .int x1), (2, .int x2), (3, .int x3), (4, .int x4), (5, .int x5)]) hx hb dX2_pairs_18 hl (by decide) rfl (fun ls hl => ?_)
        refine hB20 _ (fun z210_1 z210_2 z210_3 z210_4 z210_5 ls hl hv => ?_) 1000 _ _ _ _ _ _ ls (lv_sub hl [1, 2, 3, 4, 5, 6, 0] rfl) hv
        · skip
          refine lv_iinc (v := (z210_5 + 1)) (lv' := [(5, .int (z210_5 + 1)), (0, .ref (a 0)), (1, .int z210_1), (2, .int z210_2), (3, .int z210_3), (4, .int z210_4)]) hx hb dX2_pairs_96 hl (k := 5) rfl rfl (by decide) rfl (fun ls hl => ?_)
          refine lv_goto (tgt := 6) hx hb dX2_pairs_99 (by decide) ?_
          exact hk6 _ _ _ _ _  ls (lv_sub hl [1, 2, 3, 4, 5, 0] rfl) hv
  unfold f_X2_pairs at hv
  refine lv_iconst (v := 0) hx hb dX2_pairs_0 (by decide) ?_
  refine lv_istore (lv' := [(4, .int (0 : Int32)), (0, .ref (a 0)), (1, .int x1), (2, .int x2), (3, .int x3)]) hx hb dX2_pairs_1 hl (by decide) rfl (fun ls hl => ?_)
  refine lv_iconst (v := 0) hx hb dX2_pairs_3 (by decide) ?_
  refine lv_istore (lv' := [(5, .int (0 : Int32)), (4, .int (0 : Int32)), (0, .ref (a 0)), (1, .int x1), (2, .int x2), (3, .int x3)]) hx hb dX2_pairs_4 hl (by decide) rfl (fun ls hl => ?_)
  refine hB6 _ (fun z311_4 ls hl hv => ?_) 1000 _ _ _ _ _ ls (lv_sub hl [2, 3, 4, 5, 1, 0] rfl) hv
  · skip
    refine lv_iload hx hb dX2_pairs_102 (lv_at hl 0 rfl) ?_
    exact fin dX2_pairs_104 hv
abbrev rm_X2_bundle : Room := { frames := 3, cells := 0, slots := 0, locals := 69 }
set_option maxHeartbeats 4000000 in
set_option maxRecDepth 100000 in
theorem c_X2_bundle (l : Launch) (D : va_G) (cA : ClassId) (a : Nat → Nat) (u : StM) (x1 : Int32) (x2 : Int32) (x3 : Int32) (v : Int32 × StM) (hv : f_X2_bundle u x1 x2 x3 = some v) (hd : djM a) : Met l yX2_bundle wsX2_bundle rm_X2_bundle (va_Pc [.ref (a 0), .int x1, .int x2, .int x3] (roB D cA [wM cA a u])) (va_Qi (fun (r : Int32) (u1 : StM) => (r, u1) = v) (fun (u1 : StM) t => va_P D vwCl (wM cA a u1) t.heap) (inM a)) 0 0 (inM a) := by
  refine wr_i (wf := fun u => wM cA a u) (cc := cX2_bundle) (maxL := 12) (own := RX2) (by decide) rfl rfl (Nat.le_of_ble_eq_true rfl) ?_
  intro p e s m args below meth c Q ls hC hK hZ hws hl fin
  obtain ⟨hx, hb, hml, hown, hts⟩ := id hC
  have hl : lv_has ls 12 [(0, .ref (a 0)), (1, .int x1), (2, .int x2), (3, .int x3)] := hl
  have hP : va_P D vwCl (wM cA a u) s.heap := hws _ (List.mem_of_getElem? (i := 0) rfl)
  have hinX2 : ∀ w ∈ wsX20, w ∈ wsX2_bundle := fun w h => List.mem_cons_of_mem _ (List.mem_append_right _ h)
  have hS : va_S (inM a) s.heap s.heap [] := va_S.rf
  have hB64 : ∀ (k152 : StM → Int32 → Int32 → Int32 → Int32 → Int64 → Int32 → Option (Int32 × StM)) (hk152 : ∀ (u : StM) (H : Heap) (locs : List Loc) (x1 : Int32) (x2 : Int32) (x3 : Int32) (x4 : Int32) (x5 : Int64) (x7 : Int32) (ls : Array Slot), va_P D vwCl (wM cA a u) H → va_S (inM a) s.heap H locs → lv_has ls 12 [(0, .ref (a 0)), (1, .int x1), (2, .int x2), (3, .int x3), (4, .int x4), (5, .long x5), (7, .int x7)] → k152 u x1 x2 x3 x4 x5 x7 = some v → W p l e rm_X2_bundle s m args below meth c H locs 0 0 Q (F0 m 152 ls [])) (n : Nat) (u : StM) (H : Heap) (locs : List Loc) (x1 : Int32) (x2 : Int32) (x3 : Int32) (x4 : Int32) (x5 : Int64) (x7 : Int32) (x8 : Int32) (ls : Array Slot), va_P D vwCl (wM cA a u) H → va_S (inM a) s.heap H locs → lv_has ls 12 [(0, .ref (a 0)), (1, .int x1), (2, .int x2), (3, .int x3), (4, .int x4), (5, .long x5), (7, .int x7), (8, .int x8)] → B_X2_bundle_64 k152 n u x1 x2 x3 x4 x5 x7 x8 = some v → W p l e rm_X2_bundle s m args below meth c H locs 0 0 Q (F0 m 64 ls []) := by
    intro k152 hk152 n
    induction n with
    | zero => intro u H locs x1 x2 x3 x4 x5 x7 x8 ls hP hS hl hv; exact absurd hv (by intro h; cases h)
    | succ n hk64 =>
      intro u H locs x1 x2 x3 x4 x5 x7 x8 ls hP hS hl hv
      rw [B_X2_bundle_64] at hv
      refine lv_iload hx hb dX2_bundle_64 (lv_at hl 7 rfl) ?_
      refine lv_aload_n hx hb dX2_bundle_66 rfl (lv_at hl 0 rfl) ?_
      refine gtX2_many hx hb hts hinX2 hown hK hP (by decide +kernel) dX2_bundle_67 ?_
      refine lv_iload_n hx hb dX2_bundle_70 rfl (lv_at hl 2 rfl) ?_
      obtain ⟨g101, hv⟩ := o_grd hv
      refine alX2_many hx hb hK hP g101 dX2_bundle_71 ?_
      refine lv_icmp_ge (tgt := 152) hx hb dX2_bundle_72 (by decide) (fun c102 => ?_) (fun c102 => ?_)
      · have hv := o_pos hv c102
        exact hk152 _ _ _ _ _ _ _ _ _  ls hP hS (lv_sub hl [0, 1, 2, 3, 4, 5, 6] rfl) hv
      · have hv := o_neg hv c102
        refine lv_aload_n hx hb dX2_bundle_75 rfl (lv_at hl 0 rfl) ?_
        refine gtX2_worth hx hb hts hinX2 hown hK hP (by decide +kernel) dX2_bundle_76 ?_
        refine lv_iconst (v := 5) hx hb dX2_bundle_79 (by decide) ?_
        refine lv_iload_n hx hb dX2_bundle_80 rfl (lv_at hl 1 rfl) ?_
        refine lv_imul hx hb dX2_bundle_81 ?_
        refine lv_iload hx hb dX2_bundle_82 (lv_at hl 6 rfl) ?_
        refine lv_iadd hx hb dX2_bundle_84 ?_
        obtain ⟨g103, hv⟩ := o_grd hv
        refine alX2_worth hx hb hK hP g103 dX2_bundle_85 ?_
        refine lv_aload_n hx hb dX2_bundle_86 rfl (lv_at hl 0 rfl) ?_
        refine gtX2_worth hx hb hts hinX2 hown hK hP (by decide +kernel) dX2_bundle_87 ?_
        refine lv_iconst (v := 5) hx hb dX2_bundle_90 (by decide) ?_
        refine lv_iload_n hx hb dX2_bundle_91 rfl (lv_at hl 2 rfl) ?_
        refine lv_imul hx hb dX2_bundle_92 ?_
        refine lv_iload hx hb dX2_bundle_93 (lv_at hl 7 rfl) ?_
        refine lv_iadd hx hb dX2_bundle_95 ?_
        obtain ⟨g104, hv⟩ := o_grd hv
        refine alX2_worth hx hb hK hP g104 dX2_bundle_96 ?_
        refine lv_iadd hx hb dX2_bundle_97 ?_
        refine lv_istore (lv' := [(9, .int ((m_worth u (((5 : Int32) * x1) + x7).toNatClampNeg) + (m_worth u (((5 : Int32) * x2) + x8).toNatClampNeg))), (0, .ref (a 0)), (1, .int x1), (2, .int x2), (3, .int x3), (4, .int x4), (5, .long x5), (7, .int x7), (8, .int x8)]) hx hb dX2_bundle_98 hl (by decide) rfl (fun ls hl => ?_)
        refine lv_iload hx hb dX2_bundle_100 (lv_at hl 0 rfl) ?_
        refine lv_i2l hx hb dX2_bundle_102 rfl ?_
        refine lv_aload_n hx hb dX2_bundle_103 rfl (lv_at hl 1 rfl) ?_
        refine lv_iload_n hx hb dX2_bundle_104 rfl (lv_at hl 2 rfl) ?_
        refine lv_iload_n hx hb dX2_bundle_105 rfl (lv_at hl 3 rfl) ?_
        refine lv_iload hx hb dX2_bundle_106 (lv_at hl 0 rfl) ?_
        obtain ⟨r105, e105, hv⟩ := o_bind hv
        refine rcall_i (W.runV (As := [.int x1, .int x2, .int ((m_worth u (((5 : Int32) * x1) + x7).toNatClampNeg) + (m_worth u (((5 : Int32) * x2) + x8).toNatClampNeg))]) (rest := [.long ((((m_worth u (((5 : Int32) * x1) + x7).toNatClampNeg) + (m_worth u (((5 : Int32) * x2) + x8).toNatClampNeg))).toInt64)]) hC (c_X2_pairs l D cA a u x1 x2 ((m_worth u (((5 : Int32) * x1) + x7).toNatClampNeg) + (m_worth u (((5 : Int32) * x2) + x8).toNatClampNeg)) r105 e105) (cwV 3 hts gX2_bundle_X2_pairs rfl rfl rfl (by decide +kernel) ⟨Nat.le_of_ble_eq_true rfl, Nat.le_of_ble_eq_true rfl⟩) ⟨roB_blind, va_recv (ci := 2) (q0 := 0) hK hP rfl rfl, roB_pre hK hZ (hws_1 hP)⟩ rfl rfl hl.1 rfl (lv_room (Nat.le_of_ble_eq_true rfl)) dX2_bundle_108 ⟨Nat.le_of_ble_eq_true rfl, Nat.le_of_ble_eq_true rfl⟩) ?_
        refine lv_i2l hx hb dX2_bundle_111 rfl ?_
        refine lv_lmul hx hb dX2_bundle_112 ?_
        refine lv_lstore (lv' := [(10, .long ((((m_worth u (((5 : Int32) * x1) + x7).toNatClampNeg) + (m_worth u (((5 : Int32) * x2) + x8).toNatClampNeg))).toInt64 * (r105).toInt64)), (9, .int ((m_worth u (((5 : Int32) * x1) + x7).toNatClampNeg) + (m_worth u (((5 : Int32) * x2) + x8).toNatClampNeg))), (0, .ref (a 0)), (1, .int x1), (2, .int x2), (3, .int x3), (4, .int x4), (5, .long x5), (7, .int x7), (8, .int x8)]) hx hb dX2_bundle_113 hl (by decide) rfl (fun ls hl => ?_)
        refine lv_lload hx hb dX2_bundle_115 (lv_at hl 0 rfl) ?_
        refine lv_lload hx hb dX2_bundle_117 (lv_at hl 7 rfl) ?_
        refine W.lcmp hx hb dX2_bundle_119 ?_
        refine lv_if_gt (tgt := 138) hx hb dX2_bundle_120 (by decide) (fun c106 => ?_) (fun c106 => ?_)
        · have hv := o_pos hv c106
          refine lv_lload hx hb dX2_bundle_138 (lv_at hl 0 rfl) ?_
          refine lv_lstore (lv' := [(5, .long ((((m_worth u (((5 : Int32) * x1) + x7).toNatClampNeg) + (m_worth u (((5 : Int32) * x2) + x8).toNatClampNeg))).toInt64 * (r105).toInt64)), (10, .long ((((m_worth u (((5 : Int32) * x1) + x7).toNatClampNeg) + (m_worth u (((5 : Int32) * x2) + x8).toNatClampNeg))).toInt64 * (r105).toInt64)), (9, .int ((m_worth u (((5 : Int32) * x1) + x7).toNatClampNeg) + (m_worth u (((5 : Int32) * x2) + x8).toNatClampNeg))), (0, .ref (a 0)), (1, .int x1), (2, .int x2), (3, .int x3), (4, .int x4), (7, .int x7), (8, .int x8)]) hx hb dX2_bundle_140 hl (by decide) rfl (fun ls hl => ?_)
          refine lv_iload hx hb dX2_bundle_142 (lv_at hl 2 rfl) ?_
          refine lv_istore (lv' := [(4, .int ((m_worth u (((5 : Int32) * x1) + x7).toNatClampNeg) + (m_worth u (((5 : Int32) * x2) + x8).toNatClampNeg))), (5, .long ((((m_worth u (((5 : Int32) * x1) + x7).toNatClampNeg) + (m_worth u (((5 : Int32) * x2) + x8).toNatClampNeg))).toInt64 * (r105).toInt64)), (10, .long ((((m_worth u (((5 : Int32) * x1) + x7).toNatClampNeg) + (m_worth u (((5 : Int32) * x2) + x8).toNatClampNeg))).toInt64 * (r105).toInt64)), (9, .int ((m_worth u (((5 : Int32) * x1) + x7).toNatClampNeg) + (m_worth u (((5 : Int32) * x2) + x8).toNatClampNeg))), (0, .ref (a 0)), (1, .int x1), (2, .int x2), (3, .int x3), (7, .int x7), (8, .int x8)]) hx hb dX2_bundle_144 hl (by decide) rfl (fun ls hl => ?_)
          refine lv_iinc (v := (x8 + 1)) (lv' := [(8, .int (x8 + 1)), (4, .int ((m_worth u (((5 : Int32) * x1) + x7).toNatClampNeg) + (m_worth u (((5 : Int32) * x2) + x8).toNatClampNeg))), (5, .long ((((m_worth u (((5 : Int32) * x1) + x7).toNatClampNeg) + (m_worth u (((5 : Int32) * x2) + x8).toNatClampNeg))).toInt64 * (r105).toInt64)), (10, .long ((((m_worth u (((5 : Int32) * x1) + x7).toNatClampNeg) + (m_worth u (((5 : Int32) * x2) + x8).toNatClampNeg))).toInt64 * (r105).toInt64)), (9, .int ((m_worth u (((5 : Int32) * x1) + x7).toNatClampNeg) + (m_worth u (((5 : Int32) * x2) + x8).toNatClampNeg))), (0, .ref (a 0)), (1, .int x1), (2, .int x2), (3, .int x3), (7, .int x7)]) hx hb dX2_bundle_146 hl (k := 9) rfl rfl (by decide) rfl (fun ls hl => ?_)
          refine lv_goto (tgt := 64) hx hb dX2_bundle_149 (by decide) ?_
          exact hk64 _ _ _ _ _ _ _ _ _ _  ls hP hS (lv_sub hl [5, 6, 7, 8, 1, 2, 9, 0] rfl) hv
        · have hv := o_neg hv c106
          refine lv_lload hx hb dX2_bundle_123 (lv_at hl 0 rfl) ?_
          refine lv_lload hx hb dX2_bundle_125 (lv_at hl 7 rfl) ?_
          refine W.lcmp hx hb dX2_bundle_127 ?_
          refine lv_if_ne (tgt := 146) hx hb dX2_bundle_128 (by decide) (fun c107 => ?_) (fun c107 => ?_)
          · have hv := o_neg hv c107
            refine lv_iinc (v := (x8 + 1)) (lv' := [(8, .int (x8 + 1)), (10, .long ((((m_worth u (((5 : Int32) * x1) + x7).toNatClampNeg) + (m_worth u (((5 : Int32) * x2) + x8).toNatClampNeg))).toInt64 * (r105).toInt64)), (9, .int ((m_worth u (((5 : Int32) * x1) + x7).toNatClampNeg) + (m_worth u (((5 : Int32) * x2) + x8).toNatClampNeg))), (0, .ref (a 0)), (1, .int x1), (2, .int x2), (3, .int x3), (4, .int x4), (5, .long x5), (7, .int x7)]) hx hb dX2_bundle_146 hl (k := 9) rfl rfl (by decide) rfl (fun ls hl => ?_)
            refine lv_goto (tgt := 64) hx hb dX2_bundle_149 (by decide) ?_
            exact hk64 _ _ _ _ _ _ _ _ _ _  ls hP hS (lv_sub hl [3, 4, 5, 6, 7, 8, 9, 0] rfl) hv
          · have hv := o_pos hv c107
            refine lv_iload hx hb dX2_bundle_131 (lv_at hl 1 rfl) ?_
            refine lv_iload hx hb dX2_bundle_133 (lv_at hl 6 rfl) ?_
            refine lv_icmp_ge (tgt := 146) hx hb dX2_bundle_135 (by decide) (fun c108 => ?_) (fun c108 => ?_)
            · have hv := o_pos hv c108
              refine lv_iinc (v := (x8 + 1)) (lv' := [(8, .int (x8 + 1)), (10, .long ((((m_worth u (((5 : Int32) * x1) + x7).toNatClampNeg) + (m_worth u (((5 : Int32) * x2) + x8).toNatClampNeg))).toInt64 * (r105).toInt64)), (9, .int ((m_worth u (((5 : Int32) * x1) + x7).toNatClampNeg) + (m_worth u (((5 : Int32) * x2) + x8).toNatClampNeg))), (0, .ref (a 0)), (1, .int x1), (2, .int x2), (3, .int x3), (4, .int x4), (5, .long x5), (7, .int x7)]) hx hb dX2_bundle_146 hl (k := 9) rfl rfl (by decide) rfl (fun ls hl => ?_)
              refine lv_goto (tgt := 64) hx hb dX2_bundle_149 (by decide) ?_
              exact hk64 _ _ _ _ _ _ _ _ _ _  ls hP hS (lv_sub hl [3, 4, 5, 6, 7, 8, 9, 0] rfl) hv
            · have hv := o_neg hv c108
              refine lv_lload hx hb dX2_bundle_138 (lv_at hl 0 rfl) ?_
              refine lv_lstore (lv' := [(5, .long ((((m_worth u (((5 : Int32) * x1) + x7).toNatClampNeg) + (m_worth u (((5 : Int32) * x2) + x8).toNatClampNeg))).toInt64 * (r105).toInt64)), (10, .long ((((m_worth u (((5 : Int32) * x1) + x7).toNatClampNeg) + (m_worth u (((5 : Int32) * x2) + x8).toNatClampNeg))).toInt64 * (r105).toInt64)), (9, .int ((m_worth u (((5 : Int32) * x1) + x7).toNatClampNeg) + (m_worth u (((5 : Int32) * x2) + x8).toNatClampNeg))), (0, .ref (a 0)), (1, .int x1), (2, .int x2), (3, .int x3), (4, .int x4), (7, .int x7), (8, .int x8)]) hx hb dX2_bundle_140 hl (by decide) rfl (fun ls hl => ?_)
              refine lv_iload hx hb dX2_bundle_142 (lv_at hl 2 rfl) ?_
              refine lv_istore (lv' := [(4, .int ((m_worth u (((5 : Int32) * x1) + x7).toNatClampNeg) + (m_worth u (((5 : Int32) * x2) + x8).toNatClampNeg))), (5, .long ((((m_worth u (((5 : Int32) * x1) + x7).toNatClampNeg) + (m_worth u (((5 : Int32) * x2) + x8).toNatClampNeg))).toInt64 * (r105).toInt64)), (10, .long ((((m_worth u (((5 : Int32) * x1) + x7).toNatClampNeg) + (m_worth u (((5 : Int32) * x2) + x8).toNatClampNeg))).toInt64 * (r105).toInt64)), (9, .int ((m_worth u (((5 : Int32) * x1) + x7).toNatClampNeg) + (m_worth u (((5 : Int32) * x2) + x8).toNatClampNeg))), (0, .ref (a 0)), (1, .int x1), (2, .int x2), (3, .int x3), (7, .int x7), (8, .int x8)]) hx hb dX2_bundle_144 hl (by decide) rfl (fun ls hl => ?_)
              refine lv_iinc (v := (x8 + 1)) (lv' := [(8, .int (x8 + 1)), (4, .int ((m_worth u (((5 : Int32) * x1) + x7).toNatClampNeg) + (m_worth u (((5 : Int32) * x2) + x8).toNatClampNeg))), (5, .long ((((m_worth u (((5 : Int32) * x1) + x7).toNatClampNeg) + (m_worth u (((5 : Int32) * x2) + x8).toNatClampNeg))).toInt64 * (r105).toInt64)), (10, .long ((((m_worth u (((5 : Int32) * x1) + x7).toNatClampNeg) + (m_worth u (((5 : Int32) * x2) + x8).toNatClampNeg))).toInt64 * (r105).toInt64)), (9, .int ((m_worth u (((5 : Int32) * x1) + x7).toNatClampNeg) + (m_worth u (((5 : Int32) * x2) + x8).toNatClampNeg))), (0, .ref (a 0)), (1, .int x1), (2, .int x2), (3, .int x3), (7, .int x7)]) hx hb dX2_bundle_146 hl (k := 9) rfl rfl (by decide) rfl (fun ls hl => ?_)
              refine lv_goto (tgt := 64) hx hb dX2_bundle_149 (by decide) ?_
              exact hk64 _ _ _ _ _ _ _ _ _ _  ls hP hS (lv_sub hl [5, 6, 7, 8, 1, 2, 9, 0] rfl) hv
  have hB50 : ∀ (k158 : StM → Int32 → Int32 → Int32 → Int32 → Int64 → Option (Int32 × StM)) (hk158 : ∀ (u : StM) (H : Heap) (locs : List Loc) (x1 : Int32) (x2 : Int32) (x3 : Int32) (x4 : Int32) (x5 : Int64) (ls : Array Slot), va_P D vwCl (wM cA a u) H → va_S (inM a) s.heap H locs → lv_has ls 12 [(0, .ref (a 0)), (1, .int x1), (2, .int x2), (3, .int x3), (4, .int x4), (5, .long x5)] → k158 u x1 x2 x3 x4 x5 = some v → W p l e rm_X2_bundle s m args below meth c H locs 0 0 Q (F0 m 158 ls [])) (n : Nat) (u : StM) (H : Heap) (locs : List Loc) (x1 : Int32) (x2 : Int32) (x3 : Int32) (x4 : Int32) (x5 : Int64) (x7 : Int32) (ls : Array Slot), va_P D vwCl (wM cA a u) H → va_S (inM a) s.heap H locs → lv_has ls 12 [(0, .ref (a 0)), (1, .int x1), (2, .int x2), (3, .int x3), (4, .int x4), (5, .long x5), (7, .int x7)] → B_X2_bundle_50 k158 n u x1 x2 x3 x4 x5 x7 = some v → W p l e rm_X2_bundle s m args below meth c H locs 0 0 Q (F0 m 50 ls []) := by
    intro k158 hk158 n
    induction n with
    | zero => intro u H locs x1 x2 x3 x4 x5 x7 ls hP hS hl hv; exact absurd hv (by intro h; cases h)
    | succ n hk50 =>
      intro u H locs x1 x2 x3 x4 x5 x7 ls hP hS hl hv
      rw [B_X2_bundle_50] at hv
      refine lv_iload hx hb dX2_bundle_50 (lv_at hl 6 rfl) ?_
      refine lv_aload_n hx hb dX2_bundle_52 rfl (lv_at hl 0 rfl) ?_
      refine gtX2_many hx hb hts hinX2 hown hK hP (by decide +kernel) dX2_bundle_53 ?_
      refine lv_iload_n hx hb dX2_bundle_56 rfl (lv_at hl 1 rfl) ?_
      obtain ⟨g209, hv⟩ := o_grd hv
      refine alX2_many hx hb hK hP g209 dX2_bundle_57 ?_
      refine lv_icmp_ge (tgt := 158) hx hb dX2_bundle_58 (by decide) (fun c210 => ?_) (fun c210 => ?_)
      · have hv := o_pos hv c210
        exact hk158 _ _ _ _ _ _ _ _  ls hP hS (lv_sub hl [0, 1, 2, 3, 4, 5] rfl) hv
      · have hv := o_neg hv c210
        refine lv_iconst (v := 0) hx hb dX2_bundle_61 (by decide) ?_
        refine lv_istore (lv' := [(8, .int (0 : Int32)), (0, .ref (a 0)), (1, .int x1), (2, .int x2), (3, .int x3), (4, .int x4), (5, .long x5), (7, .int x7)]) hx hb dX2_bundle_62 hl (by decide) rfl (fun ls hl => ?_)
        refine hB64 _ (fun z211_u H locs z211_1 z211_2 z211_3 z211_4 z211_5 z211_7 ls hP hS hl hv => ?_) 1000 _ _ _ _ _ _ _ _ _ _ ls hP hS (lv_sub hl [1, 2, 3, 4, 5, 6, 7, 0] rfl) hv
        · skip
          refine lv_iinc (v := (z211_7 + 1)) (lv' := [(7, .int (z211_7 + 1)), (0, .ref (a 0)), (1, .int z211_1), (2, .int z211_2), (3, .int z211_3), (4, .int z211_4), (5, .long z211_5)]) hx hb dX2_bundle_152 hl (k := 6) rfl rfl (by decide) rfl (fun ls hl => ?_)
          refine lv_goto (tgt := 50) hx hb dX2_bundle_155 (by decide) ?_
          exact hk50 _ _ _ _ _ _ _ _ _  ls hP hS (lv_sub hl [1, 2, 3, 4, 5, 6, 0] rfl) hv
  unfold f_X2_bundle at hv
  skip
  refine lv_aload_n hx hb dX2_bundle_0 rfl (lv_at hl 0 rfl) ?_
  refine lv_iconst (v := 0) hx hb dX2_bundle_1 (by decide) ?_
  refine ptX2_thrown hx hb hts hinX2 hown hK hP (dM hd _) hS (by decide +kernel) dX2_bundle_2 (fun H locs hP hS => ?_)
  refine lv_aload_n hx hb dX2_bundle_5 rfl (lv_at hl 0 rfl) ?_
  refine lv_iload_n hx hb dX2_bundle_6 rfl (lv_at hl 1 rfl) ?_
  obtain ⟨r312, e312, hv⟩ := o_bind hv
  refine rcall_i (W.runV (As := [.int x1]) (rest := []) hC (c_X2_isBuyer l D cA a (m_set_thrown u (0 : Int32)) x1 r312 e312) (cwV 1 hts gX2_bundle_X2_isBuyer rfl rfl rfl (by decide +kernel) ⟨Nat.le_of_ble_eq_true rfl, Nat.le_of_ble_eq_true rfl⟩) ⟨roB_blind, va_recv (ci := 2) (q0 := 0) hK hP rfl rfl, roB_pre hK hZ (hws_1 hP)⟩ rfl rfl hl.1 rfl (lv_room (Nat.le_of_ble_eq_true rfl)) dX2_bundle_7 ⟨Nat.le_of_ble_eq_true rfl, Nat.le_of_ble_eq_true rfl⟩) ?_
  refine lv_if_eq (tgt := 35) hx hb dX2_bundle_10 (by decide) (fun c313 => ?_) (fun c313 => ?_)
  · have hv := o_pos hv c313
    refine lv_bipush (v := -5) hx hb dX2_bundle_35 (by decide) ?_
    exact fin hP hS dX2_bundle_37 hv
  · have hv := o_neg hv c313
    refine lv_aload_n hx hb dX2_bundle_13 rfl (lv_at hl 0 rfl) ?_
    refine lv_iload_n hx hb dX2_bundle_14 rfl (lv_at hl 2 rfl) ?_
    obtain ⟨r314, e314, hv⟩ := o_bind hv
    refine rcall_i (W.runV (As := [.int x2]) (rest := []) hC (c_X2_isBuyer l D cA a (m_set_thrown u (0 : Int32)) x2 r314 e314) (cwV 1 hts gX2_bundle_X2_isBuyer rfl rfl rfl (by decide +kernel) ⟨Nat.le_of_ble_eq_true rfl, Nat.le_of_ble_eq_true rfl⟩) ⟨roB_blind, va_recv (ci := 2) (q0 := 0) hK hP rfl rfl, roB_pre hK hZ (hws_1 hP)⟩ rfl rfl hl.1 rfl (lv_room (Nat.le_of_ble_eq_true rfl)) dX2_bundle_15 ⟨Nat.le_of_ble_eq_true rfl, Nat.le_of_ble_eq_true rfl⟩) ?_
    refine lv_if_eq (tgt := 35) hx hb dX2_bundle_18 (by decide) (fun c315 => ?_) (fun c315 => ?_)
    · have hv := o_pos hv c315
      refine lv_bipush (v := -5) hx hb dX2_bundle_35 (by decide) ?_
      exact fin hP hS dX2_bundle_37 hv
    · have hv := o_neg hv c315
      refine lv_iload_n hx hb dX2_bundle_21 rfl (lv_at hl 1 rfl) ?_
      refine lv_iload_n hx hb dX2_bundle_22 rfl (lv_at hl 2 rfl) ?_
      refine lv_icmp_eq (tgt := 35) hx hb dX2_bundle_23 (by decide) (fun c316 => ?_) (fun c316 => ?_)
      · have hv := o_pos hv c316
        refine lv_bipush (v := -5) hx hb dX2_bundle_35 (by decide) ?_
        exact fin hP hS dX2_bundle_37 hv
      · have hv := o_neg hv c316
        refine lv_iload_n hx hb dX2_bundle_26 rfl (lv_at hl 3 rfl) ?_
        refine lv_iconst (v := 0) hx hb dX2_bundle_27 (by decide) ?_
        refine lv_iconst (v := 2) hx hb dX2_bundle_28 (by decide) ?_
        obtain ⟨r317, e317, hv⟩ := o_bind hv
        refine rcall_i (W.runS (As := [.int x3, .int (0 : Int32), .int (2 : Int32)]) (rest := []) hC (c_X2_in l D cA x3 (0 : Int32) (2 : Int32) r317 e317) (va_cwS 3 hts gX2_bundle_X2_in rfl rfl rfl (by decide +kernel) ⟨Nat.le_of_ble_eq_true rfl, Nat.le_of_ble_eq_true rfl⟩) ⟨roB_blind, roB_pre hK hZ hws_0⟩ rfl rfl hl.1 rfl (lv_room (Nat.le_of_ble_eq_true rfl)) dX2_bundle_29 ⟨Nat.le_of_ble_eq_true rfl, Nat.le_of_ble_eq_true rfl⟩) ?_
        refine lv_if_ne (tgt := 38) hx hb dX2_bundle_32 (by decide) (fun c318 => ?_) (fun c318 => ?_)
        · have hv := o_neg hv c318
          refine lv_bipush (v := -9) hx hb dX2_bundle_38 (by decide) ?_
          refine lv_istore (lv' := [(4, .int (-9 : Int32)), (0, .ref (a 0)), (1, .int x1), (2, .int x2), (3, .int x3)]) hx hb dX2_bundle_40 hl (by decide) rfl (fun ls hl => ?_)
          refine lv_ldc2 (v := -1) hx hb hown (hts (.constantLong RX2 114 (-1)) (by decide +kernel)) dX2_bundle_42 ?_
          refine lv_lstore (lv' := [(5, .long (-1 : Int64)), (4, .int (-9 : Int32)), (0, .ref (a 0)), (1, .int x1), (2, .int x2), (3, .int x3)]) hx hb dX2_bundle_45 hl (by decide) rfl (fun ls hl => ?_)
          refine lv_iconst (v := 0) hx hb dX2_bundle_47 (by decide) ?_
          refine lv_istore (lv' := [(7, .int (0 : Int32)), (5, .long (-1 : Int64)), (4, .int (-9 : Int32)), (0, .ref (a 0)), (1, .int x1), (2, .int x2), (3, .int x3)]) hx hb dX2_bundle_48 hl (by decide) rfl (fun ls hl => ?_)
          refine hB50 _ (fun z319_u H locs z319_1 z319_2 z319_3 z319_4 z319_5 ls hP hS hl hv => ?_) 1000 _ _ _ _ _ _ _ _ _ ls hP hS (lv_sub hl [3, 4, 5, 6, 2, 1, 0] rfl) hv
          · skip
            refine lv_iload_n hx hb dX2_bundle_158 rfl (lv_at hl 3 rfl) ?_
            refine lv_iconst (v := 2) hx hb dX2_bundle_159 (by decide) ?_
            refine lv_icmp_ge (tgt := 181) hx hb dX2_bundle_160 (by decide) (fun c320 => ?_) (fun c320 => ?_)
            · have hv := o_pos hv c320
              refine lv_aload_n hx hb dX2_bundle_181 rfl (lv_at hl 0 rfl) ?_
              refine lv_iload_n hx hb dX2_bundle_182 rfl (lv_at hl 1 rfl) ?_
              refine lv_aload_n hx hb dX2_bundle_183 rfl (lv_at hl 0 rfl) ?_
              refine lv_iload_n hx hb dX2_bundle_184 rfl (lv_at hl 1 rfl) ?_
              obtain ⟨r321, e321, hv⟩ := o_bind hv
              refine rcall_i (W.runV (As := [.int z319_1]) (rest := [.int z319_1, .ref (a 0)]) hC (c_X2_bestOf l D cA a z319_u z319_1 r321 e321) (cwV 1 hts gX2_bundle_X2_bestOf rfl rfl rfl (by decide +kernel) ⟨Nat.le_of_ble_eq_true rfl, Nat.le_of_ble_eq_true rfl⟩) ⟨roB_blind, va_recv (ci := 2) (q0 := 0) hK hP rfl rfl, roB_pre hK hZ (hws_1 hP)⟩ rfl rfl hl.1 rfl (lv_room (Nat.le_of_ble_eq_true rfl)) dX2_bundle_185 ⟨Nat.le_of_ble_eq_true rfl, Nat.le_of_ble_eq_true rfl⟩) ?_
              obtain ⟨r322, e322, hv⟩ := o_bind hv
              refine rcall_i (W.runV (As := [.int z319_1, .int r321]) (rest := []) hC (c_X2_take l D cA a z319_u z319_1 r321 r322 e322) (cwV 2 hts gX2_bundle_X2_take rfl rfl rfl (by decide +kernel) ⟨Nat.le_of_ble_eq_true rfl, Nat.le_of_ble_eq_true rfl⟩) ⟨roB_blind, va_recv (ci := 2) (q0 := 0) hK hP rfl rfl, roB_pre hK hZ (hws_1 hP)⟩ rfl rfl hl.1 rfl (lv_room (Nat.le_of_ble_eq_true rfl)) dX2_bundle_188 ⟨Nat.le_of_ble_eq_true rfl, Nat.le_of_ble_eq_true rfl⟩) ?_
              refine lv_i2l hx hb dX2_bundle_191 rfl ?_
              refine lv_aload_n hx hb dX2_bundle_192 rfl (lv_at hl 0 rfl) ?_
              refine lv_iload_n hx hb dX2_bundle_193 rfl (lv_at hl 2 rfl) ?_
              refine lv_iconst (v := 0) hx hb dX2_bundle_194 (by decide) ?_
              obtain ⟨r323, e323, hv⟩ := o_bind hv
              refine rcall_i (W.runV (As := [.int z319_2, .int (0 : Int32)]) (rest := [.long ((r322).toInt64)]) hC (c_X2_share l D cA a z319_u z319_2 (0 : Int32) r323 e323) (cwV 2 hts gX2_bundle_X2_share rfl rfl rfl (by decide +kernel) ⟨Nat.le_of_ble_eq_true rfl, Nat.le_of_ble_eq_true rfl⟩) ⟨roB_blind, va_recv (ci := 2) (q0 := 0) hK hP rfl rfl, roB_pre hK hZ (hws_1 hP)⟩ rfl rfl hl.1 rfl (lv_room (Nat.le_of_ble_eq_true rfl)) dX2_bundle_195 ⟨Nat.le_of_ble_eq_true rfl, Nat.le_of_ble_eq_true rfl⟩) ?_
              refine lv_i2l hx hb dX2_bundle_198 rfl ?_
              refine lv_lmul hx hb dX2_bundle_199 ?_
              refine lv_aload_n hx hb dX2_bundle_200 rfl (lv_at hl 0 rfl) ?_
              refine lv_iload_n hx hb dX2_bundle_201 rfl (lv_at hl 2 rfl) ?_
              refine lv_aload_n hx hb dX2_bundle_202 rfl (lv_at hl 0 rfl) ?_
              refine lv_iload_n hx hb dX2_bundle_203 rfl (lv_at hl 2 rfl) ?_
              obtain ⟨r324, e324, hv⟩ := o_bind hv
              refine rcall_i (W.runV (As := [.int z319_2]) (rest := [.int z319_2, .ref (a 0), .long ((r322).toInt64 * (r323).toInt64)]) hC (c_X2_bestOf l D cA a z319_u z319_2 r324 e324) (cwV 1 hts gX2_bundle_X2_bestOf rfl rfl rfl (by decide +kernel) ⟨Nat.le_of_ble_eq_true rfl, Nat.le_of_ble_eq_true rfl⟩) ⟨roB_blind, va_recv (ci := 2) (q0 := 0) hK hP rfl rfl, roB_pre hK hZ (hws_1 hP)⟩ rfl rfl hl.1 rfl (lv_room (Nat.le_of_ble_eq_true rfl)) dX2_bundle_204 ⟨Nat.le_of_ble_eq_true rfl, Nat.le_of_ble_eq_true rfl⟩) ?_
              obtain ⟨r325, e325, hv⟩ := o_bind hv
              refine rcall_i (W.runV (As := [.int z319_2, .int r324]) (rest := [.long ((r322).toInt64 * (r323).toInt64)]) hC (c_X2_take l D cA a z319_u z319_2 r324 r325 e325) (cwV 2 hts gX2_bundle_X2_take rfl rfl rfl (by decide +kernel) ⟨Nat.le_of_ble_eq_true rfl, Nat.le_of_ble_eq_true rfl⟩) ⟨roB_blind, va_recv (ci := 2) (q0 := 0) hK hP rfl rfl, roB_pre hK hZ (hws_1 hP)⟩ rfl rfl hl.1 rfl (lv_room (Nat.le_of_ble_eq_true rfl)) dX2_bundle_207 ⟨Nat.le_of_ble_eq_true rfl, Nat.le_of_ble_eq_true rfl⟩) ?_
              refine lv_i2l hx hb dX2_bundle_210 rfl ?_
              refine lv_aload_n hx hb dX2_bundle_211 rfl (lv_at hl 0 rfl) ?_
              refine lv_iload_n hx hb dX2_bundle_212 rfl (lv_at hl 1 rfl) ?_
              refine lv_iconst (v := 0) hx hb dX2_bundle_213 (by decide) ?_
              obtain ⟨r326, e326, hv⟩ := o_bind hv
              refine rcall_i (W.runV (As := [.int z319_1, .int (0 : Int32)]) (rest := [.long ((r325).toInt64), .long ((r322).toInt64 * (r323).toInt64)]) hC (c_X2_share l D cA a z319_u z319_1 (0 : Int32) r326 e326) (cwV 2 hts gX2_bundle_X2_share rfl rfl rfl (by decide +kernel) ⟨Nat.le_of_ble_eq_true rfl, Nat.le_of_ble_eq_true rfl⟩) ⟨roB_blind, va_recv (ci := 2) (q0 := 0) hK hP rfl rfl, roB_pre hK hZ (hws_1 hP)⟩ rfl rfl hl.1 rfl (lv_room (Nat.le_of_ble_eq_true rfl)) dX2_bundle_214 ⟨Nat.le_of_ble_eq_true rfl, Nat.le_of_ble_eq_true rfl⟩) ?_
              refine lv_i2l hx hb dX2_bundle_217 rfl ?_
              refine lv_lmul hx hb dX2_bundle_218 ?_
              refine lv_ladd hx hb dX2_bundle_219 ?_
              refine lv_lstore (lv' := [(7, .long (((r322).toInt64 * (r323).toInt64) + ((r325).toInt64 * (r326).toInt64))), (0, .ref (a 0)), (1, .int z319_1), (2, .int z319_2), (3, .int z319_3), (4, .int z319_4), (5, .long z319_5)]) hx hb dX2_bundle_220 hl (by decide) rfl (fun ls hl => ?_)
              refine lv_lload hx hb dX2_bundle_222 (lv_at hl 6 rfl) ?_
              refine lv_lload hx hb dX2_bundle_224 (lv_at hl 0 rfl) ?_
              refine W.lcmp hx hb dX2_bundle_226 ?_
              refine lv_if_le (tgt := 234) hx hb dX2_bundle_227 (by decide) (fun c327 => ?_) (fun c327 => ?_)
              · have hv := o_pos hv c327
                refine lv_lload hx hb dX2_bundle_234 (lv_at hl 6 rfl) ?_
                refine lv_lload hx hb dX2_bundle_236 (lv_at hl 0 rfl) ?_
                refine W.lcmp hx hb dX2_bundle_238 ?_
                refine lv_if_ge (tgt := 246) hx hb dX2_bundle_239 (by decide) (fun c328 => ?_) (fun c328 => ?_)
                · have hv := o_pos hv c328
                  refine lv_iconst (v := 0) hx hb dX2_bundle_246 (by decide) ?_
                  exact fin hP hS dX2_bundle_247 hv
                · have hv := o_neg hv c328
                  refine lv_iconst (v := -1) hx hb dX2_bundle_242 (by decide) ?_
                  refine lv_goto (tgt := 247) hx hb dX2_bundle_243 (by decide) ?_
                  exact fin hP hS dX2_bundle_247 hv
              · have hv := o_neg hv c327
                refine lv_iconst (v := 1) hx hb dX2_bundle_230 (by decide) ?_
                refine lv_goto (tgt := 247) hx hb dX2_bundle_231 (by decide) ?_
                exact fin hP hS dX2_bundle_247 hv
            · have hv := o_neg hv c320
              refine lv_iload_n hx hb dX2_bundle_163 rfl (lv_at hl 3 rfl) ?_
              refine lv_if_ne (tgt := 172) hx hb dX2_bundle_164 (by decide) (fun c329 => ?_) (fun c329 => ?_)
              · have hv := o_neg hv c329
                refine lv_aload_n hx hb dX2_bundle_172 rfl (lv_at hl 0 rfl) ?_
                refine lv_iload_n hx hb dX2_bundle_173 rfl (lv_at hl 1 rfl) ?_
                refine lv_iload_n hx hb dX2_bundle_174 rfl (lv_at hl 2 rfl) ?_
                refine lv_iload hx hb dX2_bundle_175 (lv_at hl 4 rfl) ?_
                obtain ⟨r330, e330, hv⟩ := o_bind hv
                refine rcall_i (W.runV (As := [.int z319_1, .int z319_2, .int z319_4]) (rest := []) hC (c_X2_pairs l D cA a z319_u z319_1 z319_2 z319_4 r330 e330) (cwV 3 hts gX2_bundle_X2_pairs rfl rfl rfl (by decide +kernel) ⟨Nat.le_of_ble_eq_true rfl, Nat.le_of_ble_eq_true rfl⟩) ⟨roB_blind, va_recv (ci := 2) (q0 := 0) hK hP rfl rfl, roB_pre hK hZ (hws_1 hP)⟩ rfl rfl hl.1 rfl (lv_room (Nat.le_of_ble_eq_true rfl)) dX2_bundle_177 ⟨Nat.le_of_ble_eq_true rfl, Nat.le_of_ble_eq_true rfl⟩) ?_
                exact fin hP hS dX2_bundle_180 hv
              · have hv := o_pos hv c329
                refine lv_iload hx hb dX2_bundle_167 (lv_at hl 4 rfl) ?_
                refine lv_goto (tgt := 180) hx hb dX2_bundle_169 (by decide) ?_
                exact fin hP hS dX2_bundle_180 hv
        · have hv := o_pos hv c318
          refine lv_bipush (v := -5) hx hb dX2_bundle_35 (by decide) ?_
          exact fin hP hS dX2_bundle_37 hv
