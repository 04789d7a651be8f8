abbrev rm_X1_sample : Room := { frames := 1, cells := 0, slots := 0, locals := 20 }
set_option maxHeartbeats 4000000 in
set_option maxRecDepth 100000 in
theorem c_X1_sample (l : Launch) (D : va_G) (cA : ClassId) (a : Nat → Nat) (u : StS) (x1 : Int32) (v : Int32 × StS) (hv : f_X1_sample u x1 = some v) (hd : djS a) : Met l yX1_sample wsX1_sample rm_X1_sample (va_Pc [.ref (a 0), .int x1] (roB D cA [wS cA a u])) (va_Qi (fun (r : Int32) (u1 : StS) => (r, u1) = v) (fun (u1 : StS) t => va_P D vwCl (wS cA a u1) t.heap) (inS a)) 0 0 (inS a) := by
  refine wr_i (wf := fun u => wS cA a u) (cc := cX1_sample) (maxL := 2) (own := RX1) (by decide) rfl rfl (Nat.le_of_ble_eq_true rfl) ?_
  intro p e s m args below meth c Q ls hC hK hZ hws hl fin
  obtain ⟨hx, hb, hml, hown, hts⟩ := id hC
  have hl : lv_has ls 2 [(0, .ref (a 0)), (1, .int x1)] := hl
  have hP : va_P D vwCl (wS cA a u) s.heap := hws _ (List.mem_of_getElem? (i := 0) rfl)
  have hinX1 : ∀ w ∈ wsX10, w ∈ wsX1_sample := fun w h => List.mem_cons_of_mem _ (List.mem_append_right _ h)
  have hS : va_S (inS a) s.heap s.heap [] := va_S.rf
  unfold f_X1_sample at hv
  skip
  refine lv_iload_n hx hb dX1_sample_0 rfl (lv_at hl 1 rfl) ?_
  obtain ⟨r101, e101, hv⟩ := o_bind hv
  refine rcall_i (W.runS (As := [.int x1]) (rest := []) hC (c_X1_isWorth l D cA x1 r101 e101) (va_cwS 1 hts gX1_sample_X1_isWorth rfl rfl rfl (by decide +kernel) ⟨Nat.le_of_ble_eq_true rfl, Nat.le_of_ble_eq_true rfl⟩) ⟨roB_blind, roB_pre hK hZ hws_0⟩ rfl rfl hl.1 rfl (lv_room (Nat.le_of_ble_eq_true rfl)) dX1_sample_1 ⟨Nat.le_of_ble_eq_true rfl, Nat.le_of_ble_eq_true rfl⟩) ?_
  refine lv_if_ne (tgt := 9) hx hb dX1_sample_4 (by decide) (fun c102 => ?_) (fun c102 => ?_)
  · have hv := o_neg hv c102
    refine lv_aload_n hx hb dX1_sample_9 rfl (lv_at hl 0 rfl) ?_
    refine gtX1_sampleCount hx hb hts hinX1 hown hK hP (by decide +kernel) dX1_sample_10 ?_
    refine lv_bipush (v := 12) hx hb dX1_sample_13 (by decide) ?_
    refine lv_icmp_lt (tgt := 21) hx hb dX1_sample_15 (by decide) (fun c103 => ?_) (fun c103 => ?_)
    · have hv := o_pos hv c103
      refine lv_aload_n hx hb dX1_sample_21 rfl (lv_at hl 0 rfl) ?_
      refine gtX1_samples hx hb hts hinX1 hown hK hP (by decide +kernel) dX1_sample_22 ?_
      refine lv_aload_n hx hb dX1_sample_25 rfl (lv_at hl 0 rfl) ?_
      refine gtX1_sampleCount hx hb hts hinX1 hown hK hP (by decide +kernel) dX1_sample_26 ?_
      refine lv_iload_n hx hb dX1_sample_29 rfl (lv_at hl 1 rfl) ?_
      obtain ⟨g104, hv⟩ := o_grd hv
      refine asX1_samples hx hb hK hP (dS hd _) hS g104 dX1_sample_30 (fun H locs hP hS => ?_)
      refine lv_aload_n hx hb dX1_sample_31 rfl (lv_at hl 0 rfl) ?_
      refine lv_dup hx hb dX1_sample_32 rfl ?_
      refine gtX1_sampleCount hx hb hts hinX1 hown hK hP (by decide +kernel) dX1_sample_33 ?_
      refine lv_iconst (v := 1) hx hb dX1_sample_36 (by decide) ?_
      refine lv_iadd hx hb dX1_sample_37 ?_
      refine ptX1_sampleCount hx hb hts hinX1 hown hK hP (dS hd _) hS (by decide +kernel) dX1_sample_38 (fun H locs hP hS => ?_)
      refine lv_aload_n hx hb dX1_sample_41 rfl (lv_at hl 0 rfl) ?_
      refine gtX1_sampleCount hx hb hts hinX1 hown hK hP (by decide +kernel) dX1_sample_42 ?_
      exact fin hP hS dX1_sample_45 hv
    · have hv := o_neg hv c103
      refine lv_bipush (v := -3) hx hb dX1_sample_18 (by decide) ?_
      exact fin hP hS dX1_sample_20 hv
  · have hv := o_pos hv c102
    refine lv_iconst (v := -1) hx hb dX1_sample_7 (by decide) ?_
    exact fin hP hS dX1_sample_8 hv
abbrev rm_X1_clear : Room := { frames := 0, cells := 0, slots := 0, locals := 0 }
set_option maxHeartbeats 4000000 in
set_option maxRecDepth 100000 in
theorem c_X1_clear (l : Launch) (D : va_G) (cA : ClassId) (a : Nat → Nat) (u : StS) (v : Int32 × StS) (hv : f_X1_clear u = some v) (hd : djS a) : Met l yX1_clear wsX1_clear rm_X1_clear (va_Pc [.ref (a 0)] (roB D cA [wS cA a u])) (va_Qi (fun (r : Int32) (u1 : StS) => (r, u1) = v) (fun (u1 : StS) t => va_P D vwCl (wS cA a u1) t.heap) (inS a)) 0 0 (inS a) := by
  refine wr_i (wf := fun u => wS cA a u) (cc := cX1_clear) (maxL := 2) (own := RX1) (by decide) rfl rfl (Nat.le_of_ble_eq_true rfl) ?_
  intro p e s m args below meth c Q ls hC hK hZ hws hl fin
  obtain ⟨hx, hb, hml, hown, hts⟩ := id hC
  have hl : lv_has ls 2 [(0, .ref (a 0))] := hl
  have hP : va_P D vwCl (wS cA a u) s.heap := hws _ (List.mem_of_getElem? (i := 0) rfl)
  have hinX1 : ∀ w ∈ wsX10, w ∈ wsX1_clear := fun w h => List.mem_cons_of_mem _ (List.mem_append_right _ h)
  have hS : va_S (inS a) s.heap s.heap [] := va_S.rf
  unfold f_X1_clear at hv
  skip
  refine lv_aload_n hx hb dX1_clear_0 rfl (lv_at hl 0 rfl) ?_
  refine gtX1_sampleCount hx hb hts hinX1 hown hK hP (by decide +kernel) dX1_clear_1 ?_
  refine lv_istore_n (lv' := [(1, .int (s_sampleCount u)), (0, .ref (a 0))]) hx hb dX1_clear_4 rfl hl (by decide) rfl (fun ls hl => ?_)
  refine lv_aload_n hx hb dX1_clear_5 rfl (lv_at hl 1 rfl) ?_
  refine lv_iconst (v := 0) hx hb dX1_clear_6 (by decide) ?_
  refine ptX1_sampleCount hx hb hts hinX1 hown hK hP (dS hd _) hS (by decide +kernel) dX1_clear_7 (fun H locs hP hS => ?_)
  refine lv_iload_n hx hb dX1_clear_10 rfl (lv_at hl 0 rfl) ?_
  exact fin hP hS dX1_clear_11 hv
abbrev rm_X1_samplesFrom : Room := { frames := 0, cells := 0, slots := 0, locals := 0 }
set_option maxHeartbeats 4000000 in
set_option maxRecDepth 100000 in
theorem c_X1_samplesFrom (l : Launch) (D : va_G) (cA : ClassId) (a : Nat → Nat) (u : StS) (x1 : Int32) (v : Int32) (hv : f_X1_samplesFrom u x1 = some v)  : Met l yX1_samplesFrom wsX1_samplesFrom rm_X1_samplesFrom (va_Pc [.ref (a 0), .int x1] (roB D cA [wS cA a u])) (vp_Si (fun r => r = v)) 0 0 (fun _ => False) := by
  refine ro_i (cc := cX1_samplesFrom) (maxL := 4) (own := RX1) (by decide) rfl rfl (Nat.le_of_ble_eq_true rfl) ?_
  intro p e s m args below meth c Q ls hC hK hZ hws hl fin
  obtain ⟨hx, hb, hml, hown, hts⟩ := id hC
  have hl : lv_has ls 4 [(0, .ref (a 0)), (1, .int x1)] := hl
  have hP : va_P D vwCl (wS cA a u) s.heap := hws _ (List.mem_of_getElem? (i := 0) rfl)
  have hinX1 : ∀ w ∈ wsX10, w ∈ wsX1_samplesFrom := fun w h => List.mem_cons_of_mem _ (List.mem_append_right _ h)
  have hB4 : ∀ (k31 : Int32 → Option (Int32)) (hk31 : ∀ (x2 : Int32) (ls : Array Slot), lv_has ls 4 [(2, .int x2)] → k31 x2 = some v → W p l e rm_X1_samplesFrom s m args below meth c s.heap [] 0 0 Q (F0 m 31 ls [])) (n : Nat) (x1 : Int32) (x2 : Int32) (x3 : Int32) (ls : Array Slot), lv_has ls 4 [(0, .ref (a 0)), (1, .int x1), (2, .int x2), (3, .int x3)] → B_X1_samplesFrom_4 u k31 n x1 x2 x3 = some v → W p l e rm_X1_samplesFrom s m args below meth c s.heap [] 0 0 Q (F0 m 4 ls []) := by
    intro k31 hk31 n
    induction n with
    | zero => intro x1 x2 x3 ls hl hv; exact absurd hv (by intro h; cases h)
    | succ n hk4 =>
      intro x1 x2 x3 ls hl hv
      rw [B_X1_samplesFrom_4] at hv
      refine lv_iload_n hx hb dX1_samplesFrom_4 rfl (lv_at hl 3 rfl) ?_
      refine lv_aload_n hx hb dX1_samplesFrom_5 rfl (lv_at hl 0 rfl) ?_
      refine gtX1_sampleCount hx hb hts hinX1 hown hK hP (by decide +kernel) dX1_samplesFrom_6 ?_
      refine lv_icmp_ge (tgt := 31) hx hb dX1_samplesFrom_9 (by decide) (fun c101 => ?_) (fun c101 => ?_)
      · have hv := o_pos hv c101
        exact hk31 _  ls (lv_sub hl [2] rfl) hv
      · have hv := o_neg hv c101
        refine lv_aload_n hx hb dX1_samplesFrom_12 rfl (lv_at hl 0 rfl) ?_
        refine gtX1_samples hx hb hts hinX1 hown hK hP (by decide +kernel) dX1_samplesFrom_13 ?_
        refine lv_iload_n hx hb dX1_samplesFrom_16 rfl (lv_at hl 3 rfl) ?_
        obtain ⟨g102, hv⟩ := o_grd hv
        refine alX1_samples hx hb hK hP g102 dX1_samplesFrom_17 ?_
        refine lv_iload_n hx hb dX1_samplesFrom_18 rfl (lv_at hl 1 rfl) ?_
        refine lv_icmp_lt (tgt := 25) hx hb dX1_samplesFrom_19 (by decide) (fun c103 => ?_) (fun c103 => ?_)
        · have hv := o_pos hv c103
          refine lv_iinc (v := (x3 + 1)) (lv' := [(3, .int (x3 + 1)), (0, .ref (a 0)), (1, .int x1), (2, .int x2)]) hx hb dX1_samplesFrom_25 hl (k := 3) rfl rfl (by decide) rfl (fun ls hl => ?_)
          refine lv_goto (tgt := 4) hx hb dX1_samplesFrom_28 (by decide) ?_
          exact hk4 _ _ _  ls (lv_sub hl [1, 2, 3, 0] rfl) hv
        · have hv := o_neg hv c103
          refine lv_iinc (v := (x2 + 1)) (lv' := [(2, .int (x2 + 1)), (0, .ref (a 0)), (1, .int x1), (3, .int x3)]) hx hb dX1_samplesFrom_22 hl (k := 2) rfl rfl (by decide) rfl (fun ls hl => ?_)
          refine lv_iinc (v := (x3 + 1)) (lv' := [(3, .int (x3 + 1)), (2, .int (x2 + 1)), (0, .ref (a 0)), (1, .int x1)]) hx hb dX1_samplesFrom_25 hl (k := 3) rfl rfl (by decide) rfl (fun ls hl => ?_)
          refine lv_goto (tgt := 4) hx hb dX1_samplesFrom_28 (by decide) ?_
          exact hk4 _ _ _  ls (lv_sub hl [2, 3, 1, 0] rfl) hv
  unfold f_X1_samplesFrom at hv
  refine lv_iconst (v := 0) hx hb dX1_samplesFrom_0 (by decide) ?_
  refine lv_istore_n (lv' := [(2, .int (0 : Int32)), (0, .ref (a 0)), (1, .int x1)]) hx hb dX1_samplesFrom_1 rfl hl (by decide) rfl (fun ls hl => ?_)
  refine lv_iconst (v := 0) hx hb dX1_samplesFrom_2 (by decide) ?_
  refine lv_istore_n (lv' := [(3, .int (0 : Int32)), (2, .int (0 : Int32)), (0, .ref (a 0)), (1, .int x1)]) hx hb dX1_samplesFrom_3 rfl hl (by decide) rfl (fun ls hl => ?_)
  refine hB4 _ (fun z204_2 ls hl hv => ?_) 1000 _ _ _ ls (lv_sub hl [2, 3, 1, 0] rfl) hv
  · skip
    refine lv_iload_n hx hb dX1_samplesFrom_31 rfl (lv_at hl 0 rfl) ?_
    exact fin dX1_samplesFrom_32 hv
abbrev rm_X1_learnt : Room := { frames := 1, cells := 0, slots := 0, locals := 23 }
set_option maxHeartbeats 4000000 in
set_option maxRecDepth 100000 in
theorem c_X1_learnt (l : Launch) (D : va_G) (cA : ClassId) (a : Nat → Nat) (u : StS) (v : Int32) (hv : f_X1_learnt u = some v)  : Met l yX1_learnt wsX1_learnt rm_X1_learnt (va_Pc [.ref (a 0)] (roB D cA [wS cA a u])) (vp_Si (fun r => r = v)) 0 0 (fun _ => False) := by
  refine ro_i (cc := cX1_learnt) (maxL := 5) (own := RX1) (by decide) rfl rfl (Nat.le_of_ble_eq_true rfl) ?_
  intro p e s m args below meth c Q ls hC hK hZ hws hl fin
  obtain ⟨hx, hb, hml, hown, hts⟩ := id hC
  have hl : lv_has ls 5 [(0, .ref (a 0))] := hl
  have hP : va_P D vwCl (wS cA a u) s.heap := hws _ (List.mem_of_getElem? (i := 0) rfl)
  have hinX1 : ∀ w ∈ wsX10, w ∈ wsX1_learnt := fun w h => List.mem_cons_of_mem _ (List.mem_append_right _ h)
  have hB7 : ∀ (k72 : Int32 → Option (Int32)) (hk72 : ∀ (x1 : Int32) (ls : Array Slot), lv_has ls 5 [(1, .int x1)] → k72 x1 = some v → W p l e rm_X1_learnt s m args below meth c s.heap [] 0 0 Q (F0 m 72 ls [])) (n : Nat) (x1 : Int32) (x2 : Int32) (x3 : Int32) (ls : Array Slot), lv_has ls 5 [(0, .ref (a 0)), (1, .int x1), (2, .int x2), (3, .int x3)] → B_X1_learnt_7 u k72 n x1 x2 x3 = some v → W p l e rm_X1_learnt s m args below meth c s.heap [] 0 0 Q (F0 m 7 ls []) := by
    intro k72 hk72 n
    induction n with
    | zero => intro x1 x2 x3 ls hl hv; exact absurd hv (by intro h; cases h)
    | succ n hk7 =>
      intro x1 x2 x3 ls hl hv
      rw [B_X1_learnt_7] at hv
      refine lv_iload_n hx hb dX1_learnt_7 rfl (lv_at hl 3 rfl) ?_
      refine lv_aload_n hx hb dX1_learnt_8 rfl (lv_at hl 0 rfl) ?_
      refine gtX1_sampleCount hx hb hts hinX1 hown hK hP (by decide +kernel) dX1_learnt_9 ?_
      refine lv_icmp_ge (tgt := 72) hx hb dX1_learnt_12 (by decide) (fun c101 => ?_) (fun c101 => ?_)
      · have hv := o_pos hv c101
        exact hk72 _  ls (lv_sub hl [1] rfl) hv
      · have hv := o_neg hv c101
        refine lv_aload_n hx hb dX1_learnt_15 rfl (lv_at hl 0 rfl) ?_
        refine gtX1_samples hx hb hts hinX1 hown hK hP (by decide +kernel) dX1_learnt_16 ?_
        refine lv_iload_n hx hb dX1_learnt_19 rfl (lv_at hl 3 rfl) ?_
        obtain ⟨g102, hv⟩ := o_grd hv
        refine alX1_samples hx hb hK hP g102 dX1_learnt_20 ?_
        refine lv_aload_n hx hb dX1_learnt_21 rfl (lv_at hl 0 rfl) ?_
        refine lv_aload_n hx hb dX1_learnt_22 rfl (lv_at hl 0 rfl) ?_
        refine gtX1_samples hx hb hts hinX1 hown hK hP (by decide +kernel) dX1_learnt_23 ?_
        refine lv_iload_n hx hb dX1_learnt_26 rfl (lv_at hl 3 rfl) ?_
        obtain ⟨g103, hv⟩ := o_grd hv
        refine alX1_samples hx hb hK hP g103 dX1_learnt_27 ?_
        obtain ⟨r104, e104, hv⟩ := o_bind hv
        refine rcall_i (W.runV (As := [.int (s_samples u x3.toNatClampNeg)]) (rest := [.int (s_samples u x3.toNatClampNeg)]) hC (c_X1_samplesFrom l D cA a u (s_samples u x3.toNatClampNeg) r104 e104) (cwV 1 hts gX1_learnt_X1_samplesFrom rfl rfl rfl (by decide +kernel) ⟨Nat.le_of_ble_eq_true rfl, Nat.le_of_ble_eq_true rfl⟩) ⟨roB_blind, va_recv (ci := 1) (q0 := 0) hK hP rfl rfl, roB_pre hK hZ (hws_1 hP)⟩ rfl rfl hl.1 rfl (lv_room (Nat.le_of_ble_eq_true rfl)) dX1_learnt_28 ⟨Nat.le_of_ble_eq_true rfl, Nat.le_of_ble_eq_true rfl⟩) ?_
        refine lv_imul hx hb dX1_learnt_31 ?_
        refine lv_istore (lv' := [(4, .int ((s_samples u x3.toNatClampNeg) * r104)), (0, .ref (a 0)), (1, .int x1), (2, .int x2), (3, .int x3)]) hx hb dX1_learnt_32 hl (by decide) rfl (fun ls hl => ?_)
        refine lv_iload hx hb dX1_learnt_34 (lv_at hl 0 rfl) ?_
        refine lv_iload_n hx hb dX1_learnt_36 rfl (lv_at hl 3 rfl) ?_
        refine lv_icmp_gt (tgt := 56) hx hb dX1_learnt_37 (by decide) (fun c105 => ?_) (fun c105 => ?_)
        · have hv := o_pos hv c105
          refine lv_aload_n hx hb dX1_learnt_56 rfl (lv_at hl 1 rfl) ?_
          refine gtX1_samples hx hb hts hinX1 hown hK hP (by decide +kernel) dX1_learnt_57 ?_
          refine lv_iload_n hx hb dX1_learnt_60 rfl (lv_at hl 4 rfl) ?_
          obtain ⟨g106, hv⟩ := o_grd hv
          refine alX1_samples hx hb hK hP g106 dX1_learnt_61 ?_
          refine lv_istore_n (lv' := [(1, .int (s_samples u x3.toNatClampNeg)), (4, .int ((s_samples u x3.toNatClampNeg) * r104)), (0, .ref (a 0)), (2, .int x2), (3, .int x3)]) hx hb dX1_learnt_62 rfl hl (by decide) rfl (fun ls hl => ?_)
          refine lv_iload hx hb dX1_learnt_63 (lv_at hl 1 rfl) ?_
          refine lv_istore_n (lv' := [(2, .int ((s_samples u x3.toNatClampNeg) * r104)), (1, .int (s_samples u x3.toNatClampNeg)), (4, .int ((s_samples u x3.toNatClampNeg) * r104)), (0, .ref (a 0)), (3, .int x3)]) hx hb dX1_learnt_65 rfl hl (by decide) rfl (fun ls hl => ?_)
          refine lv_iinc (v := (x3 + 1)) (lv' := [(3, .int (x3 + 1)), (2, .int ((s_samples u x3.toNatClampNeg) * r104)), (1, .int (s_samples u x3.toNatClampNeg)), (4, .int ((s_samples u x3.toNatClampNeg) * r104)), (0, .ref (a 0))]) hx hb dX1_learnt_66 hl (k := 4) rfl rfl (by decide) rfl (fun ls hl => ?_)
          refine lv_goto (tgt := 7) hx hb dX1_learnt_69 (by decide) ?_
          exact hk7 _ _ _  ls (lv_sub hl [4, 2, 1, 0] rfl) hv
        · have hv := o_neg hv c105
          refine lv_iload hx hb dX1_learnt_40 (lv_at hl 0 rfl) ?_
          refine lv_iload_n hx hb dX1_learnt_42 rfl (lv_at hl 3 rfl) ?_
          refine lv_icmp_ne (tgt := 66) hx hb dX1_learnt_43 (by decide) (fun c107 => ?_) (fun c107 => ?_)
          · have hv := o_neg hv c107
            refine lv_iinc (v := (x3 + 1)) (lv' := [(3, .int (x3 + 1)), (4, .int ((s_samples u x3.toNatClampNeg) * r104)), (0, .ref (a 0)), (1, .int x1), (2, .int x2)]) hx hb dX1_learnt_66 hl (k := 4) rfl rfl (by decide) rfl (fun ls hl => ?_)
            refine lv_goto (tgt := 7) hx hb dX1_learnt_69 (by decide) ?_
            exact hk7 _ _ _  ls (lv_sub hl [2, 3, 4, 0] rfl) hv
          · have hv := o_pos hv c107
            refine lv_aload_n hx hb dX1_learnt_46 rfl (lv_at hl 1 rfl) ?_
            refine gtX1_samples hx hb hts hinX1 hown hK hP (by decide +kernel) dX1_learnt_47 ?_
            refine lv_iload_n hx hb dX1_learnt_50 rfl (lv_at hl 4 rfl) ?_
            obtain ⟨g108, hv⟩ := o_grd hv
            refine alX1_samples hx hb hK hP g108 dX1_learnt_51 ?_
            refine lv_iload_n hx hb dX1_learnt_52 rfl (lv_at hl 2 rfl) ?_
            refine lv_icmp_ge (tgt := 66) hx hb dX1_learnt_53 (by decide) (fun c109 => ?_) (fun c109 => ?_)
            · have hv := o_pos hv c109
              refine lv_iinc (v := (x3 + 1)) (lv' := [(3, .int (x3 + 1)), (4, .int ((s_samples u x3.toNatClampNeg) * r104)), (0, .ref (a 0)), (1, .int x1), (2, .int x2)]) hx hb dX1_learnt_66 hl (k := 4) rfl rfl (by decide) rfl (fun ls hl => ?_)
              refine lv_goto (tgt := 7) hx hb dX1_learnt_69 (by decide) ?_
              exact hk7 _ _ _  ls (lv_sub hl [2, 3, 4, 0] rfl) hv
            · have hv := o_neg hv c109
              refine lv_aload_n hx hb dX1_learnt_56 rfl (lv_at hl 1 rfl) ?_
              refine gtX1_samples hx hb hts hinX1 hown hK hP (by decide +kernel) dX1_learnt_57 ?_
              refine lv_iload_n hx hb dX1_learnt_60 rfl (lv_at hl 4 rfl) ?_
              obtain ⟨g110, hv⟩ := o_grd hv
              refine alX1_samples hx hb hK hP g110 dX1_learnt_61 ?_
              refine lv_istore_n (lv' := [(1, .int (s_samples u x3.toNatClampNeg)), (4, .int ((s_samples u x3.toNatClampNeg) * r104)), (0, .ref (a 0)), (2, .int x2), (3, .int x3)]) hx hb dX1_learnt_62 rfl hl (by decide) rfl (fun ls hl => ?_)
              refine lv_iload hx hb dX1_learnt_63 (lv_at hl 1 rfl) ?_
              refine lv_istore_n (lv' := [(2, .int ((s_samples u x3.toNatClampNeg) * r104)), (1, .int (s_samples u x3.toNatClampNeg)), (4, .int ((s_samples u x3.toNatClampNeg) * r104)), (0, .ref (a 0)), (3, .int x3)]) hx hb dX1_learnt_65 rfl hl (by decide) rfl (fun ls hl => ?_)
              refine lv_iinc (v := (x3 + 1)) (lv' := [(3, .int (x3 + 1)), (2, .int ((s_samples u x3.toNatClampNeg) * r104)), (1, .int (s_samples u x3.toNatClampNeg)), (4, .int ((s_samples u x3.toNatClampNeg) * r104)), (0, .ref (a 0))]) hx hb dX1_learnt_66 hl (k := 4) rfl rfl (by decide) rfl (fun ls hl => ?_)
              refine lv_goto (tgt := 7) hx hb dX1_learnt_69 (by decide) ?_
              exact hk7 _ _ _  ls (lv_sub hl [4, 2, 1, 0] rfl) hv
  unfold f_X1_learnt at hv
  refine lv_bipush (v := -9) hx hb dX1_learnt_0 (by decide) ?_
  refine lv_istore_n (lv' := [(1, .int (-9 : Int32)), (0, .ref (a 0))]) hx hb dX1_learnt_2 rfl hl (by decide) rfl (fun ls hl => ?_)
  refine lv_iconst (v := -1) hx hb dX1_learnt_3 (by decide) ?_
  refine lv_istore_n (lv' := [(2, .int (-1 : Int32)), (1, .int (-9 : Int32)), (0, .ref (a 0))]) hx hb dX1_learnt_4 rfl hl (by decide) rfl (fun ls hl => ?_)
  refine lv_iconst (v := 0) hx hb dX1_learnt_5 (by decide) ?_
  refine lv_istore_n (lv' := [(3, .int (0 : Int32)), (2, .int (-1 : Int32)), (1, .int (-9 : Int32)), (0, .ref (a 0))]) hx hb dX1_learnt_6 rfl hl (by decide) rfl (fun ls hl => ?_)
  refine hB7 _ (fun z211_1 ls hl hv => ?_) 1000 _ _ _ ls (lv_sub hl [3, 2, 1, 0] rfl) hv
  · skip
    refine lv_iload_n hx hb dX1_learnt_72 rfl (lv_at hl 0 rfl) ?_
    exact fin dX1_learnt_73 hv
abbrev rm_X1_count : Room := { frames := 0, cells := 0, slots := 0, locals := 0 }
set_option maxHeartbeats 4000000 in
set_option maxRecDepth 100000 in
theorem c_X1_count (l : Launch) (D : va_G) (cA : ClassId) (a : Nat → Nat) (u : StS) (x1 : Int32) (v : Int32) (hv : f_X1_count u x1 = some v)  : Met l yX1_count wsX1_count rm_X1_count (va_Pc [.ref (a 0), .int x1] (roB D cA [wS cA a u])) (vp_Si (fun r => r = v)) 0 0 (fun _ => False) := by
  refine ro_i (cc := cX1_count) (maxL := 2) (own := RX1) (by decide) rfl rfl (Nat.le_of_ble_eq_true rfl) ?_
  intro p e s m args below meth c Q ls hC hK hZ hws hl fin
  obtain ⟨hx, hb, hml, hown, hts⟩ := id hC
  have hl : lv_has ls 2 [(0, .ref (a 0)), (1, .int x1)] := hl
  have hP : va_P D vwCl (wS cA a u) s.heap := hws _ (List.mem_of_getElem? (i := 0) rfl)
  have hinX1 : ∀ w ∈ wsX10, w ∈ wsX1_count := fun w h => List.mem_cons_of_mem _ (List.mem_append_right _ h)
  unfold f_X1_count at hv
  refine lv_iload_n hx hb dX1_count_0 rfl (lv_at hl 1 rfl) ?_
  rcases o_ite hv with ⟨c101, hv⟩ | ⟨c101, hv⟩
  · refine lv_tableIn (tgt := 28) hx hb dX1_count_1 (by rw [c101]; decide) (by rw [c101]; decide) (by rw [c101]; rfl) (by decide) ?_
    refine lv_aload_n hx hb dX1_count_28 rfl (lv_at hl 0 rfl) ?_
    refine gtX1_buyerCount hx hb hts hinX1 hown hK hP (by decide +kernel) dX1_count_29 ?_
    exact fin dX1_count_32 hv
  · skip
    rcases o_ite hv with ⟨c102, hv⟩ | ⟨c102, hv⟩
    · refine lv_tableIn (tgt := 33) hx hb dX1_count_1 (by rw [c102]; decide) (by rw [c102]; decide) (by rw [c102]; rfl) (by decide) ?_
      refine lv_aload_n hx hb dX1_count_33 rfl (lv_at hl 0 rfl) ?_
      refine gtX1_reservePrice hx hb hts hinX1 hown hK hP (by decide +kernel) dX1_count_34 ?_
      exact fin dX1_count_37 hv
    · skip
      rcases o_ite hv with ⟨c103, hv⟩ | ⟨c103, hv⟩
      · refine lv_tableIn (tgt := 38) hx hb dX1_count_1 (by rw [c103]; decide) (by rw [c103]; decide) (by rw [c103]; rfl) (by decide) ?_
        refine lv_aload_n hx hb dX1_count_38 rfl (lv_at hl 0 rfl) ?_
        refine gtX1_sampleCount hx hb hts hinX1 hown hK hP (by decide +kernel) dX1_count_39 ?_
        exact fin dX1_count_42 hv
      · skip
        refine lv_tableOut (tgt := 43) hx hb dX1_count_1 (sw3 c101 c102 c103) (by decide) ?_
        refine lv_iconst (v := -1) hx hb dX1_count_43 (by decide) ?_
        exact fin dX1_count_44 hv
abbrev rm_X1_trace : Room := { frames := 0, cells := 0, slots := 0, locals := 0 }
set_option maxHeartbeats 4000000 in
set_option maxRecDepth 100000 in
theorem c_X1_trace (l : Launch) (D : va_G) (cA : ClassId) (a : Nat → Nat) (u : StS) (v : Int64) (hv : f_X1_trace u = some v)  : Met l yX1_trace wsX1_trace rm_X1_trace (va_Pc [.ref (a 0)] (roB D cA [wS cA a u])) (vp_Sl (fun r => r = v)) 0 0 (fun _ => False) := by
  refine ro_l (cc := cX1_trace) (maxL := 1) (own := RX1) (by decide) rfl rfl (Nat.le_of_ble_eq_true rfl) ?_
  intro p e s m args below meth c Q ls hC hK hZ hws hl fin
  obtain ⟨hx, hb, hml, hown, hts⟩ := id hC
  have hl : lv_has ls 1 [(0, .ref (a 0))] := hl
  have hP : va_P D vwCl (wS cA a u) s.heap := hws _ (List.mem_of_getElem? (i := 0) rfl)
  have hinX1 : ∀ w ∈ wsX10, w ∈ wsX1_trace := fun w h => List.mem_cons_of_mem _ (List.mem_append_right _ h)
  unfold f_X1_trace at hv
  refine lv_aload_n hx hb dX1_trace_0 rfl (lv_at hl 0 rfl) ?_
  refine gtX1_traced hx hb hts hinX1 hown hK hP (by decide +kernel) dX1_trace_1 ?_
  exact fin dX1_trace_4 hv
abbrev rm_X2_renews : Room := { frames := 0, cells := 0, slots := 0, locals := 0 }
set_option maxHeartbeats 4000000 in
set_option maxRecDepth 100000 in
theorem c_X2_renews (l : Launch) (D : va_G) (cA : ClassId) (a : Nat → Nat) (u : StM) (v : StM) (hv : f_X2_renews u = some v) (hd : djM a) : Met l yX2_renews wsX2_renews rm_X2_renews (va_Pc [.ref (a 0)] (roB D cA [wM cA a u])) (va_Qv (fun (u1 : StM) => u1 = v) (fun (u1 : StM) t => va_P D vwCl (wM cA a u1) t.heap) (inM a)) 0 0 (inM a) := by
  refine wr_v (wf := fun u => wM cA a u) (cc := cX2_renews) (maxL := 2) (own := RX2) (by decide) rfl rfl (Nat.le_of_ble_eq_true rfl) ?_
  intro p e s m args below meth c Q ls hC hK hZ hws hl fin
  obtain ⟨hx, hb, hml, hown, hts⟩ := id hC
  have hl : lv_has ls 2 [(0, .ref (a 0))] := hl
  have hP : va_P D vwCl (wM cA a u) s.heap := hws _ (List.mem_of_getElem? (i := 0) rfl)
  have hinX2 : ∀ w ∈ wsX20, w ∈ wsX2_renews := fun w h => List.mem_cons_of_mem _ (List.mem_append_right _ h)
  have hS : va_S (inM a) s.heap s.heap [] := va_S.rf
  have hB2 : ∀ (k38 : StM → Option (StM)) (hk38 : ∀ (u : StM) (H : Heap) (locs : List Loc)  (ls : Array Slot), va_P D vwCl (wM cA a u) H → va_S (inM a) s.heap H locs → lv_has ls 2 [] → k38 u = some v → W p l e rm_X2_renews s m args below meth c H locs 0 0 Q (F0 m 38 ls [])) (n : Nat) (u : StM) (H : Heap) (locs : List Loc) (x1 : Int32) (ls : Array Slot), va_P D vwCl (wM cA a u) H → va_S (inM a) s.heap H locs → lv_has ls 2 [(0, .ref (a 0)), (1, .int x1)] → B_X2_renews_2 k38 n u x1 = some v → W p l e rm_X2_renews s m args below meth c H locs 0 0 Q (F0 m 2 ls []) := by
    intro k38 hk38 n
    induction n with
    | zero => intro u H locs x1 ls hP hS hl hv; exact absurd hv (by intro h; cases h)
    | succ n hk2 =>
      intro u H locs x1 ls hP hS hl hv
      rw [B_X2_renews_2] at hv
      refine lv_iload_n hx hb dX2_renews_2 rfl (lv_at hl 1 rfl) ?_
      refine lv_iconst (v := 3) hx hb dX2_renews_3 (by decide) ?_
      refine lv_icmp_ge (tgt := 38) hx hb dX2_renews_4 (by decide) (fun c101 => ?_) (fun c101 => ?_)
      · have hv := o_pos hv c101
        exact hk38 _ _ _  ls hP hS (lv_sub hl [] rfl) hv
      · have hv := o_neg hv c101
        refine lv_aload_n hx hb dX2_renews_7 rfl (lv_at hl 0 rfl) ?_
        refine gtX2_many hx hb hts hinX2 hown hK hP (by decide +kernel) dX2_renews_8 ?_
        refine lv_iload_n hx hb dX2_renews_11 rfl (lv_at hl 1 rfl) ?_
        refine lv_iconst (v := 1) hx hb dX2_renews_12 (by decide) ?_
        obtain ⟨g102, hv⟩ := o_grd hv
        refine asX2_many hx hb hK hP (dM hd _) hS g102 dX2_renews_13 (fun H locs hP hS => ?_)
        refine lv_aload_n hx hb dX2_renews_14 rfl (lv_at hl 0 rfl) ?_
        refine gtX2_worth hx hb hts hinX2 hown hK hP (by decide +kernel) dX2_renews_15 ?_
        refine lv_iconst (v := 5) hx hb dX2_renews_18 (by decide) ?_
        refine lv_iload_n hx hb dX2_renews_19 rfl (lv_at hl 1 rfl) ?_
        refine lv_imul hx hb dX2_renews_20 ?_
        refine lv_iconst (v := 0) hx hb dX2_renews_21 (by decide) ?_
        obtain ⟨g103, hv⟩ := o_grd hv
        refine asX2_worth hx hb hK hP (dM hd _) hS g103 dX2_renews_22 (fun H locs hP hS => ?_)
        refine lv_aload_n hx hb dX2_renews_23 rfl (lv_at hl 0 rfl) ?_
        refine gtX2_weight hx hb hts hinX2 hown hK hP (by decide +kernel) dX2_renews_24 ?_
        refine lv_iconst (v := 5) hx hb dX2_renews_27 (by decide) ?_
        refine lv_iload_n hx hb dX2_renews_28 rfl (lv_at hl 1 rfl) ?_
        refine lv_imul hx hb dX2_renews_29 ?_
        refine lv_iconst (v := 1) hx hb dX2_renews_30 (by decide) ?_
        obtain ⟨g104, hv⟩ := o_grd hv
        refine asX2_weight hx hb hK hP (dM hd _) hS g104 dX2_renews_31 (fun H locs hP hS => ?_)
        refine lv_iinc (v := (x1 + 1)) (lv' := [(1, .int (x1 + 1)), (0, .ref (a 0))]) hx hb dX2_renews_32 hl (k := 1) rfl rfl (by decide) rfl (fun ls hl => ?_)
        refine lv_goto (tgt := 2) hx hb dX2_renews_35 (by decide) ?_
        exact hk2 _ _ _ _  ls hP hS (lv_sub hl [1, 0] rfl) hv
  unfold f_X2_renews at hv
  skip
  refine lv_iconst (v := 0) hx hb dX2_renews_0 (by decide) ?_
  refine lv_istore_n (lv' := [(1, .int (0 : Int32)), (0, .ref (a 0))]) hx hb dX2_renews_1 rfl hl (by decide) rfl (fun ls hl => ?_)
  refine hB2 _ (fun z205_u H locs ls hP hS hl hv => ?_) 1000 _ _ _ _ ls hP hS (lv_sub hl [1, 0] rfl) hv
  · skip
    exact fin hP hS dX2_renews_38 hv
abbrev rm_X2_in : Room := { frames := 0, cells := 0, slots := 0, locals := 0 }
set_option maxHeartbeats 4000000 in
set_option maxRecDepth 100000 in
theorem c_X2_in (l : Launch) (D : va_G) (cA : ClassId) (x0 : Int32) (x1 : Int32) (x2 : Int32) (v : Int32) (hv : f_X2_in x0 x1 x2 = some v)  : Met l yX2_in wsX2_in rm_X2_in (va_Pc [.int x0, .int x1, .int x2] (roB D cA [])) (vp_Si (fun r => r = v)) 0 0 (fun _ => False) := by
  refine ro_z (cc := cX2_in) (maxL := 3) (own := RX2) (by decide) rfl rfl (Nat.le_of_ble_eq_true rfl) ?_
  intro p e s m args below meth c Q ls hC hK hZ hws hl fin
  obtain ⟨hx, hb, hml, hown, hts⟩ := id hC
  have hl : lv_has ls 3 [(0, .int x0), (1, .int x1), (2, .int x2)] := hl
  unfold f_X2_in at hv
  refine lv_iload_n hx hb dX2_in_0 rfl (lv_at hl 0 rfl) ?_
  refine lv_iload_n hx hb dX2_in_1 rfl (lv_at hl 1 rfl) ?_
  refine lv_icmp_lt (tgt := 14) hx hb dX2_in_2 (by decide) (fun c101 => ?_) (fun c101 => ?_)
  · have hv := o_pos hv c101
    refine lv_iconst (v := 0) hx hb dX2_in_14 (by decide) ?_
    exact fin dX2_in_15 rfl hv
  · have hv := o_neg hv c101
    refine lv_iload_n hx hb dX2_in_5 rfl (lv_at hl 0 rfl) ?_
    refine lv_iload_n hx hb dX2_in_6 rfl (lv_at hl 2 rfl) ?_
    refine lv_icmp_gt (tgt := 14) hx hb dX2_in_7 (by decide) (fun c102 => ?_) (fun c102 => ?_)
    · have hv := o_pos hv c102
      refine lv_iconst (v := 0) hx hb dX2_in_14 (by decide) ?_
      exact fin dX2_in_15 rfl hv
    · have hv := o_neg hv c102
      refine lv_iconst (v := 1) hx hb dX2_in_10 (by decide) ?_
      refine lv_goto (tgt := 15) hx hb dX2_in_11 (by decide) ?_
      exact fin dX2_in_15 rfl hv
abbrev rm_X2_isBuyer : Room := { frames := 1, cells := 0, slots := 0, locals := 22 }
set_option maxHeartbeats 4000000 in
set_option maxRecDepth 100000 in
theorem c_X2_isBuyer (l : Launch) (D : va_G) (cA : ClassId) (a : Nat → Nat) (u : StM) (x1 : Int32) (v : Int32) (hv : f_X2_isBuyer u x1 = some v)  : Met l yX2_isBuyer wsX2_isBuyer rm_X2_isBuyer (va_Pc [.ref (a 0), .int x1] (roB D cA [wM cA a u])) (vp_Si (fun r => r = v)) 0 0 (fun _ => False) := by
  refine ro_z (cc := cX2_isBuyer) (maxL := 2) (own := RX2) (by decide) rfl rfl (Nat.le_of_ble_eq_true rfl) ?_
  intro p e s m args below meth c Q ls hC hK hZ hws hl fin
  obtain ⟨hx, hb, hml, hown, hts⟩ := id hC
  have hl : lv_has ls 2 [(0, .ref (a 0)), (1, .int x1)] := hl
  have hP : va_P D vwCl (wM cA a u) s.heap := hws _ (List.mem_of_getElem? (i := 0) rfl)
  have hinX2 : ∀ w ∈ wsX20, w ∈ wsX2_isBuyer := fun w h => List.mem_cons_of_mem _ (List.mem_append_right _ h)
  unfold f_X2_isBuyer at hv
  refine lv_iload_n hx hb dX2_isBuyer_0 rfl (lv_at hl 1 rfl) ?_
  refine lv_iconst (v := 0) hx hb dX2_isBuyer_1 (by decide) ?_
  refine lv_aload_n hx hb dX2_isBuyer_2 rfl (lv_at hl 0 rfl) ?_
  refine gtX2_n hx hb hts hinX2 hown hK hP (by decide +kernel) dX2_isBuyer_3 ?_
  refine lv_iconst (v := 1) hx hb dX2_isBuyer_6 (by decide) ?_
  refine lv_isub hx hb dX2_isBuyer_7 ?_
  obtain ⟨r101, e101, hv⟩ := o_bind hv
  refine rcall_i (W.runS (As := [.int x1, .int (0 : Int32), .int ((m_n u) - (1 : Int32))]) (rest := []) hC (c_X2_in l D cA x1 (0 : Int32) ((m_n u) - (1 : Int32)) r101 e101) (va_cwS 3 hts gX2_isBuyer_X2_in rfl rfl rfl (by decide +kernel) ⟨Nat.le_of_ble_eq_true rfl, Nat.le_of_ble_eq_true rfl⟩) ⟨roB_blind, roB_pre hK hZ hws_0⟩ rfl rfl hl.1 rfl (lv_room (Nat.le_of_ble_eq_true rfl)) dX2_isBuyer_8 ⟨Nat.le_of_ble_eq_true rfl, Nat.le_of_ble_eq_true rfl⟩) ?_
  obtain ⟨g102, hv⟩ := o_grp hv
  exact fin dX2_isBuyer_11 g102 hv
abbrev rm_X2_buyers : Room := { frames := 1, cells := 0, slots := 0, locals := 22 }
set_option maxHeartbeats 4000000 in
set_option maxRecDepth 100000 in
theorem c_X2_buyers (l : Launch) (D : va_G) (cA : ClassId) (a : Nat → Nat) (u : StM) (x1 : Int32) (v : Int32 × StM) (hv : f_X2_buyers u x1 = some v) (hd : djM a) : Met l yX2_buyers wsX2_buyers rm_X2_buyers (va_Pc [.ref (a 0), .int x1] (roB D cA [wM cA a u])) (va_Qi (fun (r : Int32) (u1 : StM) => (r, u1) = v) (fun (u1 : StM) t => va_P D vwCl (wM cA a u1) t.heap) (inM a)) 0 0 (inM a) := by
  refine wr_i (wf := fun u => wM cA a u) (cc := cX2_buyers) (maxL := 3) (own := RX2) (by decide) rfl rfl (Nat.le_of_ble_eq_true rfl) ?_
  intro p e s m args below meth c Q ls hC hK hZ hws hl fin
  obtain ⟨hx, hb, hml, hown, hts⟩ := id hC
  have hl : lv_has ls 3 [(0, .ref (a 0)), (1, .int x1)] := hl
  have hP : va_P D vwCl (wM cA a u) s.heap := hws _ (List.mem_of_getElem? (i := 0) rfl)
  have hinX2 : ∀ w ∈ wsX20, w ∈ wsX2_buyers := fun w h => List.mem_cons_of_mem _ (List.mem_append_right _ h)
  have hS : va_S (inM a) s.heap s.heap [] := va_S.rf
  unfold f_X2_buyers at hv
  skip
  refine lv_aload_n hx hb dX2_buyers_0 rfl (lv_at hl 0 rfl) ?_
  refine lv_iconst (v := 0) hx hb dX2_buyers_1 (by decide) ?_
  refine ptX2_thrown hx hb hts hinX2 hown hK hP (dM hd _) hS (by decide +kernel) dX2_buyers_2 (fun H locs hP hS => ?_)
  refine lv_iload_n hx hb dX2_buyers_5 rfl (lv_at hl 1 rfl) ?_
  refine lv_iconst (v := 1) hx hb dX2_buyers_6 (by decide) ?_
  refine lv_iconst (v := 3) hx hb dX2_buyers_7 (by decide) ?_
  obtain ⟨r101, e101, hv⟩ := o_bind hv
  refine rcall_i (W.runS (As := [.int x1, .int (1 : Int32), .int (3 : Int32)]) (rest := []) hC (c_X2_in l D cA x1 (1 : Int32) (3 : Int32) r101 e101) (va_cwS 3 hts gX2_buyers_X2_in rfl rfl rfl (by decide +kernel) ⟨Nat.le_of_ble_eq_true rfl, Nat.le_of_ble_eq_true rfl⟩) ⟨roB_blind, roB_pre hK hZ hws_0⟩ rfl rfl hl.1 rfl (lv_room (Nat.le_of_ble_eq_true rfl)) dX2_buyers_8 ⟨Nat.le_of_ble_eq_true rfl, Nat.le_of_ble_eq_true rfl⟩) ?_
  refine lv_if_ne (tgt := 16) hx hb dX2_buyers_11 (by decide) (fun c102 => ?_) (fun c102 => ?_)
  · have hv := o_neg hv c102
    refine lv_aload_n hx hb dX2_buyers_16 rfl (lv_at hl 0 rfl) ?_
    refine gtX2_n hx hb hts hinX2 hown hK hP (by decide +kernel) dX2_buyers_17 ?_
    refine lv_istore_n (lv' := [(2, .int (m_n (m_set_thrown u (0 : Int32)))), (0, .ref (a 0)), (1, .int x1)]) hx hb dX2_buyers_20 rfl hl (by decide) rfl (fun ls hl => ?_)
    refine lv_aload_n hx hb dX2_buyers_21 rfl (lv_at hl 1 rfl) ?_
    refine lv_iload_n hx hb dX2_buyers_22 rfl (lv_at hl 2 rfl) ?_
    refine ptX2_n hx hb hts hinX2 hown hK hP (dM hd _) hS (by decide +kernel) dX2_buyers_23 (fun H locs hP hS => ?_)
    refine lv_aload_n hx hb dX2_buyers_26 rfl (lv_at hl 1 rfl) ?_
    obtain ⟨w103, e103, hv⟩ := o_bind hv
    refine wcall_v (va_runV (As := []) (rest := []) hC (c_X2_renews l D cA a (m_set_n (m_set_thrown u (0 : Int32)) x1) w103 e103 hd) (cwV 0 hts gX2_buyers_X2_renews rfl rfl rfl (by decide +kernel) ⟨Nat.le_of_ble_eq_true rfl, Nat.le_of_ble_eq_true rfl⟩) ⟨roB_blind, va_recv (ci := 2) (q0 := 0) hK hP rfl rfl, roB_pre hK hZ (hws_1 hP)⟩ rfl rfl hl.1 rfl (lv_room (Nat.le_of_ble_eq_true rfl)) dX2_buyers_27 ⟨Nat.le_of_ble_eq_true rfl, Nat.le_of_ble_eq_true rfl⟩) hS (fun _ h => h) (fun H locs hP1 hk1 hS => ?_)
    have hP := hP1
    refine lv_iload_n hx hb dX2_buyers_30 rfl (lv_at hl 0 rfl) ?_
    exact fin hP hS dX2_buyers_31 hv
  · have hv := o_pos hv c102
    refine lv_iconst (v := -1) hx hb dX2_buyers_14 (by decide) ?_
    exact fin hP hS dX2_buyers_15 hv
abbrev rm_X2_book : Room := { frames := 2, cells := 0, slots := 0, locals := 43 }
set_option maxHeartbeats 4000000 in
set_option maxRecDepth 100000 in
theorem c_X2_book (l : Launch) (D : va_G) (cA : ClassId) (a : Nat → Nat) (u : StM) (x1 : Int32) (x2 : Int32) (x3 : Int32) (v : Int32 × StM) (hv : f_X2_book u x1 x2 x3 = some v) (hd : djM a) : Met l yX2_book wsX2_book rm_X2_book (va_Pc [.ref (a 0), .int x1, .int x2, .int x3] (roB D cA [wM cA a u])) (va_Qi (fun (r : Int32) (u1 : StM) => (r, u1) = v) (fun (u1 : StM) t => va_P D vwCl (wM cA a u1) t.heap) (inM a)) 0 0 (inM a) := by
  refine wr_i (wf := fun u => wM cA a u) (cc := cX2_book) (maxL := 4) (own := RX2) (by decide) rfl rfl (Nat.le_of_ble_eq_true rfl) ?_
  intro p e s m args below meth c Q ls hC hK hZ hws hl fin
  obtain ⟨hx, hb, hml, hown, hts⟩ := id hC
  have hl : lv_has ls 4 [(0, .ref (a 0)), (1, .int x1), (2, .int x2), (3, .int x3)] := hl
  have hP : va_P D vwCl (wM cA a u) s.heap := hws _ (List.mem_of_getElem? (i := 0) rfl)
  have hinX2 : ∀ w ∈ wsX20, w ∈ wsX2_book := fun w h => List.mem_cons_of_mem _ (List.mem_append_right _ h)
  have hS : va_S (inM a) s.heap s.heap [] := va_S.rf
  unfold f_X2_book at hv
  skip
  refine lv_aload_n hx hb dX2_book_0 rfl (lv_at hl 0 rfl) ?_
  refine lv_iconst (v := 0) hx hb dX2_book_1 (by decide) ?_
  refine ptX2_thrown hx hb hts hinX2 hown hK hP (dM hd _) hS (by decide +kernel) dX2_book_2 (fun H locs hP hS => ?_)
  refine lv_aload_n hx hb dX2_book_5 rfl (lv_at hl 0 rfl) ?_
  refine lv_iload_n hx hb dX2_book_6 rfl (lv_at hl 1 rfl) ?_
  obtain ⟨r101, e101, hv⟩ := o_bind hv
  refine rcall_i (W.runV (As := [.int x1]) (rest := []) hC (c_X2_isBuyer l D cA a (m_set_thrown u (0 : Int32)) x1 r101 e101) (cwV 1 hts gX2_book_X2_isBuyer rfl rfl rfl (by decide +kernel) ⟨Nat.le_of_ble_eq_true rfl, Nat.le_of_ble_eq_true rfl⟩) ⟨roB_blind, va_recv (ci := 2) (q0 := 0) hK hP rfl rfl, roB_pre hK hZ (hws_1 hP)⟩ rfl rfl hl.1 rfl (lv_room (Nat.le_of_ble_eq_true rfl)) dX2_book_7 ⟨Nat.le_of_ble_eq_true rfl, Nat.le_of_ble_eq_true rfl⟩) ?_
  refine lv_if_eq (tgt := 34) hx hb dX2_book_10 (by decide) (fun c102 => ?_) (fun c102 => ?_)
  · have hv := o_pos hv c102
    refine lv_iconst (v := -1) hx hb dX2_book_34 (by decide) ?_
    exact fin hP hS dX2_book_35 hv
  · have hv := o_neg hv c102
    refine lv_iload_n hx hb dX2_book_13 rfl (lv_at hl 2 rfl) ?_
    refine lv_iconst (v := 0) hx hb dX2_book_14 (by decide) ?_
    refine lv_sipush (v := 1000) hx hb dX2_book_15 (by decide) ?_
    obtain ⟨r103, e103, hv⟩ := o_bind hv
    refine rcall_i (W.runS (As := [.int x2, .int (0 : Int32), .int (1000 : Int32)]) (rest := []) hC (c_X2_in l D cA x2 (0 : Int32) (1000 : Int32) r103 e103) (va_cwS 3 hts gX2_book_X2_in rfl rfl rfl (by decide +kernel) ⟨Nat.le_of_ble_eq_true rfl, Nat.le_of_ble_eq_true rfl⟩) ⟨roB_blind, roB_pre hK hZ hws_0⟩ rfl rfl hl.1 rfl (lv_room (Nat.le_of_ble_eq_true rfl)) dX2_book_18 ⟨Nat.le_of_ble_eq_true rfl, Nat.le_of_ble_eq_true rfl⟩) ?_
    refine lv_if_eq (tgt := 34) hx hb dX2_book_21 (by decide) (fun c104 => ?_) (fun c104 => ?_)
    · have hv := o_pos hv c104
      refine lv_iconst (v := -1) hx hb dX2_book_34 (by decide) ?_
      exact fin hP hS dX2_book_35 hv
    · have hv := o_neg hv c104
      refine lv_iload_n hx hb dX2_book_24 rfl (lv_at hl 3 rfl) ?_
      refine lv_iconst (v := 1) hx hb dX2_book_25 (by decide) ?_
      refine lv_bipush (v := 9) hx hb dX2_book_26 (by decide) ?_
      obtain ⟨r105, e105, hv⟩ := o_bind hv
      refine rcall_i (W.runS (As := [.int x3, .int (1 : Int32), .int (9 : Int32)]) (rest := []) hC (c_X2_in l D cA x3 (1 : Int32) (9 : Int32) r105 e105) (va_cwS 3 hts gX2_book_X2_in rfl rfl rfl (by decide +kernel) ⟨Nat.le_of_ble_eq_true rfl, Nat.le_of_ble_eq_true rfl⟩) ⟨roB_blind, roB_pre hK hZ hws_0⟩ rfl rfl hl.1 rfl (lv_room (Nat.le_of_ble_eq_true rfl)) dX2_book_28 ⟨Nat.le_of_ble_eq_true rfl, Nat.le_of_ble_eq_true rfl⟩) ?_
      refine lv_if_ne (tgt := 36) hx hb dX2_book_31 (by decide) (fun c106 => ?_) (fun c106 => ?_)
      · have hv := o_neg hv c106
        refine lv_aload_n hx hb dX2_book_36 rfl (lv_at hl 0 rfl) ?_
        refine gtX2_many hx hb hts hinX2 hown hK hP (by decide +kernel) dX2_book_37 ?_
        refine lv_iload_n hx hb dX2_book_40 rfl (lv_at hl 1 rfl) ?_
        refine lv_iconst (v := 1) hx hb dX2_book_41 (by decide) ?_
        obtain ⟨g107, hv⟩ := o_grd hv
        refine asX2_many hx hb hK hP (dM hd _) hS g107 dX2_book_42 (fun H locs hP hS => ?_)
        refine lv_aload_n hx hb dX2_book_43 rfl (lv_at hl 0 rfl) ?_
        refine gtX2_worth hx hb hts hinX2 hown hK hP (by decide +kernel) dX2_book_44 ?_
        refine lv_iconst (v := 5) hx hb dX2_book_47 (by decide) ?_
        refine lv_iload_n hx hb dX2_book_48 rfl (lv_at hl 1 rfl) ?_
        refine lv_imul hx hb dX2_book_49 ?_
        refine lv_iload_n hx hb dX2_book_50 rfl (lv_at hl 2 rfl) ?_
        obtain ⟨g108, hv⟩ := o_grd hv
        refine asX2_worth hx hb hK hP (dM hd _) hS g108 dX2_book_51 (fun H locs hP hS => ?_)
        refine lv_aload_n hx hb dX2_book_52 rfl (lv_at hl 0 rfl) ?_
        refine gtX2_weight hx hb hts hinX2 hown hK hP (by decide +kernel) dX2_book_53 ?_
        refine lv_iconst (v := 5) hx hb dX2_book_56 (by decide) ?_
        refine lv_iload_n hx hb dX2_book_57 rfl (lv_at hl 1 rfl) ?_
        refine lv_imul hx hb dX2_book_58 ?_
        refine lv_iload_n hx hb dX2_book_59 rfl (lv_at hl 3 rfl) ?_
        obtain ⟨g109, hv⟩ := o_grd hv
        refine asX2_weight hx hb hK hP (dM hd _) hS g109 dX2_book_60 (fun H locs hP hS => ?_)
        refine lv_iconst (v := 1) hx hb dX2_book_61 (by decide) ?_
        exact fin hP hS dX2_book_62 hv
      · have hv := o_pos hv c106
        refine lv_iconst (v := -1) hx hb dX2_book_34 (by decide) ?_
        exact fin hP hS dX2_book_35 hv
abbrev rm_X2_more : Room := { frames := 2, cells := 0, slots := 0, locals := 43 }
set_option maxHeartbeats 4000000 in
set_option maxRecDepth 100000 in
theorem c_X2_more (l : Launch) (D : va_G) (cA : ClassId) (a : Nat → Nat) (u : StM) (x1 : Int32) (x2 : Int32) (x3 : Int32) (v : Int32 × StM) (hv : f_X2_more u x1 x2 x3 = some v) (hd : djM a) : Met l yX2_more wsX2_more rm_X2_more (va_Pc [.ref (a 0), .int x1, .int x2, .int x3] (roB D cA [wM cA a u])) (va_Qi (fun (r : Int32) (u1 : StM) => (r, u1) = v) (fun (u1 : StM) t => va_P D vwCl (wM cA a u1) t.heap) (inM a)) 0 0 (inM a) := by
  refine wr_i (wf := fun u => wM cA a u) (cc := cX2_more) (maxL := 4) (own := RX2) (by decide) rfl rfl (Nat.le_of_ble_eq_true rfl) ?_
  intro p e s m args below meth c Q ls hC hK hZ hws hl fin
  obtain ⟨hx, hb, hml, hown, hts⟩ := id hC
  have hl : lv_has ls 4 [(0, .ref (a 0)), (1, .int x1), (2, .int x2), (3, .int x3)] := hl
  have hP : va_P D vwCl (wM cA a u) s.heap := hws _ (List.mem_of_getElem? (i := 0) rfl)
  have hinX2 : ∀ w ∈ wsX20, w ∈ wsX2_more := fun w h => List.mem_cons_of_mem _ (List.mem_append_right _ h)
  have hS : va_S (inM a) s.heap s.heap [] := va_S.rf
  unfold f_X2_more at hv
  skip
  refine lv_aload_n hx hb dX2_more_0 rfl (lv_at hl 0 rfl) ?_
  refine lv_iconst (v := 0) hx hb dX2_more_1 (by decide) ?_
  refine ptX2_thrown hx hb hts hinX2 hown hK hP (dM hd _) hS (by decide +kernel) dX2_more_2 (fun H locs hP hS => ?_)
  refine lv_aload_n hx hb dX2_more_5 rfl (lv_at hl 0 rfl) ?_
  refine lv_iload_n hx hb dX2_more_6 rfl (lv_at hl 1 rfl) ?_
  obtain ⟨r101, e101, hv⟩ := o_bind hv
  refine rcall_i (W.runV (As := [.int x1]) (rest := []) hC (c_X2_isBuyer l D cA a (m_set_thrown u (0 : Int32)) x1 r101 e101) (cwV 1 hts gX2_more_X2_isBuyer rfl rfl rfl (by decide +kernel) ⟨Nat.le_of_ble_eq_true rfl, Nat.le_of_ble_eq_true rfl⟩) ⟨roB_blind, va_recv (ci := 2) (q0 := 0) hK hP rfl rfl, roB_pre hK hZ (hws_1 hP)⟩ rfl rfl hl.1 rfl (lv_room (Nat.le_of_ble_eq_true rfl)) dX2_more_7 ⟨Nat.le_of_ble_eq_true rfl, Nat.le_of_ble_eq_true rfl⟩) ?_
  refine lv_if_eq (tgt := 55) hx hb dX2_more_10 (by decide) (fun c102 => ?_) (fun c102 => ?_)
  · have hv := o_pos hv c102
    refine lv_iconst (v := -1) hx hb dX2_more_55 (by decide) ?_
    exact fin hP hS dX2_more_56 hv
  · have hv := o_neg hv c102
    refine lv_iload_n hx hb dX2_more_13 rfl (lv_at hl 2 rfl) ?_
    refine lv_iconst (v := 0) hx hb dX2_more_14 (by decide) ?_
    refine lv_sipush (v := 1000) hx hb dX2_more_15 (by decide) ?_
    obtain ⟨r103, e103, hv⟩ := o_bind hv
    refine rcall_i (W.runS (As := [.int x2, .int (0 : Int32), .int (1000 : Int32)]) (rest := []) hC (c_X2_in l D cA x2 (0 : Int32) (1000 : Int32) r103 e103) (va_cwS 3 hts gX2_more_X2_in rfl rfl rfl (by decide +kernel) ⟨Nat.le_of_ble_eq_true rfl, Nat.le_of_ble_eq_true rfl⟩) ⟨roB_blind, roB_pre hK hZ hws_0⟩ rfl rfl hl.1 rfl (lv_room (Nat.le_of_ble_eq_true rfl)) dX2_more_18 ⟨Nat.le_of_ble_eq_true rfl, Nat.le_of_ble_eq_true rfl⟩) ?_
    refine lv_if_eq (tgt := 55) hx hb dX2_more_21 (by decide) (fun c104 => ?_) (fun c104 => ?_)
    · have hv := o_pos hv c104
      refine lv_iconst (v := -1) hx hb dX2_more_55 (by decide) ?_
      exact fin hP hS dX2_more_56 hv
    · have hv := o_neg hv c104
      refine lv_iload_n hx hb dX2_more_24 rfl (lv_at hl 3 rfl) ?_
      refine lv_iconst (v := 1) hx hb dX2_more_25 (by decide) ?_
      refine lv_bipush (v := 9) hx hb dX2_more_26 (by decide) ?_
      obtain ⟨r105, e105, hv⟩ := o_bind hv
      refine rcall_i (W.runS (As := [.int x3, .int (1 : Int32), .int (9 : Int32)]) (rest := []) hC (c_X2_in l D cA x3 (1 : Int32) (9 : Int32) r105 e105) (va_cwS 3 hts gX2_more_X2_in rfl rfl rfl (by decide +kernel) ⟨Nat.le_of_ble_eq_true rfl, Nat.le_of_ble_eq_true rfl⟩) ⟨roB_blind, roB_pre hK hZ hws_0⟩ rfl rfl hl.1 rfl (lv_room (Nat.le_of_ble_eq_true rfl)) dX2_more_28 ⟨Nat.le_of_ble_eq_true rfl, Nat.le_of_ble_eq_true rfl⟩) ?_
      refine lv_if_eq (tgt := 55) hx hb dX2_more_31 (by decide) (fun c106 => ?_) (fun c106 => ?_)
      · have hv := o_pos hv c106
        refine lv_iconst (v := -1) hx hb dX2_more_55 (by decide) ?_
        exact fin hP hS dX2_more_56 hv
      · have hv := o_neg hv c106
        refine lv_iload_n hx hb dX2_more_34 rfl (lv_at hl 2 rfl) ?_
        refine lv_aload_n hx hb dX2_more_35 rfl (lv_at hl 0 rfl) ?_
        refine gtX2_worth hx hb hts hinX2 hown hK hP (by decide +kernel) dX2_more_36 ?_
        refine lv_iconst (v := 5) hx hb dX2_more_39 (by decide) ?_
        refine lv_iload_n hx hb dX2_more_40 rfl (lv_at hl 1 rfl) ?_
        refine lv_imul hx hb dX2_more_41 ?_
        refine lv_aload_n hx hb dX2_more_42 rfl (lv_at hl 0 rfl) ?_
        refine gtX2_many hx hb hts hinX2 hown hK hP (by decide +kernel) dX2_more_43 ?_
        refine lv_iload_n hx hb dX2_more_46 rfl (lv_at hl 1 rfl) ?_
        obtain ⟨g107, hv⟩ := o_grd hv
        refine alX2_many hx hb hK hP g107 dX2_more_47 ?_
        refine lv_iadd hx hb dX2_more_48 ?_
        refine lv_iconst (v := 1) hx hb dX2_more_49 (by decide) ?_
        refine lv_isub hx hb dX2_more_50 ?_
        obtain ⟨g108, hv⟩ := o_grd hv
        refine alX2_worth hx hb hK hP g108 dX2_more_51 ?_
        refine lv_icmp_gt (tgt := 57) hx hb dX2_more_52 (by decide) (fun c109 => ?_) (fun c109 => ?_)
        · have hv := o_pos hv c109
          refine lv_aload_n hx hb dX2_more_57 rfl (lv_at hl 0 rfl) ?_
          refine gtX2_many hx hb hts hinX2 hown hK hP (by decide +kernel) dX2_more_58 ?_
          refine lv_iload_n hx hb dX2_more_61 rfl (lv_at hl 1 rfl) ?_
          obtain ⟨g110, hv⟩ := o_grd hv
          refine alX2_many hx hb hK hP g110 dX2_more_62 ?_
          refine lv_iconst (v := 5) hx hb dX2_more_63 (by decide) ?_
          refine lv_icmp_ne (tgt := 70) hx hb dX2_more_64 (by decide) (fun c111 => ?_) (fun c111 => ?_)
          · have hv := o_neg hv c111
            refine lv_aload_n hx hb dX2_more_70 rfl (lv_at hl 0 rfl) ?_
            refine gtX2_worth hx hb hts hinX2 hown hK hP (by decide +kernel) dX2_more_71 ?_
            refine lv_iconst (v := 5) hx hb dX2_more_74 (by decide) ?_
            refine lv_iload_n hx hb dX2_more_75 rfl (lv_at hl 1 rfl) ?_
            refine lv_imul hx hb dX2_more_76 ?_
            refine lv_aload_n hx hb dX2_more_77 rfl (lv_at hl 0 rfl) ?_
            refine gtX2_many hx hb hts hinX2 hown hK hP (by decide +kernel) dX2_more_78 ?_
            refine lv_iload_n hx hb dX2_more_81 rfl (lv_at hl 1 rfl) ?_
            obtain ⟨g112, hv⟩ := o_grd hv
            refine alX2_many hx hb hK hP g112 dX2_more_82 ?_
            refine lv_iadd hx hb dX2_more_83 ?_
            refine lv_iload_n hx hb dX2_more_84 rfl (lv_at hl 2 rfl) ?_
            obtain ⟨g113, hv⟩ := o_grd hv
            refine asX2_worth hx hb hK hP (dM hd _) hS g113 dX2_more_85 (fun H locs hP hS => ?_)
            refine lv_aload_n hx hb dX2_more_86 rfl (lv_at hl 0 rfl) ?_
            refine gtX2_weight hx hb hts hinX2 hown hK hP (by decide +kernel) dX2_more_87 ?_
            refine lv_iconst (v := 5) hx hb dX2_more_90 (by decide) ?_
            refine lv_iload_n hx hb dX2_more_91 rfl (lv_at hl 1 rfl) ?_
            refine lv_imul hx hb dX2_more_92 ?_
            refine lv_aload_n hx hb dX2_more_93 rfl (lv_at hl 0 rfl) ?_
            refine gtX2_many hx hb hts hinX2 hown hK hP (by decide +kernel) dX2_more_94 ?_
            refine lv_iload_n hx hb dX2_more_97 rfl (lv_at hl 1 rfl) ?_
            obtain ⟨g114, hv⟩ := o_grd hv
            refine alX2_many hx hb hK hP g114 dX2_more_98 ?_
            refine lv_iadd hx hb dX2_more_99 ?_
            refine lv_iload_n hx hb dX2_more_100 rfl (lv_at hl 3 rfl) ?_
            obtain ⟨g115, hv⟩ := o_grd hv
            refine asX2_weight hx hb hK hP (dM hd _) hS g115 dX2_more_101 (fun H locs hP hS => ?_)
            refine lv_aload_n hx hb dX2_more_102 rfl (lv_at hl 0 rfl) ?_
            refine gtX2_many hx hb hts hinX2 hown hK hP (by decide +kernel) dX2_more_103 ?_
            refine lv_iload_n hx hb dX2_more_106 rfl (lv_at hl 1 rfl) ?_
            refine lv_dup2_11 hx hb dX2_more_107 rfl rfl ?_
            obtain ⟨g116, hv⟩ := o_grd hv
            refine alX2_many hx hb hK hP g116 dX2_more_108 ?_
            refine lv_iconst (v := 1) hx hb dX2_more_109 (by decide) ?_
            refine lv_iadd hx hb dX2_more_110 ?_
            obtain ⟨g117, hv⟩ := o_grd hv
            refine asX2_many hx hb hK hP (dM hd _) hS g117 dX2_more_111 (fun H locs hP hS => ?_)
            refine lv_aload_n hx hb dX2_more_112 rfl (lv_at hl 0 rfl) ?_
            refine gtX2_many hx hb hts hinX2 hown hK hP (by decide +kernel) dX2_more_113 ?_
            refine lv_iload_n hx hb dX2_more_116 rfl (lv_at hl 1 rfl) ?_
            obtain ⟨g118, hv⟩ := o_grd hv
            refine alX2_many hx hb hK hP g118 dX2_more_117 ?_
            exact fin hP hS dX2_more_118 hv
          · have hv := o_pos hv c111
            refine lv_bipush (v := -3) hx hb dX2_more_67 (by decide) ?_
            exact fin hP hS dX2_more_69 hv
        · have hv := o_neg hv c109
          refine lv_iconst (v := -1) hx hb dX2_more_55 (by decide) ?_
          exact fin hP hS dX2_more_56 hv
abbrev rm_X2_share : Room := { frames := 0, cells := 0, slots := 0, locals := 0 }
set_option maxHeartbeats 4000000 in
set_option maxRecDepth 100000 in
theorem c_X2_share (l : Launch) (D : va_G) (cA : ClassId) (a : Nat → Nat) (u : StM) (x1 : Int32) (x2 : Int32) (v : Int32) (hv : f_X2_share u x1 x2 = some v)  : Met l yX2_share wsX2_share rm_X2_share (va_Pc [.ref (a 0), .int x1, .int x2] (roB D cA [wM cA a u])) (vp_Si (fun r => r = v)) 0 0 (fun _ => False) := by
  refine ro_i (cc := cX2_share) (maxL := 5) (own := RX2) (by decide) rfl rfl (Nat.le_of_ble_eq_true rfl) ?_
  intro p e s m args below meth c Q ls hC hK hZ hws hl fin
  obtain ⟨hx, hb, hml, hown, hts⟩ := id hC
  have hl : lv_has ls 5 [(0, .ref (a 0)), (1, .int x1), (2, .int x2)] := hl
  have hP : va_P D vwCl (wM cA a u) s.heap := hws _ (List.mem_of_getElem? (i := 0) rfl)
  have hinX2 : ∀ w ∈ wsX20, w ∈ wsX2_share := fun w h => List.mem_cons_of_mem _ (List.mem_append_right _ h)
  have hB5 : ∀ (k36 : Int32 → Option (Int32)) (hk36 : ∀ (x3 : Int32) (ls : Array Slot), lv_has ls 5 [(3, .int x3)] → k36 x3 = some v → W p l e rm_X2_share s m args below meth c s.heap [] 0 0 Q (F0 m 36 ls [])) (n : Nat) (x1 : Int32) (x3 : Int32) (x4 : Int32) (ls : Array Slot), lv_has ls 5 [(0, .ref (a 0)), (1, .int x1), (3, .int x3), (4, .int x4)] → B_X2_share_5 u k36 n x1 x3 x4 = some v → W p l e rm_X2_share s m args below meth c s.heap [] 0 0 Q (F0 m 5 ls []) := by
    intro k36 hk36 n
    induction n with
    | zero => intro x1 x3 x4 ls hl hv; exact absurd hv (by intro h; cases h)
    | succ n hk5 =>
      intro x1 x3 x4 ls hl hv
      rw [B_X2_share_5] at hv
      refine lv_iload hx hb dX2_share_5 (lv_at hl 3 rfl) ?_
      refine lv_aload_n hx hb dX2_share_7 rfl (lv_at hl 0 rfl) ?_
      refine gtX2_many hx hb hts hinX2 hown hK hP (by decide +kernel) dX2_share_8 ?_
      refine lv_iload_n hx hb dX2_share_11 rfl (lv_at hl 1 rfl) ?_
      obtain ⟨g101, hv⟩ := o_grd hv
      refine alX2_many hx hb hK hP g101 dX2_share_12 ?_
      refine lv_icmp_ge (tgt := 36) hx hb dX2_share_13 (by decide) (fun c102 => ?_) (fun c102 => ?_)
      · have hv := o_pos hv c102
        exact hk36 _  ls (lv_sub hl [2] rfl) hv
      · have hv := o_neg hv c102
        refine lv_iload_n hx hb dX2_share_16 rfl (lv_at hl 2 rfl) ?_
        refine lv_aload_n hx hb dX2_share_17 rfl (lv_at hl 0 rfl) ?_
        refine gtX2_weight hx hb hts hinX2 hown hK hP (by decide +kernel) dX2_share_18 ?_
        refine lv_iconst (v := 5) hx hb dX2_share_21 (by decide) ?_
        refine lv_iload_n hx hb dX2_share_22 rfl (lv_at hl 1 rfl) ?_
        refine lv_imul hx hb dX2_share_23 ?_
        refine lv_iload hx hb dX2_share_24 (lv_at hl 3 rfl) ?_
        refine lv_iadd hx hb dX2_share_26 ?_
        obtain ⟨g103, hv⟩ := o_grd hv
        refine alX2_weight hx hb hK hP g103 dX2_share_27 ?_
        refine lv_iadd hx hb dX2_share_28 ?_
        refine lv_istore_n (lv' := [(3, .int (x3 + (m_weight u (((5 : Int32) * x1) + x4).toNatClampNeg))), (0, .ref (a 0)), (1, .int x1), (4, .int x4)]) hx hb dX2_share_29 rfl hl (by decide) rfl (fun ls hl => ?_)
        refine lv_iinc (v := (x4 + 1)) (lv' := [(4, .int (x4 + 1)), (3, .int (x3 + (m_weight u (((5 : Int32) * x1) + x4).toNatClampNeg))), (0, .ref (a 0)), (1, .int x1)]) hx hb dX2_share_30 hl (k := 3) rfl rfl (by decide) rfl (fun ls hl => ?_)
        refine lv_goto (tgt := 5) hx hb dX2_share_33 (by decide) ?_
        exact hk5 _ _ _  ls (lv_sub hl [2, 3, 1, 0] rfl) hv
  unfold f_X2_share at hv
  refine lv_iconst (v := 0) hx hb dX2_share_0 (by decide) ?_
  refine lv_istore_n (lv' := [(3, .int (0 : Int32)), (0, .ref (a 0)), (1, .int x1), (2, .int x2)]) hx hb dX2_share_1 rfl hl (by decide) rfl (fun ls hl => ?_)
  refine lv_iload_n hx hb dX2_share_2 rfl (lv_at hl 3 rfl) ?_
  refine lv_istore (lv' := [(4, .int x2), (3, .int (0 : Int32)), (0, .ref (a 0)), (1, .int x1), (2, .int x2)]) hx hb dX2_share_3 hl (by decide) rfl (fun ls hl => ?_)
  refine hB5 _ (fun z204_3 ls hl hv => ?_) 1000 _ _ _ ls (lv_sub hl [2, 3, 1, 0] rfl) hv
  · skip
    refine lv_iload_n hx hb dX2_share_36 rfl (lv_at hl 0 rfl) ?_
    exact fin dX2_share_37 hv
abbrev rm_X2_take : Room := { frames := 1, cells := 0, slots := 0, locals := 24 }
set_option maxHeartbeats 4000000 in
set_option maxRecDepth 100000 in
theorem c_X2_take (l : Launch) (D : va_G) (cA : ClassId) (a : Nat → Nat) (u : StM) (x1 : Int32) (x2 : Int32) (v : Int32) (hv : f_X2_take u x1 x2 = some v)  : Met l yX2_take wsX2_take rm_X2_take (va_Pc [.ref (a 0), .int x1, .int x2] (roB D cA [wM cA a u])) (vp_Si (fun r => r = v)) 0 0 (fun _ => False) := by
  refine ro_i (cc := cX2_take) (maxL := 3) (own := RX2) (by decide) rfl rfl (Nat.le_of_ble_eq_true rfl) ?_
  intro p e s m args below meth c Q ls hC hK hZ hws hl fin
  obtain ⟨hx, hb, hml, hown, hts⟩ := id hC
  have hl : lv_has ls 3 [(0, .ref (a 0)), (1, .int x1), (2, .int x2)] := hl
  have hP : va_P D vwCl (wM cA a u) s.heap := hws _ (List.mem_of_getElem? (i := 0) rfl)
  have hinX2 : ∀ w ∈ wsX20, w ∈ wsX2_take := fun w h => List.mem_cons_of_mem _ (List.mem_append_right _ h)
  unfold f_X2_take at hv
  refine lv_iload_n hx hb dX2_take_0 rfl (lv_at hl 2 rfl) ?_
  refine lv_aload_n hx hb dX2_take_1 rfl (lv_at hl 0 rfl) ?_
  refine gtX2_many hx hb hts hinX2 hown hK hP (by decide +kernel) dX2_take_2 ?_
  refine lv_iload_n hx hb dX2_take_5 rfl (lv_at hl 1 rfl) ?_
  obtain ⟨g101, hv⟩ := o_grd hv
  refine alX2_many hx hb hK hP g101 dX2_take_6 ?_
  refine lv_icmp_ne (tgt := 14) hx hb dX2_take_7 (by decide) (fun c102 => ?_) (fun c102 => ?_)
  · have hv := o_neg hv c102
    refine lv_aload_n hx hb dX2_take_14 rfl (lv_at hl 0 rfl) ?_
    refine gtX2_worth hx hb hts hinX2 hown hK hP (by decide +kernel) dX2_take_15 ?_
    refine lv_iconst (v := 5) hx hb dX2_take_18 (by decide) ?_
    refine lv_iload_n hx hb dX2_take_19 rfl (lv_at hl 1 rfl) ?_
    refine lv_imul hx hb dX2_take_20 ?_
    refine lv_iload_n hx hb dX2_take_21 rfl (lv_at hl 2 rfl) ?_
    refine lv_iadd hx hb dX2_take_22 ?_
    obtain ⟨g103, hv⟩ := o_grd hv
    refine alX2_worth hx hb hK hP g103 dX2_take_23 ?_
    refine lv_aload_n hx hb dX2_take_24 rfl (lv_at hl 0 rfl) ?_
    refine lv_iload_n hx hb dX2_take_25 rfl (lv_at hl 1 rfl) ?_
    refine lv_iload_n hx hb dX2_take_26 rfl (lv_at hl 2 rfl) ?_
    obtain ⟨r104, e104, hv⟩ := o_bind hv
    refine rcall_i (W.runV (As := [.int x1, .int x2]) (rest := [.int (m_worth u (((5 : Int32) * x1) + x2).toNatClampNeg)]) hC (c_X2_share l D cA a u x1 x2 r104 e104) (cwV 2 hts gX2_take_X2_share rfl rfl rfl (by decide +kernel) ⟨Nat.le_of_ble_eq_true rfl, Nat.le_of_ble_eq_true rfl⟩) ⟨roB_blind, va_recv (ci := 2) (q0 := 0) hK hP rfl rfl, roB_pre hK hZ (hws_1 hP)⟩ rfl rfl hl.1 rfl (lv_room (Nat.le_of_ble_eq_true rfl)) dX2_take_27 ⟨Nat.le_of_ble_eq_true rfl, Nat.le_of_ble_eq_true rfl⟩) ?_
    refine lv_imul hx hb dX2_take_30 ?_
    exact fin dX2_take_31 hv
  · have hv := o_pos hv c102
    refine lv_iconst (v := 0) hx hb dX2_take_10 (by decide) ?_
    refine lv_goto (tgt := 31) hx hb dX2_take_11 (by decide) ?_
    exact fin dX2_take_31 hv
abbrev rm_X2_bestOf : Room := { frames := 2, cells := 0, slots := 0, locals := 46 }
set_option maxHeartbeats 4000000 in
set_option maxRecDepth 100000 in
theorem c_X2_bestOf (l : Launch) (D : va_G) (cA : ClassId) (a : Nat → Nat) (u : StM) (x1 : Int32) (v : Int32) (hv : f_X2_bestOf u x1 = some v)  : Met l yX2_bestOf wsX2_bestOf rm_X2_bestOf (va_Pc [.ref (a 0), .int x1] (roB D cA [wM cA a u])) (vp_Si (fun r => r = v)) 0 0 (fun _ => False) := by
  refine ro_i (cc := cX2_bestOf) (maxL := 4) (own := RX2) (by decide) rfl rfl (Nat.le_of_ble_eq_true rfl) ?_
  intro p e s m args below meth c Q ls hC hK hZ hws hl fin
  obtain ⟨hx, hb, hml, hown, hts⟩ := id hC
  have hl : lv_has ls 4 [(0, .ref (a 0)), (1, .int x1)] := hl
  have hP : va_P D vwCl (wM cA a u) s.heap := hws _ (List.mem_of_getElem? (i := 0) rfl)
  have hinX2 : ∀ w ∈ wsX20, w ∈ wsX2_bestOf := fun w h => List.mem_cons_of_mem _ (List.mem_append_right _ h)
  have hB4 : ∀ (k41 : Int32 → Option (Int32)) (hk41 : ∀ (x2 : Int32) (ls : Array Slot), lv_has ls 4 [(2, .int x2)] → k41 x2 = some v → W p l e rm_X2_bestOf s m args below meth c s.heap [] 0 0 Q (F0 m 41 ls [])) (n : Nat) (x1 : Int32) (x2 : Int32) (x3 : Int32) (ls : Array Slot), lv_has ls 4 [(0, .ref (a 0)), (1, .int x1), (2, .int x2), (3, .int x3)] → B_X2_bestOf_4 u k41 n x1 x2 x3 = some v → W p l e rm_X2_bestOf s m args below meth c s.heap [] 0 0 Q (F0 m 4 ls []) := by
    intro k41 hk41 n
    induction n with
    | zero => intro x1 x2 x3 ls hl hv; exact absurd hv (by intro h; cases h)
    | succ n hk4 =>
      intro x1 x2 x3 ls hl hv
      rw [B_X2_bestOf_4] at hv
      refine lv_iload_n hx hb dX2_bestOf_4 rfl (lv_at hl 3 rfl) ?_
      refine lv_aload_n hx hb dX2_bestOf_5 rfl (lv_at hl 0 rfl) ?_
      refine gtX2_many hx hb hts hinX2 hown hK hP (by decide +kernel) dX2_bestOf_6 ?_
      refine lv_iload_n hx hb dX2_bestOf_9 rfl (lv_at hl 1 rfl) ?_
      obtain ⟨g101, hv⟩ := o_grd hv
      refine alX2_many hx hb hK hP g101 dX2_bestOf_10 ?_
      refine lv_icmp_ge (tgt := 41) hx hb dX2_bestOf_11 (by decide) (fun c102 => ?_) (fun c102 => ?_)
      · have hv := o_pos hv c102
        exact hk41 _  ls (lv_sub hl [2] rfl) hv
      · have hv := o_neg hv c102
        refine lv_aload_n hx hb dX2_bestOf_14 rfl (lv_at hl 0 rfl) ?_
        refine lv_iload_n hx hb dX2_bestOf_15 rfl (lv_at hl 1 rfl) ?_
        refine lv_iload_n hx hb dX2_bestOf_16 rfl (lv_at hl 3 rfl) ?_
        obtain ⟨r103, e103, hv⟩ := o_bind hv
        refine rcall_i (W.runV (As := [.int x1, .int x3]) (rest := []) hC (c_X2_take l D cA a u x1 x3 r103 e103) (cwV 2 hts gX2_bestOf_X2_take rfl rfl rfl (by decide +kernel) ⟨Nat.le_of_ble_eq_true rfl, Nat.le_of_ble_eq_true rfl⟩) ⟨roB_blind, va_recv (ci := 2) (q0 := 0) hK hP rfl rfl, roB_pre hK hZ (hws_1 hP)⟩ rfl rfl hl.1 rfl (lv_room (Nat.le_of_ble_eq_true rfl)) dX2_bestOf_17 ⟨Nat.le_of_ble_eq_true rfl, Nat.le_of_ble_eq_true rfl⟩) ?_
        refine lv_aload_n hx hb dX2_bestOf_20 rfl (lv_at hl 0 rfl) ?_
        refine lv_iload_n hx hb dX2_bestOf_21 rfl (lv_at hl 1 rfl) ?_
        refine lv_iload_n hx hb dX2_bestOf_22 rfl (lv_at hl 2 rfl) ?_
        obtain ⟨r104, e104, hv⟩ := o_bind hv
        refine rcall_i (W.runV (As := [.int x1, .int x2]) (rest := [.int r103]) hC (c_X2_take l D cA a u x1 x2 r104 e104) (cwV 2 hts gX2_bestOf_X2_take rfl rfl rfl (by decide +kernel) ⟨Nat.le_of_ble_eq_true rfl, Nat.le_of_ble_eq_true rfl⟩) ⟨roB_blind, va_recv (ci := 2) (q0 := 0) hK hP rfl rfl, roB_pre hK hZ (hws_1 hP)⟩ rfl rfl hl.1 rfl (lv_room (Nat.le_of_ble_eq_true rfl)) dX2_bestOf_23 ⟨Nat.le_of_ble_eq_true rfl, Nat.le_of_ble_eq_true rfl⟩) ?_
        refine lv_icmp_le (tgt := 33) hx hb dX2_bestOf_26 (by decide) (fun c105 => ?_) (fun c105 => ?_)
        · have hv := o_pos hv c105
          refine lv_iload_n hx hb dX2_bestOf_33 rfl (lv_at hl 2 rfl) ?_
          refine lv_istore_n (lv' := [(2, .int x2), (0, .ref (a 0)), (1, .int x1), (3, .int x3)]) hx hb dX2_bestOf_34 rfl hl (by decide) rfl (fun ls hl => ?_)
          refine lv_iinc (v := (x3 + 1)) (lv' := [(3, .int (x3 + 1)), (2, .int x2), (0, .ref (a 0)), (1, .int x1)]) hx hb dX2_bestOf_35 hl (k := 3) rfl rfl (by decide) rfl (fun ls hl => ?_)
          refine lv_goto (tgt := 4) hx hb dX2_bestOf_38 (by decide) ?_
          exact hk4 _ _ _  ls (lv_sub hl [2, 3, 1, 0] rfl) hv
        · have hv := o_neg hv c105
          refine lv_iload_n hx hb dX2_bestOf_29 rfl (lv_at hl 3 rfl) ?_
          refine lv_goto (tgt := 34) hx hb dX2_bestOf_30 (by decide) ?_
          refine lv_istore_n (lv' := [(2, .int x3), (0, .ref (a 0)), (1, .int x1), (3, .int x3)]) hx hb dX2_bestOf_34 rfl hl (by decide) rfl (fun ls hl => ?_)
          refine lv_iinc (v := (x3 + 1)) (lv' := [(3, .int (x3 + 1)), (2, .int x3), (0, .ref (a 0)), (1, .int x1)]) hx hb dX2_bestOf_35 hl (k := 3) rfl rfl (by decide) rfl (fun ls hl => ?_)
          refine lv_goto (tgt := 4) hx hb dX2_bestOf_38 (by decide) ?_
          exact hk4 _ _ _  ls (lv_sub hl [2, 3, 1, 0] rfl) hv
  unfold f_X2_bestOf at hv
  refine lv_iconst (v := 0) hx hb dX2_bestOf_0 (by decide) ?_
  refine lv_istore_n (lv' := [(2, .int (0 : Int32)), (0, .ref (a 0)), (1, .int x1)]) hx hb dX2_bestOf_1 rfl hl (by decide) rfl (fun ls hl => ?_)
  refine lv_iconst (v := 1) hx hb dX2_bestOf_2 (by decide) ?_
  refine lv_istore_n (lv' := [(3, .int (1 : Int32)), (2, .int (0 : Int32)), (0, .ref (a 0)), (1, .int x1)]) hx hb dX2_bestOf_3 rfl hl (by decide) rfl (fun ls hl => ?_)
  refine hB4 _ (fun z206_2 ls hl hv => ?_) 1000 _ _ _ ls (lv_sub hl [2, 3, 1, 0] rfl) hv
  · skip
    refine lv_iload_n hx hb dX2_bestOf_41 rfl (lv_at hl 0 rfl) ?_
    exact fin dX2_bestOf_42 hv
