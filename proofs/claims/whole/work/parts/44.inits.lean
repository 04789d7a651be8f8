theorem newI {p : Program} {l : Launch} {e : Env} {R : Room} {s : State} {m : MethodId} {args : Array Value} {below : List Frame} {meth : Method} {c : Code} {H : Heap} {locs : List Loc} {cells slots : Nat} {Q : State → Prop} {cc : ByteArray} {pc : Nat} {ls : Array Slot} {rest : List Value} {D : va_G} {cA : ClassId} {ws : va_W} {A : Nat → Prop} {H0 : Heap} (hx : p.tables.exec = Jvm.exec) (hb : c.code = cc) (harr : (Cond.arrayClass .int).before args s = true) (hK : va_K D vwCl [(cA, .int)] s) (hP : va_P D vwCl ws H) (hD : va_D A ws) (hS : va_S A H0 H locs) (hA : ∀ q, H0.size ≤ q → A q) {n : Int32} {N : Nat} (hn : ¬ n < 0) (hN : n.toNatClampNeg = N) (hbytes : N * componentBytes .int ≤ 536870912) (hcells : cells + 1 ≤ R.cells) (hslots : slots + N ≤ R.slots) (hdg : decode cc pc = .ok (.newarray .int, 2)) (kk : ∀ (q : Nat) (H1 : Heap), va_P D vwCl (ws ++ [(q, .inl (cA, N, .inl (fun _ => 0)))]) H1 → va_D A (ws ++ [(q, .inl (cA, N, .inl (fun _ => 0)))]) → va_S A H0 H1 locs → W p l e R s m args below meth c H1 locs (cells + 1) (slots + N) Q (F0 m (pc + 2) ls (.ref q :: rest))) : W p l e R s m args below meth c H locs cells slots Q (F0 m pc ls (.int n :: rest)) := by
  refine va_newa (atype := .int) (a0 := (N, .inl (fun _ => 0))) hx hb harr rfl hK hP hD hS hA (fun cA => rfl) hn hN hbytes hcells hslots hdg (fun q cB H1 hK1 h1 h2 h3 => ?_)
  have a1 : s.vm.findClass ("[" ++ FieldType.int.toString) = some cB := (hK1.2 1 _ rfl).2
  have a2 : s.vm.findClass ("[" ++ FieldType.int.toString) = some cA := (hK.2 0 _ rfl).2
  have e : cB = cA := Option.some.inj (a1.symm.trans a2)
  subst e
  exact kk q H1 h1 h2 h3
def af5 (a b c d e : Nat) : Nat → Nat
  | 0 => a
  | 1 => b
  | 2 => c
  | 3 => d
  | _ => e
def af8 (a b c d e f g h : Nat) : Nat → Nat
  | 0 => a
  | 1 => b
  | 2 => c
  | 3 => d
  | 4 => e
  | 5 => f
  | 6 => g
  | _ => h
def af17 (h0 : Nat) (a1 a2 a3 : Nat → Nat) (q : Nat) : Nat → Nat
  | 0 => h0
  | 1 => a1 0
  | 2 => a1 1
  | 3 => a1 2
  | 4 => a1 3
  | 5 => a1 4
  | 6 => a2 0
  | 7 => a2 1
  | 8 => a2 2
  | 9 => a2 3
  | 10 => a2 4
  | 11 => a3 0
  | 12 => a3 1
  | 13 => a3 2
  | 14 => a3 3
  | 15 => a3 4
  | _ => q
def b0 : StB := (fun _ => 0, fun _ => 0, fun _ => 0, fun _ => 0, 0)
def m0 : StM := (0, 0, 1, fun _ => 0, fun _ => 0, fun _ => 0, 0, 0, fun _ => 0, 0, 0, fun _ => 0, fun _ => 0, fun _ => 0)
theorem wB_get (cA : ClassId) (a : Nat → Nat) (u : StB) : ∀ i, i < 5 → ∃ e, (wB cA a u)[i]? = some (a i, e) := by
  intro i hi
  rcases (show i = 0 ∨ i = 1 ∨ i = 2 ∨ i = 3 ∨ i = 4 by omega) with rfl | rfl | rfl | rfl | rfl <;> exact ⟨_, rfl⟩
theorem djB_of {A : Nat → Prop} {cA : ClassId} {a : Nat → Nat} {u : StB} (h : va_D A (wB cA a u)) : djB a := by
  intro i j hi hj e
  obtain ⟨x, hx⟩ := wB_get cA a u i hi
  obtain ⟨y, hy⟩ := wB_get cA a u j hj
  exact h.1 i j _ _ hx hy e
theorem inB_of {A : Nat → Prop} {cA : ClassId} {a : Nat → Nat} {u : StB} (h : va_D A (wB cA a u)) : ∀ q, inB a q → A q := by
  rintro q ⟨j, hj, rfl⟩
  obtain ⟨x, hx⟩ := wB_get cA a u j hj
  exact h.2 j _ hx
theorem wS_get (cA : ClassId) (a : Nat → Nat) (u : StS) : ∀ i, i < 17 → ∃ e, (wS cA a u)[i]? = some (a i, e) := by
  intro i hi
  rcases (show i = 0 ∨ i = 1 ∨ i = 2 ∨ i = 3 ∨ i = 4 ∨ i = 5 ∨ i = 6 ∨ i = 7 ∨ i = 8 ∨ i = 9 ∨ i = 10 ∨ i = 11 ∨ i = 12 ∨ i = 13 ∨ i = 14 ∨ i = 15 ∨ i = 16 by omega) with rfl | rfl | rfl | rfl | rfl | rfl | rfl | rfl | rfl | rfl | rfl | rfl | rfl | rfl | rfl | rfl | rfl <;> exact ⟨_, rfl⟩
theorem djS_of {A : Nat → Prop} {cA : ClassId} {a : Nat → Nat} {u : StS} (h : va_D A (wS cA a u)) : djS a := by
  intro i j hi hj e
  obtain ⟨x, hx⟩ := wS_get cA a u i hi
  obtain ⟨y, hy⟩ := wS_get cA a u j hj
  exact h.1 i j _ _ hx hy e
theorem inS_of {A : Nat → Prop} {cA : ClassId} {a : Nat → Nat} {u : StS} (h : va_D A (wS cA a u)) : ∀ q, inS a q → A q := by
  rintro q ⟨j, hj, rfl⟩
  obtain ⟨x, hx⟩ := wS_get cA a u j hj
  exact h.2 j _ hx
theorem wM_get (cA : ClassId) (a : Nat → Nat) (u : StM) : ∀ i, i < 8 → ∃ e, (wM cA a u)[i]? = some (a i, e) := by
  intro i hi
  rcases (show i = 0 ∨ i = 1 ∨ i = 2 ∨ i = 3 ∨ i = 4 ∨ i = 5 ∨ i = 6 ∨ i = 7 by omega) with rfl | rfl | rfl | rfl | rfl | rfl | rfl | rfl <;> exact ⟨_, rfl⟩
theorem djM_of {A : Nat → Prop} {cA : ClassId} {a : Nat → Nat} {u : StM} (h : va_D A (wM cA a u)) : djM a := by
  intro i j hi hj e
  obtain ⟨x, hx⟩ := wM_get cA a u i hi
  obtain ⟨y, hy⟩ := wM_get cA a u j hj
  exact h.1 i j _ _ hx hy e
theorem inM_of {A : Nat → Prop} {cA : ClassId} {a : Nat → Nat} {u : StM} (h : va_D A (wM cA a u)) : ∀ q, inM a q → A q := by
  rintro q ⟨j, hj, rfl⟩
  obtain ⟨x, hx⟩ := wM_get cA a u j hj
  exact h.2 j _ hx
abbrev rm_X0_init : Room := { frames := 6, cells := 4, slots := 20, locals := 143 }
set_option maxHeartbeats 4000000 in
set_option maxRecDepth 100000 in
theorem c_X0_init (l : Launch) (D : va_G) (cA : ClassId) (h0 sz : Nat) : Met l yX0_init wsX0_init rm_X0_init (va_Pc [.ref h0] (fun U => U.heap.size = sz ∧ roB D cA [[(h0, .inr (0, [.null, .null, .null, .null, .int 0]))]] U)) (va_Qv (fun (x : (Nat → Nat) × StB) => x.1 0 = h0 ∧ f_X0_begin b0 0 1 = some x.2) (fun (x : (Nat → Nat) × StB) t => va_P D vwCl (wB cA x.1 x.2) t.heap ∧ va_D (va_A [(h0, .inr (0, [.null, .null, .null, .null, .int 0]))] sz) (wB cA x.1 x.2)) (va_A [(h0, .inr (0, [.null, .null, .null, .null, .int 0]))] sz)) 4 20 (va_A [(h0, .inr (0, [.null, .null, .null, .null, .int 0]))] sz) := by
  refine Met.ofW (cc := cX0_init) (maxL := 1) (ret := none) (by decide) rfl ?_
  intro p e s m args below meth c s₁ B hml hq
  obtain ⟨rfl, hsz, hws, hK, hZ⟩ := hq
  have hx := B.exec
  have hb := B.bytes
  have hr := B.returns
  have hlk := B.notSynchronized
  have hts := atoms_spec (ws := wsX0_init) B.pre
  have hown : s.vm.findClass RX0 = some m.cls := findClass_of_methodNamed B.named
  have hin : meth.name = "<init>" := (name_of_methodNamed B.named B.method).1
  have hC : CallFix p m c cX0_init 1 s #[.ref h0] wsX0_init RX0 := ⟨hx, hb, hml, hown, hts⟩
  subst hsz
  have hP : va_P D vwCl [(h0, .inr (0, [.null, .null, .null, .null, .int 0]))] s.heap := hws _ List.mem_cons_self
  have hD0 : va_D (fun _ => True) [(h0, .inr (0, [.null, .null, .null, .null, .int 0]))] := ⟨fun i j p q h1 h2 _ => by
    have a1 := (List.getElem?_eq_some_iff.mp h1).1
    have a2 := (List.getElem?_eq_some_iff.mp h2).1
    simp at a1 a2
    omega, fun _ _ _ => trivial⟩
  have hD := hD0.self (sz := s.heap.size)
  generalize hAe : va_A [(h0, .inr (0, [.null, .null, .null, .null, .int 0]))] s.heap.size = A at hD ⊢
  have hA : ∀ q : Nat, s.heap.size ≤ q → A q := fun q h => by rw [← hAe]; exact Or.inr h
  have hS : va_S A s.heap s.heap [] := va_S.rf
  have hl := lv_entry ([.ref h0]) (n := 1) (Nat.le_of_ble_eq_true rfl)
  have hent : entryFrame m #[Value.ref h0] 1 = F0 m 0 ((lg_sl [.ref h0] ++ List.replicate (1 - (lg_sl [Value.ref h0]).length) Slot.unset).toArray) [] := lg_entry_eq m [.ref h0] 1
  show W p l e _ s m _ below meth c s.heap [] 0 0 _ (entryFrame m #[Value.ref h0] 1)
  rw [hent]
  generalize (lg_sl ([.ref h0]) ++ List.replicate (1 - (lg_sl ([Value.ref h0])).length) Slot.unset).toArray = ls at hl ⊢
  have hl : lv_has ls 1 [(0, .ref h0)] := hl
  have hinX0 : ∀ w ∈ wsX00, w ∈ wsX0_init := fun w h => List.mem_cons_of_mem _ (List.mem_append_right _ h)
  obtain ⟨bw, -, -, -, hbw⟩ := begin1 b0 (w := 0) (g := 1) (by omega) (by omega)
  have hbw : f_X0_begin b0 0 1 = some bw := hbw
  refine lv_aload_n hx hb dX0_init_0 rfl (lv_at hl 0 rfl) ?_
  refine W.objInit hx hb hown (hts (.methodLink RX0 3 objectInit) (by decide +kernel)) (hts (.instanceMethod objectInit) (by decide +kernel)) (hts (.code objectInit ⟨#[0xb1]⟩ 1 none) (by decide +kernel)) rfl (by rw [hml]; exact hl.1) rfl dX0_init_1 (Nat.le_of_ble_eq_true rfl) (Nat.le_of_ble_eq_true rfl) ?_
  refine W.eq (g2 := F0 m 4 ls []) rfl ?_
  refine lv_aload_n hx hb dX0_init_4 rfl (lv_at hl 0 rfl) ?_
  refine lv_iconst (v := 5) hx hb dX0_init_5 (by decide) ?_
  refine newI hx hb (hts (.arrayClass .int) (by decide +kernel)) hK hP hD hS hA (N := 5) (by decide) (by decide) (Nat.le_of_ble_eq_true rfl) (Nat.le_of_ble_eq_true rfl) (Nat.le_of_ble_eq_true rfl) dX0_init_6 (fun q1 H hP hD hS => ?_)
  have hP : va_P D vwCl [(h0, .inr (0, [.null, .null, .null, .null, .int 0])), (q1, .inl (cA, 5, .inl (fun _ => 0)))] H := hP
  have hD : va_D A [(h0, .inr (0, [.null, .null, .null, .null, .int 0])), (q1, .inl (cA, 5, .inl (fun _ => 0)))] := hD
  refine va_putF (D := D) (ci := 0) (v := .ref q1) (ty := .array .int) (C := RX0) (T := TX0) (N := 5) hx hb hts hinX0 tyX0 tyX0_ok nmX0 hown hK hP hD hS 0 rfl rfl 0 (by decide) (hts (.fieldLink RX0 9 "DoubtSale$Book" "worths" "[I") (by decide +kernel)) (fun _ h9 => h9) rfl hin rfl (by decide +kernel) rfl rfl (Nat.le_of_ble_eq_true rfl) dX0_init_8 (fun H locs hP hD hS => ?_)
  have hP : va_P D vwCl [(h0, .inr (0, [.ref q1, .null, .null, .null, .int 0])), (q1, .inl (cA, 5, .inl (fun _ => 0)))] H := hP
  have hD : va_D A [(h0, .inr (0, [.ref q1, .null, .null, .null, .int 0])), (q1, .inl (cA, 5, .inl (fun _ => 0)))] := hD
  refine lv_aload_n hx hb dX0_init_11 rfl (lv_at hl 0 rfl) ?_
  refine lv_iconst (v := 5) hx hb dX0_init_12 (by decide) ?_
  refine newI hx hb (hts (.arrayClass .int) (by decide +kernel)) hK hP hD hS hA (N := 5) (by decide) (by decide) (Nat.le_of_ble_eq_true rfl) (Nat.le_of_ble_eq_true rfl) (Nat.le_of_ble_eq_true rfl) dX0_init_13 (fun q2 H hP hD hS => ?_)
  have hP : va_P D vwCl [(h0, .inr (0, [.ref q1, .null, .null, .null, .int 0])), (q1, .inl (cA, 5, .inl (fun _ => 0))), (q2, .inl (cA, 5, .inl (fun _ => 0)))] H := hP
  have hD : va_D A [(h0, .inr (0, [.ref q1, .null, .null, .null, .int 0])), (q1, .inl (cA, 5, .inl (fun _ => 0))), (q2, .inl (cA, 5, .inl (fun _ => 0)))] := hD
  refine va_putF (D := D) (ci := 0) (v := .ref q2) (ty := .array .int) (C := RX0) (T := TX0) (N := 5) hx hb hts hinX0 tyX0 tyX0_ok nmX0 hown hK hP hD hS 0 rfl rfl 1 (by decide) (hts (.fieldLink RX0 15 "DoubtSale$Book" "weights" "[I") (by decide +kernel)) (fun _ h9 => h9) rfl hin rfl (by decide +kernel) rfl rfl (Nat.le_of_ble_eq_true rfl) dX0_init_15 (fun H locs hP hD hS => ?_)
  have hP : va_P D vwCl [(h0, .inr (0, [.ref q1, .ref q2, .null, .null, .int 0])), (q1, .inl (cA, 5, .inl (fun _ => 0))), (q2, .inl (cA, 5, .inl (fun _ => 0)))] H := hP
  have hD : va_D A [(h0, .inr (0, [.ref q1, .ref q2, .null, .null, .int 0])), (q1, .inl (cA, 5, .inl (fun _ => 0))), (q2, .inl (cA, 5, .inl (fun _ => 0)))] := hD
  refine lv_aload_n hx hb dX0_init_18 rfl (lv_at hl 0 rfl) ?_
  refine lv_iconst (v := 5) hx hb dX0_init_19 (by decide) ?_
  refine newI hx hb (hts (.arrayClass .int) (by decide +kernel)) hK hP hD hS hA (N := 5) (by decide) (by decide) (Nat.le_of_ble_eq_true rfl) (Nat.le_of_ble_eq_true rfl) (Nat.le_of_ble_eq_true rfl) dX0_init_20 (fun q3 H hP hD hS => ?_)
  have hP : va_P D vwCl [(h0, .inr (0, [.ref q1, .ref q2, .null, .null, .int 0])), (q1, .inl (cA, 5, .inl (fun _ => 0))), (q2, .inl (cA, 5, .inl (fun _ => 0))), (q3, .inl (cA, 5, .inl (fun _ => 0)))] H := hP
  have hD : va_D A [(h0, .inr (0, [.ref q1, .ref q2, .null, .null, .int 0])), (q1, .inl (cA, 5, .inl (fun _ => 0))), (q2, .inl (cA, 5, .inl (fun _ => 0))), (q3, .inl (cA, 5, .inl (fun _ => 0)))] := hD
  refine va_putF (D := D) (ci := 0) (v := .ref q3) (ty := .array .int) (C := RX0) (T := TX0) (N := 5) hx hb hts hinX0 tyX0 tyX0_ok nmX0 hown hK hP hD hS 0 rfl rfl 2 (by decide) (hts (.fieldLink RX0 18 "DoubtSale$Book" "uppers" "[I") (by decide +kernel)) (fun _ h9 => h9) rfl hin rfl (by decide +kernel) rfl rfl (Nat.le_of_ble_eq_true rfl) dX0_init_22 (fun H locs hP hD hS => ?_)
  have hP : va_P D vwCl [(h0, .inr (0, [.ref q1, .ref q2, .ref q3, .null, .int 0])), (q1, .inl (cA, 5, .inl (fun _ => 0))), (q2, .inl (cA, 5, .inl (fun _ => 0))), (q3, .inl (cA, 5, .inl (fun _ => 0)))] H := hP
  have hD : va_D A [(h0, .inr (0, [.ref q1, .ref q2, .ref q3, .null, .int 0])), (q1, .inl (cA, 5, .inl (fun _ => 0))), (q2, .inl (cA, 5, .inl (fun _ => 0))), (q3, .inl (cA, 5, .inl (fun _ => 0)))] := hD
  refine lv_aload_n hx hb dX0_init_25 rfl (lv_at hl 0 rfl) ?_
  refine lv_iconst (v := 5) hx hb dX0_init_26 (by decide) ?_
  refine newI hx hb (hts (.arrayClass .int) (by decide +kernel)) hK hP hD hS hA (N := 5) (by decide) (by decide) (Nat.le_of_ble_eq_true rfl) (Nat.le_of_ble_eq_true rfl) (Nat.le_of_ble_eq_true rfl) dX0_init_27 (fun q4 H hP hD hS => ?_)
  have hP : va_P D vwCl [(h0, .inr (0, [.ref q1, .ref q2, .ref q3, .null, .int 0])), (q1, .inl (cA, 5, .inl (fun _ => 0))), (q2, .inl (cA, 5, .inl (fun _ => 0))), (q3, .inl (cA, 5, .inl (fun _ => 0))), (q4, .inl (cA, 5, .inl (fun _ => 0)))] H := hP
  have hD : va_D A [(h0, .inr (0, [.ref q1, .ref q2, .ref q3, .null, .int 0])), (q1, .inl (cA, 5, .inl (fun _ => 0))), (q2, .inl (cA, 5, .inl (fun _ => 0))), (q3, .inl (cA, 5, .inl (fun _ => 0))), (q4, .inl (cA, 5, .inl (fun _ => 0)))] := hD
  refine va_putF (D := D) (ci := 0) (v := .ref q4) (ty := .array .int) (C := RX0) (T := TX0) (N := 5) hx hb hts hinX0 tyX0 tyX0_ok nmX0 hown hK hP hD hS 0 rfl rfl 3 (by decide) (hts (.fieldLink RX0 21 "DoubtSale$Book" "lowers" "[I") (by decide +kernel)) (fun _ h9 => h9) rfl hin rfl (by decide +kernel) rfl rfl (Nat.le_of_ble_eq_true rfl) dX0_init_29 (fun H locs hP hD hS => ?_)
  have hP : va_P D vwCl [(h0, .inr (0, [.ref q1, .ref q2, .ref q3, .ref q4, .int 0])), (q1, .inl (cA, 5, .inl (fun _ => 0))), (q2, .inl (cA, 5, .inl (fun _ => 0))), (q3, .inl (cA, 5, .inl (fun _ => 0))), (q4, .inl (cA, 5, .inl (fun _ => 0)))] H := hP
  have hD : va_D A [(h0, .inr (0, [.ref q1, .ref q2, .ref q3, .ref q4, .int 0])), (q1, .inl (cA, 5, .inl (fun _ => 0))), (q2, .inl (cA, 5, .inl (fun _ => 0))), (q3, .inl (cA, 5, .inl (fun _ => 0))), (q4, .inl (cA, 5, .inl (fun _ => 0)))] := hD
  refine lv_aload_n hx hb dX0_init_32 rfl (lv_at hl 0 rfl) ?_
  refine lv_iconst (v := 0) hx hb dX0_init_33 (by decide) ?_
  refine va_put (D := D) (ci := 0) (v := .int 0) (ty := .int) (C := RX0) (T := TX0) (N := 5) hx hb hts hinX0 tyX0 tyX0_ok nmX0 hown hK hP hD hS 0 rfl rfl 4 (by decide) (hts (.fieldLink RX0 24 "DoubtSale$Book" "size" "I") (by decide +kernel)) (fun _ h9 => h9) rfl (by decide +kernel) rfl rfl (Nat.le_of_ble_eq_true rfl) dX0_init_34 (fun H locs hP hD hS => ?_)
  have hP : va_P D vwCl (wB cA (af5 h0 q1 q2 q3 q4) b0) H := hP
  have hD : va_D A (wB cA (af5 h0 q1 q2 q3 q4) b0) := hD
  refine lv_aload_n hx hb dX0_init_37 rfl (lv_at hl 0 rfl) ?_
  refine lv_iconst (v := 0) hx hb dX0_init_38 (by decide) ?_
  refine lv_iconst (v := 1) hx hb dX0_init_39 (by decide) ?_
  have hd := djB_of hD
  refine wcall_v (va_runV (As := [.int 0, .int 1]) (rest := []) hC (c_X0_begin l D cA (af5 h0 q1 q2 q3 q4) b0 0 1 bw hbw hd) (cwV 2 hts gX0_init_X0_begin rfl rfl rfl (by decide +kernel) ⟨Nat.le_of_ble_eq_true rfl, Nat.le_of_ble_eq_true rfl⟩) ⟨roB_blind, va_recv (ci := 0) (q0 := 0) hK hP rfl rfl, roB_pre hK hZ (hws_1 hP)⟩ rfl rfl hl.1 rfl (lv_room (Nat.le_of_ble_eq_true rfl)) dX0_init_40 ⟨Nat.le_of_ble_eq_true rfl, Nat.le_of_ble_eq_true rfl⟩) hS (inB_of hD) (fun H locs hP1 hk1 hS => ?_)
  have hD1 : va_D A (wB cA (af5 h0 q1 q2 q3 q4) bw) := (dB hd bw).weaken (fun _ _ _ h => inB_of hD _ h)
  exact W.vret hx hb hr (fun t ht _ => ⟨⟨(af5 h0 q1 q2 q3 q4, bw), rfl, ⟨rfl, hbw⟩, (show va_P D vwCl (wB cA (af5 h0 q1 q2 q3 q4) bw) t.heap by rw [ht]; exact hP1), hD1⟩, hS.F ht⟩) hS.2.2 dX0_init_43 hlk
abbrev rm_X2_init : Room := { frames := 1, cells := 7, slots := 54, locals := 30 }
set_option maxHeartbeats 4000000 in
set_option maxRecDepth 100000 in
theorem c_X2_init (l : Launch) (D : va_G) (cA : ClassId) (h0 sz : Nat) : Met l yX2_init wsX2_init rm_X2_init (va_Pc [.ref h0] (fun U => U.heap.size = sz ∧ roB D cA [[(h0, .inr (2, [.int 0, .long 0, .int 0, .null, .null, .null, .int 0, .int 0, .null, .long 0, .long 0, .null, .null, .null]))]] U)) (va_Qv (fun (x : (Nat → Nat) × StM) => x.1 0 = h0 ∧ f_X2_renews m0 = some x.2) (fun (x : (Nat → Nat) × StM) t => va_P D vwCl (wM cA x.1 x.2) t.heap ∧ va_D (va_A [(h0, .inr (2, [.int 0, .long 0, .int 0, .null, .null, .null, .int 0, .int 0, .null, .long 0, .long 0, .null, .null, .null]))] sz) (wM cA x.1 x.2)) (va_A [(h0, .inr (2, [.int 0, .long 0, .int 0, .null, .null, .null, .int 0, .int 0, .null, .long 0, .long 0, .null, .null, .null]))] sz)) 7 54 (va_A [(h0, .inr (2, [.int 0, .long 0, .int 0, .null, .null, .null, .int 0, .int 0, .null, .long 0, .long 0, .null, .null, .null]))] sz) := by
  refine Met.ofW (cc := cX2_init) (maxL := 1) (ret := none) (by decide) rfl ?_
  intro p e s m args below meth c s₁ B hml hq
  obtain ⟨rfl, hsz, hws, hK, hZ⟩ := hq
  have hx := B.exec
  have hb := B.bytes
  have hr := B.returns
  have hlk := B.notSynchronized
  have hts := atoms_spec (ws := wsX2_init) B.pre
  have hown : s.vm.findClass RX2 = some m.cls := findClass_of_methodNamed B.named
  have hin : meth.name = "<init>" := (name_of_methodNamed B.named B.method).1
  have hC : CallFix p m c cX2_init 1 s #[.ref h0] wsX2_init RX2 := ⟨hx, hb, hml, hown, hts⟩
  subst hsz
  have hP : va_P D vwCl [(h0, .inr (2, [.int 0, .long 0, .int 0, .null, .null, .null, .int 0, .int 0, .null, .long 0, .long 0, .null, .null, .null]))] s.heap := hws _ List.mem_cons_self
  have hD0 : va_D (fun _ => True) [(h0, .inr (2, [.int 0, .long 0, .int 0, .null, .null, .null, .int 0, .int 0, .null, .long 0, .long 0, .null, .null, .null]))] := ⟨fun i j p q h1 h2 _ => by
    have a1 := (List.getElem?_eq_some_iff.mp h1).1
    have a2 := (List.getElem?_eq_some_iff.mp h2).1
    simp at a1 a2
    omega, fun _ _ _ => trivial⟩
  have hD := hD0.self (sz := s.heap.size)
  generalize hAe : va_A [(h0, .inr (2, [.int 0, .long 0, .int 0, .null, .null, .null, .int 0, .int 0, .null, .long 0, .long 0, .null, .null, .null]))] s.heap.size = A at hD ⊢
  have hA : ∀ q : Nat, s.heap.size ≤ q → A q := fun q h => by rw [← hAe]; exact Or.inr h
  have hS : va_S A s.heap s.heap [] := va_S.rf
  have hl := lv_entry ([.ref h0]) (n := 1) (Nat.le_of_ble_eq_true rfl)
  have hent : entryFrame m #[Value.ref h0] 1 = F0 m 0 ((lg_sl [.ref h0] ++ List.replicate (1 - (lg_sl [Value.ref h0]).length) Slot.unset).toArray) [] := lg_entry_eq m [.ref h0] 1
  show W p l e _ s m _ below meth c s.heap [] 0 0 _ (entryFrame m #[Value.ref h0] 1)
  rw [hent]
  generalize (lg_sl ([.ref h0]) ++ List.replicate (1 - (lg_sl ([Value.ref h0])).length) Slot.unset).toArray = ls at hl ⊢
  have hl : lv_has ls 1 [(0, .ref h0)] := hl
  have hinX2 : ∀ w ∈ wsX20, w ∈ wsX2_init := fun w h => List.mem_cons_of_mem _ (List.mem_append_right _ h)
  obtain ⟨bw, hbw, -⟩ := renews2 m0
  refine lv_aload_n hx hb dX2_init_0 rfl (lv_at hl 0 rfl) ?_
  refine W.objInit hx hb hown (hts (.methodLink RX2 1 objectInit) (by decide +kernel)) (hts (.instanceMethod objectInit) (by decide +kernel)) (hts (.code objectInit ⟨#[0xb1]⟩ 1 none) (by decide +kernel)) rfl (by rw [hml]; exact hl.1) rfl dX2_init_1 (Nat.le_of_ble_eq_true rfl) (Nat.le_of_ble_eq_true rfl) ?_
  refine W.eq (g2 := F0 m 4 ls []) rfl ?_
  refine lv_aload_n hx hb dX2_init_4 rfl (lv_at hl 0 rfl) ?_
  refine lv_iconst (v := 1) hx hb dX2_init_5 (by decide) ?_
  refine va_put (D := D) (ci := 2) (v := .int 1) (ty := .int) (C := RX2) (T := TX2) (N := 14) hx hb hts hinX2 tyX2 tyX2_ok nmX2 hown hK hP hD hS 0 rfl rfl 2 (by decide) (hts (.fieldLink RX2 7 "DoubtSaleModel" "n" "I") (by decide +kernel)) (fun _ h9 => h9) rfl (by decide +kernel) rfl rfl (Nat.le_of_ble_eq_true rfl) dX2_init_6 (fun H locs hP hD hS => ?_)
  have hP : va_P D vwCl [(h0, .inr (2, [.int 0, .long 0, .int 1, .null, .null, .null, .int 0, .int 0, .null, .long 0, .long 0, .null, .null, .null]))] H := hP
  have hD : va_D A [(h0, .inr (2, [.int 0, .long 0, .int 1, .null, .null, .null, .int 0, .int 0, .null, .long 0, .long 0, .null, .null, .null]))] := hD
  refine lv_aload_n hx hb dX2_init_9 rfl (lv_at hl 0 rfl) ?_
  refine lv_iconst (v := 3) hx hb dX2_init_10 (by decide) ?_
  refine newI hx hb (hts (.arrayClass .int) (by decide +kernel)) hK hP hD hS hA (N := 3) (by decide) (by decide) (Nat.le_of_ble_eq_true rfl) (Nat.le_of_ble_eq_true rfl) (Nat.le_of_ble_eq_true rfl) dX2_init_11 (fun q1 H hP hD hS => ?_)
  have hP : va_P D vwCl [(h0, .inr (2, [.int 0, .long 0, .int 1, .null, .null, .null, .int 0, .int 0, .null, .long 0, .long 0, .null, .null, .null])), (q1, .inl (cA, 3, .inl (fun _ => 0)))] H := hP
  have hD : va_D A [(h0, .inr (2, [.int 0, .long 0, .int 1, .null, .null, .null, .int 0, .int 0, .null, .long 0, .long 0, .null, .null, .null])), (q1, .inl (cA, 3, .inl (fun _ => 0)))] := hD
  refine va_putF (D := D) (ci := 2) (v := .ref q1) (ty := .array .int) (C := RX2) (T := TX2) (N := 14) hx hb hts hinX2 tyX2 tyX2_ok nmX2 hown hK hP hD hS 0 rfl rfl 3 (by decide) (hts (.fieldLink RX2 13 "DoubtSaleModel" "many" "[I") (by decide +kernel)) (fun _ h9 => h9) rfl hin rfl (by decide +kernel) rfl rfl (Nat.le_of_ble_eq_true rfl) dX2_init_13 (fun H locs hP hD hS => ?_)
  have hP : va_P D vwCl [(h0, .inr (2, [.int 0, .long 0, .int 1, .ref q1, .null, .null, .int 0, .int 0, .null, .long 0, .long 0, .null, .null, .null])), (q1, .inl (cA, 3, .inl (fun _ => 0)))] H := hP
  have hD : va_D A [(h0, .inr (2, [.int 0, .long 0, .int 1, .ref q1, .null, .null, .int 0, .int 0, .null, .long 0, .long 0, .null, .null, .null])), (q1, .inl (cA, 3, .inl (fun _ => 0)))] := hD
  refine lv_aload_n hx hb dX2_init_16 rfl (lv_at hl 0 rfl) ?_
  refine lv_bipush (v := 15) hx hb dX2_init_17 (by decide) ?_
  refine newI hx hb (hts (.arrayClass .int) (by decide +kernel)) hK hP hD hS hA (N := 15) (by decide) (by decide) (Nat.le_of_ble_eq_true rfl) (Nat.le_of_ble_eq_true rfl) (Nat.le_of_ble_eq_true rfl) dX2_init_19 (fun q2 H hP hD hS => ?_)
  have hP : va_P D vwCl [(h0, .inr (2, [.int 0, .long 0, .int 1, .ref q1, .null, .null, .int 0, .int 0, .null, .long 0, .long 0, .null, .null, .null])), (q1, .inl (cA, 3, .inl (fun _ => 0))), (q2, .inl (cA, 15, .inl (fun _ => 0)))] H := hP
  have hD : va_D A [(h0, .inr (2, [.int 0, .long 0, .int 1, .ref q1, .null, .null, .int 0, .int 0, .null, .long 0, .long 0, .null, .null, .null])), (q1, .inl (cA, 3, .inl (fun _ => 0))), (q2, .inl (cA, 15, .inl (fun _ => 0)))] := hD
  refine va_putF (D := D) (ci := 2) (v := .ref q2) (ty := .array .int) (C := RX2) (T := TX2) (N := 14) hx hb hts hinX2 tyX2 tyX2_ok nmX2 hown hK hP hD hS 0 rfl rfl 4 (by decide) (hts (.fieldLink RX2 17 "DoubtSaleModel" "worth" "[I") (by decide +kernel)) (fun _ h9 => h9) rfl hin rfl (by decide +kernel) rfl rfl (Nat.le_of_ble_eq_true rfl) dX2_init_21 (fun H locs hP hD hS => ?_)
  have hP : va_P D vwCl [(h0, .inr (2, [.int 0, .long 0, .int 1, .ref q1, .ref q2, .null, .int 0, .int 0, .null, .long 0, .long 0, .null, .null, .null])), (q1, .inl (cA, 3, .inl (fun _ => 0))), (q2, .inl (cA, 15, .inl (fun _ => 0)))] H := hP
  have hD : va_D A [(h0, .inr (2, [.int 0, .long 0, .int 1, .ref q1, .ref q2, .null, .int 0, .int 0, .null, .long 0, .long 0, .null, .null, .null])), (q1, .inl (cA, 3, .inl (fun _ => 0))), (q2, .inl (cA, 15, .inl (fun _ => 0)))] := hD
  refine lv_aload_n hx hb dX2_init_24 rfl (lv_at hl 0 rfl) ?_
  refine lv_bipush (v := 15) hx hb dX2_init_25 (by decide) ?_
  refine newI hx hb (hts (.arrayClass .int) (by decide +kernel)) hK hP hD hS hA (N := 15) (by decide) (by decide) (Nat.le_of_ble_eq_true rfl) (Nat.le_of_ble_eq_true rfl) (Nat.le_of_ble_eq_true rfl) dX2_init_27 (fun q3 H hP hD hS => ?_)
  have hP : va_P D vwCl [(h0, .inr (2, [.int 0, .long 0, .int 1, .ref q1, .ref q2, .null, .int 0, .int 0, .null, .long 0, .long 0, .null, .null, .null])), (q1, .inl (cA, 3, .inl (fun _ => 0))), (q2, .inl (cA, 15, .inl (fun _ => 0))), (q3, .inl (cA, 15, .inl (fun _ => 0)))] H := hP
  have hD : va_D A [(h0, .inr (2, [.int 0, .long 0, .int 1, .ref q1, .ref q2, .null, .int 0, .int 0, .null, .long 0, .long 0, .null, .null, .null])), (q1, .inl (cA, 3, .inl (fun _ => 0))), (q2, .inl (cA, 15, .inl (fun _ => 0))), (q3, .inl (cA, 15, .inl (fun _ => 0)))] := hD
  refine va_putF (D := D) (ci := 2) (v := .ref q3) (ty := .array .int) (C := RX2) (T := TX2) (N := 14) hx hb hts hinX2 tyX2 tyX2_ok nmX2 hown hK hP hD hS 0 rfl rfl 5 (by decide) (hts (.fieldLink RX2 20 "DoubtSaleModel" "weight" "[I") (by decide +kernel)) (fun _ h9 => h9) rfl hin rfl (by decide +kernel) rfl rfl (Nat.le_of_ble_eq_true rfl) dX2_init_29 (fun H locs hP hD hS => ?_)
  have hP : va_P D vwCl [(h0, .inr (2, [.int 0, .long 0, .int 1, .ref q1, .ref q2, .ref q3, .int 0, .int 0, .null, .long 0, .long 0, .null, .null, .null])), (q1, .inl (cA, 3, .inl (fun _ => 0))), (q2, .inl (cA, 15, .inl (fun _ => 0))), (q3, .inl (cA, 15, .inl (fun _ => 0)))] H := hP
  have hD : va_D A [(h0, .inr (2, [.int 0, .long 0, .int 1, .ref q1, .ref q2, .ref q3, .int 0, .int 0, .null, .long 0, .long 0, .null, .null, .null])), (q1, .inl (cA, 3, .inl (fun _ => 0))), (q2, .inl (cA, 15, .inl (fun _ => 0))), (q3, .inl (cA, 15, .inl (fun _ => 0)))] := hD
  refine lv_aload_n hx hb dX2_init_32 rfl (lv_at hl 0 rfl) ?_
  refine lv_bipush (v := 12) hx hb dX2_init_33 (by decide) ?_
  refine newI hx hb (hts (.arrayClass .int) (by decide +kernel)) hK hP hD hS hA (N := 12) (by decide) (by decide) (Nat.le_of_ble_eq_true rfl) (Nat.le_of_ble_eq_true rfl) (Nat.le_of_ble_eq_true rfl) dX2_init_35 (fun q4 H hP hD hS => ?_)
  have hP : va_P D vwCl [(h0, .inr (2, [.int 0, .long 0, .int 1, .ref q1, .ref q2, .ref q3, .int 0, .int 0, .null, .long 0, .long 0, .null, .null, .null])), (q1, .inl (cA, 3, .inl (fun _ => 0))), (q2, .inl (cA, 15, .inl (fun _ => 0))), (q3, .inl (cA, 15, .inl (fun _ => 0))), (q4, .inl (cA, 12, .inl (fun _ => 0)))] H := hP
  have hD : va_D A [(h0, .inr (2, [.int 0, .long 0, .int 1, .ref q1, .ref q2, .ref q3, .int 0, .int 0, .null, .long 0, .long 0, .null, .null, .null])), (q1, .inl (cA, 3, .inl (fun _ => 0))), (q2, .inl (cA, 15, .inl (fun _ => 0))), (q3, .inl (cA, 15, .inl (fun _ => 0))), (q4, .inl (cA, 12, .inl (fun _ => 0)))] := hD
  refine va_putF (D := D) (ci := 2) (v := .ref q4) (ty := .array .int) (C := RX2) (T := TX2) (N := 14) hx hb hts hinX2 tyX2 tyX2_ok nmX2 hown hK hP hD hS 0 rfl rfl 8 (by decide) (hts (.fieldLink RX2 23 "DoubtSaleModel" "sample" "[I") (by decide +kernel)) (fun _ h9 => h9) rfl hin rfl (by decide +kernel) rfl rfl (Nat.le_of_ble_eq_true rfl) dX2_init_37 (fun H locs hP hD hS => ?_)
  have hP : va_P D vwCl [(h0, .inr (2, [.int 0, .long 0, .int 1, .ref q1, .ref q2, .ref q3, .int 0, .int 0, .ref q4, .long 0, .long 0, .null, .null, .null])), (q1, .inl (cA, 3, .inl (fun _ => 0))), (q2, .inl (cA, 15, .inl (fun _ => 0))), (q3, .inl (cA, 15, .inl (fun _ => 0))), (q4, .inl (cA, 12, .inl (fun _ => 0)))] H := hP
  have hD : va_D A [(h0, .inr (2, [.int 0, .long 0, .int 1, .ref q1, .ref q2, .ref q3, .int 0, .int 0, .ref q4, .long 0, .long 0, .null, .null, .null])), (q1, .inl (cA, 3, .inl (fun _ => 0))), (q2, .inl (cA, 15, .inl (fun _ => 0))), (q3, .inl (cA, 15, .inl (fun _ => 0))), (q4, .inl (cA, 12, .inl (fun _ => 0)))] := hD
  refine lv_aload_n hx hb dX2_init_40 rfl (lv_at hl 0 rfl) ?_
  refine lv_iconst (v := 3) hx hb dX2_init_41 (by decide) ?_
  refine newI hx hb (hts (.arrayClass .int) (by decide +kernel)) hK hP hD hS hA (N := 3) (by decide) (by decide) (Nat.le_of_ble_eq_true rfl) (Nat.le_of_ble_eq_true rfl) (Nat.le_of_ble_eq_true rfl) dX2_init_42 (fun q5 H hP hD hS => ?_)
  have hP : va_P D vwCl [(h0, .inr (2, [.int 0, .long 0, .int 1, .ref q1, .ref q2, .ref q3, .int 0, .int 0, .ref q4, .long 0, .long 0, .null, .null, .null])), (q1, .inl (cA, 3, .inl (fun _ => 0))), (q2, .inl (cA, 15, .inl (fun _ => 0))), (q3, .inl (cA, 15, .inl (fun _ => 0))), (q4, .inl (cA, 12, .inl (fun _ => 0))), (q5, .inl (cA, 3, .inl (fun _ => 0)))] H := hP
  have hD : va_D A [(h0, .inr (2, [.int 0, .long 0, .int 1, .ref q1, .ref q2, .ref q3, .int 0, .int 0, .ref q4, .long 0, .long 0, .null, .null, .null])), (q1, .inl (cA, 3, .inl (fun _ => 0))), (q2, .inl (cA, 15, .inl (fun _ => 0))), (q3, .inl (cA, 15, .inl (fun _ => 0))), (q4, .inl (cA, 12, .inl (fun _ => 0))), (q5, .inl (cA, 3, .inl (fun _ => 0)))] := hD
  refine va_putF (D := D) (ci := 2) (v := .ref q5) (ty := .array .int) (C := RX2) (T := TX2) (N := 14) hx hb hts hinX2 tyX2 tyX2_ok nmX2 hown hK hP hD hS 0 rfl rfl 11 (by decide) (hts (.fieldLink RX2 26 "DoubtSaleModel" "place" "[I") (by decide +kernel)) (fun _ h9 => h9) rfl hin rfl (by decide +kernel) rfl rfl (Nat.le_of_ble_eq_true rfl) dX2_init_44 (fun H locs hP hD hS => ?_)
  have hP : va_P D vwCl [(h0, .inr (2, [.int 0, .long 0, .int 1, .ref q1, .ref q2, .ref q3, .int 0, .int 0, .ref q4, .long 0, .long 0, .ref q5, .null, .null])), (q1, .inl (cA, 3, .inl (fun _ => 0))), (q2, .inl (cA, 15, .inl (fun _ => 0))), (q3, .inl (cA, 15, .inl (fun _ => 0))), (q4, .inl (cA, 12, .inl (fun _ => 0))), (q5, .inl (cA, 3, .inl (fun _ => 0)))] H := hP
  have hD : va_D A [(h0, .inr (2, [.int 0, .long 0, .int 1, .ref q1, .ref q2, .ref q3, .int 0, .int 0, .ref q4, .long 0, .long 0, .ref q5, .null, .null])), (q1, .inl (cA, 3, .inl (fun _ => 0))), (q2, .inl (cA, 15, .inl (fun _ => 0))), (q3, .inl (cA, 15, .inl (fun _ => 0))), (q4, .inl (cA, 12, .inl (fun _ => 0))), (q5, .inl (cA, 3, .inl (fun _ => 0)))] := hD
  refine lv_aload_n hx hb dX2_init_47 rfl (lv_at hl 0 rfl) ?_
  refine lv_iconst (v := 3) hx hb dX2_init_48 (by decide) ?_
  refine newI hx hb (hts (.arrayClass .int) (by decide +kernel)) hK hP hD hS hA (N := 3) (by decide) (by decide) (Nat.le_of_ble_eq_true rfl) (Nat.le_of_ble_eq_true rfl) (Nat.le_of_ble_eq_true rfl) dX2_init_49 (fun q6 H hP hD hS => ?_)
  have hP : va_P D vwCl [(h0, .inr (2, [.int 0, .long 0, .int 1, .ref q1, .ref q2, .ref q3, .int 0, .int 0, .ref q4, .long 0, .long 0, .ref q5, .null, .null])), (q1, .inl (cA, 3, .inl (fun _ => 0))), (q2, .inl (cA, 15, .inl (fun _ => 0))), (q3, .inl (cA, 15, .inl (fun _ => 0))), (q4, .inl (cA, 12, .inl (fun _ => 0))), (q5, .inl (cA, 3, .inl (fun _ => 0))), (q6, .inl (cA, 3, .inl (fun _ => 0)))] H := hP
  have hD : va_D A [(h0, .inr (2, [.int 0, .long 0, .int 1, .ref q1, .ref q2, .ref q3, .int 0, .int 0, .ref q4, .long 0, .long 0, .ref q5, .null, .null])), (q1, .inl (cA, 3, .inl (fun _ => 0))), (q2, .inl (cA, 15, .inl (fun _ => 0))), (q3, .inl (cA, 15, .inl (fun _ => 0))), (q4, .inl (cA, 12, .inl (fun _ => 0))), (q5, .inl (cA, 3, .inl (fun _ => 0))), (q6, .inl (cA, 3, .inl (fun _ => 0)))] := hD
  refine va_putF (D := D) (ci := 2) (v := .ref q6) (ty := .array .int) (C := RX2) (T := TX2) (N := 14) hx hb hts hinX2 tyX2 tyX2_ok nmX2 hown hK hP hD hS 0 rfl rfl 12 (by decide) (hts (.fieldLink RX2 29 "DoubtSaleModel" "told" "[I") (by decide +kernel)) (fun _ h9 => h9) rfl hin rfl (by decide +kernel) rfl rfl (Nat.le_of_ble_eq_true rfl) dX2_init_51 (fun H locs hP hD hS => ?_)
  have hP : va_P D vwCl [(h0, .inr (2, [.int 0, .long 0, .int 1, .ref q1, .ref q2, .ref q3, .int 0, .int 0, .ref q4, .long 0, .long 0, .ref q5, .ref q6, .null])), (q1, .inl (cA, 3, .inl (fun _ => 0))), (q2, .inl (cA, 15, .inl (fun _ => 0))), (q3, .inl (cA, 15, .inl (fun _ => 0))), (q4, .inl (cA, 12, .inl (fun _ => 0))), (q5, .inl (cA, 3, .inl (fun _ => 0))), (q6, .inl (cA, 3, .inl (fun _ => 0)))] H := hP
  have hD : va_D A [(h0, .inr (2, [.int 0, .long 0, .int 1, .ref q1, .ref q2, .ref q3, .int 0, .int 0, .ref q4, .long 0, .long 0, .ref q5, .ref q6, .null])), (q1, .inl (cA, 3, .inl (fun _ => 0))), (q2, .inl (cA, 15, .inl (fun _ => 0))), (q3, .inl (cA, 15, .inl (fun _ => 0))), (q4, .inl (cA, 12, .inl (fun _ => 0))), (q5, .inl (cA, 3, .inl (fun _ => 0))), (q6, .inl (cA, 3, .inl (fun _ => 0)))] := hD
  refine lv_aload_n hx hb dX2_init_54 rfl (lv_at hl 0 rfl) ?_
  refine lv_iconst (v := 3) hx hb dX2_init_55 (by decide) ?_
  refine newI hx hb (hts (.arrayClass .int) (by decide +kernel)) hK hP hD hS hA (N := 3) (by decide) (by decide) (Nat.le_of_ble_eq_true rfl) (Nat.le_of_ble_eq_true rfl) (Nat.le_of_ble_eq_true rfl) dX2_init_56 (fun q7 H hP hD hS => ?_)
  have hP : va_P D vwCl [(h0, .inr (2, [.int 0, .long 0, .int 1, .ref q1, .ref q2, .ref q3, .int 0, .int 0, .ref q4, .long 0, .long 0, .ref q5, .ref q6, .null])), (q1, .inl (cA, 3, .inl (fun _ => 0))), (q2, .inl (cA, 15, .inl (fun _ => 0))), (q3, .inl (cA, 15, .inl (fun _ => 0))), (q4, .inl (cA, 12, .inl (fun _ => 0))), (q5, .inl (cA, 3, .inl (fun _ => 0))), (q6, .inl (cA, 3, .inl (fun _ => 0))), (q7, .inl (cA, 3, .inl (fun _ => 0)))] H := hP
  have hD : va_D A [(h0, .inr (2, [.int 0, .long 0, .int 1, .ref q1, .ref q2, .ref q3, .int 0, .int 0, .ref q4, .long 0, .long 0, .ref q5, .ref q6, .null])), (q1, .inl (cA, 3, .inl (fun _ => 0))), (q2, .inl (cA, 15, .inl (fun _ => 0))), (q3, .inl (cA, 15, .inl (fun _ => 0))), (q4, .inl (cA, 12, .inl (fun _ => 0))), (q5, .inl (cA, 3, .inl (fun _ => 0))), (q6, .inl (cA, 3, .inl (fun _ => 0))), (q7, .inl (cA, 3, .inl (fun _ => 0)))] := hD
  refine va_putF (D := D) (ci := 2) (v := .ref q7) (ty := .array .int) (C := RX2) (T := TX2) (N := 14) hx hb hts hinX2 tyX2 tyX2_ok nmX2 hown hK hP hD hS 0 rfl rfl 13 (by decide) (hts (.fieldLink RX2 32 "DoubtSaleModel" "price" "[I") (by decide +kernel)) (fun _ h9 => h9) rfl hin rfl (by decide +kernel) rfl rfl (Nat.le_of_ble_eq_true rfl) dX2_init_58 (fun H locs hP hD hS => ?_)
  have hP : va_P D vwCl [(h0, .inr (2, [.int 0, .long 0, .int 1, .ref q1, .ref q2, .ref q3, .int 0, .int 0, .ref q4, .long 0, .long 0, .ref q5, .ref q6, .ref q7])), (q1, .inl (cA, 3, .inl (fun _ => 0))), (q2, .inl (cA, 15, .inl (fun _ => 0))), (q3, .inl (cA, 15, .inl (fun _ => 0))), (q4, .inl (cA, 12, .inl (fun _ => 0))), (q5, .inl (cA, 3, .inl (fun _ => 0))), (q6, .inl (cA, 3, .inl (fun _ => 0))), (q7, .inl (cA, 3, .inl (fun _ => 0)))] H := hP
  have hD : va_D A [(h0, .inr (2, [.int 0, .long 0, .int 1, .ref q1, .ref q2, .ref q3, .int 0, .int 0, .ref q4, .long 0, .long 0, .ref q5, .ref q6, .ref q7])), (q1, .inl (cA, 3, .inl (fun _ => 0))), (q2, .inl (cA, 15, .inl (fun _ => 0))), (q3, .inl (cA, 15, .inl (fun _ => 0))), (q4, .inl (cA, 12, .inl (fun _ => 0))), (q5, .inl (cA, 3, .inl (fun _ => 0))), (q6, .inl (cA, 3, .inl (fun _ => 0))), (q7, .inl (cA, 3, .inl (fun _ => 0)))] := hD
  have hP : va_P D vwCl (wM cA (af8 h0 q1 q2 q3 q4 q5 q6 q7) m0) H := hP
  have hD : va_D A (wM cA (af8 h0 q1 q2 q3 q4 q5 q6 q7) m0) := hD
  refine lv_aload_n hx hb dX2_init_61 rfl (lv_at hl 0 rfl) ?_
  have hd := djM_of hD
  refine wcall_v (va_runV (As := []) (rest := []) hC (c_X2_renews l D cA (af8 h0 q1 q2 q3 q4 q5 q6 q7) m0 bw hbw hd) (cwV 0 hts gX2_init_X2_renews rfl rfl rfl (by decide +kernel) ⟨Nat.le_of_ble_eq_true rfl, Nat.le_of_ble_eq_true rfl⟩) ⟨roB_blind, va_recv (ci := 2) (q0 := 0) hK hP rfl rfl, roB_pre hK hZ (hws_1 hP)⟩ rfl rfl hl.1 rfl (lv_room (Nat.le_of_ble_eq_true rfl)) dX2_init_62 ⟨Nat.le_of_ble_eq_true rfl, Nat.le_of_ble_eq_true rfl⟩) hS (inM_of hD) (fun H locs hP1 hk1 hS => ?_)
  have hD1 : va_D A (wM cA (af8 h0 q1 q2 q3 q4 q5 q6 q7) bw) := (dM hd bw).weaken (fun _ _ _ h => inM_of hD _ h)
  exact W.vret hx hb hr (fun t ht _ => ⟨⟨((af8 h0 q1 q2 q3 q4 q5 q6 q7), bw), rfl, ⟨rfl, hbw⟩, (show va_P D vwCl (wM cA (af8 h0 q1 q2 q3 q4 q5 q6 q7) bw) t.heap by rw [ht]; exact hP1), hD1⟩, hS.F ht⟩) hS.2.2 dX2_init_65 hlk
abbrev rm_X1_init : Room := { frames := 7, cells := 16, slots := 87, locals := 163 }
abbrev bkS (x : StS) : Prop := (∀ b, b < 3 → f_X0_begin b0 0 1 = some (bk x b)) ∧ s_buyerCount x = 1 ∧ s_sampleCount x = 0 ∧ s_reservePrice x = 0 ∧ s_traced x = 0
set_option maxHeartbeats 4000000 in
set_option maxRecDepth 100000 in
theorem c_X1_init (l : Launch) (D : va_G) (cA : ClassId) (h0 sz : Nat) : Met l yX1_init wsX1_init rm_X1_init (va_Pc [.ref h0] (fun U => U.heap.size = sz ∧ roB D cA [[(h0, .inr (1, [.null, .null, .null, .null, .int 0, .int 0, .int 0, .long 0]))]] U)) (va_Qv (fun (x : (Nat → Nat) × StS) => x.1 0 = h0 ∧ bkS x.2) (fun (x : (Nat → Nat) × StS) t => va_P D vwCl (wS cA x.1 x.2) t.heap ∧ va_D (va_A [(h0, .inr (1, [.null, .null, .null, .null, .int 0, .int 0, .int 0, .long 0]))] sz) (wS cA x.1 x.2)) (va_A [(h0, .inr (1, [.null, .null, .null, .null, .int 0, .int 0, .int 0, .long 0]))] sz)) 16 87 (va_A [(h0, .inr (1, [.null, .null, .null, .null, .int 0, .int 0, .int 0, .long 0]))] sz) := by
  refine Met.ofW (cc := cX1_init) (maxL := 1) (ret := none) (by decide) rfl ?_
  intro p e s m args below meth c s₁ B hml hq
  obtain ⟨rfl, hsz, hws, hK, hZ⟩ := hq
  have hx := B.exec
  have hb := B.bytes
  have hr := B.returns
  have hlk := B.notSynchronized
  have hts := atoms_spec (ws := wsX1_init) B.pre
  have hown : s.vm.findClass RX1 = some m.cls := findClass_of_methodNamed B.named
  have hin : meth.name = "<init>" := (name_of_methodNamed B.named B.method).1
  have hC : CallFix p m c cX1_init 1 s #[.ref h0] wsX1_init RX1 := ⟨hx, hb, hml, hown, hts⟩
  subst hsz
  have hP : va_P D vwCl [(h0, .inr (1, [.null, .null, .null, .null, .int 0, .int 0, .int 0, .long 0]))] s.heap := hws _ List.mem_cons_self
  have hD0 : va_D (fun _ => True) [(h0, .inr (1, [.null, .null, .null, .null, .int 0, .int 0, .int 0, .long 0]))] := ⟨fun i j p q h1 h2 _ => by
    have a1 := (List.getElem?_eq_some_iff.mp h1).1
    have a2 := (List.getElem?_eq_some_iff.mp h2).1
    simp at a1 a2
    omega, fun _ _ _ => trivial⟩
  have hD := hD0.self (sz := s.heap.size)
  generalize hAe : va_A [(h0, .inr (1, [.null, .null, .null, .null, .int 0, .int 0, .int 0, .long 0]))] s.heap.size = A at hD ⊢
  have hA : ∀ q : Nat, s.heap.size ≤ q → A q := fun q h => by rw [← hAe]; exact Or.inr h
  have hS : va_S A s.heap s.heap [] := va_S.rf
  have hl := lv_entry ([.ref h0]) (n := 1) (Nat.le_of_ble_eq_true rfl)
  have hent : entryFrame m #[Value.ref h0] 1 = F0 m 0 ((lg_sl [.ref h0] ++ List.replicate (1 - (lg_sl [Value.ref h0]).length) Slot.unset).toArray) [] := lg_entry_eq m [.ref h0] 1
  show W p l e _ s m _ below meth c s.heap [] 0 0 _ (entryFrame m #[Value.ref h0] 1)
  rw [hent]
  generalize (lg_sl ([.ref h0]) ++ List.replicate (1 - (lg_sl ([Value.ref h0])).length) Slot.unset).toArray = ls at hl ⊢
  have hl : lv_has ls 1 [(0, .ref h0)] := hl
  have hinX1 : ∀ w ∈ wsX10, w ∈ wsX1_init := fun w h => List.mem_cons_of_mem _ (List.mem_append_right _ h)
  have hinX0 : ∀ w ∈ wsX00, w ∈ wsX1_init := fun w h => List.mem_cons_of_mem _ (List.mem_append_left _ (List.mem_append_right _ h))
  refine lv_aload_n hx hb dX1_init_0 rfl (lv_at hl 0 rfl) ?_
  refine W.objInit hx hb hown (hts (.methodLink RX1 1 objectInit) (by decide +kernel)) (hts (.instanceMethod objectInit) (by decide +kernel)) (hts (.code objectInit ⟨#[0xb1]⟩ 1 none) (by decide +kernel)) rfl (by rw [hml]; exact hl.1) rfl dX1_init_1 (Nat.le_of_ble_eq_true rfl) (Nat.le_of_ble_eq_true rfl) ?_
  refine W.eq (g2 := F0 m 4 ls []) rfl ?_
  refine lv_aload_n hx hb dX1_init_4 rfl (lv_at hl 0 rfl) ?_
  refine va_new (ci := 0) (fs := [.null, .null, .null, .null, .int 0]) (C := RX0) (T := TX0) (N := 5) hx hb hts hinX0 tyX0 tyX0_ok hown (hts (.classLink RX1 7 RX0) (by decide +kernel)) (hts (.instantiable RX0 5) (by decide +kernel)) (hts (.initialized RX0) (by decide +kernel)) hK hP hD hS hA rfl (fun j hj => by rcases (show j = 0 ∨ j = 1 ∨ j = 2 ∨ j = 3 ∨ j = 4 by omega) with rfl | rfl | rfl | rfl | rfl <;> rfl) (Nat.le_of_ble_eq_true rfl) (Nat.le_of_ble_eq_true rfl) dX1_init_5 (fun q1 H hP hD hS => ?_)
  have hP : va_P D vwCl ([(h0, .inr (1, [.null, .null, .null, .null, .int 0, .int 0, .int 0, .long 0]))] ++ [(q1, .inr (0, [.null, .null, .null, .null, .int 0]))]) H := hP
  have hD : va_D A ([(h0, .inr (1, [.null, .null, .null, .null, .int 0, .int 0, .int 0, .long 0]))] ++ [(q1, .inr (0, [.null, .null, .null, .null, .int 0]))]) := hD
  refine lv_dup hx hb dX1_init_8 rfl ?_
  have hPc := hP.sub (ws' := [(q1, .inr (0, [.null, .null, .null, .null, .int 0]))]) [1] rfl
  have hFc := va_free (wc := [(q1, .inr (0, [.null, .null, .null, .null, .int 0]))]) hD hS hA [1] rfl
  refine va_callv (va_runI (As := []) (rest := [.ref q1, .ref h0]) hC (c_X0_init l D cA q1 H.size) (cwI 0 hts gX1_init_X0_init rfl rfl rfl (hts (.initialized RX0) (by decide +kernel)) (hts (.methodLink RX1 9 yX0_init) (by decide +kernel)) (hts (.instanceMethod yX0_init) (by decide +kernel)) rfl (by decide +kernel) ⟨Nat.le_of_ble_eq_true rfl, Nat.le_of_ble_eq_true rfl⟩) ⟨fun a U g mk q => ⟨q.1, q.2.1, (roB_blind (av := []) #[] U g mk ⟨rfl, q.2.2⟩).2⟩, fun U hU hW => ⟨rfl, by rw [hU], (roB_pre (av := []) hK hZ (hws_1 hPc) U hU hW).2⟩⟩ rfl rfl hl.1 rfl (lv_room (Nat.le_of_ble_eq_true rfl)) dX1_init_9 ⟨Nat.le_of_ble_eq_true rfl, Nat.le_of_ble_eq_true rfl⟩) hS (fun q _ h => hFc q h) hFc (fun x t H1 locs ht hvm hw hB hz1 hk1 hS => ?_)
  obtain ⟨a1, u1⟩ := x
  obtain ⟨hP1, hD1⟩ := hB
  rw [ht] at hP1
  obtain ⟨hw0, hu1⟩ := hw
  have hw0 : a1 0 = q1 := hw0
  have hu1 : f_X0_begin b0 0 1 = some u1 := hu1
  obtain ⟨hP, hD⟩ := va_join (wr := [(h0, .inr (1, [.null, .null, .null, .null, .int 0, .int 0, .int 0, .long 0]))]) (w1 := wB cA a1 u1) hP hD [1] [0] rfl rfl (by decide) (by decide) hk1 hFc hP1 hD1
  generalize H1 = H at hP hS ⊢
  refine va_putF (D := D) (ci := 1) (v := .ref q1) (ty := .object "DoubtSale$Book") (C := RX1) (T := TX1) (N := 8) hx hb hts hinX1 tyX1 tyX1_ok nmX1 hown hK hP hD hS 0 rfl rfl 0 (by decide) (hts (.fieldLink RX1 10 "DoubtSale" "book0" "LDoubtSale$Book;") (by decide +kernel)) (fun _ h9 => h9) rfl hin rfl (by decide +kernel) rfl rfl (Nat.le_of_ble_eq_true rfl) dX1_init_12 (fun H locs hP hD hS => ?_)
  have hP : va_P D vwCl ([(h0, .inr (1, [.ref q1, .null, .null, .null, .int 0, .int 0, .int 0, .long 0]))] ++ wB cA a1 u1) H := hP
  have hD : va_D A ([(h0, .inr (1, [.ref q1, .null, .null, .null, .int 0, .int 0, .int 0, .long 0]))] ++ wB cA a1 u1) := hD
  subst hw0
  refine lv_aload_n hx hb dX1_init_15 rfl (lv_at hl 0 rfl) ?_
  refine va_new (ci := 0) (fs := [.null, .null, .null, .null, .int 0]) (C := RX0) (T := TX0) (N := 5) hx hb hts hinX0 tyX0 tyX0_ok hown (hts (.classLink RX1 7 RX0) (by decide +kernel)) (hts (.instantiable RX0 5) (by decide +kernel)) (hts (.initialized RX0) (by decide +kernel)) hK hP hD hS hA rfl (fun j hj => by rcases (show j = 0 ∨ j = 1 ∨ j = 2 ∨ j = 3 ∨ j = 4 by omega) with rfl | rfl | rfl | rfl | rfl <;> rfl) (Nat.le_of_ble_eq_true rfl) (Nat.le_of_ble_eq_true rfl) dX1_init_16 (fun q2 H hP hD hS => ?_)
  have hP : va_P D vwCl (([(h0, .inr (1, [.ref (a1 0), .null, .null, .null, .int 0, .int 0, .int 0, .long 0]))] ++ wB cA a1 u1) ++ [(q2, .inr (0, [.null, .null, .null, .null, .int 0]))]) H := hP
  have hD : va_D A (([(h0, .inr (1, [.ref (a1 0), .null, .null, .null, .int 0, .int 0, .int 0, .long 0]))] ++ wB cA a1 u1) ++ [(q2, .inr (0, [.null, .null, .null, .null, .int 0]))]) := hD
  refine lv_dup hx hb dX1_init_19 rfl ?_
  have hPc := hP.sub (ws' := [(q2, .inr (0, [.null, .null, .null, .null, .int 0]))]) [6] rfl
  have hFc := va_free (wc := [(q2, .inr (0, [.null, .null, .null, .null, .int 0]))]) hD hS hA [6] rfl
  refine va_callv (va_runI (As := []) (rest := [.ref q2, .ref h0]) hC (c_X0_init l D cA q2 H.size) (cwI 0 hts gX1_init_X0_init rfl rfl rfl (hts (.initialized RX0) (by decide +kernel)) (hts (.methodLink RX1 9 yX0_init) (by decide +kernel)) (hts (.instanceMethod yX0_init) (by decide +kernel)) rfl (by decide +kernel) ⟨Nat.le_of_ble_eq_true rfl, Nat.le_of_ble_eq_true rfl⟩) ⟨fun a U g mk q => ⟨q.1, q.2.1, (roB_blind (av := []) #[] U g mk ⟨rfl, q.2.2⟩).2⟩, fun U hU hW => ⟨rfl, by rw [hU], (roB_pre (av := []) hK hZ (hws_1 hPc) U hU hW).2⟩⟩ rfl rfl hl.1 rfl (lv_room (Nat.le_of_ble_eq_true rfl)) dX1_init_20 ⟨Nat.le_of_ble_eq_true rfl, Nat.le_of_ble_eq_true rfl⟩) hS (fun q _ h => hFc q h) hFc (fun x t H1 locs ht hvm hw hB hz1 hk1 hS => ?_)
  obtain ⟨a2, u2⟩ := x
  obtain ⟨hP1, hD1⟩ := hB
  rw [ht] at hP1
  obtain ⟨hw0, hu2⟩ := hw
  have hw0 : a2 0 = q2 := hw0
  have hu2 : f_X0_begin b0 0 1 = some u2 := hu2
  obtain ⟨hP, hD⟩ := va_join (wr := ([(h0, .inr (1, [.ref (a1 0), .null, .null, .null, .int 0, .int 0, .int 0, .long 0]))] ++ wB cA a1 u1)) (w1 := wB cA a2 u2) hP hD [6] [0, 1, 2, 3, 4, 5] rfl rfl (by decide) (by decide) hk1 hFc hP1 hD1
  generalize H1 = H at hP hS ⊢
  refine va_putF (D := D) (ci := 1) (v := .ref q2) (ty := .object "DoubtSale$Book") (C := RX1) (T := TX1) (N := 8) hx hb hts hinX1 tyX1 tyX1_ok nmX1 hown hK hP hD hS 0 rfl rfl 1 (by decide) (hts (.fieldLink RX1 16 "DoubtSale" "book1" "LDoubtSale$Book;") (by decide +kernel)) (fun _ h9 => h9) rfl hin rfl (by decide +kernel) rfl rfl (Nat.le_of_ble_eq_true rfl) dX1_init_23 (fun H locs hP hD hS => ?_)
  have hP : va_P D vwCl (([(h0, .inr (1, [.ref (a1 0), .ref q2, .null, .null, .int 0, .int 0, .int 0, .long 0]))] ++ wB cA a1 u1) ++ wB cA a2 u2) H := hP
  have hD : va_D A (([(h0, .inr (1, [.ref (a1 0), .ref q2, .null, .null, .int 0, .int 0, .int 0, .long 0]))] ++ wB cA a1 u1) ++ wB cA a2 u2) := hD
  subst hw0
  refine lv_aload_n hx hb dX1_init_26 rfl (lv_at hl 0 rfl) ?_
  refine va_new (ci := 0) (fs := [.null, .null, .null, .null, .int 0]) (C := RX0) (T := TX0) (N := 5) hx hb hts hinX0 tyX0 tyX0_ok hown (hts (.classLink RX1 7 RX0) (by decide +kernel)) (hts (.instantiable RX0 5) (by decide +kernel)) (hts (.initialized RX0) (by decide +kernel)) hK hP hD hS hA rfl (fun j hj => by rcases (show j = 0 ∨ j = 1 ∨ j = 2 ∨ j = 3 ∨ j = 4 by omega) with rfl | rfl | rfl | rfl | rfl <;> rfl) (Nat.le_of_ble_eq_true rfl) (Nat.le_of_ble_eq_true rfl) dX1_init_27 (fun q3 H hP hD hS => ?_)
  have hP : va_P D vwCl ((([(h0, .inr (1, [.ref (a1 0), .ref (a2 0), .null, .null, .int 0, .int 0, .int 0, .long 0]))] ++ wB cA a1 u1) ++ wB cA a2 u2) ++ [(q3, .inr (0, [.null, .null, .null, .null, .int 0]))]) H := hP
  have hD : va_D A ((([(h0, .inr (1, [.ref (a1 0), .ref (a2 0), .null, .null, .int 0, .int 0, .int 0, .long 0]))] ++ wB cA a1 u1) ++ wB cA a2 u2) ++ [(q3, .inr (0, [.null, .null, .null, .null, .int 0]))]) := hD
  refine lv_dup hx hb dX1_init_30 rfl ?_
  have hPc := hP.sub (ws' := [(q3, .inr (0, [.null, .null, .null, .null, .int 0]))]) [11] rfl
  have hFc := va_free (wc := [(q3, .inr (0, [.null, .null, .null, .null, .int 0]))]) hD hS hA [11] rfl
  refine va_callv (va_runI (As := []) (rest := [.ref q3, .ref h0]) hC (c_X0_init l D cA q3 H.size) (cwI 0 hts gX1_init_X0_init rfl rfl rfl (hts (.initialized RX0) (by decide +kernel)) (hts (.methodLink RX1 9 yX0_init) (by decide +kernel)) (hts (.instanceMethod yX0_init) (by decide +kernel)) rfl (by decide +kernel) ⟨Nat.le_of_ble_eq_true rfl, Nat.le_of_ble_eq_true rfl⟩) ⟨fun a U g mk q => ⟨q.1, q.2.1, (roB_blind (av := []) #[] U g mk ⟨rfl, q.2.2⟩).2⟩, fun U hU hW => ⟨rfl, by rw [hU], (roB_pre (av := []) hK hZ (hws_1 hPc) U hU hW).2⟩⟩ rfl rfl hl.1 rfl (lv_room (Nat.le_of_ble_eq_true rfl)) dX1_init_31 ⟨Nat.le_of_ble_eq_true rfl, Nat.le_of_ble_eq_true rfl⟩) hS (fun q _ h => hFc q h) hFc (fun x t H1 locs ht hvm hw hB hz1 hk1 hS => ?_)
  obtain ⟨a3, u3⟩ := x
  obtain ⟨hP1, hD1⟩ := hB
  rw [ht] at hP1
  obtain ⟨hw0, hu3⟩ := hw
  have hw0 : a3 0 = q3 := hw0
  have hu3 : f_X0_begin b0 0 1 = some u3 := hu3
  obtain ⟨hP, hD⟩ := va_join (wr := (([(h0, .inr (1, [.ref (a1 0), .ref (a2 0), .null, .null, .int 0, .int 0, .int 0, .long 0]))] ++ wB cA a1 u1) ++ wB cA a2 u2)) (w1 := wB cA a3 u3) hP hD [11] [0, 1, 2, 3, 4, 5, 6, 7, 8, 9, 10] rfl rfl (by decide) (by decide) hk1 hFc hP1 hD1
  generalize H1 = H at hP hS ⊢
  refine va_putF (D := D) (ci := 1) (v := .ref q3) (ty := .object "DoubtSale$Book") (C := RX1) (T := TX1) (N := 8) hx hb hts hinX1 tyX1 tyX1_ok nmX1 hown hK hP hD hS 0 rfl rfl 2 (by decide) (hts (.fieldLink RX1 19 "DoubtSale" "book2" "LDoubtSale$Book;") (by decide +kernel)) (fun _ h9 => h9) rfl hin rfl (by decide +kernel) rfl rfl (Nat.le_of_ble_eq_true rfl) dX1_init_34 (fun H locs hP hD hS => ?_)
  have hP : va_P D vwCl ((([(h0, .inr (1, [.ref (a1 0), .ref (a2 0), .ref q3, .null, .int 0, .int 0, .int 0, .long 0]))] ++ wB cA a1 u1) ++ wB cA a2 u2) ++ wB cA a3 u3) H := hP
  have hD : va_D A ((([(h0, .inr (1, [.ref (a1 0), .ref (a2 0), .ref q3, .null, .int 0, .int 0, .int 0, .long 0]))] ++ wB cA a1 u1) ++ wB cA a2 u2) ++ wB cA a3 u3) := hD
  subst hw0
  refine lv_aload_n hx hb dX1_init_37 rfl (lv_at hl 0 rfl) ?_
  refine lv_bipush (v := 12) hx hb dX1_init_38 (by decide) ?_
  refine newI hx hb (hts (.arrayClass .int) (by decide +kernel)) hK hP hD hS hA (N := 12) (by decide) (by decide) (Nat.le_of_ble_eq_true rfl) (Nat.le_of_ble_eq_true rfl) (Nat.le_of_ble_eq_true rfl) dX1_init_40 (fun qs H hP hD hS => ?_)
  have hP : va_P D vwCl (((([(h0, .inr (1, [.ref (a1 0), .ref (a2 0), .ref (a3 0), .null, .int 0, .int 0, .int 0, .long 0]))] ++ wB cA a1 u1) ++ wB cA a2 u2) ++ wB cA a3 u3) ++ [(qs, .inl (cA, 12, .inl (fun _ => 0)))]) H := hP
  have hD : va_D A (((([(h0, .inr (1, [.ref (a1 0), .ref (a2 0), .ref (a3 0), .null, .int 0, .int 0, .int 0, .long 0]))] ++ wB cA a1 u1) ++ wB cA a2 u2) ++ wB cA a3 u3) ++ [(qs, .inl (cA, 12, .inl (fun _ => 0)))]) := hD
  refine va_putF (D := D) (ci := 1) (v := .ref qs) (ty := .array .int) (C := RX1) (T := TX1) (N := 8) hx hb hts hinX1 tyX1 tyX1_ok nmX1 hown hK hP hD hS 0 rfl rfl 3 (by decide) (hts (.fieldLink RX1 22 "DoubtSale" "samples" "[I") (by decide +kernel)) (fun _ h9 => h9) rfl hin rfl (by decide +kernel) rfl rfl (Nat.le_of_ble_eq_true rfl) dX1_init_42 (fun H locs hP hD hS => ?_)
  have hP : va_P D vwCl (wS cA (af17 h0 a1 a2 a3 qs) ((u1, u2, u3, (fun _ => 0 : Nat → Int32), 0, 0, 0, 0) : StS)) H := hP
  have hD : va_D A (wS cA (af17 h0 a1 a2 a3 qs) ((u1, u2, u3, (fun _ => 0 : Nat → Int32), 0, 0, 0, 0) : StS)) := hD
  have hd := djS_of hD
  have hin2 := inS_of hD
  refine lv_aload_n hx hb dX1_init_45 rfl (lv_at hl 0 rfl) ?_
  refine lv_iconst (v := 1) hx hb dX1_init_46 (by decide) ?_
  refine ptX1_buyerCount (a := (af17 h0 a1 a2 a3 qs)) hx hb hts hinX1 hown hK hP hD hS (by decide +kernel) dX1_init_47 (fun H locs hP hS => ?_)
  have hP : va_P D vwCl (wS cA (af17 h0 a1 a2 a3 qs) ((u1, u2, u3, (fun _ => 0 : Nat → Int32), 1, 0, 0, 0) : StS)) H := hP
  have hD : va_D A (wS cA (af17 h0 a1 a2 a3 qs) ((u1, u2, u3, (fun _ => 0 : Nat → Int32), 1, 0, 0, 0) : StS)) := (dS hd _).weaken (fun _ _ _ h => hin2 _ h)
  refine lv_aload_n hx hb dX1_init_50 rfl (lv_at hl 0 rfl) ?_
  refine lv_iconst (v := 0) hx hb dX1_init_51 (by decide) ?_
  refine ptX1_sampleCount (a := (af17 h0 a1 a2 a3 qs)) hx hb hts hinX1 hown hK hP hD hS (by decide +kernel) dX1_init_52 (fun H locs hP hS => ?_)
  have hP : va_P D vwCl (wS cA (af17 h0 a1 a2 a3 qs) ((u1, u2, u3, (fun _ => 0 : Nat → Int32), 1, 0, 0, 0) : StS)) H := hP
  refine lv_aload_n hx hb dX1_init_55 rfl (lv_at hl 0 rfl) ?_
  refine lv_iconst (v := 0) hx hb dX1_init_56 (by decide) ?_
  refine ptX1_reservePrice (a := (af17 h0 a1 a2 a3 qs)) hx hb hts hinX1 hown hK hP hD hS (by decide +kernel) dX1_init_57 (fun H locs hP hS => ?_)
  have hP : va_P D vwCl (wS cA (af17 h0 a1 a2 a3 qs) ((u1, u2, u3, (fun _ => 0 : Nat → Int32), 1, 0, 0, 0) : StS)) H := hP
  refine lv_aload_n hx hb dX1_init_60 rfl (lv_at hl 0 rfl) ?_
  refine lv_lconst (v := 0) hx hb dX1_init_61 (by decide) ?_
  refine ptX1_traced (a := (af17 h0 a1 a2 a3 qs)) hx hb hts hinX1 hown hK hP hD hS (by decide +kernel) dX1_init_62 (fun H locs hP hS => ?_)
  have hP : va_P D vwCl (wS cA (af17 h0 a1 a2 a3 qs) ((u1, u2, u3, (fun _ => 0 : Nat → Int32), 1, 0, 0, 0) : StS)) H := hP
  have hbk : bkS ((u1, u2, u3, (fun _ => 0 : Nat → Int32), 1, 0, 0, 0) : StS) := ⟨fun b hb3 => by
    rcases co3 hb3 with rfl | rfl | rfl
    · exact hu1
    · exact hu2
    · exact hu3, rfl, rfl, rfl, rfl⟩
  exact W.vret hx hb hr (fun t ht _ => ⟨⟨((af17 h0 a1 a2 a3 qs), ((u1, u2, u3, (fun _ => 0 : Nat → Int32), 1, 0, 0, 0) : StS)), rfl, ⟨rfl, hbk⟩, (show va_P D vwCl (wS cA (af17 h0 a1 a2 a3 qs) ((u1, u2, u3, (fun _ => 0 : Nat → Int32), 1, 0, 0, 0) : StS)) t.heap by rw [ht]; exact hP), hD⟩, hS.F ht⟩) hS.2.2 dX1_init_65 hlk
