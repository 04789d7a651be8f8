section
-- ===== PART A: goes FIRST, ahead of the names: the tables' words, and 'selects' of the private methods out of them =====
/-- a private method of a class that the tables say can be made, by its rows of tables_1 -/
def lw_okq (q : MethodName × Nat) : Prop := (q.1.cls ≠ "java/lang/invoke/MethodHandle" ∧ q.1.cls ≠ "java/lang/invoke/VarHandle") ∧ Cond.instantiable q.1.cls q.2 ∈ tables_1 ∧ Cond.privateMethod q.1 ∈ tables_1 ∧ Cond.instanceMethod q.1 ∈ tables_1
theorem lw_p0 : lw_okq (⟨"DoubtSale$Book", "iron", "()V"⟩, 5) := ⟨⟨by decide +kernel, by decide +kernel⟩, List.mem_of_getElem? (i := 15) (by decide +kernel), List.mem_of_getElem? (i := 25) (by decide +kernel), List.mem_of_getElem? (i := 26) (by decide +kernel)⟩
theorem lw_p1 : lw_okq (⟨"DoubtSale$Book", "nextCorner", "(I)I"⟩, 5) := ⟨⟨by decide +kernel, by decide +kernel⟩, List.mem_of_getElem? (i := 15) (by decide +kernel), List.mem_of_getElem? (i := 29) (by decide +kernel), List.mem_of_getElem? (i := 30) (by decide +kernel)⟩
theorem lw_p2 : lw_okq (⟨"DoubtSale", "isBuyer", "(I)Z"⟩, 8) := ⟨⟨by decide +kernel, by decide +kernel⟩, List.mem_of_getElem? (i := 7) (by decide +kernel), List.mem_of_getElem? (i := 100) (by decide +kernel), List.mem_of_getElem? (i := 101) (by decide +kernel)⟩
theorem lw_p3 : lw_okq (⟨"DoubtSale", "bookOf", "(I)LDoubtSale$Book;"⟩, 8) := ⟨⟨by decide +kernel, by decide +kernel⟩, List.mem_of_getElem? (i := 7) (by decide +kernel), List.mem_of_getElem? (i := 110) (by decide +kernel), List.mem_of_getElem? (i := 111) (by decide +kernel)⟩
theorem lw_p4 : lw_okq (⟨"DoubtSale", "arePlaces", "(III)Z"⟩, 8) := ⟨⟨by decide +kernel, by decide +kernel⟩, List.mem_of_getElem? (i := 7) (by decide +kernel), List.mem_of_getElem? (i := 178) (by decide +kernel), List.mem_of_getElem? (i := 179) (by decide +kernel)⟩
theorem lw_p5 : lw_okq (⟨"DoubtSale", "winner", "(III)I"⟩, 8) := ⟨⟨by decide +kernel, by decide +kernel⟩, List.mem_of_getElem? (i := 7) (by decide +kernel), List.mem_of_getElem? (i := 185) (by decide +kernel), List.mem_of_getElem? (i := 186) (by decide +kernel)⟩
theorem lw_p6 : lw_okq (⟨"DoubtSale", "leastWinning", "(IIII)I"⟩, 8) := ⟨⟨by decide +kernel, by decide +kernel⟩, List.mem_of_getElem? (i := 7) (by decide +kernel), List.mem_of_getElem? (i := 193) (by decide +kernel), List.mem_of_getElem? (i := 194) (by decide +kernel)⟩
theorem lw_p7 : lw_okq (⟨"DoubtSale", "getsWith", "(IIIII)Z"⟩, 8) := ⟨⟨by decide +kernel, by decide +kernel⟩, List.mem_of_getElem? (i := 7) (by decide +kernel), List.mem_of_getElem? (i := 197) (by decide +kernel), List.mem_of_getElem? (i := 198) (by decide +kernel)⟩
theorem lw_p8 : lw_okq (⟨"DoubtSale", "meanPaid", "(II)J"⟩, 8) := ⟨⟨by decide +kernel, by decide +kernel⟩, List.mem_of_getElem? (i := 7) (by decide +kernel), List.mem_of_getElem? (i := 209) (by decide +kernel), List.mem_of_getElem? (i := 210) (by decide +kernel)⟩
theorem lw_p9 : lw_okq (⟨"DoubtSale", "paidAt", "(IIII)I"⟩, 8) := ⟨⟨by decide +kernel, by decide +kernel⟩, List.mem_of_getElem? (i := 7) (by decide +kernel), List.mem_of_getElem? (i := 213) (by decide +kernel), List.mem_of_getElem? (i := 214) (by decide +kernel)⟩
theorem lw_p10 : lw_okq (⟨"DoubtSale", "paidByKind", "(IIII)I"⟩, 8) := ⟨⟨by decide +kernel, by decide +kernel⟩, List.mem_of_getElem? (i := 7) (by decide +kernel), List.mem_of_getElem? (i := 217) (by decide +kernel), List.mem_of_getElem? (i := 218) (by decide +kernel)⟩
theorem lw_p11 : lw_okq (⟨"DoubtSale", "priceOf", "(II)I"⟩, 8) := ⟨⟨by decide +kernel, by decide +kernel⟩, List.mem_of_getElem? (i := 7) (by decide +kernel), List.mem_of_getElem? (i := 225) (by decide +kernel), List.mem_of_getElem? (i := 226) (by decide +kernel)⟩
theorem lw_p12 : lw_okq (⟨"DoubtSale", "areWorths", "(III)Z"⟩, 8) := ⟨⟨by decide +kernel, by decide +kernel⟩, List.mem_of_getElem? (i := 7) (by decide +kernel), List.mem_of_getElem? (i := 240) (by decide +kernel), List.mem_of_getElem? (i := 241) (by decide +kernel)⟩
theorem lw_p13 : lw_okq (⟨"DoubtSale", "isOrder", "(I)Z"⟩, 8) := ⟨⟨by decide +kernel, by decide +kernel⟩, List.mem_of_getElem? (i := 7) (by decide +kernel), List.mem_of_getElem? (i := 255) (by decide +kernel), List.mem_of_getElem? (i := 256) (by decide +kernel)⟩
theorem lw_p14 : lw_okq (⟨"DoubtSale", "samplesFrom", "(I)I"⟩, 8) := ⟨⟨by decide +kernel, by decide +kernel⟩, List.mem_of_getElem? (i := 7) (by decide +kernel), List.mem_of_getElem? (i := 294) (by decide +kernel), List.mem_of_getElem? (i := 295) (by decide +kernel)⟩
theorem lw_p15 : lw_okq (⟨"DoubtSaleModel", "renews", "()V"⟩, 14) := ⟨⟨by decide +kernel, by decide +kernel⟩, List.mem_of_getElem? (i := 306) (by decide +kernel), List.mem_of_getElem? (i := 312) (by decide +kernel), List.mem_of_getElem? (i := 313) (by decide +kernel)⟩
def lw_privs_1 : List (MethodName × Nat) := [(⟨"DoubtSale$Book", "iron", "()V"⟩, 5), (⟨"DoubtSale$Book", "nextCorner", "(I)I"⟩, 5), (⟨"DoubtSale", "isBuyer", "(I)Z"⟩, 8), (⟨"DoubtSale", "bookOf", "(I)LDoubtSale$Book;"⟩, 8), (⟨"DoubtSale", "arePlaces", "(III)Z"⟩, 8), (⟨"DoubtSale", "winner", "(III)I"⟩, 8), (⟨"DoubtSale", "leastWinning", "(IIII)I"⟩, 8), (⟨"DoubtSale", "getsWith", "(IIIII)Z"⟩, 8), (⟨"DoubtSale", "meanPaid", "(II)J"⟩, 8), (⟨"DoubtSale", "paidAt", "(IIII)I"⟩, 8), (⟨"DoubtSale", "paidByKind", "(IIII)I"⟩, 8), (⟨"DoubtSale", "priceOf", "(II)I"⟩, 8), (⟨"DoubtSale", "areWorths", "(III)Z"⟩, 8), (⟨"DoubtSale", "isOrder", "(I)Z"⟩, 8), (⟨"DoubtSale", "samplesFrom", "(I)I"⟩, 8), (⟨"DoubtSaleModel", "renews", "()V"⟩, 14)]
theorem lw_r1 : ∀ q ∈ lw_privs_1, lw_okq q := List.forall_mem_cons.mpr ⟨lw_p0, List.forall_mem_cons.mpr ⟨lw_p1, List.forall_mem_cons.mpr ⟨lw_p2, List.forall_mem_cons.mpr ⟨lw_p3, List.forall_mem_cons.mpr ⟨lw_p4, List.forall_mem_cons.mpr ⟨lw_p5, List.forall_mem_cons.mpr ⟨lw_p6, List.forall_mem_cons.mpr ⟨lw_p7, List.forall_mem_cons.mpr ⟨lw_p8, List.forall_mem_cons.mpr ⟨lw_p9, List.forall_mem_cons.mpr ⟨lw_p10, List.forall_mem_cons.mpr ⟨lw_p11, List.forall_mem_cons.mpr ⟨lw_p12, List.forall_mem_cons.mpr ⟨lw_p13, List.forall_mem_cons.mpr ⟨lw_p14, List.forall_mem_cons.mpr ⟨lw_p15, fun _ h => absurd h List.not_mem_nil⟩⟩⟩⟩⟩⟩⟩⟩⟩⟩⟩⟩⟩⟩⟩⟩
theorem lw_p16 : lw_okq (⟨"DoubtSaleModel", "isBuyer", "(I)Z"⟩, 14) := ⟨⟨by decide +kernel, by decide +kernel⟩, List.mem_of_getElem? (i := 306) (by decide +kernel), List.mem_of_getElem? (i := 370) (by decide +kernel), List.mem_of_getElem? (i := 371) (by decide +kernel)⟩
theorem lw_p17 : lw_okq (⟨"DoubtSaleModel", "isPlace", "(II)Z"⟩, 14) := ⟨⟨by decide +kernel, by decide +kernel⟩, List.mem_of_getElem? (i := 306) (by decide +kernel), List.mem_of_getElem? (i := 382) (by decide +kernel), List.mem_of_getElem? (i := 383) (by decide +kernel)⟩
theorem lw_p18 : lw_okq (⟨"DoubtSaleModel", "share", "(II)I"⟩, 14) := ⟨⟨by decide +kernel, by decide +kernel⟩, List.mem_of_getElem? (i := 306) (by decide +kernel), List.mem_of_getElem? (i := 386) (by decide +kernel), List.mem_of_getElem? (i := 387) (by decide +kernel)⟩
theorem lw_p19 : lw_okq (⟨"DoubtSaleModel", "take", "(II)I"⟩, 14) := ⟨⟨by decide +kernel, by decide +kernel⟩, List.mem_of_getElem? (i := 306) (by decide +kernel), List.mem_of_getElem? (i := 390) (by decide +kernel), List.mem_of_getElem? (i := 391) (by decide +kernel)⟩
theorem lw_p20 : lw_okq (⟨"DoubtSaleModel", "bestOf", "(I)I"⟩, 14) := ⟨⟨by decide +kernel, by decide +kernel⟩, List.mem_of_getElem? (i := 306) (by decide +kernel), List.mem_of_getElem? (i := 398) (by decide +kernel), List.mem_of_getElem? (i := 399) (by decide +kernel)⟩
theorem lw_p21 : lw_okq (⟨"DoubtSaleModel", "irons", "(II)V"⟩, 14) := ⟨⟨by decide +kernel, by decide +kernel⟩, List.mem_of_getElem? (i := 306) (by decide +kernel), List.mem_of_getElem? (i := 407) (by decide +kernel), List.mem_of_getElem? (i := 408) (by decide +kernel)⟩
theorem lw_p22 : lw_okq (⟨"DoubtSaleModel", "part", "(JJI)J"⟩, 14) := ⟨⟨by decide +kernel, by decide +kernel⟩, List.mem_of_getElem? (i := 306) (by decide +kernel), List.mem_of_getElem? (i := 411) (by decide +kernel), List.mem_of_getElem? (i := 412) (by decide +kernel)⟩
theorem lw_p23 : lw_okq (⟨"DoubtSaleModel", "isPlaces", "(III)Z"⟩, 14) := ⟨⟨by decide +kernel, by decide +kernel⟩, List.mem_of_getElem? (i := 306) (by decide +kernel), List.mem_of_getElem? (i := 422) (by decide +kernel), List.mem_of_getElem? (i := 423) (by decide +kernel)⟩
theorem lw_p24 : lw_okq (⟨"DoubtSaleModel", "getter", "()I"⟩, 14) := ⟨⟨by decide +kernel, by decide +kernel⟩, List.mem_of_getElem? (i := 306) (by decide +kernel), List.mem_of_getElem? (i := 426) (by decide +kernel), List.mem_of_getElem? (i := 427) (by decide +kernel)⟩
theorem lw_p25 : lw_okq (⟨"DoubtSaleModel", "paid", "(I)I"⟩, 14) := ⟨⟨by decide +kernel, by decide +kernel⟩, List.mem_of_getElem? (i := 306) (by decide +kernel), List.mem_of_getElem? (i := 434) (by decide +kernel), List.mem_of_getElem? (i := 435) (by decide +kernel)⟩
theorem lw_p26 : lw_okq (⟨"DoubtSaleModel", "comes", "(I)I"⟩, 14) := ⟨⟨by decide +kernel, by decide +kernel⟩, List.mem_of_getElem? (i := 306) (by decide +kernel), List.mem_of_getElem? (i := 446) (by decide +kernel), List.mem_of_getElem? (i := 447) (by decide +kernel)⟩
theorem lw_p27 : lw_okq (⟨"DoubtSaleModel", "all", "()I"⟩, 14) := ⟨⟨by decide +kernel, by decide +kernel⟩, List.mem_of_getElem? (i := 306) (by decide +kernel), List.mem_of_getElem? (i := 450) (by decide +kernel), List.mem_of_getElem? (i := 451) (by decide +kernel)⟩
theorem lw_p28 : lw_okq (⟨"DoubtSaleModel", "payOf", "(I)I"⟩, 14) := ⟨⟨by decide +kernel, by decide +kernel⟩, List.mem_of_getElem? (i := 306) (by decide +kernel), List.mem_of_getElem? (i := 462) (by decide +kernel), List.mem_of_getElem? (i := 463) (by decide +kernel)⟩
theorem lw_p29 : lw_okq (⟨"DoubtSaleModel", "pairs", "(III)I"⟩, 14) := ⟨⟨by decide +kernel, by decide +kernel⟩, List.mem_of_getElem? (i := 306) (by decide +kernel), List.mem_of_getElem? (i := 481) (by decide +kernel), List.mem_of_getElem? (i := 482) (by decide +kernel)⟩
def lw_privs_2 : List (MethodName × Nat) := [(⟨"DoubtSaleModel", "isBuyer", "(I)Z"⟩, 14), (⟨"DoubtSaleModel", "isPlace", "(II)Z"⟩, 14), (⟨"DoubtSaleModel", "share", "(II)I"⟩, 14), (⟨"DoubtSaleModel", "take", "(II)I"⟩, 14), (⟨"DoubtSaleModel", "bestOf", "(I)I"⟩, 14), (⟨"DoubtSaleModel", "irons", "(II)V"⟩, 14), (⟨"DoubtSaleModel", "part", "(JJI)J"⟩, 14), (⟨"DoubtSaleModel", "isPlaces", "(III)Z"⟩, 14), (⟨"DoubtSaleModel", "getter", "()I"⟩, 14), (⟨"DoubtSaleModel", "paid", "(I)I"⟩, 14), (⟨"DoubtSaleModel", "comes", "(I)I"⟩, 14), (⟨"DoubtSaleModel", "all", "()I"⟩, 14), (⟨"DoubtSaleModel", "payOf", "(I)I"⟩, 14), (⟨"DoubtSaleModel", "pairs", "(III)I"⟩, 14)]
theorem lw_r2 : ∀ q ∈ lw_privs_2, lw_okq q := List.forall_mem_cons.mpr ⟨lw_p16, List.forall_mem_cons.mpr ⟨lw_p17, List.forall_mem_cons.mpr ⟨lw_p18, List.forall_mem_cons.mpr ⟨lw_p19, List.forall_mem_cons.mpr ⟨lw_p20, List.forall_mem_cons.mpr ⟨lw_p21, List.forall_mem_cons.mpr ⟨lw_p22, List.forall_mem_cons.mpr ⟨lw_p23, List.forall_mem_cons.mpr ⟨lw_p24, List.forall_mem_cons.mpr ⟨lw_p25, List.forall_mem_cons.mpr ⟨lw_p26, List.forall_mem_cons.mpr ⟨lw_p27, List.forall_mem_cons.mpr ⟨lw_p28, List.forall_mem_cons.mpr ⟨lw_p29, fun _ h => absurd h List.not_mem_nil⟩⟩⟩⟩⟩⟩⟩⟩⟩⟩⟩⟩⟩⟩
def lw_privs : List (MethodName × Nat) := lw_privs_1 ++ (lw_privs_2)
def lw_tbl : List Cond := k2_sels lw_privs ++ tables_1
theorem lw_privs_ok : ∀ q ∈ lw_privs, lw_okq q := by
  show ∀ q ∈ lw_privs_1 ++ (lw_privs_2), lw_okq q
  exact List.forall_mem_append.mpr ⟨lw_r1, lw_r2⟩
end
section
/-! ===== BEGIN words of one list among another's, by their places ===== -/
theorem goodIn_r {big : List Cond} (ws : List Cond) (ps : List Nat) (hp : ws = ps.filterMap (fun i => big[i]?)) (h : ws.all goodWord = true) : GoodIn big ws := by
  intro w hw
  have h1 := List.all_eq_true.mp h w hw
  rw [hp] at hw
  obtain ⟨i, -, hi⟩ := List.mem_filterMap.mp hw
  have hm : w ∈ big := by first | exact List.mem_of_getElem? hi | exact List.getElem?_mem hi
  exact ⟨hm, good_of_word h1⟩
theorem goodIn_app {big a b : List Cond} (ha : GoodIn big a) (hb : GoodIn big b) : GoodIn big (a ++ b) := fun w h => (List.mem_append.mp h).elim (ha w) (hb w)
theorem goodIn_ca {big a b : List Cond} {c : Cond} (ha : GoodIn big (c :: a)) (hb : GoodIn big b) : GoodIn big (c :: (a ++ b)) := fun w h => (List.mem_cons.mp h).elim (fun e => ha w (List.mem_cons.mpr (Or.inl e))) (fun h => (List.mem_append.mp h).elim (fun h => ha w (List.mem_cons.mpr (Or.inr h))) (hb w))
theorem goodIn_sub {big ws : List Cond} (hm : ∀ w ∈ ws, w ∈ big) (h : ws.all goodWord = true) : GoodIn big ws := fun w hw => ⟨hm w hw, good_of_word (List.all_eq_true.mp h w hw)⟩
/-! ===== END ===== -/

/-! ===== BEGIN printed: names, fields, word lists, decode rows ===== -/
def RX0 : String := "DoubtSale$Book"
def TX0 : u_T := fun k => match k with
  | 0 => ("DoubtSale$Book", "worths", "[I", true)
  | 1 => ("DoubtSale$Book", "weights", "[I", true)
  | 2 => ("DoubtSale$Book", "uppers", "[I", true)
  | 3 => ("DoubtSale$Book", "lowers", "[I", true)
  | _ => ("DoubtSale$Book", "size", "I", false)
def tyX0 : Nat → FieldType := fun k => match k with
  | 0 => .array .int
  | 1 => .array .int
  | 2 => .array .int
  | 3 => .array .int
  | _ => .int
abbrev wsX00 : List Cond := u_ws RX0 TX0 5
theorem nmX0 : ∀ a, a < 5 → ∀ b, b < 5 → a ≠ b → (TX0 a).2.1 ≠ (TX0 b).2.1 := by decide +kernel
theorem tyX0_ok : ∀ k, k < 5 → parseFieldDescriptor (TX0 k).2.2.1 = some (tyX0 k) := by decide +kernel
abbrev cX0_init : ByteArray := prog_2_method_1_code
def yX0_init : MethodName := ⟨RX0, "<init>", "()V"⟩
abbrev cX0_begin : ByteArray := prog_2_method_2_code
def yX0_begin : MethodName := ⟨RX0, "begin", "(II)V"⟩
abbrev cX0_add : ByteArray := prog_2_method_3_code
def yX0_add : MethodName := ⟨RX0, "add", "(II)V"⟩
abbrev cX0_has : ByteArray := prog_2_method_4_code
def yX0_has : MethodName := ⟨RX0, "has", "(I)Z"⟩
abbrev cX0_worthAt : ByteArray := prog_2_method_5_code
def yX0_worthAt : MethodName := ⟨RX0, "worthAt", "(I)I"⟩
abbrev cX0_weightAt : ByteArray := prog_2_method_6_code
def yX0_weightAt : MethodName := ⟨RX0, "weightAt", "(I)I"⟩
abbrev cX0_shareAt : ByteArray := prog_2_method_7_code
def yX0_shareAt : MethodName := ⟨RX0, "shareAt", "(I)I"⟩
abbrev cX0_allWeights : ByteArray := prog_2_method_8_code
def yX0_allWeights : MethodName := ⟨RX0, "allWeights", "()I"⟩
abbrev cX0_takeAt : ByteArray := prog_2_method_9_code
def yX0_takeAt : MethodName := ⟨RX0, "takeAt", "(I)I"⟩
abbrev cX0_bestPlace : ByteArray := prog_2_method_10_code
def yX0_bestPlace : MethodName := ⟨RX0, "bestPlace", "()I"⟩
abbrev cX0_ironedUpper : ByteArray := prog_2_method_11_code
def yX0_ironedUpper : MethodName := ⟨RX0, "ironedUpper", "(I)J"⟩
abbrev cX0_ironedLower : ByteArray := prog_2_method_12_code
def yX0_ironedLower : MethodName := ⟨RX0, "ironedLower", "(I)J"⟩
abbrev cX0_iron : ByteArray := prog_2_method_13_code
def yX0_iron : MethodName := ⟨RX0, "iron", "()V"⟩
abbrev cX0_nextCorner : ByteArray := prog_2_method_14_code
def yX0_nextCorner : MethodName := ⟨RX0, "nextCorner", "(I)I"⟩
def RX1 : String := "DoubtSale"
def TX1 : u_T := fun k => match k with
  | 0 => ("DoubtSale", "book0", "LDoubtSale$Book;", true)
  | 1 => ("DoubtSale", "book1", "LDoubtSale$Book;", true)
  | 2 => ("DoubtSale", "book2", "LDoubtSale$Book;", true)
  | 3 => ("DoubtSale", "samples", "[I", true)
  | 4 => ("DoubtSale", "buyerCount", "I", false)
  | 5 => ("DoubtSale", "sampleCount", "I", false)
  | 6 => ("DoubtSale", "reservePrice", "I", false)
  | _ => ("DoubtSale", "traced", "J", false)
def tyX1 : Nat → FieldType := fun k => match k with
  | 0 => .object "DoubtSale$Book"
  | 1 => .object "DoubtSale$Book"
  | 2 => .object "DoubtSale$Book"
  | 3 => .array .int
  | 4 => .int
  | 5 => .int
  | 6 => .int
  | _ => .long
abbrev wsX10 : List Cond := u_ws RX1 TX1 8
theorem nmX1 : ∀ a, a < 8 → ∀ b, b < 8 → a ≠ b → (TX1 a).2.1 ≠ (TX1 b).2.1 := by decide +kernel
theorem tyX1_ok : ∀ k, k < 8 → parseFieldDescriptor (TX1 k).2.2.1 = some (tyX1 k) := by decide +kernel
abbrev cX1_init : ByteArray := prog_1_method_1_code
def yX1_init : MethodName := ⟨RX1, "<init>", "()V"⟩
abbrev cX1_buyers : ByteArray := prog_1_method_2_code
def yX1_buyers : MethodName := ⟨RX1, "buyers", "(I)I"⟩
abbrev cX1_book : ByteArray := prog_1_method_3_code
def yX1_book : MethodName := ⟨RX1, "book", "(III)I"⟩
abbrev cX1_more : ByteArray := prog_1_method_4_code
def yX1_more : MethodName := ⟨RX1, "more", "(III)I"⟩
abbrev cX1_about : ByteArray := prog_1_method_5_code
def yX1_about : MethodName := ⟨RX1, "about", "(III)I"⟩
abbrev cX1_whole : ByteArray := prog_1_method_6_code
def yX1_whole : MethodName := ⟨RX1, "whole", "(II)I"⟩
abbrev cX1_slope : ByteArray := prog_1_method_7_code
def yX1_slope : MethodName := ⟨RX1, "slope", "(IIZI)J"⟩
abbrev cX1_gets : ByteArray := prog_1_method_8_code
def yX1_gets : MethodName := ⟨RX1, "gets", "(III)I"⟩
abbrev cX1_pays : ByteArray := prog_1_method_9_code
def yX1_pays : MethodName := ⟨RX1, "pays", "(IIII)I"⟩
abbrev cX1_gain : ByteArray := prog_1_method_10_code
def yX1_gain : MethodName := ⟨RX1, "gain", "(IIIII)J"⟩
abbrev cX1_brings : ByteArray := prog_1_method_11_code
def yX1_brings : MethodName := ⟨RX1, "brings", "(I)J"⟩
abbrev cX1_reserve : ByteArray := prog_1_method_12_code
def yX1_reserve : MethodName := ⟨RX1, "reserve", "(I)I"⟩
abbrev cX1_pay : ByteArray := prog_1_method_13_code
def yX1_pay : MethodName := ⟨RX1, "pay", "(IIII)I"⟩
abbrev cX1_average : ByteArray := prog_1_method_14_code
def yX1_average : MethodName := ⟨RX1, "average", "(II)J"⟩
abbrev cX1_offers : ByteArray := prog_1_method_15_code
def yX1_offers : MethodName := ⟨RX1, "offers", "(II)J"⟩
abbrev cX1_bundle : ByteArray := prog_1_method_16_code
def yX1_bundle : MethodName := ⟨RX1, "bundle", "(III)I"⟩
abbrev cX1_sample : ByteArray := prog_1_method_17_code
def yX1_sample : MethodName := ⟨RX1, "sample", "(I)I"⟩
abbrev cX1_clear : ByteArray := prog_1_method_18_code
def yX1_clear : MethodName := ⟨RX1, "clear", "()I"⟩
abbrev cX1_learnt : ByteArray := prog_1_method_19_code
def yX1_learnt : MethodName := ⟨RX1, "learnt", "()I"⟩
abbrev cX1_count : ByteArray := prog_1_method_20_code
def yX1_count : MethodName := ⟨RX1, "count", "(I)I"⟩
abbrev cX1_trace : ByteArray := prog_1_method_21_code
def yX1_trace : MethodName := ⟨RX1, "trace", "()J"⟩
abbrev cX1_isBuyer : ByteArray := prog_1_method_22_code
def yX1_isBuyer : MethodName := ⟨RX1, "isBuyer", "(I)Z"⟩
abbrev cX1_isWorth : ByteArray := prog_1_method_23_code
def yX1_isWorth : MethodName := ⟨RX1, "isWorth", "(I)Z"⟩
abbrev cX1_isWeight : ByteArray := prog_1_method_24_code
def yX1_isWeight : MethodName := ⟨RX1, "isWeight", "(I)Z"⟩
abbrev cX1_isPart : ByteArray := prog_1_method_25_code
def yX1_isPart : MethodName := ⟨RX1, "isPart", "(I)Z"⟩
abbrev cX1_isKind : ByteArray := prog_1_method_26_code
def yX1_isKind : MethodName := ⟨RX1, "isKind", "(I)Z"⟩
abbrev cX1_arePlaces : ByteArray := prog_1_method_27_code
def yX1_arePlaces : MethodName := ⟨RX1, "arePlaces", "(III)Z"⟩
abbrev cX1_areWorths : ByteArray := prog_1_method_28_code
def yX1_areWorths : MethodName := ⟨RX1, "areWorths", "(III)Z"⟩
abbrev cX1_isOrder : ByteArray := prog_1_method_29_code
def yX1_isOrder : MethodName := ⟨RX1, "isOrder", "(I)Z"⟩
abbrev cX1_bookOf : ByteArray := prog_1_method_30_code
def yX1_bookOf : MethodName := ⟨RX1, "bookOf", "(I)LDoubtSale$Book;"⟩
abbrev cX1_pick : ByteArray := prog_1_method_31_code
def yX1_pick : MethodName := ⟨RX1, "pick", "(IIII)I"⟩
abbrev cX1_winner : ByteArray := prog_1_method_32_code
def yX1_winner : MethodName := ⟨RX1, "winner", "(III)I"⟩
abbrev cX1_getsWith : ByteArray := prog_1_method_33_code
def yX1_getsWith : MethodName := ⟨RX1, "getsWith", "(IIIII)Z"⟩
abbrev cX1_leastWinning : ByteArray := prog_1_method_34_code
def yX1_leastWinning : MethodName := ⟨RX1, "leastWinning", "(IIII)I"⟩
abbrev cX1_paidByKind : ByteArray := prog_1_method_35_code
def yX1_paidByKind : MethodName := ⟨RX1, "paidByKind", "(IIII)I"⟩
abbrev cX1_priceOf : ByteArray := prog_1_method_36_code
def yX1_priceOf : MethodName := ⟨RX1, "priceOf", "(II)I"⟩
abbrev cX1_asksOf : ByteArray := prog_1_method_37_code
def yX1_asksOf : MethodName := ⟨RX1, "asksOf", "(I)I"⟩
abbrev cX1_meanPaid : ByteArray := prog_1_method_38_code
def yX1_meanPaid : MethodName := ⟨RX1, "meanPaid", "(II)J"⟩
abbrev cX1_paidAt : ByteArray := prog_1_method_39_code
def yX1_paidAt : MethodName := ⟨RX1, "paidAt", "(IIII)I"⟩
abbrev cX1_leastPart : ByteArray := prog_1_method_40_code
def yX1_leastPart : MethodName := ⟨RX1, "leastPart", "(JJI)J"⟩
abbrev cX1_commonDivisor : ByteArray := prog_1_method_41_code
def yX1_commonDivisor : MethodName := ⟨RX1, "commonDivisor", "(JJ)J"⟩
abbrev cX1_bestOffer : ByteArray := prog_1_method_42_code
def yX1_bestOffer : MethodName := ⟨RX1, "bestOffer", "(LDoubtSale$Book;JJ)I"⟩
abbrev cX1_offerBrings : ByteArray := prog_1_method_43_code
def yX1_offerBrings : MethodName := ⟨RX1, "offerBrings", "(LDoubtSale$Book;IJJ)J"⟩
abbrev cX1_bestSum : ByteArray := prog_1_method_44_code
def yX1_bestSum : MethodName := ⟨RX1, "bestSum", "(LDoubtSale$Book;LDoubtSale$Book;)I"⟩
abbrev cX1_pairsFrom : ByteArray := prog_1_method_45_code
def yX1_pairsFrom : MethodName := ⟨RX1, "pairsFrom", "(LDoubtSale$Book;LDoubtSale$Book;I)I"⟩
abbrev cX1_bothAlone : ByteArray := prog_1_method_46_code
def yX1_bothAlone : MethodName := ⟨RX1, "bothAlone", "(LDoubtSale$Book;LDoubtSale$Book;)I"⟩
abbrev cX1_samplesFrom : ByteArray := prog_1_method_47_code
def yX1_samplesFrom : MethodName := ⟨RX1, "samplesFrom", "(I)I"⟩
def RX2 : String := "DoubtSaleModel"
def TX2 : u_T := fun k => match k with
  | 0 => ("DoubtSaleModel", "thrown", "I", false)
  | 1 => ("DoubtSaleModel", "trace", "J", false)
  | 2 => ("DoubtSaleModel", "n", "I", false)
  | 3 => ("DoubtSaleModel", "many", "[I", true)
  | 4 => ("DoubtSaleModel", "worth", "[I", true)
  | 5 => ("DoubtSaleModel", "weight", "[I", true)
  | 6 => ("DoubtSaleModel", "reserve", "I", false)
  | 7 => ("DoubtSaleModel", "samples", "I", false)
  | 8 => ("DoubtSaleModel", "sample", "[I", true)
  | 9 => ("DoubtSaleModel", "upper", "J", false)
  | 10 => ("DoubtSaleModel", "lower", "J", false)
  | 11 => ("DoubtSaleModel", "place", "[I", true)
  | 12 => ("DoubtSaleModel", "told", "[I", true)
  | _ => ("DoubtSaleModel", "price", "[I", true)
def tyX2 : Nat → FieldType := fun k => match k with
  | 0 => .int
  | 1 => .long
  | 2 => .int
  | 3 => .array .int
  | 4 => .array .int
  | 5 => .array .int
  | 6 => .int
  | 7 => .int
  | 8 => .array .int
  | 9 => .long
  | 10 => .long
  | 11 => .array .int
  | 12 => .array .int
  | _ => .array .int
abbrev wsX20 : List Cond := u_ws RX2 TX2 14
theorem nmX2 : ∀ a, a < 14 → ∀ b, b < 14 → a ≠ b → (TX2 a).2.1 ≠ (TX2 b).2.1 := by decide +kernel
theorem tyX2_ok : ∀ k, k < 14 → parseFieldDescriptor (TX2 k).2.2.1 = some (tyX2 k) := by decide +kernel
abbrev cX2_init : ByteArray := prog_4_method_1_code
def yX2_init : MethodName := ⟨RX2, "<init>", "()V"⟩
abbrev cX2_in : ByteArray := prog_4_method_3_code
def yX2_in : MethodName := ⟨RX2, "in", "(III)Z"⟩
abbrev cX2_renews : ByteArray := prog_4_method_4_code
def yX2_renews : MethodName := ⟨RX2, "renews", "()V"⟩
abbrev cX2_isBuyer : ByteArray := prog_4_method_5_code
def yX2_isBuyer : MethodName := ⟨RX2, "isBuyer", "(I)Z"⟩
abbrev cX2_buyers : ByteArray := prog_4_method_6_code
def yX2_buyers : MethodName := ⟨RX2, "buyers", "(I)I"⟩
abbrev cX2_book : ByteArray := prog_4_method_7_code
def yX2_book : MethodName := ⟨RX2, "book", "(III)I"⟩
abbrev cX2_more : ByteArray := prog_4_method_8_code
def yX2_more : MethodName := ⟨RX2, "more", "(III)I"⟩
abbrev cX2_share : ByteArray := prog_4_method_9_code
def yX2_share : MethodName := ⟨RX2, "share", "(II)I"⟩
abbrev cX2_take : ByteArray := prog_4_method_10_code
def yX2_take : MethodName := ⟨RX2, "take", "(II)I"⟩
abbrev cX2_bestOf : ByteArray := prog_4_method_11_code
def yX2_bestOf : MethodName := ⟨RX2, "bestOf", "(I)I"⟩
abbrev cX2_isPlace : ByteArray := prog_4_method_12_code
def yX2_isPlace : MethodName := ⟨RX2, "isPlace", "(II)Z"⟩
abbrev cX2_about : ByteArray := prog_4_method_13_code
def yX2_about : MethodName := ⟨RX2, "about", "(III)I"⟩
abbrev cX2_whole : ByteArray := prog_4_method_14_code
def yX2_whole : MethodName := ⟨RX2, "whole", "(II)I"⟩
abbrev cX2_irons : ByteArray := prog_4_method_15_code
def yX2_irons : MethodName := ⟨RX2, "irons", "(II)V"⟩
abbrev cX2_common : ByteArray := prog_4_method_16_code
def yX2_common : MethodName := ⟨RX2, "common", "(JJ)J"⟩
abbrev cX2_part : ByteArray := prog_4_method_17_code
def yX2_part : MethodName := ⟨RX2, "part", "(JJI)J"⟩
abbrev cX2_slope : ByteArray := prog_4_method_18_code
def yX2_slope : MethodName := ⟨RX2, "slope", "(IIZI)J"⟩
abbrev cX2_getter : ByteArray := prog_4_method_19_code
def yX2_getter : MethodName := ⟨RX2, "getter", "()I"⟩
abbrev cX2_paid : ByteArray := prog_4_method_20_code
def yX2_paid : MethodName := ⟨RX2, "paid", "(I)I"⟩
abbrev cX2_isPlaces : ByteArray := prog_4_method_21_code
def yX2_isPlaces : MethodName := ⟨RX2, "isPlaces", "(III)Z"⟩
abbrev cX2_gets : ByteArray := prog_4_method_22_code
def yX2_gets : MethodName := ⟨RX2, "gets", "(III)I"⟩
abbrev cX2_pays : ByteArray := prog_4_method_23_code
def yX2_pays : MethodName := ⟨RX2, "pays", "(IIII)I"⟩
abbrev cX2_gain : ByteArray := prog_4_method_24_code
def yX2_gain : MethodName := ⟨RX2, "gain", "(IIIII)J"⟩
abbrev cX2_all : ByteArray := prog_4_method_25_code
def yX2_all : MethodName := ⟨RX2, "all", "()I"⟩
abbrev cX2_comes : ByteArray := prog_4_method_26_code
def yX2_comes : MethodName := ⟨RX2, "comes", "(I)I"⟩
abbrev cX2_brings : ByteArray := prog_4_method_27_code
def yX2_brings : MethodName := ⟨RX2, "brings", "(I)J"⟩
abbrev cX2_reserve : ByteArray := prog_4_method_28_code
def yX2_reserve : MethodName := ⟨RX2, "reserve", "(I)I"⟩
abbrev cX2_payOf : ByteArray := prog_4_method_29_code
def yX2_payOf : MethodName := ⟨RX2, "payOf", "(I)I"⟩
abbrev cX2_pay : ByteArray := prog_4_method_30_code
def yX2_pay : MethodName := ⟨RX2, "pay", "(IIII)I"⟩
abbrev cX2_average : ByteArray := prog_4_method_31_code
def yX2_average : MethodName := ⟨RX2, "average", "(II)J"⟩
abbrev cX2_offers : ByteArray := prog_4_method_32_code
def yX2_offers : MethodName := ⟨RX2, "offers", "(II)J"⟩
abbrev cX2_pairs : ByteArray := prog_4_method_33_code
def yX2_pairs : MethodName := ⟨RX2, "pairs", "(III)I"⟩
abbrev cX2_bundle : ByteArray := prog_4_method_34_code
def yX2_bundle : MethodName := ⟨RX2, "bundle", "(III)I"⟩
abbrev cX2_sample : ByteArray := prog_4_method_35_code
def yX2_sample : MethodName := ⟨RX2, "sample", "(I)I"⟩
abbrev cX2_clear : ByteArray := prog_4_method_36_code
def yX2_clear : MethodName := ⟨RX2, "clear", "()I"⟩
abbrev cX2_learnt : ByteArray := prog_4_method_37_code
def yX2_learnt : MethodName := ⟨RX2, "learnt", "()I"⟩
abbrev cX2_count : ByteArray := prog_4_method_38_code
def yX2_count : MethodName := ⟨RX2, "count", "(I)I"⟩
abbrev cX2_trace : ByteArray := prog_4_method_39_code
def yX2_trace : MethodName := ⟨RX2, "trace", "()J"⟩
def RJ6 : String := "java/lang/Integer"
def TJ6 : u_T := fun k => match k with
  | _ => ("", "", "", false)
def tyJ6 : Nat → FieldType := fun k => match k with
  | _ => .int
abbrev wsJ60 : List Cond := u_ws RJ6 TJ6 0
theorem nmJ6 : ∀ a, a < 0 → ∀ b, b < 0 → a ≠ b → (TJ6 a).2.1 ≠ (TJ6 b).2.1 := by decide +kernel
theorem tyJ6_ok : ∀ k, k < 0 → parseFieldDescriptor (TJ6 k).2.2.1 = some (tyJ6 k) := by decide +kernel
abbrev cJ6_signum_0f7a4 : ByteArray := prog_5_method_56_code
def yJ6_signum_0f7a4 : MethodName := ⟨RJ6, "signum", "(I)I"⟩
def RJ9 : String := "java/lang/Math"
def TJ9 : u_T := fun k => match k with
  | _ => ("", "", "", false)
def tyJ9 : Nat → FieldType := fun k => match k with
  | _ => .int
abbrev wsJ90 : List Cond := u_ws RJ9 TJ9 0
theorem nmJ9 : ∀ a, a < 0 → ∀ b, b < 0 → a ≠ b → (TJ9 a).2.1 ≠ (TJ9 b).2.1 := by decide +kernel
theorem tyJ9_ok : ∀ k, k < 0 → parseFieldDescriptor (TJ9 k).2.2.1 = some (tyJ9 k) := by decide +kernel
abbrev cJ9_abs_067f4 : ByteArray := prog_6_method_61_code
def yJ9_abs_067f4 : MethodName := ⟨RJ9, "abs", "(J)J"⟩
abbrev cJ9_max_7cf53 : ByteArray := prog_6_method_65_code
def yJ9_max_7cf53 : MethodName := ⟨RJ9, "max", "(II)I"⟩
abbrev cJ9_min_7cf53 : ByteArray := prog_6_method_69_code
def yJ9_min_7cf53 : MethodName := ⟨RJ9, "min", "(II)I"⟩
def RL : String := "DoubtSaleLaw"
abbrev cL_law : ByteArray := code
def yL_law : MethodName := ⟨RL, "law", "([I)Z"⟩
def wsX0_worthAt : List Cond := .code yX0_worthAt cX0_worthAt 2 (some .int) :: ([.fieldLink RX0 24 "DoubtSale$Book" "size" "I", .fieldLink RX0 9 "DoubtSale$Book" "worths" "[I"] ++ wsX00)
def wsX0_shareAt : List Cond := .code yX0_shareAt cX0_shareAt 4 (some .int) :: ([.methodLink RX0 35 Lib.Math.max.name, .static Lib.Math.max.name, .initialized "java/lang/Math", .code Lib.Math.max.name Lib.Math.max.code 2 (some .int), .fieldLink RX0 24 "DoubtSale$Book" "size" "I", .fieldLink RX0 15 "DoubtSale$Book" "weights" "[I"] ++ wsX00)
def wsX0_takeAt : List Cond := .code yX0_takeAt cX0_takeAt 2 (some .int) :: ([.methodLink RX0 45 yX0_worthAt, .instanceMethod yX0_worthAt, .selects RX0 yX0_worthAt yX0_worthAt, .initialized RX0, .code yX0_worthAt cX0_worthAt 2 (some .int), .fieldLink RX0 24 "DoubtSale$Book" "size" "I", .fieldLink RX0 9 "DoubtSale$Book" "worths" "[I", .methodLink RX0 41 yX0_shareAt, .instanceMethod yX0_shareAt, .selects RX0 yX0_shareAt yX0_shareAt, .code yX0_shareAt cX0_shareAt 4 (some .int), .methodLink RX0 35 Lib.Math.max.name, .static Lib.Math.max.name, .initialized "java/lang/Math", .code Lib.Math.max.name Lib.Math.max.code 2 (some .int), .fieldLink RX0 15 "DoubtSale$Book" "weights" "[I"] ++ wsX00)
def wsX0_nextCorner : List Cond := .code yX0_nextCorner cX0_nextCorner 12 (some .int) :: ([.methodLink RX0 48 yX0_takeAt, .instanceMethod yX0_takeAt, .selects RX0 yX0_takeAt yX0_takeAt, .initialized RX0, .code yX0_takeAt cX0_takeAt 2 (some .int), .methodLink RX0 45 yX0_worthAt, .instanceMethod yX0_worthAt, .selects RX0 yX0_worthAt yX0_worthAt, .code yX0_worthAt cX0_worthAt 2 (some .int), .fieldLink RX0 24 "DoubtSale$Book" "size" "I", .fieldLink RX0 9 "DoubtSale$Book" "worths" "[I", .methodLink RX0 41 yX0_shareAt, .instanceMethod yX0_shareAt, .selects RX0 yX0_shareAt yX0_shareAt, .code yX0_shareAt cX0_shareAt 4 (some .int), .methodLink RX0 35 Lib.Math.max.name, .static Lib.Math.max.name, .initialized "java/lang/Math", .code Lib.Math.max.name Lib.Math.max.code 2 (some .int), .fieldLink RX0 15 "DoubtSale$Book" "weights" "[I"] ++ wsX00)
def wsX0_iron_r1 : List Cond := [Cond.fieldLink RX0 24 "DoubtSale$Book" "size" "I", Cond.fieldLink RX0 18 "DoubtSale$Book" "uppers" "[I", Cond.fieldLink RX0 21 "DoubtSale$Book" "lowers" "[I", Cond.methodLink RX0 51 yX0_nextCorner, Cond.instanceMethod yX0_nextCorner, Cond.selects RX0 yX0_nextCorner yX0_nextCorner, Cond.initialized RX0, Cond.code yX0_nextCorner cX0_nextCorner 12 (some .int), Cond.methodLink RX0 48 yX0_takeAt, Cond.instanceMethod yX0_takeAt, Cond.selects RX0 yX0_takeAt yX0_takeAt, Cond.code yX0_takeAt cX0_takeAt 2 (some .int), Cond.methodLink RX0 45 yX0_worthAt, Cond.instanceMethod yX0_worthAt, Cond.selects RX0 yX0_worthAt yX0_worthAt, Cond.code yX0_worthAt cX0_worthAt 2 (some .int), Cond.fieldLink RX0 9 "DoubtSale$Book" "worths" "[I", Cond.methodLink RX0 41 yX0_shareAt, Cond.instanceMethod yX0_shareAt, Cond.selects RX0 yX0_shareAt yX0_shareAt, Cond.code yX0_shareAt cX0_shareAt 4 (some .int), Cond.methodLink RX0 35 Lib.Math.max.name, Cond.static Lib.Math.max.name, Cond.initialized "java/lang/Math"]
def wsX0_iron_r2 : List Cond := [Cond.code Lib.Math.max.name Lib.Math.max.code 2 (some .int), Cond.fieldLink RX0 15 "DoubtSale$Book" "weights" "[I"]
def wsX0_iron : List Cond := .code yX0_iron cX0_iron 6 none :: ((wsX0_iron_r1 ++ wsX0_iron_r2) ++ wsX00)
def wsX0_begin_r1 : List Cond := [Cond.fieldLink RX0 9 "DoubtSale$Book" "worths" "[I", Cond.fieldLink RX0 15 "DoubtSale$Book" "weights" "[I", Cond.fieldLink RX0 24 "DoubtSale$Book" "size" "I", Cond.methodLink RX0 32 yX0_iron, Cond.instanceMethod yX0_iron, Cond.selects RX0 yX0_iron yX0_iron, Cond.initialized RX0, Cond.code yX0_iron cX0_iron 6 none, Cond.fieldLink RX0 18 "DoubtSale$Book" "uppers" "[I", Cond.fieldLink RX0 21 "DoubtSale$Book" "lowers" "[I", Cond.methodLink RX0 51 yX0_nextCorner, Cond.instanceMethod yX0_nextCorner, Cond.selects RX0 yX0_nextCorner yX0_nextCorner, Cond.code yX0_nextCorner cX0_nextCorner 12 (some .int), Cond.methodLink RX0 48 yX0_takeAt, Cond.instanceMethod yX0_takeAt, Cond.selects RX0 yX0_takeAt yX0_takeAt, Cond.code yX0_takeAt cX0_takeAt 2 (some .int), Cond.methodLink RX0 45 yX0_worthAt, Cond.instanceMethod yX0_worthAt, Cond.selects RX0 yX0_worthAt yX0_worthAt, Cond.code yX0_worthAt cX0_worthAt 2 (some .int), Cond.methodLink RX0 41 yX0_shareAt, Cond.instanceMethod yX0_shareAt]
def wsX0_begin_r2 : List Cond := [Cond.selects RX0 yX0_shareAt yX0_shareAt, Cond.code yX0_shareAt cX0_shareAt 4 (some .int), Cond.methodLink RX0 35 Lib.Math.max.name, Cond.static Lib.Math.max.name, Cond.initialized "java/lang/Math", Cond.code Lib.Math.max.name Lib.Math.max.code 2 (some .int)]
def wsX0_begin : List Cond := .code yX0_begin cX0_begin 3 none :: ((wsX0_begin_r1 ++ wsX0_begin_r2) ++ wsX00)
def wsX0_init_r1 : List Cond := [Cond.methodLink RX0 3 objectInit, Cond.instanceMethod objectInit, Cond.code objectInit ⟨#[0xb1]⟩ 1 none, Cond.arrayClass .int, Cond.fieldLink RX0 9 "DoubtSale$Book" "worths" "[I", Cond.fieldLink RX0 15 "DoubtSale$Book" "weights" "[I", Cond.fieldLink RX0 18 "DoubtSale$Book" "uppers" "[I", Cond.fieldLink RX0 21 "DoubtSale$Book" "lowers" "[I", Cond.fieldLink RX0 24 "DoubtSale$Book" "size" "I", Cond.methodLink RX0 28 yX0_begin, Cond.instanceMethod yX0_begin, Cond.selects RX0 yX0_begin yX0_begin, Cond.initialized RX0, Cond.code yX0_begin cX0_begin 3 none, Cond.methodLink RX0 32 yX0_iron, Cond.instanceMethod yX0_iron, Cond.selects RX0 yX0_iron yX0_iron, Cond.code yX0_iron cX0_iron 6 none, Cond.methodLink RX0 51 yX0_nextCorner, Cond.instanceMethod yX0_nextCorner, Cond.selects RX0 yX0_nextCorner yX0_nextCorner, Cond.code yX0_nextCorner cX0_nextCorner 12 (some .int), Cond.methodLink RX0 48 yX0_takeAt, Cond.instanceMethod yX0_takeAt]
def wsX0_init_r2 : List Cond := [Cond.selects RX0 yX0_takeAt yX0_takeAt, Cond.code yX0_takeAt cX0_takeAt 2 (some .int), Cond.methodLink RX0 45 yX0_worthAt, Cond.instanceMethod yX0_worthAt, Cond.selects RX0 yX0_worthAt yX0_worthAt, Cond.code yX0_worthAt cX0_worthAt 2 (some .int), Cond.methodLink RX0 41 yX0_shareAt, Cond.instanceMethod yX0_shareAt, Cond.selects RX0 yX0_shareAt yX0_shareAt, Cond.code yX0_shareAt cX0_shareAt 4 (some .int), Cond.methodLink RX0 35 Lib.Math.max.name, Cond.static Lib.Math.max.name, Cond.initialized "java/lang/Math", Cond.code Lib.Math.max.name Lib.Math.max.code 2 (some .int)]
def wsX0_init : List Cond := .code yX0_init cX0_init 1 none :: ((wsX0_init_r1 ++ wsX0_init_r2) ++ wsX00)
def wsX0_add_r1 : List Cond := [Cond.fieldLink RX0 24 "DoubtSale$Book" "size" "I", Cond.fieldLink RX0 9 "DoubtSale$Book" "worths" "[I", Cond.fieldLink RX0 15 "DoubtSale$Book" "weights" "[I", Cond.methodLink RX0 32 yX0_iron, Cond.instanceMethod yX0_iron, Cond.selects RX0 yX0_iron yX0_iron, Cond.initialized RX0, Cond.code yX0_iron cX0_iron 6 none, Cond.fieldLink RX0 18 "DoubtSale$Book" "uppers" "[I", Cond.fieldLink RX0 21 "DoubtSale$Book" "lowers" "[I", Cond.methodLink RX0 51 yX0_nextCorner, Cond.instanceMethod yX0_nextCorner, Cond.selects RX0 yX0_nextCorner yX0_nextCorner, Cond.code yX0_nextCorner cX0_nextCorner 12 (some .int), Cond.methodLink RX0 48 yX0_takeAt, Cond.instanceMethod yX0_takeAt, Cond.selects RX0 yX0_takeAt yX0_takeAt, Cond.code yX0_takeAt cX0_takeAt 2 (some .int), Cond.methodLink RX0 45 yX0_worthAt, Cond.instanceMethod yX0_worthAt, Cond.selects RX0 yX0_worthAt yX0_worthAt, Cond.code yX0_worthAt cX0_worthAt 2 (some .int), Cond.methodLink RX0 41 yX0_shareAt, Cond.instanceMethod yX0_shareAt]
def wsX0_add_r2 : List Cond := [Cond.selects RX0 yX0_shareAt yX0_shareAt, Cond.code yX0_shareAt cX0_shareAt 4 (some .int), Cond.methodLink RX0 35 Lib.Math.max.name, Cond.static Lib.Math.max.name, Cond.initialized "java/lang/Math", Cond.code Lib.Math.max.name Lib.Math.max.code 2 (some .int)]
def wsX0_add : List Cond := .code yX0_add cX0_add 3 none :: ((wsX0_add_r1 ++ wsX0_add_r2) ++ wsX00)
def wsX0_has : List Cond := .code yX0_has cX0_has 2 (some .boolean) :: ([.fieldLink RX0 24 "DoubtSale$Book" "size" "I"] ++ wsX00)
def wsX0_weightAt : List Cond := .code yX0_weightAt cX0_weightAt 2 (some .int) :: ([.fieldLink RX0 24 "DoubtSale$Book" "size" "I", .fieldLink RX0 15 "DoubtSale$Book" "weights" "[I"] ++ wsX00)
def wsX0_allWeights : List Cond := .code yX0_allWeights cX0_allWeights 1 (some .int) :: ([.methodLink RX0 41 yX0_shareAt, .instanceMethod yX0_shareAt, .selects RX0 yX0_shareAt yX0_shareAt, .initialized RX0, .code yX0_shareAt cX0_shareAt 4 (some .int), .methodLink RX0 35 Lib.Math.max.name, .static Lib.Math.max.name, .initialized "java/lang/Math", .code Lib.Math.max.name Lib.Math.max.code 2 (some .int), .fieldLink RX0 24 "DoubtSale$Book" "size" "I", .fieldLink RX0 15 "DoubtSale$Book" "weights" "[I"] ++ wsX00)
def wsX0_bestPlace : List Cond := .code yX0_bestPlace cX0_bestPlace 3 (some .int) :: ([.fieldLink RX0 24 "DoubtSale$Book" "size" "I", .methodLink RX0 48 yX0_takeAt, .instanceMethod yX0_takeAt, .selects RX0 yX0_takeAt yX0_takeAt, .initialized RX0, .code yX0_takeAt cX0_takeAt 2 (some .int), .methodLink RX0 45 yX0_worthAt, .instanceMethod yX0_worthAt, .selects RX0 yX0_worthAt yX0_worthAt, .code yX0_worthAt cX0_worthAt 2 (some .int), .fieldLink RX0 9 "DoubtSale$Book" "worths" "[I", .methodLink RX0 41 yX0_shareAt, .instanceMethod yX0_shareAt, .selects RX0 yX0_shareAt yX0_shareAt, .code yX0_shareAt cX0_shareAt 4 (some .int), .methodLink RX0 35 Lib.Math.max.name, .static Lib.Math.max.name, .initialized "java/lang/Math", .code Lib.Math.max.name Lib.Math.max.code 2 (some .int), .fieldLink RX0 15 "DoubtSale$Book" "weights" "[I"] ++ wsX00)
def wsX0_ironedUpper : List Cond := .code yX0_ironedUpper cX0_ironedUpper 2 (some .long) :: ([.fieldLink RX0 24 "DoubtSale$Book" "size" "I", .fieldLink RX0 18 "DoubtSale$Book" "uppers" "[I"] ++ wsX00)
def wsX0_ironedLower : List Cond := .code yX0_ironedLower cX0_ironedLower 2 (some .long) :: ([.fieldLink RX0 24 "DoubtSale$Book" "size" "I", .fieldLink RX0 21 "DoubtSale$Book" "lowers" "[I"] ++ wsX00)
def wsX1_init_r1 : List Cond := [Cond.methodLink RX1 1 objectInit, Cond.instanceMethod objectInit, Cond.code objectInit ⟨#[0xb1]⟩ 1 none, Cond.classLink RX1 7 RX0, Cond.instantiable RX0 5, Cond.initialized RX0, Cond.fieldLink RX1 10 "DoubtSale" "book0" "LDoubtSale$Book;", Cond.fieldLink RX1 16 "DoubtSale" "book1" "LDoubtSale$Book;", Cond.fieldLink RX1 19 "DoubtSale" "book2" "LDoubtSale$Book;", Cond.arrayClass .int, Cond.fieldLink RX1 22 "DoubtSale" "samples" "[I", Cond.fieldLink RX1 26 "DoubtSale" "buyerCount" "I", Cond.fieldLink RX1 30 "DoubtSale" "sampleCount" "I", Cond.fieldLink RX1 33 "DoubtSale" "reservePrice" "I", Cond.fieldLink RX1 36 "DoubtSale" "traced" "J", Cond.methodLink RX1 9 yX0_init, Cond.instanceMethod yX0_init, Cond.code yX0_init cX0_init 1 none, Cond.methodLink RX0 3 objectInit, Cond.fieldLink RX0 9 "DoubtSale$Book" "worths" "[I", Cond.fieldLink RX0 15 "DoubtSale$Book" "weights" "[I", Cond.fieldLink RX0 18 "DoubtSale$Book" "uppers" "[I", Cond.fieldLink RX0 21 "DoubtSale$Book" "lowers" "[I", Cond.fieldLink RX0 24 "DoubtSale$Book" "size" "I"]
def wsX1_init_r2 : List Cond := [Cond.methodLink RX0 28 yX0_begin, Cond.instanceMethod yX0_begin, Cond.selects RX0 yX0_begin yX0_begin, Cond.code yX0_begin cX0_begin 3 none, Cond.methodLink RX0 32 yX0_iron, Cond.instanceMethod yX0_iron, Cond.selects RX0 yX0_iron yX0_iron, Cond.code yX0_iron cX0_iron 6 none, Cond.methodLink RX0 51 yX0_nextCorner, Cond.instanceMethod yX0_nextCorner, Cond.selects RX0 yX0_nextCorner yX0_nextCorner, Cond.code yX0_nextCorner cX0_nextCorner 12 (some .int), Cond.methodLink RX0 48 yX0_takeAt, Cond.instanceMethod yX0_takeAt, Cond.selects RX0 yX0_takeAt yX0_takeAt, Cond.code yX0_takeAt cX0_takeAt 2 (some .int), Cond.methodLink RX0 45 yX0_worthAt, Cond.instanceMethod yX0_worthAt, Cond.selects RX0 yX0_worthAt yX0_worthAt, Cond.code yX0_worthAt cX0_worthAt 2 (some .int), Cond.methodLink RX0 41 yX0_shareAt, Cond.instanceMethod yX0_shareAt, Cond.selects RX0 yX0_shareAt yX0_shareAt, Cond.code yX0_shareAt cX0_shareAt 4 (some .int)]
def wsX1_init_r3 : List Cond := [Cond.methodLink RX0 35 Lib.Math.max.name, Cond.static Lib.Math.max.name, Cond.initialized "java/lang/Math", Cond.code Lib.Math.max.name Lib.Math.max.code 2 (some .int)]
def wsX1_init : List Cond := .code yX1_init cX1_init 1 none :: ((wsX1_init_r1 ++ (wsX1_init_r2 ++ wsX1_init_r3)) ++ wsX00 ++ wsX10)
def wsX1_buyers_r1 : List Cond := [Cond.fieldLink RX1 26 "DoubtSale" "buyerCount" "I", Cond.fieldLink RX1 10 "DoubtSale" "book0" "LDoubtSale$Book;", Cond.fieldLink RX1 16 "DoubtSale" "book1" "LDoubtSale$Book;", Cond.fieldLink RX1 19 "DoubtSale" "book2" "LDoubtSale$Book;", Cond.methodLink RX1 40 yX0_begin, Cond.instanceMethod yX0_begin, Cond.selects RX0 yX0_begin yX0_begin, Cond.initialized RX0, Cond.code yX0_begin cX0_begin 3 none, Cond.fieldLink RX0 9 "DoubtSale$Book" "worths" "[I", Cond.fieldLink RX0 15 "DoubtSale$Book" "weights" "[I", Cond.fieldLink RX0 24 "DoubtSale$Book" "size" "I", Cond.methodLink RX0 32 yX0_iron, Cond.instanceMethod yX0_iron, Cond.selects RX0 yX0_iron yX0_iron, Cond.code yX0_iron cX0_iron 6 none, Cond.fieldLink RX0 18 "DoubtSale$Book" "uppers" "[I", Cond.fieldLink RX0 21 "DoubtSale$Book" "lowers" "[I", Cond.methodLink RX0 51 yX0_nextCorner, Cond.instanceMethod yX0_nextCorner, Cond.selects RX0 yX0_nextCorner yX0_nextCorner, Cond.code yX0_nextCorner cX0_nextCorner 12 (some .int), Cond.methodLink RX0 48 yX0_takeAt, Cond.instanceMethod yX0_takeAt]
def wsX1_buyers_r2 : List Cond := [Cond.selects RX0 yX0_takeAt yX0_takeAt, Cond.code yX0_takeAt cX0_takeAt 2 (some .int), Cond.methodLink RX0 45 yX0_worthAt, Cond.instanceMethod yX0_worthAt, Cond.selects RX0 yX0_worthAt yX0_worthAt, Cond.code yX0_worthAt cX0_worthAt 2 (some .int), Cond.methodLink RX0 41 yX0_shareAt, Cond.instanceMethod yX0_shareAt, Cond.selects RX0 yX0_shareAt yX0_shareAt, Cond.code yX0_shareAt cX0_shareAt 4 (some .int), Cond.methodLink RX0 35 Lib.Math.max.name, Cond.static Lib.Math.max.name, Cond.initialized "java/lang/Math", Cond.code Lib.Math.max.name Lib.Math.max.code 2 (some .int)]
def wsX1_buyers : List Cond := .code yX1_buyers cX1_buyers 3 (some .int) :: ((wsX1_buyers_r1 ++ wsX1_buyers_r2) ++ wsX10 ++ wsX00)
def wsX1_isBuyer : List Cond := .code yX1_isBuyer cX1_isBuyer 2 (some .boolean) :: ([.fieldLink RX1 26 "DoubtSale" "buyerCount" "I"] ++ wsX10)
def wsX1_isWorth : List Cond := .code yX1_isWorth cX1_isWorth 1 (some .boolean) :: ([])
def wsX1_isWeight : List Cond := .code yX1_isWeight cX1_isWeight 1 (some .boolean) :: ([])
def wsX1_bookOf : List Cond := .code yX1_bookOf cX1_bookOf 2 (some (.object "DoubtSale$Book")) :: ([.fieldLink RX1 10 "DoubtSale" "book0" "LDoubtSale$Book;", .fieldLink RX1 16 "DoubtSale" "book1" "LDoubtSale$Book;", .fieldLink RX1 19 "DoubtSale" "book2" "LDoubtSale$Book;"] ++ wsX10)
def wsX1_book_r1 : List Cond := [Cond.methodLink RX1 44 yX1_isBuyer, Cond.instanceMethod yX1_isBuyer, Cond.selects RX1 yX1_isBuyer yX1_isBuyer, Cond.initialized RX1, Cond.code yX1_isBuyer cX1_isBuyer 2 (some .boolean), Cond.fieldLink RX1 26 "DoubtSale" "buyerCount" "I", Cond.methodLink RX1 48 yX1_isWorth, Cond.static yX1_isWorth, Cond.code yX1_isWorth cX1_isWorth 1 (some .boolean), Cond.methodLink RX1 51 yX1_isWeight, Cond.static yX1_isWeight, Cond.code yX1_isWeight cX1_isWeight 1 (some .boolean), Cond.methodLink RX1 54 yX1_bookOf, Cond.instanceMethod yX1_bookOf, Cond.selects RX1 yX1_bookOf yX1_bookOf, Cond.code yX1_bookOf cX1_bookOf 2 (some (.object "DoubtSale$Book")), Cond.fieldLink RX1 10 "DoubtSale" "book0" "LDoubtSale$Book;", Cond.fieldLink RX1 16 "DoubtSale" "book1" "LDoubtSale$Book;", Cond.fieldLink RX1 19 "DoubtSale" "book2" "LDoubtSale$Book;", Cond.methodLink RX1 40 yX0_begin, Cond.instanceMethod yX0_begin, Cond.selects RX0 yX0_begin yX0_begin, Cond.initialized RX0, Cond.code yX0_begin cX0_begin 3 none]
def wsX1_book_r2 : List Cond := [Cond.fieldLink RX0 9 "DoubtSale$Book" "worths" "[I", Cond.fieldLink RX0 15 "DoubtSale$Book" "weights" "[I", Cond.fieldLink RX0 24 "DoubtSale$Book" "size" "I", Cond.methodLink RX0 32 yX0_iron, Cond.instanceMethod yX0_iron, Cond.selects RX0 yX0_iron yX0_iron, Cond.code yX0_iron cX0_iron 6 none, Cond.fieldLink RX0 18 "DoubtSale$Book" "uppers" "[I", Cond.fieldLink RX0 21 "DoubtSale$Book" "lowers" "[I", Cond.methodLink RX0 51 yX0_nextCorner, Cond.instanceMethod yX0_nextCorner, Cond.selects RX0 yX0_nextCorner yX0_nextCorner, Cond.code yX0_nextCorner cX0_nextCorner 12 (some .int), Cond.methodLink RX0 48 yX0_takeAt, Cond.instanceMethod yX0_takeAt, Cond.selects RX0 yX0_takeAt yX0_takeAt, Cond.code yX0_takeAt cX0_takeAt 2 (some .int), Cond.methodLink RX0 45 yX0_worthAt, Cond.instanceMethod yX0_worthAt, Cond.selects RX0 yX0_worthAt yX0_worthAt, Cond.code yX0_worthAt cX0_worthAt 2 (some .int), Cond.methodLink RX0 41 yX0_shareAt, Cond.instanceMethod yX0_shareAt, Cond.selects RX0 yX0_shareAt yX0_shareAt]
def wsX1_book_r3 : List Cond := [Cond.code yX0_shareAt cX0_shareAt 4 (some .int), Cond.methodLink RX0 35 Lib.Math.max.name, Cond.static Lib.Math.max.name, Cond.initialized "java/lang/Math", Cond.code Lib.Math.max.name Lib.Math.max.code 2 (some .int)]
def wsX1_book : List Cond := .code yX1_book cX1_book 5 (some .int) :: ((wsX1_book_r1 ++ (wsX1_book_r2 ++ wsX1_book_r3)) ++ wsX00 ++ wsX10)
def wsX1_more_r1 : List Cond := [Cond.methodLink RX1 44 yX1_isBuyer, Cond.instanceMethod yX1_isBuyer, Cond.selects RX1 yX1_isBuyer yX1_isBuyer, Cond.initialized RX1, Cond.code yX1_isBuyer cX1_isBuyer 2 (some .boolean), Cond.fieldLink RX1 26 "DoubtSale" "buyerCount" "I", Cond.methodLink RX1 48 yX1_isWorth, Cond.static yX1_isWorth, Cond.code yX1_isWorth cX1_isWorth 1 (some .boolean), Cond.methodLink RX1 51 yX1_isWeight, Cond.static yX1_isWeight, Cond.code yX1_isWeight cX1_isWeight 1 (some .boolean), Cond.methodLink RX1 54 yX1_bookOf, Cond.instanceMethod yX1_bookOf, Cond.selects RX1 yX1_bookOf yX1_bookOf, Cond.code yX1_bookOf cX1_bookOf 2 (some (.object "DoubtSale$Book")), Cond.fieldLink RX1 10 "DoubtSale" "book0" "LDoubtSale$Book;", Cond.fieldLink RX1 16 "DoubtSale" "book1" "LDoubtSale$Book;", Cond.fieldLink RX1 19 "DoubtSale" "book2" "LDoubtSale$Book;", Cond.methodLink RX1 61 yX0_worthAt, Cond.instanceMethod yX0_worthAt, Cond.selects RX0 yX0_worthAt yX0_worthAt, Cond.initialized RX0, Cond.code yX0_worthAt cX0_worthAt 2 (some .int)]
def wsX1_more_r2 : List Cond := [Cond.fieldLink RX0 24 "DoubtSale$Book" "size" "I", Cond.fieldLink RX0 9 "DoubtSale$Book" "worths" "[I", Cond.methodLink RX1 65 yX0_add, Cond.instanceMethod yX0_add, Cond.selects RX0 yX0_add yX0_add, Cond.code yX0_add cX0_add 3 none, Cond.fieldLink RX0 15 "DoubtSale$Book" "weights" "[I", Cond.methodLink RX0 32 yX0_iron, Cond.instanceMethod yX0_iron, Cond.selects RX0 yX0_iron yX0_iron, Cond.code yX0_iron cX0_iron 6 none, Cond.fieldLink RX0 18 "DoubtSale$Book" "uppers" "[I", Cond.fieldLink RX0 21 "DoubtSale$Book" "lowers" "[I", Cond.methodLink RX0 51 yX0_nextCorner, Cond.instanceMethod yX0_nextCorner, Cond.selects RX0 yX0_nextCorner yX0_nextCorner, Cond.code yX0_nextCorner cX0_nextCorner 12 (some .int), Cond.methodLink RX0 48 yX0_takeAt, Cond.instanceMethod yX0_takeAt, Cond.selects RX0 yX0_takeAt yX0_takeAt, Cond.code yX0_takeAt cX0_takeAt 2 (some .int), Cond.methodLink RX0 45 yX0_worthAt, Cond.methodLink RX0 41 yX0_shareAt, Cond.instanceMethod yX0_shareAt]
def wsX1_more_r3 : List Cond := [Cond.selects RX0 yX0_shareAt yX0_shareAt, Cond.code yX0_shareAt cX0_shareAt 4 (some .int), Cond.methodLink RX0 35 Lib.Math.max.name, Cond.static Lib.Math.max.name, Cond.initialized "java/lang/Math", Cond.code Lib.Math.max.name Lib.Math.max.code 2 (some .int)]
def wsX1_more : List Cond := .code yX1_more cX1_more 5 (some .int) :: ((wsX1_more_r1 ++ (wsX1_more_r2 ++ wsX1_more_r3)) ++ wsX00 ++ wsX10)
def wsX1_about_r1 : List Cond := [Cond.methodLink RX1 44 yX1_isBuyer, Cond.instanceMethod yX1_isBuyer, Cond.selects RX1 yX1_isBuyer yX1_isBuyer, Cond.initialized RX1, Cond.code yX1_isBuyer cX1_isBuyer 2 (some .boolean), Cond.fieldLink RX1 26 "DoubtSale" "buyerCount" "I", Cond.methodLink RX1 54 yX1_bookOf, Cond.instanceMethod yX1_bookOf, Cond.selects RX1 yX1_bookOf yX1_bookOf, Cond.code yX1_bookOf cX1_bookOf 2 (some (.object "DoubtSale$Book")), Cond.fieldLink RX1 10 "DoubtSale" "book0" "LDoubtSale$Book;", Cond.fieldLink RX1 16 "DoubtSale" "book1" "LDoubtSale$Book;", Cond.fieldLink RX1 19 "DoubtSale" "book2" "LDoubtSale$Book;", Cond.methodLink RX1 68 yX0_has, Cond.instanceMethod yX0_has, Cond.selects RX0 yX0_has yX0_has, Cond.initialized RX0, Cond.code yX0_has cX0_has 2 (some .boolean), Cond.fieldLink RX0 24 "DoubtSale$Book" "size" "I", Cond.methodLink RX1 61 yX0_worthAt, Cond.instanceMethod yX0_worthAt, Cond.selects RX0 yX0_worthAt yX0_worthAt, Cond.code yX0_worthAt cX0_worthAt 2 (some .int), Cond.fieldLink RX0 9 "DoubtSale$Book" "worths" "[I"]
def wsX1_about_r2 : List Cond := [Cond.methodLink RX1 71 yX0_weightAt, Cond.instanceMethod yX0_weightAt, Cond.selects RX0 yX0_weightAt yX0_weightAt, Cond.code yX0_weightAt cX0_weightAt 2 (some .int), Cond.fieldLink RX0 15 "DoubtSale$Book" "weights" "[I", Cond.methodLink RX1 74 yX0_shareAt, Cond.instanceMethod yX0_shareAt, Cond.selects RX0 yX0_shareAt yX0_shareAt, Cond.code yX0_shareAt cX0_shareAt 4 (some .int), Cond.methodLink RX0 35 Lib.Math.max.name, Cond.static Lib.Math.max.name, Cond.initialized "java/lang/Math", Cond.code Lib.Math.max.name Lib.Math.max.code 2 (some .int), Cond.methodLink RX1 77 yX0_takeAt, Cond.instanceMethod yX0_takeAt, Cond.selects RX0 yX0_takeAt yX0_takeAt, Cond.code yX0_takeAt cX0_takeAt 2 (some .int), Cond.methodLink RX0 45 yX0_worthAt, Cond.methodLink RX0 41 yX0_shareAt]
def wsX1_about : List Cond := .code yX1_about cX1_about 5 (some .int) :: ((wsX1_about_r1 ++ wsX1_about_r2) ++ wsX10 ++ wsX00)
def wsX1_whole_r1 : List Cond := [Cond.methodLink RX1 44 yX1_isBuyer, Cond.instanceMethod yX1_isBuyer, Cond.selects RX1 yX1_isBuyer yX1_isBuyer, Cond.initialized RX1, Cond.code yX1_isBuyer cX1_isBuyer 2 (some .boolean), Cond.fieldLink RX1 26 "DoubtSale" "buyerCount" "I", Cond.methodLink RX1 54 yX1_bookOf, Cond.instanceMethod yX1_bookOf, Cond.selects RX1 yX1_bookOf yX1_bookOf, Cond.code yX1_bookOf cX1_bookOf 2 (some (.object "DoubtSale$Book")), Cond.fieldLink RX1 10 "DoubtSale" "book0" "LDoubtSale$Book;", Cond.fieldLink RX1 16 "DoubtSale" "book1" "LDoubtSale$Book;", Cond.fieldLink RX1 19 "DoubtSale" "book2" "LDoubtSale$Book;", Cond.methodLink RX1 80 yX0_allWeights, Cond.instanceMethod yX0_allWeights, Cond.selects RX0 yX0_allWeights yX0_allWeights, Cond.initialized RX0, Cond.code yX0_allWeights cX0_allWeights 1 (some .int), Cond.methodLink RX0 41 yX0_shareAt, Cond.instanceMethod yX0_shareAt, Cond.selects RX0 yX0_shareAt yX0_shareAt, Cond.code yX0_shareAt cX0_shareAt 4 (some .int), Cond.methodLink RX0 35 Lib.Math.max.name, Cond.static Lib.Math.max.name]
def wsX1_whole_r2 : List Cond := [Cond.initialized "java/lang/Math", Cond.code Lib.Math.max.name Lib.Math.max.code 2 (some .int), Cond.fieldLink RX0 24 "DoubtSale$Book" "size" "I", Cond.fieldLink RX0 15 "DoubtSale$Book" "weights" "[I", Cond.methodLink RX1 84 yX0_bestPlace, Cond.instanceMethod yX0_bestPlace, Cond.selects RX0 yX0_bestPlace yX0_bestPlace, Cond.code yX0_bestPlace cX0_bestPlace 3 (some .int), Cond.methodLink RX0 48 yX0_takeAt, Cond.instanceMethod yX0_takeAt, Cond.selects RX0 yX0_takeAt yX0_takeAt, Cond.code yX0_takeAt cX0_takeAt 2 (some .int), Cond.methodLink RX0 45 yX0_worthAt, Cond.instanceMethod yX0_worthAt, Cond.selects RX0 yX0_worthAt yX0_worthAt, Cond.code yX0_worthAt cX0_worthAt 2 (some .int), Cond.fieldLink RX0 9 "DoubtSale$Book" "worths" "[I"]
def wsX1_whole : List Cond := .code yX1_whole cX1_whole 4 (some .int) :: ((wsX1_whole_r1 ++ wsX1_whole_r2) ++ wsX00 ++ wsX10)
def wsX1_isPart : List Cond := .code yX1_isPart cX1_isPart 1 (some .boolean) :: ([])
def wsX1_commonDivisor : List Cond := .code yX1_commonDivisor cX1_commonDivisor 11 (some .long) :: ([])
def wsX1_leastPart : List Cond := .code yX1_leastPart cX1_leastPart 7 (some .long) :: ([.methodLink RX1 185 Lib.MathLoose.abs_long.x, .static Lib.MathLoose.abs_long.x, .initialized "java/lang/Math", .code Lib.MathLoose.abs_long.x Lib.MathLoose.abs_long.code 2 (some .long), .constantLong RX1 90 (-1000000000000000), .methodLink RX1 189 yX1_commonDivisor, .static yX1_commonDivisor, .initialized RX1, .code yX1_commonDivisor cX1_commonDivisor 11 (some .long)])
def wsX1_slope_r1 : List Cond := [Cond.constantLong RX1 90 (-1000000000000000), Cond.methodLink RX1 44 yX1_isBuyer, Cond.instanceMethod yX1_isBuyer, Cond.selects RX1 yX1_isBuyer yX1_isBuyer, Cond.initialized RX1, Cond.code yX1_isBuyer cX1_isBuyer 2 (some .boolean), Cond.fieldLink RX1 26 "DoubtSale" "buyerCount" "I", Cond.methodLink RX1 54 yX1_bookOf, Cond.instanceMethod yX1_bookOf, Cond.selects RX1 yX1_bookOf yX1_bookOf, Cond.code yX1_bookOf cX1_bookOf 2 (some (.object "DoubtSale$Book")), Cond.fieldLink RX1 10 "DoubtSale" "book0" "LDoubtSale$Book;", Cond.fieldLink RX1 16 "DoubtSale" "book1" "LDoubtSale$Book;", Cond.fieldLink RX1 19 "DoubtSale" "book2" "LDoubtSale$Book;", Cond.methodLink RX1 68 yX0_has, Cond.instanceMethod yX0_has, Cond.selects RX0 yX0_has yX0_has, Cond.initialized RX0, Cond.code yX0_has cX0_has 2 (some .boolean), Cond.fieldLink RX0 24 "DoubtSale$Book" "size" "I", Cond.methodLink RX1 87 yX1_isPart, Cond.static yX1_isPart, Cond.code yX1_isPart cX1_isPart 1 (some .boolean), Cond.methodLink RX1 92 yX0_ironedUpper]
def wsX1_slope_r2 : List Cond := [Cond.instanceMethod yX0_ironedUpper, Cond.selects RX0 yX0_ironedUpper yX0_ironedUpper, Cond.code yX0_ironedUpper cX0_ironedUpper 2 (some .long), Cond.fieldLink RX0 18 "DoubtSale$Book" "uppers" "[I", Cond.methodLink RX1 96 yX0_ironedLower, Cond.instanceMethod yX0_ironedLower, Cond.selects RX0 yX0_ironedLower yX0_ironedLower, Cond.code yX0_ironedLower cX0_ironedLower 2 (some .long), Cond.fieldLink RX0 21 "DoubtSale$Book" "lowers" "[I", Cond.methodLink RX1 99 yX1_leastPart, Cond.static yX1_leastPart, Cond.code yX1_leastPart cX1_leastPart 7 (some .long), Cond.methodLink RX1 185 Lib.MathLoose.abs_long.x, Cond.static Lib.MathLoose.abs_long.x, Cond.initialized "java/lang/Math", Cond.code Lib.MathLoose.abs_long.x Lib.MathLoose.abs_long.code 2 (some .long), Cond.methodLink RX1 189 yX1_commonDivisor, Cond.static yX1_commonDivisor, Cond.code yX1_commonDivisor cX1_commonDivisor 11 (some .long), Cond.methodLink RX1 77 yX0_takeAt, Cond.instanceMethod yX0_takeAt, Cond.selects RX0 yX0_takeAt yX0_takeAt, Cond.code yX0_takeAt cX0_takeAt 2 (some .int), Cond.methodLink RX0 45 yX0_worthAt]
def wsX1_slope_r3 : List Cond := [Cond.instanceMethod yX0_worthAt, Cond.selects RX0 yX0_worthAt yX0_worthAt, Cond.code yX0_worthAt cX0_worthAt 2 (some .int), Cond.fieldLink RX0 9 "DoubtSale$Book" "worths" "[I", Cond.methodLink RX0 41 yX0_shareAt, Cond.instanceMethod yX0_shareAt, Cond.selects RX0 yX0_shareAt yX0_shareAt, Cond.code yX0_shareAt cX0_shareAt 4 (some .int), Cond.methodLink RX0 35 Lib.Math.max.name, Cond.static Lib.Math.max.name, Cond.code Lib.Math.max.name Lib.Math.max.code 2 (some .int), Cond.fieldLink RX0 15 "DoubtSale$Book" "weights" "[I", Cond.methodLink RX1 71 yX0_weightAt, Cond.instanceMethod yX0_weightAt, Cond.selects RX0 yX0_weightAt yX0_weightAt, Cond.code yX0_weightAt cX0_weightAt 2 (some .int)]
def wsX1_slope : List Cond := .code yX1_slope cX1_slope 6 (some .long) :: ((wsX1_slope_r1 ++ (wsX1_slope_r2 ++ wsX1_slope_r3)) ++ wsX10 ++ wsX00)
def wsX1_pick : List Cond := .code yX1_pick cX1_pick 4 (some .int) :: ([])
def wsX1_arePlaces : List Cond := .code yX1_arePlaces cX1_arePlaces 5 (some .boolean) :: ([.fieldLink RX1 26 "DoubtSale" "buyerCount" "I", .methodLink RX1 54 yX1_bookOf, .instanceMethod yX1_bookOf, .selects RX1 yX1_bookOf yX1_bookOf, .initialized RX1, .code yX1_bookOf cX1_bookOf 2 (some (.object "DoubtSale$Book")), .fieldLink RX1 10 "DoubtSale" "book0" "LDoubtSale$Book;", .fieldLink RX1 16 "DoubtSale" "book1" "LDoubtSale$Book;", .fieldLink RX1 19 "DoubtSale" "book2" "LDoubtSale$Book;", .methodLink RX1 119 yX1_pick, .static yX1_pick, .code yX1_pick cX1_pick 4 (some .int), .methodLink RX1 68 yX0_has, .instanceMethod yX0_has, .selects RX0 yX0_has yX0_has, .initialized RX0, .code yX0_has cX0_has 2 (some .boolean), .fieldLink RX0 24 "DoubtSale$Book" "size" "I"] ++ wsX10 ++ wsX00)
def wsX1_winner : List Cond := .code yX1_winner cX1_winner 15 (some .int) :: ([.fieldLink RX1 26 "DoubtSale" "buyerCount" "I", .methodLink RX1 119 yX1_pick, .static yX1_pick, .initialized RX1, .code yX1_pick cX1_pick 4 (some .int), .methodLink RX1 54 yX1_bookOf, .instanceMethod yX1_bookOf, .selects RX1 yX1_bookOf yX1_bookOf, .code yX1_bookOf cX1_bookOf 2 (some (.object "DoubtSale$Book")), .fieldLink RX1 10 "DoubtSale" "book0" "LDoubtSale$Book;", .fieldLink RX1 16 "DoubtSale" "book1" "LDoubtSale$Book;", .fieldLink RX1 19 "DoubtSale" "book2" "LDoubtSale$Book;", .methodLink RX1 92 yX0_ironedUpper, .instanceMethod yX0_ironedUpper, .selects RX0 yX0_ironedUpper yX0_ironedUpper, .initialized RX0, .code yX0_ironedUpper cX0_ironedUpper 2 (some .long), .fieldLink RX0 24 "DoubtSale$Book" "size" "I", .fieldLink RX0 18 "DoubtSale$Book" "uppers" "[I", .methodLink RX1 96 yX0_ironedLower, .instanceMethod yX0_ironedLower, .selects RX0 yX0_ironedLower yX0_ironedLower, .code yX0_ironedLower cX0_ironedLower 2 (some .long), .fieldLink RX0 21 "DoubtSale$Book" "lowers" "[I"] ++ wsX10 ++ wsX00)
def wsX1_gets_r1 : List Cond := [Cond.methodLink RX1 103 yX1_arePlaces, Cond.instanceMethod yX1_arePlaces, Cond.selects RX1 yX1_arePlaces yX1_arePlaces, Cond.initialized RX1, Cond.code yX1_arePlaces cX1_arePlaces 5 (some .boolean), Cond.fieldLink RX1 26 "DoubtSale" "buyerCount" "I", Cond.methodLink RX1 54 yX1_bookOf, Cond.instanceMethod yX1_bookOf, Cond.selects RX1 yX1_bookOf yX1_bookOf, Cond.code yX1_bookOf cX1_bookOf 2 (some (.object "DoubtSale$Book")), Cond.fieldLink RX1 10 "DoubtSale" "book0" "LDoubtSale$Book;", Cond.fieldLink RX1 16 "DoubtSale" "book1" "LDoubtSale$Book;", Cond.fieldLink RX1 19 "DoubtSale" "book2" "LDoubtSale$Book;", Cond.methodLink RX1 119 yX1_pick, Cond.static yX1_pick, Cond.code yX1_pick cX1_pick 4 (some .int), Cond.methodLink RX1 68 yX0_has, Cond.instanceMethod yX0_has, Cond.selects RX0 yX0_has yX0_has, Cond.initialized RX0, Cond.code yX0_has cX0_has 2 (some .boolean), Cond.fieldLink RX0 24 "DoubtSale$Book" "size" "I", Cond.methodLink RX1 107 yX1_winner, Cond.instanceMethod yX1_winner]
def wsX1_gets_r2 : List Cond := [Cond.selects RX1 yX1_winner yX1_winner, Cond.code yX1_winner cX1_winner 15 (some .int), Cond.methodLink RX1 92 yX0_ironedUpper, Cond.instanceMethod yX0_ironedUpper, Cond.selects RX0 yX0_ironedUpper yX0_ironedUpper, Cond.code yX0_ironedUpper cX0_ironedUpper 2 (some .long), Cond.fieldLink RX0 18 "DoubtSale$Book" "uppers" "[I", Cond.methodLink RX1 96 yX0_ironedLower, Cond.instanceMethod yX0_ironedLower, Cond.selects RX0 yX0_ironedLower yX0_ironedLower, Cond.code yX0_ironedLower cX0_ironedLower 2 (some .long), Cond.fieldLink RX0 21 "DoubtSale$Book" "lowers" "[I"]
def wsX1_gets : List Cond := .code yX1_gets cX1_gets 4 (some .int) :: ((wsX1_gets_r1 ++ wsX1_gets_r2) ++ wsX10 ++ wsX00)
def wsX1_getsWith_r1 : List Cond := [Cond.methodLink RX1 107 yX1_winner, Cond.instanceMethod yX1_winner, Cond.selects RX1 yX1_winner yX1_winner, Cond.initialized RX1, Cond.code yX1_winner cX1_winner 15 (some .int), Cond.fieldLink RX1 26 "DoubtSale" "buyerCount" "I", Cond.methodLink RX1 119 yX1_pick, Cond.static yX1_pick, Cond.code yX1_pick cX1_pick 4 (some .int), Cond.methodLink RX1 54 yX1_bookOf, Cond.instanceMethod yX1_bookOf, Cond.selects RX1 yX1_bookOf yX1_bookOf, Cond.code yX1_bookOf cX1_bookOf 2 (some (.object "DoubtSale$Book")), Cond.fieldLink RX1 10 "DoubtSale" "book0" "LDoubtSale$Book;", Cond.fieldLink RX1 16 "DoubtSale" "book1" "LDoubtSale$Book;", Cond.fieldLink RX1 19 "DoubtSale" "book2" "LDoubtSale$Book;", Cond.methodLink RX1 92 yX0_ironedUpper, Cond.instanceMethod yX0_ironedUpper, Cond.selects RX0 yX0_ironedUpper yX0_ironedUpper, Cond.initialized RX0, Cond.code yX0_ironedUpper cX0_ironedUpper 2 (some .long), Cond.fieldLink RX0 24 "DoubtSale$Book" "size" "I", Cond.fieldLink RX0 18 "DoubtSale$Book" "uppers" "[I", Cond.methodLink RX1 96 yX0_ironedLower]
def wsX1_getsWith_r2 : List Cond := [Cond.instanceMethod yX0_ironedLower, Cond.selects RX0 yX0_ironedLower yX0_ironedLower, Cond.code yX0_ironedLower cX0_ironedLower 2 (some .long), Cond.fieldLink RX0 21 "DoubtSale$Book" "lowers" "[I"]
def wsX1_getsWith : List Cond := .code yX1_getsWith cX1_getsWith 6 (some .boolean) :: ((wsX1_getsWith_r1 ++ wsX1_getsWith_r2) ++ wsX10 ++ wsX00)
def wsX1_leastWinning_r1 : List Cond := [Cond.methodLink RX1 54 yX1_bookOf, Cond.instanceMethod yX1_bookOf, Cond.selects RX1 yX1_bookOf yX1_bookOf, Cond.initialized RX1, Cond.code yX1_bookOf cX1_bookOf 2 (some (.object "DoubtSale$Book")), Cond.fieldLink RX1 10 "DoubtSale" "book0" "LDoubtSale$Book;", Cond.fieldLink RX1 16 "DoubtSale" "book1" "LDoubtSale$Book;", Cond.fieldLink RX1 19 "DoubtSale" "book2" "LDoubtSale$Book;", Cond.methodLink RX1 115 yX1_getsWith, Cond.instanceMethod yX1_getsWith, Cond.selects RX1 yX1_getsWith yX1_getsWith, Cond.code yX1_getsWith cX1_getsWith 6 (some .boolean), Cond.methodLink RX1 107 yX1_winner, Cond.instanceMethod yX1_winner, Cond.selects RX1 yX1_winner yX1_winner, Cond.code yX1_winner cX1_winner 15 (some .int), Cond.fieldLink RX1 26 "DoubtSale" "buyerCount" "I", Cond.methodLink RX1 119 yX1_pick, Cond.static yX1_pick, Cond.code yX1_pick cX1_pick 4 (some .int), Cond.methodLink RX1 92 yX0_ironedUpper, Cond.instanceMethod yX0_ironedUpper, Cond.selects RX0 yX0_ironedUpper yX0_ironedUpper, Cond.initialized RX0]
def wsX1_leastWinning_r2 : List Cond := [Cond.code yX0_ironedUpper cX0_ironedUpper 2 (some .long), Cond.fieldLink RX0 24 "DoubtSale$Book" "size" "I", Cond.fieldLink RX0 18 "DoubtSale$Book" "uppers" "[I", Cond.methodLink RX1 96 yX0_ironedLower, Cond.instanceMethod yX0_ironedLower, Cond.selects RX0 yX0_ironedLower yX0_ironedLower, Cond.code yX0_ironedLower cX0_ironedLower 2 (some .long), Cond.fieldLink RX0 21 "DoubtSale$Book" "lowers" "[I", Cond.methodLink RX1 61 yX0_worthAt, Cond.instanceMethod yX0_worthAt, Cond.selects RX0 yX0_worthAt yX0_worthAt, Cond.code yX0_worthAt cX0_worthAt 2 (some .int), Cond.fieldLink RX0 9 "DoubtSale$Book" "worths" "[I"]
def wsX1_leastWinning : List Cond := .code yX1_leastWinning cX1_leastWinning 7 (some .int) :: ((wsX1_leastWinning_r1 ++ wsX1_leastWinning_r2) ++ wsX00 ++ wsX10)
def wsX1_pays_r1 : List Cond := [Cond.methodLink RX1 103 yX1_arePlaces, Cond.instanceMethod yX1_arePlaces, Cond.selects RX1 yX1_arePlaces yX1_arePlaces, Cond.initialized RX1, Cond.code yX1_arePlaces cX1_arePlaces 5 (some .boolean), Cond.fieldLink RX1 26 "DoubtSale" "buyerCount" "I", Cond.methodLink RX1 54 yX1_bookOf, Cond.instanceMethod yX1_bookOf, Cond.selects RX1 yX1_bookOf yX1_bookOf, Cond.code yX1_bookOf cX1_bookOf 2 (some (.object "DoubtSale$Book")), Cond.fieldLink RX1 10 "DoubtSale" "book0" "LDoubtSale$Book;", Cond.fieldLink RX1 16 "DoubtSale" "book1" "LDoubtSale$Book;", Cond.fieldLink RX1 19 "DoubtSale" "book2" "LDoubtSale$Book;", Cond.methodLink RX1 119 yX1_pick, Cond.static yX1_pick, Cond.code yX1_pick cX1_pick 4 (some .int), Cond.methodLink RX1 68 yX0_has, Cond.instanceMethod yX0_has, Cond.selects RX0 yX0_has yX0_has, Cond.initialized RX0, Cond.code yX0_has cX0_has 2 (some .boolean), Cond.fieldLink RX0 24 "DoubtSale$Book" "size" "I", Cond.methodLink RX1 44 yX1_isBuyer, Cond.instanceMethod yX1_isBuyer]
def wsX1_pays_r2 : List Cond := [Cond.selects RX1 yX1_isBuyer yX1_isBuyer, Cond.code yX1_isBuyer cX1_isBuyer 2 (some .boolean), Cond.methodLink RX1 107 yX1_winner, Cond.instanceMethod yX1_winner, Cond.selects RX1 yX1_winner yX1_winner, Cond.code yX1_winner cX1_winner 15 (some .int), Cond.methodLink RX1 92 yX0_ironedUpper, Cond.instanceMethod yX0_ironedUpper, Cond.selects RX0 yX0_ironedUpper yX0_ironedUpper, Cond.code yX0_ironedUpper cX0_ironedUpper 2 (some .long), Cond.fieldLink RX0 18 "DoubtSale$Book" "uppers" "[I", Cond.methodLink RX1 96 yX0_ironedLower, Cond.instanceMethod yX0_ironedLower, Cond.selects RX0 yX0_ironedLower yX0_ironedLower, Cond.code yX0_ironedLower cX0_ironedLower 2 (some .long), Cond.fieldLink RX0 21 "DoubtSale$Book" "lowers" "[I", Cond.methodLink RX1 111 yX1_leastWinning, Cond.instanceMethod yX1_leastWinning, Cond.selects RX1 yX1_leastWinning yX1_leastWinning, Cond.code yX1_leastWinning cX1_leastWinning 7 (some .int), Cond.methodLink RX1 115 yX1_getsWith, Cond.instanceMethod yX1_getsWith, Cond.selects RX1 yX1_getsWith yX1_getsWith, Cond.code yX1_getsWith cX1_getsWith 6 (some .boolean)]
def wsX1_pays_r3 : List Cond := [Cond.methodLink RX1 61 yX0_worthAt, Cond.instanceMethod yX0_worthAt, Cond.selects RX0 yX0_worthAt yX0_worthAt, Cond.code yX0_worthAt cX0_worthAt 2 (some .int), Cond.fieldLink RX0 9 "DoubtSale$Book" "worths" "[I"]
def wsX1_pays : List Cond := .code yX1_pays cX1_pays 5 (some .int) :: ((wsX1_pays_r1 ++ (wsX1_pays_r2 ++ wsX1_pays_r3)) ++ wsX10 ++ wsX00)
def wsX1_gain_r1 : List Cond := [Cond.constantLong RX1 90 (-1000000000000000), Cond.methodLink RX1 103 yX1_arePlaces, Cond.instanceMethod yX1_arePlaces, Cond.selects RX1 yX1_arePlaces yX1_arePlaces, Cond.initialized RX1, Cond.code yX1_arePlaces cX1_arePlaces 5 (some .boolean), Cond.fieldLink RX1 26 "DoubtSale" "buyerCount" "I", Cond.methodLink RX1 54 yX1_bookOf, Cond.instanceMethod yX1_bookOf, Cond.selects RX1 yX1_bookOf yX1_bookOf, Cond.code yX1_bookOf cX1_bookOf 2 (some (.object "DoubtSale$Book")), Cond.fieldLink RX1 10 "DoubtSale" "book0" "LDoubtSale$Book;", Cond.fieldLink RX1 16 "DoubtSale" "book1" "LDoubtSale$Book;", Cond.fieldLink RX1 19 "DoubtSale" "book2" "LDoubtSale$Book;", Cond.methodLink RX1 119 yX1_pick, Cond.static yX1_pick, Cond.code yX1_pick cX1_pick 4 (some .int), Cond.methodLink RX1 68 yX0_has, Cond.instanceMethod yX0_has, Cond.selects RX0 yX0_has yX0_has, Cond.initialized RX0, Cond.code yX0_has cX0_has 2 (some .boolean), Cond.fieldLink RX0 24 "DoubtSale$Book" "size" "I", Cond.methodLink RX1 44 yX1_isBuyer]
def wsX1_gain_r2 : List Cond := [Cond.instanceMethod yX1_isBuyer, Cond.selects RX1 yX1_isBuyer yX1_isBuyer, Cond.code yX1_isBuyer cX1_isBuyer 2 (some .boolean), Cond.methodLink RX1 115 yX1_getsWith, Cond.instanceMethod yX1_getsWith, Cond.selects RX1 yX1_getsWith yX1_getsWith, Cond.code yX1_getsWith cX1_getsWith 6 (some .boolean), Cond.methodLink RX1 107 yX1_winner, Cond.instanceMethod yX1_winner, Cond.selects RX1 yX1_winner yX1_winner, Cond.code yX1_winner cX1_winner 15 (some .int), Cond.methodLink RX1 92 yX0_ironedUpper, Cond.instanceMethod yX0_ironedUpper, Cond.selects RX0 yX0_ironedUpper yX0_ironedUpper, Cond.code yX0_ironedUpper cX0_ironedUpper 2 (some .long), Cond.fieldLink RX0 18 "DoubtSale$Book" "uppers" "[I", Cond.methodLink RX1 96 yX0_ironedLower, Cond.instanceMethod yX0_ironedLower, Cond.selects RX0 yX0_ironedLower yX0_ironedLower, Cond.code yX0_ironedLower cX0_ironedLower 2 (some .long), Cond.fieldLink RX0 21 "DoubtSale$Book" "lowers" "[I", Cond.methodLink RX1 61 yX0_worthAt, Cond.instanceMethod yX0_worthAt, Cond.selects RX0 yX0_worthAt yX0_worthAt]
def wsX1_gain_r3 : List Cond := [Cond.code yX0_worthAt cX0_worthAt 2 (some .int), Cond.fieldLink RX0 9 "DoubtSale$Book" "worths" "[I", Cond.methodLink RX1 111 yX1_leastWinning, Cond.instanceMethod yX1_leastWinning, Cond.selects RX1 yX1_leastWinning yX1_leastWinning, Cond.code yX1_leastWinning cX1_leastWinning 7 (some .int)]
def wsX1_gain : List Cond := .code yX1_gain cX1_gain 7 (some .long) :: ((wsX1_gain_r1 ++ (wsX1_gain_r2 ++ wsX1_gain_r3)) ++ wsX10 ++ wsX00)
def wsX1_priceOf : List Cond := .code yX1_priceOf cX1_priceOf 4 (some .int) :: ([.fieldLink RX1 33 "DoubtSale" "reservePrice" "I", .methodLink RX1 176 Lib.Math.max.name, .static Lib.Math.max.name, .initialized "java/lang/Math", .code Lib.Math.max.name Lib.Math.max.code 2 (some .int)] ++ wsX10)
def wsX1_paidByKind : List Cond := .code yX1_paidByKind cX1_paidByKind 9 (some .int) :: ([.fieldLink RX1 26 "DoubtSale" "buyerCount" "I", .methodLink RX1 170 Lib.Math.min.name, .static Lib.Math.min.name, .initialized "java/lang/Math", .code Lib.Math.min.name Lib.Math.min.code 2 (some .int), .methodLink RX1 176 Lib.Math.max.name, .static Lib.Math.max.name, .code Lib.Math.max.name Lib.Math.max.code 2 (some .int), .fieldLink RX1 33 "DoubtSale" "reservePrice" "I", .methodLink RX1 119 yX1_pick, .static yX1_pick, .initialized RX1, .code yX1_pick cX1_pick 4 (some .int), .methodLink RX1 179 yX1_priceOf, .instanceMethod yX1_priceOf, .selects RX1 yX1_priceOf yX1_priceOf, .code yX1_priceOf cX1_priceOf 4 (some .int)] ++ wsX10)
def wsX1_paidAt_r1 : List Cond := [Cond.fieldLink RX1 10 "DoubtSale" "book0" "LDoubtSale$Book;", Cond.fieldLink RX1 16 "DoubtSale" "book1" "LDoubtSale$Book;", Cond.fieldLink RX1 19 "DoubtSale" "book2" "LDoubtSale$Book;", Cond.methodLink RX1 107 yX1_winner, Cond.instanceMethod yX1_winner, Cond.selects RX1 yX1_winner yX1_winner, Cond.initialized RX1, Cond.code yX1_winner cX1_winner 15 (some .int), Cond.fieldLink RX1 26 "DoubtSale" "buyerCount" "I", Cond.methodLink RX1 119 yX1_pick, Cond.static yX1_pick, Cond.code yX1_pick cX1_pick 4 (some .int), Cond.methodLink RX1 54 yX1_bookOf, Cond.instanceMethod yX1_bookOf, Cond.selects RX1 yX1_bookOf yX1_bookOf, Cond.code yX1_bookOf cX1_bookOf 2 (some (.object "DoubtSale$Book")), Cond.methodLink RX1 92 yX0_ironedUpper, Cond.instanceMethod yX0_ironedUpper, Cond.selects RX0 yX0_ironedUpper yX0_ironedUpper, Cond.initialized RX0, Cond.code yX0_ironedUpper cX0_ironedUpper 2 (some .long), Cond.fieldLink RX0 24 "DoubtSale$Book" "size" "I", Cond.fieldLink RX0 18 "DoubtSale$Book" "uppers" "[I", Cond.methodLink RX1 96 yX0_ironedLower]
def wsX1_paidAt_r2 : List Cond := [Cond.instanceMethod yX0_ironedLower, Cond.selects RX0 yX0_ironedLower yX0_ironedLower, Cond.code yX0_ironedLower cX0_ironedLower 2 (some .long), Cond.fieldLink RX0 21 "DoubtSale$Book" "lowers" "[I", Cond.methodLink RX1 111 yX1_leastWinning, Cond.instanceMethod yX1_leastWinning, Cond.selects RX1 yX1_leastWinning yX1_leastWinning, Cond.code yX1_leastWinning cX1_leastWinning 7 (some .int), Cond.methodLink RX1 115 yX1_getsWith, Cond.instanceMethod yX1_getsWith, Cond.selects RX1 yX1_getsWith yX1_getsWith, Cond.code yX1_getsWith cX1_getsWith 6 (some .boolean), Cond.methodLink RX1 61 yX0_worthAt, Cond.instanceMethod yX0_worthAt, Cond.selects RX0 yX0_worthAt yX0_worthAt, Cond.code yX0_worthAt cX0_worthAt 2 (some .int), Cond.fieldLink RX0 9 "DoubtSale$Book" "worths" "[I", Cond.methodLink RX1 132 yX1_paidByKind, Cond.instanceMethod yX1_paidByKind, Cond.selects RX1 yX1_paidByKind yX1_paidByKind, Cond.code yX1_paidByKind cX1_paidByKind 9 (some .int), Cond.methodLink RX1 170 Lib.Math.min.name, Cond.static Lib.Math.min.name, Cond.initialized "java/lang/Math"]
def wsX1_paidAt_r3 : List Cond := [Cond.code Lib.Math.min.name Lib.Math.min.code 2 (some .int), Cond.methodLink RX1 176 Lib.Math.max.name, Cond.static Lib.Math.max.name, Cond.code Lib.Math.max.name Lib.Math.max.code 2 (some .int), Cond.fieldLink RX1 33 "DoubtSale" "reservePrice" "I", Cond.methodLink RX1 179 yX1_priceOf, Cond.instanceMethod yX1_priceOf, Cond.selects RX1 yX1_priceOf yX1_priceOf, Cond.code yX1_priceOf cX1_priceOf 4 (some .int)]
def wsX1_paidAt : List Cond := .code yX1_paidAt cX1_paidAt 6 (some .int) :: ((wsX1_paidAt_r1 ++ (wsX1_paidAt_r2 ++ wsX1_paidAt_r3)) ++ wsX10 ++ wsX00)
def wsX1_meanPaid_r1 : List Cond := [Cond.fieldLink RX1 10 "DoubtSale" "book0" "LDoubtSale$Book;", Cond.fieldLink RX1 16 "DoubtSale" "book1" "LDoubtSale$Book;", Cond.fieldLink RX1 19 "DoubtSale" "book2" "LDoubtSale$Book;", Cond.methodLink RX1 71 yX0_weightAt, Cond.instanceMethod yX0_weightAt, Cond.selects RX0 yX0_weightAt yX0_weightAt, Cond.initialized RX0, Cond.code yX0_weightAt cX0_weightAt 2 (some .int), Cond.fieldLink RX0 24 "DoubtSale$Book" "size" "I", Cond.fieldLink RX0 15 "DoubtSale$Book" "weights" "[I", Cond.methodLink RX1 182 yX1_paidAt, Cond.instanceMethod yX1_paidAt, Cond.selects RX1 yX1_paidAt yX1_paidAt, Cond.initialized RX1, Cond.code yX1_paidAt cX1_paidAt 6 (some .int), Cond.methodLink RX1 107 yX1_winner, Cond.instanceMethod yX1_winner, Cond.selects RX1 yX1_winner yX1_winner, Cond.code yX1_winner cX1_winner 15 (some .int), Cond.fieldLink RX1 26 "DoubtSale" "buyerCount" "I", Cond.methodLink RX1 119 yX1_pick, Cond.static yX1_pick, Cond.code yX1_pick cX1_pick 4 (some .int), Cond.methodLink RX1 54 yX1_bookOf]
def wsX1_meanPaid_r2 : List Cond := [Cond.instanceMethod yX1_bookOf, Cond.selects RX1 yX1_bookOf yX1_bookOf, Cond.code yX1_bookOf cX1_bookOf 2 (some (.object "DoubtSale$Book")), Cond.methodLink RX1 92 yX0_ironedUpper, Cond.instanceMethod yX0_ironedUpper, Cond.selects RX0 yX0_ironedUpper yX0_ironedUpper, Cond.code yX0_ironedUpper cX0_ironedUpper 2 (some .long), Cond.fieldLink RX0 18 "DoubtSale$Book" "uppers" "[I", Cond.methodLink RX1 96 yX0_ironedLower, Cond.instanceMethod yX0_ironedLower, Cond.selects RX0 yX0_ironedLower yX0_ironedLower, Cond.code yX0_ironedLower cX0_ironedLower 2 (some .long), Cond.fieldLink RX0 21 "DoubtSale$Book" "lowers" "[I", Cond.methodLink RX1 111 yX1_leastWinning, Cond.instanceMethod yX1_leastWinning, Cond.selects RX1 yX1_leastWinning yX1_leastWinning, Cond.code yX1_leastWinning cX1_leastWinning 7 (some .int), Cond.methodLink RX1 115 yX1_getsWith, Cond.instanceMethod yX1_getsWith, Cond.selects RX1 yX1_getsWith yX1_getsWith, Cond.code yX1_getsWith cX1_getsWith 6 (some .boolean), Cond.methodLink RX1 61 yX0_worthAt, Cond.instanceMethod yX0_worthAt, Cond.selects RX0 yX0_worthAt yX0_worthAt]
def wsX1_meanPaid_r3 : List Cond := [Cond.code yX0_worthAt cX0_worthAt 2 (some .int), Cond.fieldLink RX0 9 "DoubtSale$Book" "worths" "[I", Cond.methodLink RX1 132 yX1_paidByKind, Cond.instanceMethod yX1_paidByKind, Cond.selects RX1 yX1_paidByKind yX1_paidByKind, Cond.code yX1_paidByKind cX1_paidByKind 9 (some .int), Cond.methodLink RX1 170 Lib.Math.min.name, Cond.static Lib.Math.min.name, Cond.initialized "java/lang/Math", Cond.code Lib.Math.min.name Lib.Math.min.code 2 (some .int), Cond.methodLink RX1 176 Lib.Math.max.name, Cond.static Lib.Math.max.name, Cond.code Lib.Math.max.name Lib.Math.max.code 2 (some .int), Cond.fieldLink RX1 33 "DoubtSale" "reservePrice" "I", Cond.methodLink RX1 179 yX1_priceOf, Cond.instanceMethod yX1_priceOf, Cond.selects RX1 yX1_priceOf yX1_priceOf, Cond.code yX1_priceOf cX1_priceOf 4 (some .int), Cond.methodLink RX1 80 yX0_allWeights, Cond.instanceMethod yX0_allWeights, Cond.selects RX0 yX0_allWeights yX0_allWeights, Cond.code yX0_allWeights cX0_allWeights 1 (some .int), Cond.methodLink RX0 41 yX0_shareAt, Cond.instanceMethod yX0_shareAt]
def wsX1_meanPaid_r4 : List Cond := [Cond.selects RX0 yX0_shareAt yX0_shareAt, Cond.code yX0_shareAt cX0_shareAt 4 (some .int), Cond.methodLink RX0 35 Lib.Math.max.name, Cond.methodLink RX1 99 yX1_leastPart, Cond.static yX1_leastPart, Cond.code yX1_leastPart cX1_leastPart 7 (some .long), Cond.methodLink RX1 185 Lib.MathLoose.abs_long.x, Cond.static Lib.MathLoose.abs_long.x, Cond.code Lib.MathLoose.abs_long.x Lib.MathLoose.abs_long.code 2 (some .long), Cond.constantLong RX1 90 (-1000000000000000), Cond.methodLink RX1 189 yX1_commonDivisor, Cond.static yX1_commonDivisor, Cond.code yX1_commonDivisor cX1_commonDivisor 11 (some .long)]
def wsX1_meanPaid : List Cond := .code yX1_meanPaid cX1_meanPaid 10 (some .long) :: ((wsX1_meanPaid_r1 ++ (wsX1_meanPaid_r2 ++ (wsX1_meanPaid_r3 ++ wsX1_meanPaid_r4))) ++ wsX10 ++ wsX00)
def wsX1_brings_r1 : List Cond := [Cond.constantLong RX1 90 (-1000000000000000), Cond.methodLink RX1 87 yX1_isPart, Cond.static yX1_isPart, Cond.initialized RX1, Cond.code yX1_isPart cX1_isPart 1 (some .boolean), Cond.methodLink RX1 122 yX1_meanPaid, Cond.instanceMethod yX1_meanPaid, Cond.selects RX1 yX1_meanPaid yX1_meanPaid, Cond.code yX1_meanPaid cX1_meanPaid 10 (some .long), Cond.fieldLink RX1 10 "DoubtSale" "book0" "LDoubtSale$Book;", Cond.fieldLink RX1 16 "DoubtSale" "book1" "LDoubtSale$Book;", Cond.fieldLink RX1 19 "DoubtSale" "book2" "LDoubtSale$Book;", Cond.methodLink RX1 71 yX0_weightAt, Cond.instanceMethod yX0_weightAt, Cond.selects RX0 yX0_weightAt yX0_weightAt, Cond.initialized RX0, Cond.code yX0_weightAt cX0_weightAt 2 (some .int), Cond.fieldLink RX0 24 "DoubtSale$Book" "size" "I", Cond.fieldLink RX0 15 "DoubtSale$Book" "weights" "[I", Cond.methodLink RX1 182 yX1_paidAt, Cond.instanceMethod yX1_paidAt, Cond.selects RX1 yX1_paidAt yX1_paidAt, Cond.code yX1_paidAt cX1_paidAt 6 (some .int), Cond.methodLink RX1 107 yX1_winner]
def wsX1_brings_r2 : List Cond := [Cond.instanceMethod yX1_winner, Cond.selects RX1 yX1_winner yX1_winner, Cond.code yX1_winner cX1_winner 15 (some .int), Cond.fieldLink RX1 26 "DoubtSale" "buyerCount" "I", Cond.methodLink RX1 119 yX1_pick, Cond.static yX1_pick, Cond.code yX1_pick cX1_pick 4 (some .int), Cond.methodLink RX1 54 yX1_bookOf, Cond.instanceMethod yX1_bookOf, Cond.selects RX1 yX1_bookOf yX1_bookOf, Cond.code yX1_bookOf cX1_bookOf 2 (some (.object "DoubtSale$Book")), Cond.methodLink RX1 92 yX0_ironedUpper, Cond.instanceMethod yX0_ironedUpper, Cond.selects RX0 yX0_ironedUpper yX0_ironedUpper, Cond.code yX0_ironedUpper cX0_ironedUpper 2 (some .long), Cond.fieldLink RX0 18 "DoubtSale$Book" "uppers" "[I", Cond.methodLink RX1 96 yX0_ironedLower, Cond.instanceMethod yX0_ironedLower, Cond.selects RX0 yX0_ironedLower yX0_ironedLower, Cond.code yX0_ironedLower cX0_ironedLower 2 (some .long), Cond.fieldLink RX0 21 "DoubtSale$Book" "lowers" "[I", Cond.methodLink RX1 111 yX1_leastWinning, Cond.instanceMethod yX1_leastWinning, Cond.selects RX1 yX1_leastWinning yX1_leastWinning]
def wsX1_brings_r3 : List Cond := [Cond.code yX1_leastWinning cX1_leastWinning 7 (some .int), Cond.methodLink RX1 115 yX1_getsWith, Cond.instanceMethod yX1_getsWith, Cond.selects RX1 yX1_getsWith yX1_getsWith, Cond.code yX1_getsWith cX1_getsWith 6 (some .boolean), Cond.methodLink RX1 61 yX0_worthAt, Cond.instanceMethod yX0_worthAt, Cond.selects RX0 yX0_worthAt yX0_worthAt, Cond.code yX0_worthAt cX0_worthAt 2 (some .int), Cond.fieldLink RX0 9 "DoubtSale$Book" "worths" "[I", Cond.methodLink RX1 132 yX1_paidByKind, Cond.instanceMethod yX1_paidByKind, Cond.selects RX1 yX1_paidByKind yX1_paidByKind, Cond.code yX1_paidByKind cX1_paidByKind 9 (some .int), Cond.methodLink RX1 170 Lib.Math.min.name, Cond.static Lib.Math.min.name, Cond.initialized "java/lang/Math", Cond.code Lib.Math.min.name Lib.Math.min.code 2 (some .int), Cond.methodLink RX1 176 Lib.Math.max.name, Cond.static Lib.Math.max.name, Cond.code Lib.Math.max.name Lib.Math.max.code 2 (some .int), Cond.fieldLink RX1 33 "DoubtSale" "reservePrice" "I", Cond.methodLink RX1 179 yX1_priceOf, Cond.instanceMethod yX1_priceOf]
def wsX1_brings_r4 : List Cond := [Cond.selects RX1 yX1_priceOf yX1_priceOf, Cond.code yX1_priceOf cX1_priceOf 4 (some .int), Cond.methodLink RX1 80 yX0_allWeights, Cond.instanceMethod yX0_allWeights, Cond.selects RX0 yX0_allWeights yX0_allWeights, Cond.code yX0_allWeights cX0_allWeights 1 (some .int), Cond.methodLink RX0 41 yX0_shareAt, Cond.instanceMethod yX0_shareAt, Cond.selects RX0 yX0_shareAt yX0_shareAt, Cond.code yX0_shareAt cX0_shareAt 4 (some .int), Cond.methodLink RX0 35 Lib.Math.max.name, Cond.methodLink RX1 99 yX1_leastPart, Cond.static yX1_leastPart, Cond.code yX1_leastPart cX1_leastPart 7 (some .long), Cond.methodLink RX1 185 Lib.MathLoose.abs_long.x, Cond.static Lib.MathLoose.abs_long.x, Cond.code Lib.MathLoose.abs_long.x Lib.MathLoose.abs_long.code 2 (some .long), Cond.methodLink RX1 189 yX1_commonDivisor, Cond.static yX1_commonDivisor, Cond.code yX1_commonDivisor cX1_commonDivisor 11 (some .long)]
def wsX1_brings : List Cond := .code yX1_brings cX1_brings 2 (some .long) :: ((wsX1_brings_r1 ++ (wsX1_brings_r2 ++ (wsX1_brings_r3 ++ wsX1_brings_r4))) ++ wsX10 ++ wsX00)
def wsX1_reserve : List Cond := .code yX1_reserve cX1_reserve 3 (some .int) :: ([.fieldLink RX1 33 "DoubtSale" "reservePrice" "I", .methodLink RX1 48 yX1_isWorth, .static yX1_isWorth, .initialized RX1, .code yX1_isWorth cX1_isWorth 1 (some .boolean)] ++ wsX10)
def wsX1_isKind : List Cond := .code yX1_isKind cX1_isKind 1 (some .boolean) :: ([])
def wsX1_areWorths : List Cond := .code yX1_areWorths cX1_areWorths 5 (some .boolean) :: ([.fieldLink RX1 26 "DoubtSale" "buyerCount" "I", .methodLink RX1 119 yX1_pick, .static yX1_pick, .initialized RX1, .code yX1_pick cX1_pick 4 (some .int), .methodLink RX1 48 yX1_isWorth, .static yX1_isWorth, .code yX1_isWorth cX1_isWorth 1 (some .boolean)] ++ wsX10)
def wsX1_asksOf : List Cond := .code yX1_asksOf cX1_asksOf 1 (some .int) :: ([])
def wsX1_pay_r1 : List Cond := [Cond.fieldLink RX1 36 "DoubtSale" "traced" "J", Cond.methodLink RX1 126 yX1_isKind, Cond.static yX1_isKind, Cond.initialized RX1, Cond.code yX1_isKind cX1_isKind 1 (some .boolean), Cond.methodLink RX1 129 yX1_areWorths, Cond.instanceMethod yX1_areWorths, Cond.selects RX1 yX1_areWorths yX1_areWorths, Cond.code yX1_areWorths cX1_areWorths 5 (some .boolean), Cond.fieldLink RX1 26 "DoubtSale" "buyerCount" "I", Cond.methodLink RX1 119 yX1_pick, Cond.static yX1_pick, Cond.code yX1_pick cX1_pick 4 (some .int), Cond.methodLink RX1 48 yX1_isWorth, Cond.static yX1_isWorth, Cond.code yX1_isWorth cX1_isWorth 1 (some .boolean), Cond.methodLink RX1 132 yX1_paidByKind, Cond.instanceMethod yX1_paidByKind, Cond.selects RX1 yX1_paidByKind yX1_paidByKind, Cond.code yX1_paidByKind cX1_paidByKind 9 (some .int), Cond.methodLink RX1 170 Lib.Math.min.name, Cond.static Lib.Math.min.name, Cond.initialized "java/lang/Math", Cond.code Lib.Math.min.name Lib.Math.min.code 2 (some .int)]
def wsX1_pay_r2 : List Cond := [Cond.methodLink RX1 176 Lib.Math.max.name, Cond.static Lib.Math.max.name, Cond.code Lib.Math.max.name Lib.Math.max.code 2 (some .int), Cond.fieldLink RX1 33 "DoubtSale" "reservePrice" "I", Cond.methodLink RX1 179 yX1_priceOf, Cond.instanceMethod yX1_priceOf, Cond.selects RX1 yX1_priceOf yX1_priceOf, Cond.code yX1_priceOf cX1_priceOf 4 (some .int), Cond.methodLink RX1 135 yX1_asksOf, Cond.static yX1_asksOf, Cond.code yX1_asksOf cX1_asksOf 1 (some .int)]
def wsX1_pay : List Cond := .code yX1_pay cX1_pay 6 (some .int) :: ((wsX1_pay_r1 ++ wsX1_pay_r2) ++ wsX10)
def wsX1_average_r1 : List Cond := [Cond.constantLong RX1 90 (-1000000000000000), Cond.methodLink RX1 126 yX1_isKind, Cond.static yX1_isKind, Cond.initialized RX1, Cond.code yX1_isKind cX1_isKind 1 (some .boolean), Cond.methodLink RX1 87 yX1_isPart, Cond.static yX1_isPart, Cond.code yX1_isPart cX1_isPart 1 (some .boolean), Cond.methodLink RX1 122 yX1_meanPaid, Cond.instanceMethod yX1_meanPaid, Cond.selects RX1 yX1_meanPaid yX1_meanPaid, Cond.code yX1_meanPaid cX1_meanPaid 10 (some .long), Cond.fieldLink RX1 10 "DoubtSale" "book0" "LDoubtSale$Book;", Cond.fieldLink RX1 16 "DoubtSale" "book1" "LDoubtSale$Book;", Cond.fieldLink RX1 19 "DoubtSale" "book2" "LDoubtSale$Book;", Cond.methodLink RX1 71 yX0_weightAt, Cond.instanceMethod yX0_weightAt, Cond.selects RX0 yX0_weightAt yX0_weightAt, Cond.initialized RX0, Cond.code yX0_weightAt cX0_weightAt 2 (some .int), Cond.fieldLink RX0 24 "DoubtSale$Book" "size" "I", Cond.fieldLink RX0 15 "DoubtSale$Book" "weights" "[I", Cond.methodLink RX1 182 yX1_paidAt, Cond.instanceMethod yX1_paidAt]
def wsX1_average_r2 : List Cond := [Cond.selects RX1 yX1_paidAt yX1_paidAt, Cond.code yX1_paidAt cX1_paidAt 6 (some .int), Cond.methodLink RX1 107 yX1_winner, Cond.instanceMethod yX1_winner, Cond.selects RX1 yX1_winner yX1_winner, Cond.code yX1_winner cX1_winner 15 (some .int), Cond.fieldLink RX1 26 "DoubtSale" "buyerCount" "I", Cond.methodLink RX1 119 yX1_pick, Cond.static yX1_pick, Cond.code yX1_pick cX1_pick 4 (some .int), Cond.methodLink RX1 54 yX1_bookOf, Cond.instanceMethod yX1_bookOf, Cond.selects RX1 yX1_bookOf yX1_bookOf, Cond.code yX1_bookOf cX1_bookOf 2 (some (.object "DoubtSale$Book")), Cond.methodLink RX1 92 yX0_ironedUpper, Cond.instanceMethod yX0_ironedUpper, Cond.selects RX0 yX0_ironedUpper yX0_ironedUpper, Cond.code yX0_ironedUpper cX0_ironedUpper 2 (some .long), Cond.fieldLink RX0 18 "DoubtSale$Book" "uppers" "[I", Cond.methodLink RX1 96 yX0_ironedLower, Cond.instanceMethod yX0_ironedLower, Cond.selects RX0 yX0_ironedLower yX0_ironedLower, Cond.code yX0_ironedLower cX0_ironedLower 2 (some .long), Cond.fieldLink RX0 21 "DoubtSale$Book" "lowers" "[I"]
def wsX1_average_r3 : List Cond := [Cond.methodLink RX1 111 yX1_leastWinning, Cond.instanceMethod yX1_leastWinning, Cond.selects RX1 yX1_leastWinning yX1_leastWinning, Cond.code yX1_leastWinning cX1_leastWinning 7 (some .int), Cond.methodLink RX1 115 yX1_getsWith, Cond.instanceMethod yX1_getsWith, Cond.selects RX1 yX1_getsWith yX1_getsWith, Cond.code yX1_getsWith cX1_getsWith 6 (some .boolean), Cond.methodLink RX1 61 yX0_worthAt, Cond.instanceMethod yX0_worthAt, Cond.selects RX0 yX0_worthAt yX0_worthAt, Cond.code yX0_worthAt cX0_worthAt 2 (some .int), Cond.fieldLink RX0 9 "DoubtSale$Book" "worths" "[I", Cond.methodLink RX1 132 yX1_paidByKind, Cond.instanceMethod yX1_paidByKind, Cond.selects RX1 yX1_paidByKind yX1_paidByKind, Cond.code yX1_paidByKind cX1_paidByKind 9 (some .int), Cond.methodLink RX1 170 Lib.Math.min.name, Cond.static Lib.Math.min.name, Cond.initialized "java/lang/Math", Cond.code Lib.Math.min.name Lib.Math.min.code 2 (some .int), Cond.methodLink RX1 176 Lib.Math.max.name, Cond.static Lib.Math.max.name, Cond.code Lib.Math.max.name Lib.Math.max.code 2 (some .int)]
def wsX1_average_r4 : List Cond := [Cond.fieldLink RX1 33 "DoubtSale" "reservePrice" "I", Cond.methodLink RX1 179 yX1_priceOf, Cond.instanceMethod yX1_priceOf, Cond.selects RX1 yX1_priceOf yX1_priceOf, Cond.code yX1_priceOf cX1_priceOf 4 (some .int), Cond.methodLink RX1 80 yX0_allWeights, Cond.instanceMethod yX0_allWeights, Cond.selects RX0 yX0_allWeights yX0_allWeights, Cond.code yX0_allWeights cX0_allWeights 1 (some .int), Cond.methodLink RX0 41 yX0_shareAt, Cond.instanceMethod yX0_shareAt, Cond.selects RX0 yX0_shareAt yX0_shareAt, Cond.code yX0_shareAt cX0_shareAt 4 (some .int), Cond.methodLink RX0 35 Lib.Math.max.name, Cond.methodLink RX1 99 yX1_leastPart, Cond.static yX1_leastPart, Cond.code yX1_leastPart cX1_leastPart 7 (some .long), Cond.methodLink RX1 185 Lib.MathLoose.abs_long.x, Cond.static Lib.MathLoose.abs_long.x, Cond.code Lib.MathLoose.abs_long.x Lib.MathLoose.abs_long.code 2 (some .long), Cond.methodLink RX1 189 yX1_commonDivisor, Cond.static yX1_commonDivisor, Cond.code yX1_commonDivisor cX1_commonDivisor 11 (some .long)]
def wsX1_average : List Cond := .code yX1_average cX1_average 3 (some .long) :: ((wsX1_average_r1 ++ (wsX1_average_r2 ++ (wsX1_average_r3 ++ wsX1_average_r4))) ++ wsX10 ++ wsX00)
def wsX1_isOrder : List Cond := .code yX1_isOrder cX1_isOrder 6 (some .boolean) :: ([.fieldLink RX1 26 "DoubtSale" "buyerCount" "I", .methodLink RX1 44 yX1_isBuyer, .instanceMethod yX1_isBuyer, .selects RX1 yX1_isBuyer yX1_isBuyer, .initialized RX1, .code yX1_isBuyer cX1_isBuyer 2 (some .boolean)] ++ wsX10)
def wsX1_offerBrings_r1 : List Cond := [Cond.methodLink RX1 77 yX0_takeAt, Cond.instanceMethod yX0_takeAt, Cond.selects RX0 yX0_takeAt yX0_takeAt, Cond.initialized RX0, Cond.code yX0_takeAt cX0_takeAt 2 (some .int), Cond.methodLink RX0 45 yX0_worthAt, Cond.instanceMethod yX0_worthAt, Cond.selects RX0 yX0_worthAt yX0_worthAt, Cond.code yX0_worthAt cX0_worthAt 2 (some .int), Cond.fieldLink RX0 24 "DoubtSale$Book" "size" "I", Cond.fieldLink RX0 9 "DoubtSale$Book" "worths" "[I", Cond.methodLink RX0 41 yX0_shareAt, Cond.instanceMethod yX0_shareAt, Cond.selects RX0 yX0_shareAt yX0_shareAt, Cond.code yX0_shareAt cX0_shareAt 4 (some .int), Cond.methodLink RX0 35 Lib.Math.max.name, Cond.static Lib.Math.max.name, Cond.initialized "java/lang/Math", Cond.code Lib.Math.max.name Lib.Math.max.code 2 (some .int), Cond.fieldLink RX0 15 "DoubtSale$Book" "weights" "[I", Cond.methodLink RX1 80 yX0_allWeights, Cond.instanceMethod yX0_allWeights, Cond.selects RX0 yX0_allWeights yX0_allWeights, Cond.code yX0_allWeights cX0_allWeights 1 (some .int)]
def wsX1_offerBrings_r2 : List Cond := [Cond.methodLink RX1 74 yX0_shareAt]
def wsX1_offerBrings : List Cond := .code yX1_offerBrings cX1_offerBrings 6 (some .long) :: ((wsX1_offerBrings_r1 ++ wsX1_offerBrings_r2) ++ wsX00)
def wsX1_bestOffer_r1 : List Cond := [Cond.methodLink RX1 147 yX1_offerBrings, Cond.static yX1_offerBrings, Cond.initialized RX1, Cond.code yX1_offerBrings cX1_offerBrings 6 (some .long), Cond.methodLink RX1 77 yX0_takeAt, Cond.instanceMethod yX0_takeAt, Cond.selects RX0 yX0_takeAt yX0_takeAt, Cond.initialized RX0, Cond.code yX0_takeAt cX0_takeAt 2 (some .int), Cond.methodLink RX0 45 yX0_worthAt, Cond.instanceMethod yX0_worthAt, Cond.selects RX0 yX0_worthAt yX0_worthAt, Cond.code yX0_worthAt cX0_worthAt 2 (some .int), Cond.fieldLink RX0 24 "DoubtSale$Book" "size" "I", Cond.fieldLink RX0 9 "DoubtSale$Book" "worths" "[I", Cond.methodLink RX0 41 yX0_shareAt, Cond.instanceMethod yX0_shareAt, Cond.selects RX0 yX0_shareAt yX0_shareAt, Cond.code yX0_shareAt cX0_shareAt 4 (some .int), Cond.methodLink RX0 35 Lib.Math.max.name, Cond.static Lib.Math.max.name, Cond.initialized "java/lang/Math", Cond.code Lib.Math.max.name Lib.Math.max.code 2 (some .int), Cond.fieldLink RX0 15 "DoubtSale$Book" "weights" "[I"]
def wsX1_bestOffer_r2 : List Cond := [Cond.methodLink RX1 80 yX0_allWeights, Cond.instanceMethod yX0_allWeights, Cond.selects RX0 yX0_allWeights yX0_allWeights, Cond.code yX0_allWeights cX0_allWeights 1 (some .int), Cond.methodLink RX1 74 yX0_shareAt]
def wsX1_bestOffer : List Cond := .code yX1_bestOffer cX1_bestOffer 7 (some .int) :: ((wsX1_bestOffer_r1 ++ wsX1_bestOffer_r2) ++ wsX00)
def wsX1_offers_r1 : List Cond := [Cond.constantLong RX1 90 (-1000000000000000), Cond.fieldLink RX1 26 "DoubtSale" "buyerCount" "I", Cond.constantLong RX1 145 (1001), Cond.methodLink RX1 138 yX1_isOrder, Cond.instanceMethod yX1_isOrder, Cond.selects RX1 yX1_isOrder yX1_isOrder, Cond.initialized RX1, Cond.code yX1_isOrder cX1_isOrder 6 (some .boolean), Cond.methodLink RX1 44 yX1_isBuyer, Cond.instanceMethod yX1_isBuyer, Cond.selects RX1 yX1_isBuyer yX1_isBuyer, Cond.code yX1_isBuyer cX1_isBuyer 2 (some .boolean), Cond.methodLink RX1 87 yX1_isPart, Cond.static yX1_isPart, Cond.code yX1_isPart cX1_isPart 1 (some .boolean), Cond.methodLink RX1 54 yX1_bookOf, Cond.instanceMethod yX1_bookOf, Cond.selects RX1 yX1_bookOf yX1_bookOf, Cond.code yX1_bookOf cX1_bookOf 2 (some (.object "DoubtSale$Book")), Cond.fieldLink RX1 10 "DoubtSale" "book0" "LDoubtSale$Book;", Cond.fieldLink RX1 16 "DoubtSale" "book1" "LDoubtSale$Book;", Cond.fieldLink RX1 19 "DoubtSale" "book2" "LDoubtSale$Book;", Cond.methodLink RX1 141 yX1_bestOffer, Cond.static yX1_bestOffer]
def wsX1_offers_r2 : List Cond := [Cond.code yX1_bestOffer cX1_bestOffer 7 (some .int), Cond.methodLink RX1 147 yX1_offerBrings, Cond.static yX1_offerBrings, Cond.code yX1_offerBrings cX1_offerBrings 6 (some .long), Cond.methodLink RX1 77 yX0_takeAt, Cond.instanceMethod yX0_takeAt, Cond.selects RX0 yX0_takeAt yX0_takeAt, Cond.initialized RX0, Cond.code yX0_takeAt cX0_takeAt 2 (some .int), Cond.methodLink RX0 45 yX0_worthAt, Cond.instanceMethod yX0_worthAt, Cond.selects RX0 yX0_worthAt yX0_worthAt, Cond.code yX0_worthAt cX0_worthAt 2 (some .int), Cond.fieldLink RX0 24 "DoubtSale$Book" "size" "I", Cond.fieldLink RX0 9 "DoubtSale$Book" "worths" "[I", Cond.methodLink RX0 41 yX0_shareAt, Cond.instanceMethod yX0_shareAt, Cond.selects RX0 yX0_shareAt yX0_shareAt, Cond.code yX0_shareAt cX0_shareAt 4 (some .int), Cond.methodLink RX0 35 Lib.Math.max.name, Cond.static Lib.Math.max.name, Cond.initialized "java/lang/Math", Cond.code Lib.Math.max.name Lib.Math.max.code 2 (some .int), Cond.fieldLink RX0 15 "DoubtSale$Book" "weights" "[I"]
def wsX1_offers_r3 : List Cond := [Cond.methodLink RX1 80 yX0_allWeights, Cond.instanceMethod yX0_allWeights, Cond.selects RX0 yX0_allWeights yX0_allWeights, Cond.code yX0_allWeights cX0_allWeights 1 (some .int), Cond.methodLink RX1 74 yX0_shareAt, Cond.methodLink RX1 68 yX0_has, Cond.instanceMethod yX0_has, Cond.selects RX0 yX0_has yX0_has, Cond.code yX0_has cX0_has 2 (some .boolean), Cond.methodLink RX1 61 yX0_worthAt, Cond.methodLink RX1 99 yX1_leastPart, Cond.static yX1_leastPart, Cond.code yX1_leastPart cX1_leastPart 7 (some .long), Cond.methodLink RX1 185 Lib.MathLoose.abs_long.x, Cond.static Lib.MathLoose.abs_long.x, Cond.code Lib.MathLoose.abs_long.x Lib.MathLoose.abs_long.code 2 (some .long), Cond.methodLink RX1 189 yX1_commonDivisor, Cond.static yX1_commonDivisor, Cond.code yX1_commonDivisor cX1_commonDivisor 11 (some .long)]
def wsX1_offers : List Cond := .code yX1_offers cX1_offers 12 (some .long) :: ((wsX1_offers_r1 ++ (wsX1_offers_r2 ++ wsX1_offers_r3)) ++ wsX10 ++ wsX00)
def wsX1_pairsFrom : List Cond := .code yX1_pairsFrom cX1_pairsFrom 6 (some .int) :: ([.methodLink RX1 61 yX0_worthAt, .instanceMethod yX0_worthAt, .selects RX0 yX0_worthAt yX0_worthAt, .initialized RX0, .code yX0_worthAt cX0_worthAt 2 (some .int), .fieldLink RX0 24 "DoubtSale$Book" "size" "I", .fieldLink RX0 9 "DoubtSale$Book" "worths" "[I", .methodLink RX1 71 yX0_weightAt, .instanceMethod yX0_weightAt, .selects RX0 yX0_weightAt yX0_weightAt, .code yX0_weightAt cX0_weightAt 2 (some .int), .fieldLink RX0 15 "DoubtSale$Book" "weights" "[I"] ++ wsX00)
def wsX1_bestSum : List Cond := .code yX1_bestSum cX1_bestSum 8 (some .int) :: ([.methodLink RX1 61 yX0_worthAt, .instanceMethod yX0_worthAt, .selects RX0 yX0_worthAt yX0_worthAt, .initialized RX0, .code yX0_worthAt cX0_worthAt 2 (some .int), .fieldLink RX0 24 "DoubtSale$Book" "size" "I", .fieldLink RX0 9 "DoubtSale$Book" "worths" "[I", .methodLink RX1 155 yX1_pairsFrom, .static yX1_pairsFrom, .initialized RX1, .code yX1_pairsFrom cX1_pairsFrom 6 (some .int), .methodLink RX1 71 yX0_weightAt, .instanceMethod yX0_weightAt, .selects RX0 yX0_weightAt yX0_weightAt, .code yX0_weightAt cX0_weightAt 2 (some .int), .fieldLink RX0 15 "DoubtSale$Book" "weights" "[I"] ++ wsX00)
def wsX1_bothAlone_r1 : List Cond := [Cond.methodLink RX1 84 yX0_bestPlace, Cond.instanceMethod yX0_bestPlace, Cond.selects RX0 yX0_bestPlace yX0_bestPlace, Cond.initialized RX0, Cond.code yX0_bestPlace cX0_bestPlace 3 (some .int), Cond.fieldLink RX0 24 "DoubtSale$Book" "size" "I", Cond.methodLink RX0 48 yX0_takeAt, Cond.instanceMethod yX0_takeAt, Cond.selects RX0 yX0_takeAt yX0_takeAt, Cond.code yX0_takeAt cX0_takeAt 2 (some .int), Cond.methodLink RX0 45 yX0_worthAt, Cond.instanceMethod yX0_worthAt, Cond.selects RX0 yX0_worthAt yX0_worthAt, Cond.code yX0_worthAt cX0_worthAt 2 (some .int), Cond.fieldLink RX0 9 "DoubtSale$Book" "worths" "[I", Cond.methodLink RX0 41 yX0_shareAt, Cond.instanceMethod yX0_shareAt, Cond.selects RX0 yX0_shareAt yX0_shareAt, Cond.code yX0_shareAt cX0_shareAt 4 (some .int), Cond.methodLink RX0 35 Lib.Math.max.name, Cond.static Lib.Math.max.name, Cond.initialized "java/lang/Math", Cond.code Lib.Math.max.name Lib.Math.max.code 2 (some .int), Cond.fieldLink RX0 15 "DoubtSale$Book" "weights" "[I"]
def wsX1_bothAlone_r2 : List Cond := [Cond.methodLink RX1 77 yX0_takeAt, Cond.methodLink RX1 80 yX0_allWeights, Cond.instanceMethod yX0_allWeights, Cond.selects RX0 yX0_allWeights yX0_allWeights, Cond.code yX0_allWeights cX0_allWeights 1 (some .int)]
def wsX1_bothAlone : List Cond := .code yX1_bothAlone cX1_bothAlone 2 (some .int) :: ((wsX1_bothAlone_r1 ++ wsX1_bothAlone_r2) ++ wsX00)
def wsJ6_signum_0f7a4 : List Cond := .code yJ6_signum_0f7a4 cJ6_signum_0f7a4 1 (some .int) :: ([])
def wsX1_bundle_r1 : List Cond := [Cond.methodLink RX1 44 yX1_isBuyer, Cond.instanceMethod yX1_isBuyer, Cond.selects RX1 yX1_isBuyer yX1_isBuyer, Cond.initialized RX1, Cond.code yX1_isBuyer cX1_isBuyer 2 (some .boolean), Cond.fieldLink RX1 26 "DoubtSale" "buyerCount" "I", Cond.methodLink RX1 54 yX1_bookOf, Cond.instanceMethod yX1_bookOf, Cond.selects RX1 yX1_bookOf yX1_bookOf, Cond.code yX1_bookOf cX1_bookOf 2 (some (.object "DoubtSale$Book")), Cond.fieldLink RX1 10 "DoubtSale" "book0" "LDoubtSale$Book;", Cond.fieldLink RX1 16 "DoubtSale" "book1" "LDoubtSale$Book;", Cond.fieldLink RX1 19 "DoubtSale" "book2" "LDoubtSale$Book;", Cond.methodLink RX1 151 yX1_bestSum, Cond.static yX1_bestSum, Cond.code yX1_bestSum cX1_bestSum 8 (some .int), Cond.methodLink RX1 61 yX0_worthAt, Cond.instanceMethod yX0_worthAt, Cond.selects RX0 yX0_worthAt yX0_worthAt, Cond.initialized RX0, Cond.code yX0_worthAt cX0_worthAt 2 (some .int), Cond.fieldLink RX0 24 "DoubtSale$Book" "size" "I", Cond.fieldLink RX0 9 "DoubtSale$Book" "worths" "[I", Cond.methodLink RX1 155 yX1_pairsFrom]
def wsX1_bundle_r2 : List Cond := [Cond.static yX1_pairsFrom, Cond.code yX1_pairsFrom cX1_pairsFrom 6 (some .int), Cond.methodLink RX1 71 yX0_weightAt, Cond.instanceMethod yX0_weightAt, Cond.selects RX0 yX0_weightAt yX0_weightAt, Cond.code yX0_weightAt cX0_weightAt 2 (some .int), Cond.fieldLink RX0 15 "DoubtSale$Book" "weights" "[I", Cond.methodLink RX1 159 yX1_bothAlone, Cond.static yX1_bothAlone, Cond.code yX1_bothAlone cX1_bothAlone 2 (some .int), Cond.methodLink RX1 84 yX0_bestPlace, Cond.instanceMethod yX0_bestPlace, Cond.selects RX0 yX0_bestPlace yX0_bestPlace, Cond.code yX0_bestPlace cX0_bestPlace 3 (some .int), Cond.methodLink RX0 48 yX0_takeAt, Cond.instanceMethod yX0_takeAt, Cond.selects RX0 yX0_takeAt yX0_takeAt, Cond.code yX0_takeAt cX0_takeAt 2 (some .int), Cond.methodLink RX0 45 yX0_worthAt, Cond.methodLink RX0 41 yX0_shareAt, Cond.instanceMethod yX0_shareAt, Cond.selects RX0 yX0_shareAt yX0_shareAt, Cond.code yX0_shareAt cX0_shareAt 4 (some .int), Cond.methodLink RX0 35 Lib.Math.max.name]
def wsX1_bundle_r3 : List Cond := [Cond.static Lib.Math.max.name, Cond.initialized "java/lang/Math", Cond.code Lib.Math.max.name Lib.Math.max.code 2 (some .int), Cond.methodLink RX1 77 yX0_takeAt, Cond.methodLink RX1 80 yX0_allWeights, Cond.instanceMethod yX0_allWeights, Cond.selects RX0 yX0_allWeights yX0_allWeights, Cond.code yX0_allWeights cX0_allWeights 1 (some .int), Cond.methodLink RX1 162 yJ6_signum_0f7a4, Cond.static yJ6_signum_0f7a4, Cond.initialized RJ6, Cond.code yJ6_signum_0f7a4 cJ6_signum_0f7a4 1 (some .int)]
def wsX1_bundle : List Cond := .code yX1_bundle cX1_bundle 8 (some .int) :: ((wsX1_bundle_r1 ++ (wsX1_bundle_r2 ++ wsX1_bundle_r3)) ++ wsX10 ++ wsX00)
def wsX1_sample : List Cond := .code yX1_sample cX1_sample 2 (some .int) :: ([.fieldLink RX1 30 "DoubtSale" "sampleCount" "I", .fieldLink RX1 22 "DoubtSale" "samples" "[I", .methodLink RX1 48 yX1_isWorth, .static yX1_isWorth, .initialized RX1, .code yX1_isWorth cX1_isWorth 1 (some .boolean)] ++ wsX10)
def wsX1_clear : List Cond := .code yX1_clear cX1_clear 2 (some .int) :: ([.fieldLink RX1 30 "DoubtSale" "sampleCount" "I"] ++ wsX10)
def wsX1_samplesFrom : List Cond := .code yX1_samplesFrom cX1_samplesFrom 4 (some .int) :: ([.fieldLink RX1 30 "DoubtSale" "sampleCount" "I", .fieldLink RX1 22 "DoubtSale" "samples" "[I"] ++ wsX10)
def wsX1_learnt : List Cond := .code yX1_learnt cX1_learnt 5 (some .int) :: ([.fieldLink RX1 30 "DoubtSale" "sampleCount" "I", .fieldLink RX1 22 "DoubtSale" "samples" "[I", .methodLink RX1 167 yX1_samplesFrom, .instanceMethod yX1_samplesFrom, .selects RX1 yX1_samplesFrom yX1_samplesFrom, .initialized RX1, .code yX1_samplesFrom cX1_samplesFrom 4 (some .int)] ++ wsX10)
def wsX1_count : List Cond := .code yX1_count cX1_count 2 (some .int) :: ([.fieldLink RX1 26 "DoubtSale" "buyerCount" "I", .fieldLink RX1 33 "DoubtSale" "reservePrice" "I", .fieldLink RX1 30 "DoubtSale" "sampleCount" "I"] ++ wsX10)
def wsX1_trace : List Cond := .code yX1_trace cX1_trace 1 (some .long) :: ([.fieldLink RX1 36 "DoubtSale" "traced" "J"] ++ wsX10)
def wsX2_renews : List Cond := .code yX2_renews cX2_renews 2 none :: ([.fieldLink RX2 13 "DoubtSaleModel" "many" "[I", .fieldLink RX2 17 "DoubtSaleModel" "worth" "[I", .fieldLink RX2 20 "DoubtSaleModel" "weight" "[I"] ++ wsX20)
def wsX2_init : List Cond := .code yX2_init cX2_init 1 none :: ([.methodLink RX2 1 objectInit, .instanceMethod objectInit, .code objectInit ⟨#[0xb1]⟩ 1 none, .fieldLink RX2 7 "DoubtSaleModel" "n" "I", .arrayClass .int, .fieldLink RX2 13 "DoubtSaleModel" "many" "[I", .fieldLink RX2 17 "DoubtSaleModel" "worth" "[I", .fieldLink RX2 20 "DoubtSaleModel" "weight" "[I", .fieldLink RX2 23 "DoubtSaleModel" "sample" "[I", .fieldLink RX2 26 "DoubtSaleModel" "place" "[I", .fieldLink RX2 29 "DoubtSaleModel" "told" "[I", .fieldLink RX2 32 "DoubtSaleModel" "price" "[I", .methodLink RX2 35 yX2_renews, .instanceMethod yX2_renews, .selects RX2 yX2_renews yX2_renews, .initialized RX2, .code yX2_renews cX2_renews 2 none] ++ wsX20)
def wsX2_in : List Cond := .code yX2_in cX2_in 3 (some .boolean) :: ([])
def wsX2_isBuyer : List Cond := .code yX2_isBuyer cX2_isBuyer 2 (some .boolean) :: ([.fieldLink RX2 7 "DoubtSaleModel" "n" "I", .methodLink RX2 41 yX2_in, .static yX2_in, .initialized RX2, .code yX2_in cX2_in 3 (some .boolean)] ++ wsX20)
def wsX2_buyers : List Cond := .code yX2_buyers cX2_buyers 3 (some .int) :: ([.fieldLink RX2 38 "DoubtSaleModel" "thrown" "I", .fieldLink RX2 7 "DoubtSaleModel" "n" "I", .methodLink RX2 41 yX2_in, .static yX2_in, .initialized RX2, .code yX2_in cX2_in 3 (some .boolean), .methodLink RX2 35 yX2_renews, .instanceMethod yX2_renews, .selects RX2 yX2_renews yX2_renews, .code yX2_renews cX2_renews 2 none, .fieldLink RX2 13 "DoubtSaleModel" "many" "[I", .fieldLink RX2 17 "DoubtSaleModel" "worth" "[I", .fieldLink RX2 20 "DoubtSaleModel" "weight" "[I"] ++ wsX20)
def wsX2_book : List Cond := .code yX2_book cX2_book 4 (some .int) :: ([.fieldLink RX2 38 "DoubtSaleModel" "thrown" "I", .fieldLink RX2 13 "DoubtSaleModel" "many" "[I", .fieldLink RX2 17 "DoubtSaleModel" "worth" "[I", .fieldLink RX2 20 "DoubtSaleModel" "weight" "[I", .methodLink RX2 45 yX2_isBuyer, .instanceMethod yX2_isBuyer, .selects RX2 yX2_isBuyer yX2_isBuyer, .initialized RX2, .code yX2_isBuyer cX2_isBuyer 2 (some .boolean), .fieldLink RX2 7 "DoubtSaleModel" "n" "I", .methodLink RX2 41 yX2_in, .static yX2_in, .code yX2_in cX2_in 3 (some .boolean)] ++ wsX20)
def wsX2_more : List Cond := .code yX2_more cX2_more 4 (some .int) :: ([.fieldLink RX2 38 "DoubtSaleModel" "thrown" "I", .fieldLink RX2 17 "DoubtSaleModel" "worth" "[I", .fieldLink RX2 13 "DoubtSaleModel" "many" "[I", .fieldLink RX2 20 "DoubtSaleModel" "weight" "[I", .methodLink RX2 45 yX2_isBuyer, .instanceMethod yX2_isBuyer, .selects RX2 yX2_isBuyer yX2_isBuyer, .initialized RX2, .code yX2_isBuyer cX2_isBuyer 2 (some .boolean), .fieldLink RX2 7 "DoubtSaleModel" "n" "I", .methodLink RX2 41 yX2_in, .static yX2_in, .code yX2_in cX2_in 3 (some .boolean)] ++ wsX20)
def wsX2_share : List Cond := .code yX2_share cX2_share 5 (some .int) :: ([.fieldLink RX2 13 "DoubtSaleModel" "many" "[I", .fieldLink RX2 20 "DoubtSaleModel" "weight" "[I"] ++ wsX20)
def wsX2_take : List Cond := .code yX2_take cX2_take 3 (some .int) :: ([.fieldLink RX2 13 "DoubtSaleModel" "many" "[I", .fieldLink RX2 17 "DoubtSaleModel" "worth" "[I", .methodLink RX2 49 yX2_share, .instanceMethod yX2_share, .selects RX2 yX2_share yX2_share, .initialized RX2, .code yX2_share cX2_share 5 (some .int), .fieldLink RX2 20 "DoubtSaleModel" "weight" "[I"] ++ wsX20)
def wsX2_bestOf : List Cond := .code yX2_bestOf cX2_bestOf 4 (some .int) :: ([.fieldLink RX2 13 "DoubtSaleModel" "many" "[I", .methodLink RX2 53 yX2_take, .instanceMethod yX2_take, .selects RX2 yX2_take yX2_take, .initialized RX2, .code yX2_take cX2_take 3 (some .int), .fieldLink RX2 17 "DoubtSaleModel" "worth" "[I", .methodLink RX2 49 yX2_share, .instanceMethod yX2_share, .selects RX2 yX2_share yX2_share, .code yX2_share cX2_share 5 (some .int), .fieldLink RX2 20 "DoubtSaleModel" "weight" "[I"] ++ wsX20)
def wsX2_isPlace : List Cond := .code yX2_isPlace cX2_isPlace 3 (some .boolean) :: ([.fieldLink RX2 13 "DoubtSaleModel" "many" "[I", .methodLink RX2 41 yX2_in, .static yX2_in, .initialized RX2, .code yX2_in cX2_in 3 (some .boolean)] ++ wsX20)
def wsX2_about_r1 : List Cond := [Cond.fieldLink RX2 38 "DoubtSaleModel" "thrown" "I", Cond.fieldLink RX2 17 "DoubtSaleModel" "worth" "[I", Cond.fieldLink RX2 20 "DoubtSaleModel" "weight" "[I", Cond.methodLink RX2 45 yX2_isBuyer, Cond.instanceMethod yX2_isBuyer, Cond.selects RX2 yX2_isBuyer yX2_isBuyer, Cond.initialized RX2, Cond.code yX2_isBuyer cX2_isBuyer 2 (some .boolean), Cond.fieldLink RX2 7 "DoubtSaleModel" "n" "I", Cond.methodLink RX2 41 yX2_in, Cond.static yX2_in, Cond.code yX2_in cX2_in 3 (some .boolean), Cond.methodLink RX2 56 yX2_isPlace, Cond.instanceMethod yX2_isPlace, Cond.selects RX2 yX2_isPlace yX2_isPlace, Cond.code yX2_isPlace cX2_isPlace 3 (some .boolean), Cond.fieldLink RX2 13 "DoubtSaleModel" "many" "[I", Cond.methodLink RX2 49 yX2_share, Cond.instanceMethod yX2_share, Cond.selects RX2 yX2_share yX2_share, Cond.code yX2_share cX2_share 5 (some .int), Cond.methodLink RX2 53 yX2_take, Cond.instanceMethod yX2_take, Cond.selects RX2 yX2_take yX2_take]
def wsX2_about_r2 : List Cond := [Cond.code yX2_take cX2_take 3 (some .int)]
def wsX2_about : List Cond := .code yX2_about cX2_about 4 (some .int) :: ((wsX2_about_r1 ++ wsX2_about_r2) ++ wsX20)
def wsX2_whole_r1 : List Cond := [Cond.fieldLink RX2 38 "DoubtSaleModel" "thrown" "I", Cond.fieldLink RX2 13 "DoubtSaleModel" "many" "[I", Cond.methodLink RX2 45 yX2_isBuyer, Cond.instanceMethod yX2_isBuyer, Cond.selects RX2 yX2_isBuyer yX2_isBuyer, Cond.initialized RX2, Cond.code yX2_isBuyer cX2_isBuyer 2 (some .boolean), Cond.fieldLink RX2 7 "DoubtSaleModel" "n" "I", Cond.methodLink RX2 41 yX2_in, Cond.static yX2_in, Cond.code yX2_in cX2_in 3 (some .boolean), Cond.methodLink RX2 49 yX2_share, Cond.instanceMethod yX2_share, Cond.selects RX2 yX2_share yX2_share, Cond.code yX2_share cX2_share 5 (some .int), Cond.fieldLink RX2 20 "DoubtSaleModel" "weight" "[I", Cond.methodLink RX2 60 yX2_bestOf, Cond.instanceMethod yX2_bestOf, Cond.selects RX2 yX2_bestOf yX2_bestOf, Cond.code yX2_bestOf cX2_bestOf 4 (some .int), Cond.methodLink RX2 53 yX2_take, Cond.instanceMethod yX2_take, Cond.selects RX2 yX2_take yX2_take, Cond.code yX2_take cX2_take 3 (some .int)]
def wsX2_whole_r2 : List Cond := [Cond.fieldLink RX2 17 "DoubtSaleModel" "worth" "[I"]
def wsX2_whole : List Cond := .code yX2_whole cX2_whole 3 (some .int) :: ((wsX2_whole_r1 ++ wsX2_whole_r2) ++ wsX20)
def wsX2_irons : List Cond := .code yX2_irons cX2_irons 13 none :: ([.fieldLink RX2 64 "DoubtSaleModel" "upper" "J", .fieldLink RX2 68 "DoubtSaleModel" "lower" "J", .fieldLink RX2 13 "DoubtSaleModel" "many" "[I", .methodLink RX2 53 yX2_take, .instanceMethod yX2_take, .selects RX2 yX2_take yX2_take, .initialized RX2, .code yX2_take cX2_take 3 (some .int), .fieldLink RX2 17 "DoubtSaleModel" "worth" "[I", .methodLink RX2 49 yX2_share, .instanceMethod yX2_share, .selects RX2 yX2_share yX2_share, .code yX2_share cX2_share 5 (some .int), .fieldLink RX2 20 "DoubtSaleModel" "weight" "[I"] ++ wsX20)
def wsX2_common : List Cond := .code yX2_common cX2_common 10 (some .long) :: ([])
def wsX2_part : List Cond := .code yX2_part cX2_part 8 (some .long) :: ([.methodLink RX2 71 yX2_common, .static yX2_common, .initialized RX2, .code yX2_common cX2_common 10 (some .long)])
def wsX2_slope_r1 : List Cond := [Cond.fieldLink RX2 38 "DoubtSaleModel" "thrown" "I", Cond.constantLong RX2 75 (-1000000000000000), Cond.fieldLink RX2 64 "DoubtSaleModel" "upper" "J", Cond.fieldLink RX2 20 "DoubtSaleModel" "weight" "[I", Cond.fieldLink RX2 68 "DoubtSaleModel" "lower" "J", Cond.methodLink RX2 45 yX2_isBuyer, Cond.instanceMethod yX2_isBuyer, Cond.selects RX2 yX2_isBuyer yX2_isBuyer, Cond.initialized RX2, Cond.code yX2_isBuyer cX2_isBuyer 2 (some .boolean), Cond.fieldLink RX2 7 "DoubtSaleModel" "n" "I", Cond.methodLink RX2 41 yX2_in, Cond.static yX2_in, Cond.code yX2_in cX2_in 3 (some .boolean), Cond.methodLink RX2 56 yX2_isPlace, Cond.instanceMethod yX2_isPlace, Cond.selects RX2 yX2_isPlace yX2_isPlace, Cond.code yX2_isPlace cX2_isPlace 3 (some .boolean), Cond.fieldLink RX2 13 "DoubtSaleModel" "many" "[I", Cond.methodLink RX2 77 yX2_irons, Cond.instanceMethod yX2_irons, Cond.selects RX2 yX2_irons yX2_irons, Cond.code yX2_irons cX2_irons 13 none, Cond.methodLink RX2 53 yX2_take]
def wsX2_slope_r2 : List Cond := [Cond.instanceMethod yX2_take, Cond.selects RX2 yX2_take yX2_take, Cond.code yX2_take cX2_take 3 (some .int), Cond.fieldLink RX2 17 "DoubtSaleModel" "worth" "[I", Cond.methodLink RX2 49 yX2_share, Cond.instanceMethod yX2_share, Cond.selects RX2 yX2_share yX2_share, Cond.code yX2_share cX2_share 5 (some .int), Cond.methodLink RX2 81 yX2_part, Cond.instanceMethod yX2_part, Cond.selects RX2 yX2_part yX2_part, Cond.code yX2_part cX2_part 8 (some .long), Cond.methodLink RX2 71 yX2_common, Cond.static yX2_common, Cond.code yX2_common cX2_common 10 (some .long)]
def wsX2_slope : List Cond := .code yX2_slope cX2_slope 5 (some .long) :: ((wsX2_slope_r1 ++ wsX2_slope_r2) ++ wsX20)
def wsX2_getter : List Cond := .code yX2_getter cX2_getter 7 (some .int) :: ([.fieldLink RX2 7 "DoubtSaleModel" "n" "I", .fieldLink RX2 26 "DoubtSaleModel" "place" "[I", .fieldLink RX2 64 "DoubtSaleModel" "upper" "J", .fieldLink RX2 68 "DoubtSaleModel" "lower" "J", .methodLink RX2 77 yX2_irons, .instanceMethod yX2_irons, .selects RX2 yX2_irons yX2_irons, .initialized RX2, .code yX2_irons cX2_irons 13 none, .fieldLink RX2 13 "DoubtSaleModel" "many" "[I", .methodLink RX2 53 yX2_take, .instanceMethod yX2_take, .selects RX2 yX2_take yX2_take, .code yX2_take cX2_take 3 (some .int), .fieldLink RX2 17 "DoubtSaleModel" "worth" "[I", .methodLink RX2 49 yX2_share, .instanceMethod yX2_share, .selects RX2 yX2_share yX2_share, .code yX2_share cX2_share 5 (some .int), .fieldLink RX2 20 "DoubtSaleModel" "weight" "[I"] ++ wsX20)
def wsX2_paid : List Cond := .code yX2_paid cX2_paid 5 (some .int) :: ([.fieldLink RX2 26 "DoubtSaleModel" "place" "[I", .fieldLink RX2 17 "DoubtSaleModel" "worth" "[I", .methodLink RX2 85 yX2_getter, .instanceMethod yX2_getter, .selects RX2 yX2_getter yX2_getter, .initialized RX2, .code yX2_getter cX2_getter 7 (some .int), .fieldLink RX2 7 "DoubtSaleModel" "n" "I", .fieldLink RX2 64 "DoubtSaleModel" "upper" "J", .fieldLink RX2 68 "DoubtSaleModel" "lower" "J", .methodLink RX2 77 yX2_irons, .instanceMethod yX2_irons, .selects RX2 yX2_irons yX2_irons, .code yX2_irons cX2_irons 13 none, .fieldLink RX2 13 "DoubtSaleModel" "many" "[I", .methodLink RX2 53 yX2_take, .instanceMethod yX2_take, .selects RX2 yX2_take yX2_take, .code yX2_take cX2_take 3 (some .int), .methodLink RX2 49 yX2_share, .instanceMethod yX2_share, .selects RX2 yX2_share yX2_share, .code yX2_share cX2_share 5 (some .int), .fieldLink RX2 20 "DoubtSaleModel" "weight" "[I"] ++ wsX20)
def wsX2_isPlaces : List Cond := .code yX2_isPlaces cX2_isPlaces 6 (some .boolean) :: ([.fieldLink RX2 26 "DoubtSaleModel" "place" "[I", .fieldLink RX2 7 "DoubtSaleModel" "n" "I", .methodLink RX2 56 yX2_isPlace, .instanceMethod yX2_isPlace, .selects RX2 yX2_isPlace yX2_isPlace, .initialized RX2, .code yX2_isPlace cX2_isPlace 3 (some .boolean), .fieldLink RX2 13 "DoubtSaleModel" "many" "[I", .methodLink RX2 41 yX2_in, .static yX2_in, .code yX2_in cX2_in 3 (some .boolean)] ++ wsX20)
def wsX2_gets_r1 : List Cond := [Cond.fieldLink RX2 38 "DoubtSaleModel" "thrown" "I", Cond.methodLink RX2 89 yX2_isPlaces, Cond.instanceMethod yX2_isPlaces, Cond.selects RX2 yX2_isPlaces yX2_isPlaces, Cond.initialized RX2, Cond.code yX2_isPlaces cX2_isPlaces 6 (some .boolean), Cond.fieldLink RX2 26 "DoubtSaleModel" "place" "[I", Cond.fieldLink RX2 7 "DoubtSaleModel" "n" "I", Cond.methodLink RX2 56 yX2_isPlace, Cond.instanceMethod yX2_isPlace, Cond.selects RX2 yX2_isPlace yX2_isPlace, Cond.code yX2_isPlace cX2_isPlace 3 (some .boolean), Cond.fieldLink RX2 13 "DoubtSaleModel" "many" "[I", Cond.methodLink RX2 41 yX2_in, Cond.static yX2_in, Cond.code yX2_in cX2_in 3 (some .boolean), Cond.methodLink RX2 85 yX2_getter, Cond.instanceMethod yX2_getter, Cond.selects RX2 yX2_getter yX2_getter, Cond.code yX2_getter cX2_getter 7 (some .int), Cond.fieldLink RX2 64 "DoubtSaleModel" "upper" "J", Cond.fieldLink RX2 68 "DoubtSaleModel" "lower" "J", Cond.methodLink RX2 77 yX2_irons, Cond.instanceMethod yX2_irons]
def wsX2_gets_r2 : List Cond := [Cond.selects RX2 yX2_irons yX2_irons, Cond.code yX2_irons cX2_irons 13 none, Cond.methodLink RX2 53 yX2_take, Cond.instanceMethod yX2_take, Cond.selects RX2 yX2_take yX2_take, Cond.code yX2_take cX2_take 3 (some .int), Cond.fieldLink RX2 17 "DoubtSaleModel" "worth" "[I", Cond.methodLink RX2 49 yX2_share, Cond.instanceMethod yX2_share, Cond.selects RX2 yX2_share yX2_share, Cond.code yX2_share cX2_share 5 (some .int), Cond.fieldLink RX2 20 "DoubtSaleModel" "weight" "[I"]
def wsX2_gets : List Cond := .code yX2_gets cX2_gets 4 (some .int) :: ((wsX2_gets_r1 ++ wsX2_gets_r2) ++ wsX20)
def wsX2_pays_r1 : List Cond := [Cond.fieldLink RX2 38 "DoubtSaleModel" "thrown" "I", Cond.methodLink RX2 89 yX2_isPlaces, Cond.instanceMethod yX2_isPlaces, Cond.selects RX2 yX2_isPlaces yX2_isPlaces, Cond.initialized RX2, Cond.code yX2_isPlaces cX2_isPlaces 6 (some .boolean), Cond.fieldLink RX2 26 "DoubtSaleModel" "place" "[I", Cond.fieldLink RX2 7 "DoubtSaleModel" "n" "I", Cond.methodLink RX2 56 yX2_isPlace, Cond.instanceMethod yX2_isPlace, Cond.selects RX2 yX2_isPlace yX2_isPlace, Cond.code yX2_isPlace cX2_isPlace 3 (some .boolean), Cond.fieldLink RX2 13 "DoubtSaleModel" "many" "[I", Cond.methodLink RX2 41 yX2_in, Cond.static yX2_in, Cond.code yX2_in cX2_in 3 (some .boolean), Cond.methodLink RX2 45 yX2_isBuyer, Cond.instanceMethod yX2_isBuyer, Cond.selects RX2 yX2_isBuyer yX2_isBuyer, Cond.code yX2_isBuyer cX2_isBuyer 2 (some .boolean), Cond.methodLink RX2 92 yX2_paid, Cond.instanceMethod yX2_paid, Cond.selects RX2 yX2_paid yX2_paid, Cond.code yX2_paid cX2_paid 5 (some .int)]
def wsX2_pays_r2 : List Cond := [Cond.fieldLink RX2 17 "DoubtSaleModel" "worth" "[I", Cond.methodLink RX2 85 yX2_getter, Cond.instanceMethod yX2_getter, Cond.selects RX2 yX2_getter yX2_getter, Cond.code yX2_getter cX2_getter 7 (some .int), Cond.fieldLink RX2 64 "DoubtSaleModel" "upper" "J", Cond.fieldLink RX2 68 "DoubtSaleModel" "lower" "J", Cond.methodLink RX2 77 yX2_irons, Cond.instanceMethod yX2_irons, Cond.selects RX2 yX2_irons yX2_irons, Cond.code yX2_irons cX2_irons 13 none, Cond.methodLink RX2 53 yX2_take, Cond.instanceMethod yX2_take, Cond.selects RX2 yX2_take yX2_take, Cond.code yX2_take cX2_take 3 (some .int), Cond.methodLink RX2 49 yX2_share, Cond.instanceMethod yX2_share, Cond.selects RX2 yX2_share yX2_share, Cond.code yX2_share cX2_share 5 (some .int), Cond.fieldLink RX2 20 "DoubtSaleModel" "weight" "[I"]
def wsX2_pays : List Cond := .code yX2_pays cX2_pays 5 (some .int) :: ((wsX2_pays_r1 ++ wsX2_pays_r2) ++ wsX20)
def wsX2_gain_r1 : List Cond := [Cond.fieldLink RX2 38 "DoubtSaleModel" "thrown" "I", Cond.constantLong RX2 75 (-1000000000000000), Cond.fieldLink RX2 17 "DoubtSaleModel" "worth" "[I", Cond.fieldLink RX2 26 "DoubtSaleModel" "place" "[I", Cond.methodLink RX2 89 yX2_isPlaces, Cond.instanceMethod yX2_isPlaces, Cond.selects RX2 yX2_isPlaces yX2_isPlaces, Cond.initialized RX2, Cond.code yX2_isPlaces cX2_isPlaces 6 (some .boolean), Cond.fieldLink RX2 7 "DoubtSaleModel" "n" "I", Cond.methodLink RX2 56 yX2_isPlace, Cond.instanceMethod yX2_isPlace, Cond.selects RX2 yX2_isPlace yX2_isPlace, Cond.code yX2_isPlace cX2_isPlace 3 (some .boolean), Cond.fieldLink RX2 13 "DoubtSaleModel" "many" "[I", Cond.methodLink RX2 41 yX2_in, Cond.static yX2_in, Cond.code yX2_in cX2_in 3 (some .boolean), Cond.methodLink RX2 45 yX2_isBuyer, Cond.instanceMethod yX2_isBuyer, Cond.selects RX2 yX2_isBuyer yX2_isBuyer, Cond.code yX2_isBuyer cX2_isBuyer 2 (some .boolean), Cond.methodLink RX2 85 yX2_getter, Cond.instanceMethod yX2_getter]
def wsX2_gain_r2 : List Cond := [Cond.selects RX2 yX2_getter yX2_getter, Cond.code yX2_getter cX2_getter 7 (some .int), Cond.fieldLink RX2 64 "DoubtSaleModel" "upper" "J", Cond.fieldLink RX2 68 "DoubtSaleModel" "lower" "J", Cond.methodLink RX2 77 yX2_irons, Cond.instanceMethod yX2_irons, Cond.selects RX2 yX2_irons yX2_irons, Cond.code yX2_irons cX2_irons 13 none, Cond.methodLink RX2 53 yX2_take, Cond.instanceMethod yX2_take, Cond.selects RX2 yX2_take yX2_take, Cond.code yX2_take cX2_take 3 (some .int), Cond.methodLink RX2 49 yX2_share, Cond.instanceMethod yX2_share, Cond.selects RX2 yX2_share yX2_share, Cond.code yX2_share cX2_share 5 (some .int), Cond.fieldLink RX2 20 "DoubtSaleModel" "weight" "[I", Cond.methodLink RX2 92 yX2_paid, Cond.instanceMethod yX2_paid, Cond.selects RX2 yX2_paid yX2_paid, Cond.code yX2_paid cX2_paid 5 (some .int)]
def wsX2_gain : List Cond := .code yX2_gain cX2_gain 7 (some .long) :: ((wsX2_gain_r1 ++ wsX2_gain_r2) ++ wsX20)
def wsX2_all : List Cond := .code yX2_all cX2_all 3 (some .int) :: ([.fieldLink RX2 7 "DoubtSaleModel" "n" "I", .methodLink RX2 49 yX2_share, .instanceMethod yX2_share, .selects RX2 yX2_share yX2_share, .initialized RX2, .code yX2_share cX2_share 5 (some .int), .fieldLink RX2 13 "DoubtSaleModel" "many" "[I", .fieldLink RX2 20 "DoubtSaleModel" "weight" "[I"] ++ wsX20)
def wsX2_comes : List Cond := .code yX2_comes cX2_comes 5 (some .int) :: ([.fieldLink RX2 26 "DoubtSaleModel" "place" "[I", .fieldLink RX2 7 "DoubtSaleModel" "n" "I", .fieldLink RX2 20 "DoubtSaleModel" "weight" "[I", .methodLink RX2 56 yX2_isPlace, .instanceMethod yX2_isPlace, .selects RX2 yX2_isPlace yX2_isPlace, .initialized RX2, .code yX2_isPlace cX2_isPlace 3 (some .boolean), .fieldLink RX2 13 "DoubtSaleModel" "many" "[I", .methodLink RX2 41 yX2_in, .static yX2_in, .code yX2_in cX2_in 3 (some .boolean)] ++ wsX20)
def wsX2_brings_r1 : List Cond := [Cond.fieldLink RX2 38 "DoubtSaleModel" "thrown" "I", Cond.constantLong RX2 75 (-1000000000000000), Cond.fieldLink RX2 7 "DoubtSaleModel" "n" "I", Cond.methodLink RX2 41 yX2_in, Cond.static yX2_in, Cond.initialized RX2, Cond.code yX2_in cX2_in 3 (some .boolean), Cond.methodLink RX2 95 yX2_comes, Cond.instanceMethod yX2_comes, Cond.selects RX2 yX2_comes yX2_comes, Cond.code yX2_comes cX2_comes 5 (some .int), Cond.fieldLink RX2 26 "DoubtSaleModel" "place" "[I", Cond.fieldLink RX2 20 "DoubtSaleModel" "weight" "[I", Cond.methodLink RX2 56 yX2_isPlace, Cond.instanceMethod yX2_isPlace, Cond.selects RX2 yX2_isPlace yX2_isPlace, Cond.code yX2_isPlace cX2_isPlace 3 (some .boolean), Cond.fieldLink RX2 13 "DoubtSaleModel" "many" "[I", Cond.methodLink RX2 92 yX2_paid, Cond.instanceMethod yX2_paid, Cond.selects RX2 yX2_paid yX2_paid, Cond.code yX2_paid cX2_paid 5 (some .int), Cond.fieldLink RX2 17 "DoubtSaleModel" "worth" "[I", Cond.methodLink RX2 85 yX2_getter]
def wsX2_brings_r2 : List Cond := [Cond.instanceMethod yX2_getter, Cond.selects RX2 yX2_getter yX2_getter, Cond.code yX2_getter cX2_getter 7 (some .int), Cond.fieldLink RX2 64 "DoubtSaleModel" "upper" "J", Cond.fieldLink RX2 68 "DoubtSaleModel" "lower" "J", Cond.methodLink RX2 77 yX2_irons, Cond.instanceMethod yX2_irons, Cond.selects RX2 yX2_irons yX2_irons, Cond.code yX2_irons cX2_irons 13 none, Cond.methodLink RX2 53 yX2_take, Cond.instanceMethod yX2_take, Cond.selects RX2 yX2_take yX2_take, Cond.code yX2_take cX2_take 3 (some .int), Cond.methodLink RX2 49 yX2_share, Cond.instanceMethod yX2_share, Cond.selects RX2 yX2_share yX2_share, Cond.code yX2_share cX2_share 5 (some .int), Cond.methodLink RX2 98 yX2_all, Cond.instanceMethod yX2_all, Cond.selects RX2 yX2_all yX2_all, Cond.code yX2_all cX2_all 3 (some .int), Cond.methodLink RX2 81 yX2_part, Cond.instanceMethod yX2_part, Cond.selects RX2 yX2_part yX2_part]
def wsX2_brings_r3 : List Cond := [Cond.code yX2_part cX2_part 8 (some .long), Cond.methodLink RX2 71 yX2_common, Cond.static yX2_common, Cond.code yX2_common cX2_common 10 (some .long)]
def wsX2_brings : List Cond := .code yX2_brings cX2_brings 7 (some .long) :: ((wsX2_brings_r1 ++ (wsX2_brings_r2 ++ wsX2_brings_r3)) ++ wsX20)
def wsX2_reserve : List Cond := .code yX2_reserve cX2_reserve 3 (some .int) :: ([.fieldLink RX2 38 "DoubtSaleModel" "thrown" "I", .fieldLink RX2 101 "DoubtSaleModel" "reserve" "I", .methodLink RX2 41 yX2_in, .static yX2_in, .initialized RX2, .code yX2_in cX2_in 3 (some .boolean)] ++ wsX20)
def wsX2_payOf : List Cond := .code yX2_payOf cX2_payOf 5 (some .int) :: ([.fieldLink RX2 7 "DoubtSaleModel" "n" "I", .fieldLink RX2 29 "DoubtSaleModel" "told" "[I", .fieldLink RX2 101 "DoubtSaleModel" "reserve" "I"] ++ wsX20)
def wsX2_pay : List Cond := .code yX2_pay cX2_pay 7 (some .int) :: ([.fieldLink RX2 38 "DoubtSaleModel" "thrown" "I", .fieldLink RX2 29 "DoubtSaleModel" "told" "[I", .fieldLink RX2 7 "DoubtSaleModel" "n" "I", .fieldLink RX2 107 "DoubtSaleModel" "trace" "J", .constantLong RX2 110 (11), .constantLong RX2 112 (111), .methodLink RX2 41 yX2_in, .static yX2_in, .initialized RX2, .code yX2_in cX2_in 3 (some .boolean), .methodLink RX2 104 yX2_payOf, .instanceMethod yX2_payOf, .selects RX2 yX2_payOf yX2_payOf, .code yX2_payOf cX2_payOf 5 (some .int), .fieldLink RX2 101 "DoubtSaleModel" "reserve" "I"] ++ wsX20)
def wsX2_average_r1 : List Cond := [Cond.fieldLink RX2 38 "DoubtSaleModel" "thrown" "I", Cond.constantLong RX2 75 (-1000000000000000), Cond.fieldLink RX2 7 "DoubtSaleModel" "n" "I", Cond.fieldLink RX2 29 "DoubtSaleModel" "told" "[I", Cond.fieldLink RX2 17 "DoubtSaleModel" "worth" "[I", Cond.fieldLink RX2 26 "DoubtSaleModel" "place" "[I", Cond.methodLink RX2 41 yX2_in, Cond.static yX2_in, Cond.initialized RX2, Cond.code yX2_in cX2_in 3 (some .boolean), Cond.methodLink RX2 95 yX2_comes, Cond.instanceMethod yX2_comes, Cond.selects RX2 yX2_comes yX2_comes, Cond.code yX2_comes cX2_comes 5 (some .int), Cond.fieldLink RX2 20 "DoubtSaleModel" "weight" "[I", Cond.methodLink RX2 56 yX2_isPlace, Cond.instanceMethod yX2_isPlace, Cond.selects RX2 yX2_isPlace yX2_isPlace, Cond.code yX2_isPlace cX2_isPlace 3 (some .boolean), Cond.fieldLink RX2 13 "DoubtSaleModel" "many" "[I", Cond.methodLink RX2 104 yX2_payOf, Cond.instanceMethod yX2_payOf, Cond.selects RX2 yX2_payOf yX2_payOf, Cond.code yX2_payOf cX2_payOf 5 (some .int)]
def wsX2_average_r2 : List Cond := [Cond.fieldLink RX2 101 "DoubtSaleModel" "reserve" "I", Cond.methodLink RX2 98 yX2_all, Cond.instanceMethod yX2_all, Cond.selects RX2 yX2_all yX2_all, Cond.code yX2_all cX2_all 3 (some .int), Cond.methodLink RX2 49 yX2_share, Cond.instanceMethod yX2_share, Cond.selects RX2 yX2_share yX2_share, Cond.code yX2_share cX2_share 5 (some .int), Cond.methodLink RX2 81 yX2_part, Cond.instanceMethod yX2_part, Cond.selects RX2 yX2_part yX2_part, Cond.code yX2_part cX2_part 8 (some .long), Cond.methodLink RX2 71 yX2_common, Cond.static yX2_common, Cond.code yX2_common cX2_common 10 (some .long)]
def wsX2_average : List Cond := .code yX2_average cX2_average 8 (some .long) :: ((wsX2_average_r1 ++ wsX2_average_r2) ++ wsX20)
def wsX2_offers_r1 : List Cond := [Cond.fieldLink RX2 38 "DoubtSaleModel" "thrown" "I", Cond.constantLong RX2 75 (-1000000000000000), Cond.fieldLink RX2 7 "DoubtSaleModel" "n" "I", Cond.fieldLink RX2 32 "DoubtSaleModel" "price" "[I", Cond.fieldLink RX2 13 "DoubtSaleModel" "many" "[I", Cond.fieldLink RX2 17 "DoubtSaleModel" "worth" "[I", Cond.methodLink RX2 41 yX2_in, Cond.static yX2_in, Cond.initialized RX2, Cond.code yX2_in cX2_in 3 (some .boolean), Cond.methodLink RX2 45 yX2_isBuyer, Cond.instanceMethod yX2_isBuyer, Cond.selects RX2 yX2_isBuyer yX2_isBuyer, Cond.code yX2_isBuyer cX2_isBuyer 2 (some .boolean), Cond.methodLink RX2 49 yX2_share, Cond.instanceMethod yX2_share, Cond.selects RX2 yX2_share yX2_share, Cond.code yX2_share cX2_share 5 (some .int), Cond.fieldLink RX2 20 "DoubtSaleModel" "weight" "[I", Cond.methodLink RX2 81 yX2_part, Cond.instanceMethod yX2_part, Cond.selects RX2 yX2_part yX2_part, Cond.code yX2_part cX2_part 8 (some .long), Cond.methodLink RX2 71 yX2_common]
def wsX2_offers_r2 : List Cond := [Cond.static yX2_common, Cond.code yX2_common cX2_common 10 (some .long)]
def wsX2_offers : List Cond := .code yX2_offers cX2_offers 20 (some .long) :: ((wsX2_offers_r1 ++ wsX2_offers_r2) ++ wsX20)
def wsX2_pairs : List Cond := .code yX2_pairs cX2_pairs 7 (some .int) :: ([.fieldLink RX2 13 "DoubtSaleModel" "many" "[I", .fieldLink RX2 17 "DoubtSaleModel" "worth" "[I", .fieldLink RX2 20 "DoubtSaleModel" "weight" "[I"] ++ wsX20)
def wsX2_bundle_r1 : List Cond := [Cond.fieldLink RX2 38 "DoubtSaleModel" "thrown" "I", Cond.constantLong RX2 114 (-1), Cond.fieldLink RX2 13 "DoubtSaleModel" "many" "[I", Cond.fieldLink RX2 17 "DoubtSaleModel" "worth" "[I", Cond.methodLink RX2 45 yX2_isBuyer, Cond.instanceMethod yX2_isBuyer, Cond.selects RX2 yX2_isBuyer yX2_isBuyer, Cond.initialized RX2, Cond.code yX2_isBuyer cX2_isBuyer 2 (some .boolean), Cond.fieldLink RX2 7 "DoubtSaleModel" "n" "I", Cond.methodLink RX2 41 yX2_in, Cond.static yX2_in, Cond.code yX2_in cX2_in 3 (some .boolean), Cond.methodLink RX2 116 yX2_pairs, Cond.instanceMethod yX2_pairs, Cond.selects RX2 yX2_pairs yX2_pairs, Cond.code yX2_pairs cX2_pairs 7 (some .int), Cond.fieldLink RX2 20 "DoubtSaleModel" "weight" "[I", Cond.methodLink RX2 60 yX2_bestOf, Cond.instanceMethod yX2_bestOf, Cond.selects RX2 yX2_bestOf yX2_bestOf, Cond.code yX2_bestOf cX2_bestOf 4 (some .int), Cond.methodLink RX2 53 yX2_take, Cond.instanceMethod yX2_take]
def wsX2_bundle_r2 : List Cond := [Cond.selects RX2 yX2_take yX2_take, Cond.code yX2_take cX2_take 3 (some .int), Cond.methodLink RX2 49 yX2_share, Cond.instanceMethod yX2_share, Cond.selects RX2 yX2_share yX2_share, Cond.code yX2_share cX2_share 5 (some .int)]
def wsX2_bundle : List Cond := .code yX2_bundle cX2_bundle 12 (some .int) :: ((wsX2_bundle_r1 ++ wsX2_bundle_r2) ++ wsX20)
def wsX2_sample : List Cond := .code yX2_sample cX2_sample 2 (some .int) :: ([.fieldLink RX2 38 "DoubtSaleModel" "thrown" "I", .fieldLink RX2 120 "DoubtSaleModel" "samples" "I", .fieldLink RX2 23 "DoubtSaleModel" "sample" "[I", .methodLink RX2 41 yX2_in, .static yX2_in, .initialized RX2, .code yX2_in cX2_in 3 (some .boolean)] ++ wsX20)
def wsX2_clear : List Cond := .code yX2_clear cX2_clear 2 (some .int) :: ([.fieldLink RX2 38 "DoubtSaleModel" "thrown" "I", .fieldLink RX2 120 "DoubtSaleModel" "samples" "I"] ++ wsX20)
def wsX2_learnt : List Cond := .code yX2_learnt cX2_learnt 6 (some .int) :: ([.fieldLink RX2 38 "DoubtSaleModel" "thrown" "I", .fieldLink RX2 120 "DoubtSaleModel" "samples" "I", .fieldLink RX2 23 "DoubtSaleModel" "sample" "[I"] ++ wsX20)
def wsX2_count : List Cond := .code yX2_count cX2_count 2 (some .int) :: ([.fieldLink RX2 38 "DoubtSaleModel" "thrown" "I", .fieldLink RX2 7 "DoubtSaleModel" "n" "I", .fieldLink RX2 101 "DoubtSaleModel" "reserve" "I", .fieldLink RX2 120 "DoubtSaleModel" "samples" "I"] ++ wsX20)
def wsX2_trace : List Cond := .code yX2_trace cX2_trace 1 (some .long) :: ([.fieldLink RX2 38 "DoubtSaleModel" "thrown" "I", .fieldLink RX2 107 "DoubtSaleModel" "trace" "J"] ++ wsX20)
def wsJ9_abs_067f4 : List Cond := .code yJ9_abs_067f4 cJ9_abs_067f4 2 (some .long) :: ([])
def wsJ9_max_7cf53 : List Cond := .code yJ9_max_7cf53 cJ9_max_7cf53 2 (some .int) :: ([])
def wsJ9_min_7cf53 : List Cond := .code yJ9_min_7cf53 cJ9_min_7cf53 2 (some .int) :: ([])
def wsL_law_r1 : List Cond := [Cond.classLink RL 7 RX1, Cond.instantiable RX1 8, Cond.initialized RX1, Cond.classLink RL 10 RX2, Cond.instantiable RX2 14, Cond.initialized RX2, Cond.methodLink RL 9 yX1_init, Cond.instanceMethod yX1_init, Cond.code yX1_init cX1_init 1 none, Cond.methodLink RX1 1 objectInit, Cond.instanceMethod objectInit, Cond.code objectInit ⟨#[0xb1]⟩ 1 none, Cond.classLink RX1 7 RX0, Cond.instantiable RX0 5, Cond.initialized RX0, Cond.fieldLink RX1 10 "DoubtSale" "book0" "LDoubtSale$Book;", Cond.fieldLink RX1 16 "DoubtSale" "book1" "LDoubtSale$Book;", Cond.fieldLink RX1 19 "DoubtSale" "book2" "LDoubtSale$Book;", Cond.arrayClass .int, Cond.fieldLink RX1 22 "DoubtSale" "samples" "[I", Cond.fieldLink RX1 26 "DoubtSale" "buyerCount" "I", Cond.fieldLink RX1 30 "DoubtSale" "sampleCount" "I", Cond.fieldLink RX1 33 "DoubtSale" "reservePrice" "I", Cond.fieldLink RX1 36 "DoubtSale" "traced" "J"]
def wsL_law_r2 : List Cond := [Cond.methodLink RX1 9 yX0_init, Cond.instanceMethod yX0_init, Cond.code yX0_init cX0_init 1 none, Cond.methodLink RX0 3 objectInit, Cond.fieldLink RX0 9 "DoubtSale$Book" "worths" "[I", Cond.fieldLink RX0 15 "DoubtSale$Book" "weights" "[I", Cond.fieldLink RX0 18 "DoubtSale$Book" "uppers" "[I", Cond.fieldLink RX0 21 "DoubtSale$Book" "lowers" "[I", Cond.fieldLink RX0 24 "DoubtSale$Book" "size" "I", Cond.methodLink RX0 28 yX0_begin, Cond.instanceMethod yX0_begin, Cond.selects RX0 yX0_begin yX0_begin, Cond.code yX0_begin cX0_begin 3 none, Cond.methodLink RX0 32 yX0_iron, Cond.instanceMethod yX0_iron, Cond.selects RX0 yX0_iron yX0_iron, Cond.code yX0_iron cX0_iron 6 none, Cond.methodLink RX0 51 yX0_nextCorner, Cond.instanceMethod yX0_nextCorner, Cond.selects RX0 yX0_nextCorner yX0_nextCorner, Cond.code yX0_nextCorner cX0_nextCorner 12 (some .int), Cond.methodLink RX0 48 yX0_takeAt, Cond.instanceMethod yX0_takeAt, Cond.selects RX0 yX0_takeAt yX0_takeAt]
def wsL_law_r3 : List Cond := [Cond.code yX0_takeAt cX0_takeAt 2 (some .int), Cond.methodLink RX0 45 yX0_worthAt, Cond.instanceMethod yX0_worthAt, Cond.selects RX0 yX0_worthAt yX0_worthAt, Cond.code yX0_worthAt cX0_worthAt 2 (some .int), Cond.methodLink RX0 41 yX0_shareAt, Cond.instanceMethod yX0_shareAt, Cond.selects RX0 yX0_shareAt yX0_shareAt, Cond.code yX0_shareAt cX0_shareAt 4 (some .int), Cond.methodLink RX0 35 Lib.Math.max.name, Cond.static Lib.Math.max.name, Cond.initialized "java/lang/Math", Cond.code Lib.Math.max.name Lib.Math.max.code 2 (some .int), Cond.methodLink RL 12 yX2_init, Cond.instanceMethod yX2_init, Cond.code yX2_init cX2_init 1 none, Cond.methodLink RX2 1 objectInit, Cond.fieldLink RX2 7 "DoubtSaleModel" "n" "I", Cond.fieldLink RX2 13 "DoubtSaleModel" "many" "[I", Cond.fieldLink RX2 17 "DoubtSaleModel" "worth" "[I", Cond.fieldLink RX2 20 "DoubtSaleModel" "weight" "[I", Cond.fieldLink RX2 23 "DoubtSaleModel" "sample" "[I", Cond.fieldLink RX2 26 "DoubtSaleModel" "place" "[I", Cond.fieldLink RX2 29 "DoubtSaleModel" "told" "[I"]
def wsL_law_r4 : List Cond := [Cond.fieldLink RX2 32 "DoubtSaleModel" "price" "[I", Cond.methodLink RX2 35 yX2_renews, Cond.instanceMethod yX2_renews, Cond.selects RX2 yX2_renews yX2_renews, Cond.code yX2_renews cX2_renews 2 none, Cond.methodLink RL 13 yX1_buyers, Cond.instanceMethod yX1_buyers, Cond.selects RX1 yX1_buyers yX1_buyers, Cond.code yX1_buyers cX1_buyers 3 (some .int), Cond.methodLink RX1 40 yX0_begin, Cond.methodLink RL 17 yX2_buyers, Cond.instanceMethod yX2_buyers, Cond.selects RX2 yX2_buyers yX2_buyers, Cond.code yX2_buyers cX2_buyers 3 (some .int), Cond.fieldLink RX2 38 "DoubtSaleModel" "thrown" "I", Cond.methodLink RX2 41 yX2_in, Cond.static yX2_in, Cond.code yX2_in cX2_in 3 (some .boolean), Cond.methodLink RL 18 yX1_book, Cond.instanceMethod yX1_book, Cond.selects RX1 yX1_book yX1_book, Cond.code yX1_book cX1_book 5 (some .int), Cond.methodLink RX1 44 yX1_isBuyer, Cond.instanceMethod yX1_isBuyer]
def wsL_law_r5 : List Cond := [Cond.selects RX1 yX1_isBuyer yX1_isBuyer, Cond.code yX1_isBuyer cX1_isBuyer 2 (some .boolean), Cond.methodLink RX1 48 yX1_isWorth, Cond.static yX1_isWorth, Cond.code yX1_isWorth cX1_isWorth 1 (some .boolean), Cond.methodLink RX1 51 yX1_isWeight, Cond.static yX1_isWeight, Cond.code yX1_isWeight cX1_isWeight 1 (some .boolean), Cond.methodLink RX1 54 yX1_bookOf, Cond.instanceMethod yX1_bookOf, Cond.selects RX1 yX1_bookOf yX1_bookOf, Cond.code yX1_bookOf cX1_bookOf 2 (some (.object "DoubtSale$Book")), Cond.methodLink RL 22 yX2_book, Cond.instanceMethod yX2_book, Cond.selects RX2 yX2_book yX2_book, Cond.code yX2_book cX2_book 4 (some .int), Cond.methodLink RX2 45 yX2_isBuyer, Cond.instanceMethod yX2_isBuyer, Cond.selects RX2 yX2_isBuyer yX2_isBuyer, Cond.code yX2_isBuyer cX2_isBuyer 2 (some .boolean), Cond.methodLink RL 23 yX1_more, Cond.instanceMethod yX1_more, Cond.selects RX1 yX1_more yX1_more, Cond.code yX1_more cX1_more 5 (some .int)]
def wsL_law_r6 : List Cond := [Cond.methodLink RX1 61 yX0_worthAt, Cond.methodLink RX1 65 yX0_add, Cond.instanceMethod yX0_add, Cond.selects RX0 yX0_add yX0_add, Cond.code yX0_add cX0_add 3 none, Cond.methodLink RL 26 yX2_more, Cond.instanceMethod yX2_more, Cond.selects RX2 yX2_more yX2_more, Cond.code yX2_more cX2_more 4 (some .int), Cond.methodLink RL 27 yX1_about, Cond.instanceMethod yX1_about, Cond.selects RX1 yX1_about yX1_about, Cond.code yX1_about cX1_about 5 (some .int), Cond.methodLink RX1 68 yX0_has, Cond.instanceMethod yX0_has, Cond.selects RX0 yX0_has yX0_has, Cond.code yX0_has cX0_has 2 (some .boolean), Cond.methodLink RX1 71 yX0_weightAt, Cond.instanceMethod yX0_weightAt, Cond.selects RX0 yX0_weightAt yX0_weightAt, Cond.code yX0_weightAt cX0_weightAt 2 (some .int), Cond.methodLink RX1 74 yX0_shareAt, Cond.methodLink RX1 77 yX0_takeAt, Cond.methodLink RL 30 yX2_about]
def wsL_law_r7 : List Cond := [Cond.instanceMethod yX2_about, Cond.selects RX2 yX2_about yX2_about, Cond.code yX2_about cX2_about 4 (some .int), Cond.methodLink RX2 56 yX2_isPlace, Cond.instanceMethod yX2_isPlace, Cond.selects RX2 yX2_isPlace yX2_isPlace, Cond.code yX2_isPlace cX2_isPlace 3 (some .boolean), Cond.methodLink RX2 49 yX2_share, Cond.instanceMethod yX2_share, Cond.selects RX2 yX2_share yX2_share, Cond.code yX2_share cX2_share 5 (some .int), Cond.methodLink RX2 53 yX2_take, Cond.instanceMethod yX2_take, Cond.selects RX2 yX2_take yX2_take, Cond.code yX2_take cX2_take 3 (some .int), Cond.methodLink RL 31 yX1_whole, Cond.instanceMethod yX1_whole, Cond.selects RX1 yX1_whole yX1_whole, Cond.code yX1_whole cX1_whole 4 (some .int), Cond.methodLink RX1 80 yX0_allWeights, Cond.instanceMethod yX0_allWeights, Cond.selects RX0 yX0_allWeights yX0_allWeights, Cond.code yX0_allWeights cX0_allWeights 1 (some .int), Cond.methodLink RX1 84 yX0_bestPlace]
def wsL_law_r8 : List Cond := [Cond.instanceMethod yX0_bestPlace, Cond.selects RX0 yX0_bestPlace yX0_bestPlace, Cond.code yX0_bestPlace cX0_bestPlace 3 (some .int), Cond.methodLink RL 35 yX2_whole, Cond.instanceMethod yX2_whole, Cond.selects RX2 yX2_whole yX2_whole, Cond.code yX2_whole cX2_whole 3 (some .int), Cond.methodLink RX2 60 yX2_bestOf, Cond.instanceMethod yX2_bestOf, Cond.selects RX2 yX2_bestOf yX2_bestOf, Cond.code yX2_bestOf cX2_bestOf 4 (some .int), Cond.methodLink RL 36 yX1_slope, Cond.instanceMethod yX1_slope, Cond.selects RX1 yX1_slope yX1_slope, Cond.code yX1_slope cX1_slope 6 (some .long), Cond.constantLong RX1 90 (-1000000000000000), Cond.methodLink RX1 87 yX1_isPart, Cond.static yX1_isPart, Cond.code yX1_isPart cX1_isPart 1 (some .boolean), Cond.methodLink RX1 92 yX0_ironedUpper, Cond.instanceMethod yX0_ironedUpper, Cond.selects RX0 yX0_ironedUpper yX0_ironedUpper, Cond.code yX0_ironedUpper cX0_ironedUpper 2 (some .long), Cond.methodLink RX1 96 yX0_ironedLower]
def wsL_law_r9 : List Cond := [Cond.instanceMethod yX0_ironedLower, Cond.selects RX0 yX0_ironedLower yX0_ironedLower, Cond.code yX0_ironedLower cX0_ironedLower 2 (some .long), Cond.methodLink RX1 99 yX1_leastPart, Cond.static yX1_leastPart, Cond.code yX1_leastPart cX1_leastPart 7 (some .long), Cond.methodLink RX1 185 Lib.MathLoose.abs_long.x, Cond.static Lib.MathLoose.abs_long.x, Cond.code Lib.MathLoose.abs_long.x Lib.MathLoose.abs_long.code 2 (some .long), Cond.methodLink RX1 189 yX1_commonDivisor, Cond.static yX1_commonDivisor, Cond.code yX1_commonDivisor cX1_commonDivisor 11 (some .long), Cond.methodLink RL 40 yX2_slope, Cond.instanceMethod yX2_slope, Cond.selects RX2 yX2_slope yX2_slope, Cond.code yX2_slope cX2_slope 5 (some .long), Cond.constantLong RX2 75 (-1000000000000000), Cond.fieldLink RX2 64 "DoubtSaleModel" "upper" "J", Cond.fieldLink RX2 68 "DoubtSaleModel" "lower" "J", Cond.methodLink RX2 77 yX2_irons, Cond.instanceMethod yX2_irons, Cond.selects RX2 yX2_irons yX2_irons, Cond.code yX2_irons cX2_irons 13 none, Cond.methodLink RX2 81 yX2_part]
def wsL_law_r10 : List Cond := [Cond.instanceMethod yX2_part, Cond.selects RX2 yX2_part yX2_part, Cond.code yX2_part cX2_part 8 (some .long), Cond.methodLink RX2 71 yX2_common, Cond.static yX2_common, Cond.code yX2_common cX2_common 10 (some .long), Cond.methodLink RL 41 yX1_gets, Cond.instanceMethod yX1_gets, Cond.selects RX1 yX1_gets yX1_gets, Cond.code yX1_gets cX1_gets 4 (some .int), Cond.methodLink RX1 103 yX1_arePlaces, Cond.instanceMethod yX1_arePlaces, Cond.selects RX1 yX1_arePlaces yX1_arePlaces, Cond.code yX1_arePlaces cX1_arePlaces 5 (some .boolean), Cond.methodLink RX1 119 yX1_pick, Cond.static yX1_pick, Cond.code yX1_pick cX1_pick 4 (some .int), Cond.methodLink RX1 107 yX1_winner, Cond.instanceMethod yX1_winner, Cond.selects RX1 yX1_winner yX1_winner, Cond.code yX1_winner cX1_winner 15 (some .int), Cond.methodLink RL 44 yX2_gets, Cond.instanceMethod yX2_gets, Cond.selects RX2 yX2_gets yX2_gets]
def wsL_law_r11 : List Cond := [Cond.code yX2_gets cX2_gets 4 (some .int), Cond.methodLink RX2 89 yX2_isPlaces, Cond.instanceMethod yX2_isPlaces, Cond.selects RX2 yX2_isPlaces yX2_isPlaces, Cond.code yX2_isPlaces cX2_isPlaces 6 (some .boolean), Cond.methodLink RX2 85 yX2_getter, Cond.instanceMethod yX2_getter, Cond.selects RX2 yX2_getter yX2_getter, Cond.code yX2_getter cX2_getter 7 (some .int), Cond.methodLink RL 45 yX1_pays, Cond.instanceMethod yX1_pays, Cond.selects RX1 yX1_pays yX1_pays, Cond.code yX1_pays cX1_pays 5 (some .int), Cond.methodLink RX1 111 yX1_leastWinning, Cond.instanceMethod yX1_leastWinning, Cond.selects RX1 yX1_leastWinning yX1_leastWinning, Cond.code yX1_leastWinning cX1_leastWinning 7 (some .int), Cond.methodLink RX1 115 yX1_getsWith, Cond.instanceMethod yX1_getsWith, Cond.selects RX1 yX1_getsWith yX1_getsWith, Cond.code yX1_getsWith cX1_getsWith 6 (some .boolean), Cond.methodLink RL 49 yX2_pays, Cond.instanceMethod yX2_pays, Cond.selects RX2 yX2_pays yX2_pays]
def wsL_law_r12 : List Cond := [Cond.code yX2_pays cX2_pays 5 (some .int), Cond.methodLink RX2 92 yX2_paid, Cond.instanceMethod yX2_paid, Cond.selects RX2 yX2_paid yX2_paid, Cond.code yX2_paid cX2_paid 5 (some .int), Cond.methodLink RL 50 yX1_gain, Cond.instanceMethod yX1_gain, Cond.selects RX1 yX1_gain yX1_gain, Cond.code yX1_gain cX1_gain 7 (some .long), Cond.methodLink RL 54 yX2_gain, Cond.instanceMethod yX2_gain, Cond.selects RX2 yX2_gain yX2_gain, Cond.code yX2_gain cX2_gain 7 (some .long), Cond.methodLink RL 55 yX1_brings, Cond.instanceMethod yX1_brings, Cond.selects RX1 yX1_brings yX1_brings, Cond.code yX1_brings cX1_brings 2 (some .long), Cond.methodLink RX1 122 yX1_meanPaid, Cond.instanceMethod yX1_meanPaid, Cond.selects RX1 yX1_meanPaid yX1_meanPaid, Cond.code yX1_meanPaid cX1_meanPaid 10 (some .long), Cond.methodLink RX1 182 yX1_paidAt, Cond.instanceMethod yX1_paidAt, Cond.selects RX1 yX1_paidAt yX1_paidAt]
def wsL_law_r13 : List Cond := [Cond.code yX1_paidAt cX1_paidAt 6 (some .int), Cond.methodLink RX1 132 yX1_paidByKind, Cond.instanceMethod yX1_paidByKind, Cond.selects RX1 yX1_paidByKind yX1_paidByKind, Cond.code yX1_paidByKind cX1_paidByKind 9 (some .int), Cond.methodLink RX1 170 Lib.Math.min.name, Cond.static Lib.Math.min.name, Cond.code Lib.Math.min.name Lib.Math.min.code 2 (some .int), Cond.methodLink RX1 176 Lib.Math.max.name, Cond.methodLink RX1 179 yX1_priceOf, Cond.instanceMethod yX1_priceOf, Cond.selects RX1 yX1_priceOf yX1_priceOf, Cond.code yX1_priceOf cX1_priceOf 4 (some .int), Cond.methodLink RL 59 yX2_brings, Cond.instanceMethod yX2_brings, Cond.selects RX2 yX2_brings yX2_brings, Cond.code yX2_brings cX2_brings 7 (some .long), Cond.methodLink RX2 95 yX2_comes, Cond.instanceMethod yX2_comes, Cond.selects RX2 yX2_comes yX2_comes, Cond.code yX2_comes cX2_comes 5 (some .int), Cond.methodLink RX2 98 yX2_all, Cond.instanceMethod yX2_all, Cond.selects RX2 yX2_all yX2_all]
def wsL_law_r14 : List Cond := [Cond.code yX2_all cX2_all 3 (some .int), Cond.methodLink RL 60 yX1_reserve, Cond.instanceMethod yX1_reserve, Cond.selects RX1 yX1_reserve yX1_reserve, Cond.code yX1_reserve cX1_reserve 3 (some .int), Cond.methodLink RL 63 yX2_reserve, Cond.instanceMethod yX2_reserve, Cond.selects RX2 yX2_reserve yX2_reserve, Cond.code yX2_reserve cX2_reserve 3 (some .int), Cond.fieldLink RX2 101 "DoubtSaleModel" "reserve" "I", Cond.methodLink RL 64 yX1_pay, Cond.instanceMethod yX1_pay, Cond.selects RX1 yX1_pay yX1_pay, Cond.code yX1_pay cX1_pay 6 (some .int), Cond.methodLink RX1 126 yX1_isKind, Cond.static yX1_isKind, Cond.code yX1_isKind cX1_isKind 1 (some .boolean), Cond.methodLink RX1 129 yX1_areWorths, Cond.instanceMethod yX1_areWorths, Cond.selects RX1 yX1_areWorths yX1_areWorths, Cond.code yX1_areWorths cX1_areWorths 5 (some .boolean), Cond.methodLink RX1 135 yX1_asksOf, Cond.static yX1_asksOf, Cond.code yX1_asksOf cX1_asksOf 1 (some .int)]
def wsL_law_r15 : List Cond := [Cond.methodLink RL 67 yX2_pay, Cond.instanceMethod yX2_pay, Cond.selects RX2 yX2_pay yX2_pay, Cond.code yX2_pay cX2_pay 7 (some .int), Cond.fieldLink RX2 107 "DoubtSaleModel" "trace" "J", Cond.constantLong RX2 110 (11), Cond.constantLong RX2 112 (111), Cond.methodLink RX2 104 yX2_payOf, Cond.instanceMethod yX2_payOf, Cond.selects RX2 yX2_payOf yX2_payOf, Cond.code yX2_payOf cX2_payOf 5 (some .int), Cond.methodLink RL 68 yX1_average, Cond.instanceMethod yX1_average, Cond.selects RX1 yX1_average yX1_average, Cond.code yX1_average cX1_average 3 (some .long), Cond.methodLink RL 72 yX2_average, Cond.instanceMethod yX2_average, Cond.selects RX2 yX2_average yX2_average, Cond.code yX2_average cX2_average 8 (some .long), Cond.methodLink RL 73 yX1_offers, Cond.instanceMethod yX1_offers, Cond.selects RX1 yX1_offers yX1_offers, Cond.code yX1_offers cX1_offers 12 (some .long), Cond.constantLong RX1 145 (1001)]
def wsL_law_r16 : List Cond := [Cond.methodLink RX1 138 yX1_isOrder, Cond.instanceMethod yX1_isOrder, Cond.selects RX1 yX1_isOrder yX1_isOrder, Cond.code yX1_isOrder cX1_isOrder 6 (some .boolean), Cond.methodLink RX1 141 yX1_bestOffer, Cond.static yX1_bestOffer, Cond.code yX1_bestOffer cX1_bestOffer 7 (some .int), Cond.methodLink RX1 147 yX1_offerBrings, Cond.static yX1_offerBrings, Cond.code yX1_offerBrings cX1_offerBrings 6 (some .long), Cond.methodLink RL 76 yX2_offers, Cond.instanceMethod yX2_offers, Cond.selects RX2 yX2_offers yX2_offers, Cond.code yX2_offers cX2_offers 20 (some .long), Cond.methodLink RL 77 yX1_bundle, Cond.instanceMethod yX1_bundle, Cond.selects RX1 yX1_bundle yX1_bundle, Cond.code yX1_bundle cX1_bundle 8 (some .int), Cond.methodLink RX1 151 yX1_bestSum, Cond.static yX1_bestSum, Cond.code yX1_bestSum cX1_bestSum 8 (some .int), Cond.methodLink RX1 155 yX1_pairsFrom, Cond.static yX1_pairsFrom, Cond.code yX1_pairsFrom cX1_pairsFrom 6 (some .int)]
def wsL_law_r17 : List Cond := [Cond.methodLink RX1 159 yX1_bothAlone, Cond.static yX1_bothAlone, Cond.code yX1_bothAlone cX1_bothAlone 2 (some .int), Cond.methodLink RX1 162 yJ6_signum_0f7a4, Cond.static yJ6_signum_0f7a4, Cond.initialized RJ6, Cond.code yJ6_signum_0f7a4 cJ6_signum_0f7a4 1 (some .int), Cond.methodLink RL 80 yX2_bundle, Cond.instanceMethod yX2_bundle, Cond.selects RX2 yX2_bundle yX2_bundle, Cond.code yX2_bundle cX2_bundle 12 (some .int), Cond.constantLong RX2 114 (-1), Cond.methodLink RX2 116 yX2_pairs, Cond.instanceMethod yX2_pairs, Cond.selects RX2 yX2_pairs yX2_pairs, Cond.code yX2_pairs cX2_pairs 7 (some .int), Cond.methodLink RL 81 yX1_sample, Cond.instanceMethod yX1_sample, Cond.selects RX1 yX1_sample yX1_sample, Cond.code yX1_sample cX1_sample 2 (some .int), Cond.methodLink RL 84 yX2_sample, Cond.instanceMethod yX2_sample, Cond.selects RX2 yX2_sample yX2_sample, Cond.code yX2_sample cX2_sample 2 (some .int)]
def wsL_law_r18 : List Cond := [Cond.fieldLink RX2 120 "DoubtSaleModel" "samples" "I", Cond.methodLink RL 85 yX1_clear, Cond.instanceMethod yX1_clear, Cond.selects RX1 yX1_clear yX1_clear, Cond.code yX1_clear cX1_clear 2 (some .int), Cond.methodLink RL 89 yX2_clear, Cond.instanceMethod yX2_clear, Cond.selects RX2 yX2_clear yX2_clear, Cond.code yX2_clear cX2_clear 2 (some .int), Cond.methodLink RL 90 yX1_learnt, Cond.instanceMethod yX1_learnt, Cond.selects RX1 yX1_learnt yX1_learnt, Cond.code yX1_learnt cX1_learnt 5 (some .int), Cond.methodLink RX1 167 yX1_samplesFrom, Cond.instanceMethod yX1_samplesFrom, Cond.selects RX1 yX1_samplesFrom yX1_samplesFrom, Cond.code yX1_samplesFrom cX1_samplesFrom 4 (some .int), Cond.methodLink RL 93 yX2_learnt, Cond.instanceMethod yX2_learnt, Cond.selects RX2 yX2_learnt yX2_learnt, Cond.code yX2_learnt cX2_learnt 6 (some .int), Cond.methodLink RL 94 yX1_count, Cond.instanceMethod yX1_count, Cond.selects RX1 yX1_count yX1_count]
def wsL_law_r19 : List Cond := [Cond.code yX1_count cX1_count 2 (some .int), Cond.methodLink RL 97 yX2_count, Cond.instanceMethod yX2_count, Cond.selects RX2 yX2_count yX2_count, Cond.code yX2_count cX2_count 2 (some .int), Cond.methodLink RL 98 yX1_trace, Cond.instanceMethod yX1_trace, Cond.selects RX1 yX1_trace yX1_trace, Cond.code yX1_trace cX1_trace 1 (some .long), Cond.methodLink RL 102 yX2_trace, Cond.instanceMethod yX2_trace, Cond.selects RX2 yX2_trace yX2_trace, Cond.code yX2_trace cX2_trace 1 (some .long)]
def wsL_law : List Cond := (wsL_law_r1 ++ (wsL_law_r2 ++ (wsL_law_r3 ++ (wsL_law_r4 ++ (wsL_law_r5 ++ (wsL_law_r6 ++ (wsL_law_r7 ++ (wsL_law_r8 ++ (wsL_law_r9 ++ (wsL_law_r10 ++ (wsL_law_r11 ++ (wsL_law_r12 ++ (wsL_law_r13 ++ (wsL_law_r14 ++ (wsL_law_r15 ++ (wsL_law_r16 ++ (wsL_law_r17 ++ (wsL_law_r18 ++ wsL_law_r19)))))))))))))))))) ++ wsX10 ++ wsX20 ++ wsX00 ++ ([] : List Cond)
set_option maxRecDepth 20000 in
theorem ggX0_init_X0_begin : GoodIn wsX0_init wsX0_begin := goodIn_r _ [14, 5, 6, 9, 15, 16, 17, 13, 18, 7, 8, 19, 20, 21, 22, 23, 24, 25, 26, 27, 28, 29, 30, 31, 32, 33, 34, 35, 36, 37, 38, 39, 40, 41, 42, 43] (by decide +kernel) (by decide +kernel)
set_option maxRecDepth 20000 in
theorem gX0_init_X0_begin : GoodIn wsX0_init (wsV RX0 28 RX0 yX0_begin wsX0_begin) := goodIn_app (goodIn_of _ (by decide +kernel)) ggX0_init_X0_begin
theorem dX0_init_0 : decode cX0_init 0 = .ok (.aload_n 0, 1) := by decide +kernel
theorem dX0_init_1 : decode cX0_init 1 = .ok (.invokespecial 3, 3) := by decide +kernel
theorem dX0_init_4 : decode cX0_init 4 = .ok (.aload_n 0, 1) := by decide +kernel
theorem dX0_init_5 : decode cX0_init 5 = .ok (.iconst 5, 1) := by decide +kernel
theorem dX0_init_6 : decode cX0_init 6 = .ok (.newarray .int, 2) := by decide +kernel
theorem dX0_init_8 : decode cX0_init 8 = .ok (.putfield 9, 3) := by decide +kernel
theorem dX0_init_11 : decode cX0_init 11 = .ok (.aload_n 0, 1) := by decide +kernel
theorem dX0_init_12 : decode cX0_init 12 = .ok (.iconst 5, 1) := by decide +kernel
theorem dX0_init_13 : decode cX0_init 13 = .ok (.newarray .int, 2) := by decide +kernel
theorem dX0_init_15 : decode cX0_init 15 = .ok (.putfield 15, 3) := by decide +kernel
theorem dX0_init_18 : decode cX0_init 18 = .ok (.aload_n 0, 1) := by decide +kernel
theorem dX0_init_19 : decode cX0_init 19 = .ok (.iconst 5, 1) := by decide +kernel
theorem dX0_init_20 : decode cX0_init 20 = .ok (.newarray .int, 2) := by decide +kernel
theorem dX0_init_22 : decode cX0_init 22 = .ok (.putfield 18, 3) := by decide +kernel
theorem dX0_init_25 : decode cX0_init 25 = .ok (.aload_n 0, 1) := by decide +kernel
theorem dX0_init_26 : decode cX0_init 26 = .ok (.iconst 5, 1) := by decide +kernel
theorem dX0_init_27 : decode cX0_init 27 = .ok (.newarray .int, 2) := by decide +kernel
theorem dX0_init_29 : decode cX0_init 29 = .ok (.putfield 21, 3) := by decide +kernel
theorem dX0_init_32 : decode cX0_init 32 = .ok (.aload_n 0, 1) := by decide +kernel
theorem dX0_init_33 : decode cX0_init 33 = .ok (.iconst 0, 1) := by decide +kernel
theorem dX0_init_34 : decode cX0_init 34 = .ok (.putfield 24, 3) := by decide +kernel
theorem dX0_init_37 : decode cX0_init 37 = .ok (.aload_n 0, 1) := by decide +kernel
theorem dX0_init_38 : decode cX0_init 38 = .ok (.iconst 0, 1) := by decide +kernel
theorem dX0_init_39 : decode cX0_init 39 = .ok (.iconst 1, 1) := by decide +kernel
theorem dX0_init_40 : decode cX0_init 40 = .ok (.invokevirtual 28, 3) := by decide +kernel
theorem dX0_init_43 : decode cX0_init 43 = .ok (.return_, 1) := by decide +kernel
set_option maxRecDepth 20000 in
theorem ggX0_begin_X0_iron : GoodIn wsX0_begin wsX0_iron := goodIn_r _ [8, 3, 9, 10, 11, 12, 13, 7, 14, 15, 16, 17, 18, 19, 20, 21, 22, 1, 23, 24, 25, 26, 27, 28, 29, 30, 2, 31, 32, 33, 34, 35] (by decide +kernel) (by decide +kernel)
set_option maxRecDepth 20000 in
theorem gX0_begin_X0_iron : GoodIn wsX0_begin (wsV RX0 32 RX0 yX0_iron wsX0_iron) := goodIn_app (goodIn_of _ (by decide +kernel)) ggX0_begin_X0_iron
theorem dX0_begin_0 : decode cX0_begin 0 = .ok (.aload_n 0, 1) := by decide +kernel
theorem dX0_begin_1 : decode cX0_begin 1 = .ok (.getfield 9, 3) := by decide +kernel
theorem dX0_begin_4 : decode cX0_begin 4 = .ok (.iconst 0, 1) := by decide +kernel
theorem dX0_begin_5 : decode cX0_begin 5 = .ok (.iload_n 1, 1) := by decide +kernel
theorem dX0_begin_6 : decode cX0_begin 6 = .ok (.iastore, 1) := by decide +kernel
theorem dX0_begin_7 : decode cX0_begin 7 = .ok (.aload_n 0, 1) := by decide +kernel
theorem dX0_begin_8 : decode cX0_begin 8 = .ok (.getfield 15, 3) := by decide +kernel
theorem dX0_begin_11 : decode cX0_begin 11 = .ok (.iconst 0, 1) := by decide +kernel
theorem dX0_begin_12 : decode cX0_begin 12 = .ok (.iload_n 2, 1) := by decide +kernel
theorem dX0_begin_13 : decode cX0_begin 13 = .ok (.iastore, 1) := by decide +kernel
theorem dX0_begin_14 : decode cX0_begin 14 = .ok (.aload_n 0, 1) := by decide +kernel
theorem dX0_begin_15 : decode cX0_begin 15 = .ok (.iconst 1, 1) := by decide +kernel
theorem dX0_begin_16 : decode cX0_begin 16 = .ok (.putfield 24, 3) := by decide +kernel
theorem dX0_begin_19 : decode cX0_begin 19 = .ok (.aload_n 0, 1) := by decide +kernel
theorem dX0_begin_20 : decode cX0_begin 20 = .ok (.invokevirtual 32, 3) := by decide +kernel
theorem dX0_begin_23 : decode cX0_begin 23 = .ok (.return_, 1) := by decide +kernel
set_option maxRecDepth 20000 in
theorem ggX0_add_X0_iron : GoodIn wsX0_add wsX0_iron := goodIn_r _ [8, 1, 9, 10, 11, 12, 13, 7, 14, 15, 16, 17, 18, 19, 20, 21, 22, 2, 23, 24, 25, 26, 27, 28, 29, 30, 3, 31, 32, 33, 34, 35] (by decide +kernel) (by decide +kernel)
set_option maxRecDepth 20000 in
theorem gX0_add_X0_iron : GoodIn wsX0_add (wsV RX0 32 RX0 yX0_iron wsX0_iron) := goodIn_app (goodIn_of _ (by decide +kernel)) ggX0_add_X0_iron
theorem dX0_add_0 : decode cX0_add 0 = .ok (.aload_n 0, 1) := by decide +kernel
theorem dX0_add_1 : decode cX0_add 1 = .ok (.getfield 24, 3) := by decide +kernel
theorem dX0_add_4 : decode cX0_add 4 = .ok (.iconst 5, 1) := by decide +kernel
theorem dX0_add_5 : decode cX0_add 5 = .ok (.if_icmp .lt 4, 3) := by decide +kernel
theorem dX0_add_8 : decode cX0_add 8 = .ok (.return_, 1) := by decide +kernel
theorem dX0_add_9 : decode cX0_add 9 = .ok (.aload_n 0, 1) := by decide +kernel
theorem dX0_add_10 : decode cX0_add 10 = .ok (.getfield 9, 3) := by decide +kernel
theorem dX0_add_13 : decode cX0_add 13 = .ok (.aload_n 0, 1) := by decide +kernel
theorem dX0_add_14 : decode cX0_add 14 = .ok (.getfield 24, 3) := by decide +kernel
theorem dX0_add_17 : decode cX0_add 17 = .ok (.iload_n 1, 1) := by decide +kernel
theorem dX0_add_18 : decode cX0_add 18 = .ok (.iastore, 1) := by decide +kernel
theorem dX0_add_19 : decode cX0_add 19 = .ok (.aload_n 0, 1) := by decide +kernel
theorem dX0_add_20 : decode cX0_add 20 = .ok (.getfield 15, 3) := by decide +kernel
theorem dX0_add_23 : decode cX0_add 23 = .ok (.aload_n 0, 1) := by decide +kernel
theorem dX0_add_24 : decode cX0_add 24 = .ok (.getfield 24, 3) := by decide +kernel
theorem dX0_add_27 : decode cX0_add 27 = .ok (.iload_n 2, 1) := by decide +kernel
theorem dX0_add_28 : decode cX0_add 28 = .ok (.iastore, 1) := by decide +kernel
theorem dX0_add_29 : decode cX0_add 29 = .ok (.aload_n 0, 1) := by decide +kernel
theorem dX0_add_30 : decode cX0_add 30 = .ok (.dup, 1) := by decide +kernel
theorem dX0_add_31 : decode cX0_add 31 = .ok (.getfield 24, 3) := by decide +kernel
theorem dX0_add_34 : decode cX0_add 34 = .ok (.iconst 1, 1) := by decide +kernel
theorem dX0_add_35 : decode cX0_add 35 = .ok (.iadd, 1) := by decide +kernel
theorem dX0_add_36 : decode cX0_add 36 = .ok (.putfield 24, 3) := by decide +kernel
theorem dX0_add_39 : decode cX0_add 39 = .ok (.aload_n 0, 1) := by decide +kernel
theorem dX0_add_40 : decode cX0_add 40 = .ok (.invokevirtual 32, 3) := by decide +kernel
theorem dX0_add_43 : decode cX0_add 43 = .ok (.return_, 1) := by decide +kernel
theorem dX0_has_0 : decode cX0_has 0 = .ok (.iload_n 1, 1) := by decide +kernel
theorem dX0_has_1 : decode cX0_has 1 = .ok (.ifCond .lt 15, 3) := by decide +kernel
theorem dX0_has_4 : decode cX0_has 4 = .ok (.iload_n 1, 1) := by decide +kernel
theorem dX0_has_5 : decode cX0_has 5 = .ok (.aload_n 0, 1) := by decide +kernel
theorem dX0_has_6 : decode cX0_has 6 = .ok (.getfield 24, 3) := by decide +kernel
theorem dX0_has_9 : decode cX0_has 9 = .ok (.if_icmp .ge 7, 3) := by decide +kernel
theorem dX0_has_12 : decode cX0_has 12 = .ok (.iconst 1, 1) := by decide +kernel
theorem dX0_has_13 : decode cX0_has 13 = .ok (.goto 4, 3) := by decide +kernel
theorem dX0_has_16 : decode cX0_has 16 = .ok (.iconst 0, 1) := by decide +kernel
theorem dX0_has_17 : decode cX0_has 17 = .ok (.ireturn, 1) := by decide +kernel
theorem dX0_worthAt_0 : decode cX0_worthAt 0 = .ok (.iload_n 1, 1) := by decide +kernel
theorem dX0_worthAt_1 : decode cX0_worthAt 1 = .ok (.ifCond .lt 20, 3) := by decide +kernel
theorem dX0_worthAt_4 : decode cX0_worthAt 4 = .ok (.iload_n 1, 1) := by decide +kernel
theorem dX0_worthAt_5 : decode cX0_worthAt 5 = .ok (.aload_n 0, 1) := by decide +kernel
theorem dX0_worthAt_6 : decode cX0_worthAt 6 = .ok (.getfield 24, 3) := by decide +kernel
theorem dX0_worthAt_9 : decode cX0_worthAt 9 = .ok (.if_icmp .ge 12, 3) := by decide +kernel
theorem dX0_worthAt_12 : decode cX0_worthAt 12 = .ok (.aload_n 0, 1) := by decide +kernel
theorem dX0_worthAt_13 : decode cX0_worthAt 13 = .ok (.getfield 9, 3) := by decide +kernel
theorem dX0_worthAt_16 : decode cX0_worthAt 16 = .ok (.iload_n 1, 1) := by decide +kernel
theorem dX0_worthAt_17 : decode cX0_worthAt 17 = .ok (.iaload, 1) := by decide +kernel
theorem dX0_worthAt_18 : decode cX0_worthAt 18 = .ok (.goto 4, 3) := by decide +kernel
theorem dX0_worthAt_21 : decode cX0_worthAt 21 = .ok (.iconst 0, 1) := by decide +kernel
theorem dX0_worthAt_22 : decode cX0_worthAt 22 = .ok (.ireturn, 1) := by decide +kernel
theorem dX0_weightAt_0 : decode cX0_weightAt 0 = .ok (.iload_n 1, 1) := by decide +kernel
theorem dX0_weightAt_1 : decode cX0_weightAt 1 = .ok (.ifCond .lt 20, 3) := by decide +kernel
theorem dX0_weightAt_4 : decode cX0_weightAt 4 = .ok (.iload_n 1, 1) := by decide +kernel
theorem dX0_weightAt_5 : decode cX0_weightAt 5 = .ok (.aload_n 0, 1) := by decide +kernel
theorem dX0_weightAt_6 : decode cX0_weightAt 6 = .ok (.getfield 24, 3) := by decide +kernel
theorem dX0_weightAt_9 : decode cX0_weightAt 9 = .ok (.if_icmp .ge 12, 3) := by decide +kernel
theorem dX0_weightAt_12 : decode cX0_weightAt 12 = .ok (.aload_n 0, 1) := by decide +kernel
theorem dX0_weightAt_13 : decode cX0_weightAt 13 = .ok (.getfield 15, 3) := by decide +kernel
theorem dX0_weightAt_16 : decode cX0_weightAt 16 = .ok (.iload_n 1, 1) := by decide +kernel
theorem dX0_weightAt_17 : decode cX0_weightAt 17 = .ok (.iaload, 1) := by decide +kernel
theorem dX0_weightAt_18 : decode cX0_weightAt 18 = .ok (.goto 4, 3) := by decide +kernel
theorem dX0_weightAt_21 : decode cX0_weightAt 21 = .ok (.iconst 0, 1) := by decide +kernel
theorem dX0_weightAt_22 : decode cX0_weightAt 22 = .ok (.ireturn, 1) := by decide +kernel
theorem dX0_shareAt_0 : decode cX0_shareAt 0 = .ok (.iconst 0, 1) := by decide +kernel
theorem dX0_shareAt_1 : decode cX0_shareAt 1 = .ok (.istore_n 2, 1) := by decide +kernel
theorem dX0_shareAt_2 : decode cX0_shareAt 2 = .ok (.iload_n 1, 1) := by decide +kernel
theorem dX0_shareAt_3 : decode cX0_shareAt 3 = .ok (.iconst 0, 1) := by decide +kernel
theorem dX0_shareAt_4 : decode cX0_shareAt 4 = .ok (.invokestatic 35, 3) := by decide +kernel
theorem dX0_shareAt_7 : decode cX0_shareAt 7 = .ok (.istore_n 3, 1) := by decide +kernel
theorem dX0_shareAt_8 : decode cX0_shareAt 8 = .ok (.iload_n 3, 1) := by decide +kernel
theorem dX0_shareAt_9 : decode cX0_shareAt 9 = .ok (.aload_n 0, 1) := by decide +kernel
theorem dX0_shareAt_10 : decode cX0_shareAt 10 = .ok (.getfield 24, 3) := by decide +kernel
theorem dX0_shareAt_13 : decode cX0_shareAt 13 = .ok (.if_icmp .ge 18, 3) := by decide +kernel
theorem dX0_shareAt_16 : decode cX0_shareAt 16 = .ok (.iload_n 2, 1) := by decide +kernel
theorem dX0_shareAt_17 : decode cX0_shareAt 17 = .ok (.aload_n 0, 1) := by decide +kernel
theorem dX0_shareAt_18 : decode cX0_shareAt 18 = .ok (.getfield 15, 3) := by decide +kernel
theorem dX0_shareAt_21 : decode cX0_shareAt 21 = .ok (.iload_n 3, 1) := by decide +kernel
theorem dX0_shareAt_22 : decode cX0_shareAt 22 = .ok (.iaload, 1) := by decide +kernel
theorem dX0_shareAt_23 : decode cX0_shareAt 23 = .ok (.iadd, 1) := by decide +kernel
theorem dX0_shareAt_24 : decode cX0_shareAt 24 = .ok (.istore_n 2, 1) := by decide +kernel
theorem dX0_shareAt_25 : decode cX0_shareAt 25 = .ok (.iinc 3 1, 3) := by decide +kernel
theorem dX0_shareAt_28 : decode cX0_shareAt 28 = .ok (.goto (-20), 3) := by decide +kernel
theorem dX0_shareAt_31 : decode cX0_shareAt 31 = .ok (.iload_n 2, 1) := by decide +kernel
theorem dX0_shareAt_32 : decode cX0_shareAt 32 = .ok (.ireturn, 1) := by decide +kernel
set_option maxRecDepth 20000 in
theorem ggX0_allWeights_X0_shareAt : GoodIn wsX0_allWeights wsX0_shareAt := goodIn_r _ [5, 6, 7, 8, 9, 10, 11, 12, 13, 14, 15, 16] (by decide +kernel) (by decide +kernel)
set_option maxRecDepth 20000 in
theorem gX0_allWeights_X0_shareAt : GoodIn wsX0_allWeights (wsV RX0 41 RX0 yX0_shareAt wsX0_shareAt) := goodIn_app (goodIn_of _ (by decide +kernel)) ggX0_allWeights_X0_shareAt
theorem dX0_allWeights_0 : decode cX0_allWeights 0 = .ok (.aload_n 0, 1) := by decide +kernel
theorem dX0_allWeights_1 : decode cX0_allWeights 1 = .ok (.iconst 0, 1) := by decide +kernel
theorem dX0_allWeights_2 : decode cX0_allWeights 2 = .ok (.invokevirtual 41, 3) := by decide +kernel
theorem dX0_allWeights_5 : decode cX0_allWeights 5 = .ok (.ireturn, 1) := by decide +kernel
set_option maxRecDepth 20000 in
theorem ggX0_takeAt_X0_worthAt : GoodIn wsX0_takeAt wsX0_worthAt := goodIn_r _ [5, 6, 7, 17, 18, 19, 20, 21] (by decide +kernel) (by decide +kernel)
set_option maxRecDepth 20000 in
theorem gX0_takeAt_X0_worthAt : GoodIn wsX0_takeAt (wsV RX0 45 RX0 yX0_worthAt wsX0_worthAt) := goodIn_app (goodIn_of _ (by decide +kernel)) ggX0_takeAt_X0_worthAt
set_option maxRecDepth 20000 in
theorem ggX0_takeAt_X0_shareAt : GoodIn wsX0_takeAt wsX0_shareAt := goodIn_r _ [11, 12, 13, 14, 15, 6, 16, 17, 18, 19, 20, 21] (by decide +kernel) (by decide +kernel)
set_option maxRecDepth 20000 in
theorem gX0_takeAt_X0_shareAt : GoodIn wsX0_takeAt (wsV RX0 41 RX0 yX0_shareAt wsX0_shareAt) := goodIn_app (goodIn_of _ (by decide +kernel)) ggX0_takeAt_X0_shareAt
theorem dX0_takeAt_0 : decode cX0_takeAt 0 = .ok (.aload_n 0, 1) := by decide +kernel
theorem dX0_takeAt_1 : decode cX0_takeAt 1 = .ok (.iload_n 1, 1) := by decide +kernel
theorem dX0_takeAt_2 : decode cX0_takeAt 2 = .ok (.invokevirtual 45, 3) := by decide +kernel
theorem dX0_takeAt_5 : decode cX0_takeAt 5 = .ok (.aload_n 0, 1) := by decide +kernel
theorem dX0_takeAt_6 : decode cX0_takeAt 6 = .ok (.iload_n 1, 1) := by decide +kernel
theorem dX0_takeAt_7 : decode cX0_takeAt 7 = .ok (.invokevirtual 41, 3) := by decide +kernel
theorem dX0_takeAt_10 : decode cX0_takeAt 10 = .ok (.imul, 1) := by decide +kernel
theorem dX0_takeAt_11 : decode cX0_takeAt 11 = .ok (.ireturn, 1) := by decide +kernel
set_option maxRecDepth 20000 in
theorem ggX0_bestPlace_X0_takeAt : GoodIn wsX0_bestPlace wsX0_takeAt := goodIn_r _ [6, 7, 8, 9, 5, 10, 1, 11, 12, 13, 14, 15, 16, 17, 18, 19, 20, 21, 22, 23, 24, 25] (by decide +kernel) (by decide +kernel)
set_option maxRecDepth 20000 in
theorem gX0_bestPlace_X0_takeAt : GoodIn wsX0_bestPlace (wsV RX0 48 RX0 yX0_takeAt wsX0_takeAt) := goodIn_app (goodIn_of _ (by decide +kernel)) ggX0_bestPlace_X0_takeAt
theorem dX0_bestPlace_0 : decode cX0_bestPlace 0 = .ok (.iconst 0, 1) := by decide +kernel
theorem dX0_bestPlace_1 : decode cX0_bestPlace 1 = .ok (.istore_n 1, 1) := by decide +kernel
theorem dX0_bestPlace_2 : decode cX0_bestPlace 2 = .ok (.iconst 1, 1) := by decide +kernel
theorem dX0_bestPlace_3 : decode cX0_bestPlace 3 = .ok (.istore_n 2, 1) := by decide +kernel
theorem dX0_bestPlace_4 : decode cX0_bestPlace 4 = .ok (.iload_n 2, 1) := by decide +kernel
theorem dX0_bestPlace_5 : decode cX0_bestPlace 5 = .ok (.aload_n 0, 1) := by decide +kernel
theorem dX0_bestPlace_6 : decode cX0_bestPlace 6 = .ok (.getfield 24, 3) := by decide +kernel
theorem dX0_bestPlace_9 : decode cX0_bestPlace 9 = .ok (.if_icmp .ge 24, 3) := by decide +kernel
theorem dX0_bestPlace_12 : decode cX0_bestPlace 12 = .ok (.aload_n 0, 1) := by decide +kernel
theorem dX0_bestPlace_13 : decode cX0_bestPlace 13 = .ok (.iload_n 2, 1) := by decide +kernel
theorem dX0_bestPlace_14 : decode cX0_bestPlace 14 = .ok (.invokevirtual 48, 3) := by decide +kernel
theorem dX0_bestPlace_17 : decode cX0_bestPlace 17 = .ok (.aload_n 0, 1) := by decide +kernel
theorem dX0_bestPlace_18 : decode cX0_bestPlace 18 = .ok (.iload_n 1, 1) := by decide +kernel
theorem dX0_bestPlace_19 : decode cX0_bestPlace 19 = .ok (.invokevirtual 48, 3) := by decide +kernel
theorem dX0_bestPlace_22 : decode cX0_bestPlace 22 = .ok (.if_icmp .le 5, 3) := by decide +kernel
theorem dX0_bestPlace_25 : decode cX0_bestPlace 25 = .ok (.iload_n 2, 1) := by decide +kernel
theorem dX0_bestPlace_26 : decode cX0_bestPlace 26 = .ok (.istore_n 1, 1) := by decide +kernel
theorem dX0_bestPlace_27 : decode cX0_bestPlace 27 = .ok (.iinc 2 1, 3) := by decide +kernel
theorem dX0_bestPlace_30 : decode cX0_bestPlace 30 = .ok (.goto (-26), 3) := by decide +kernel
theorem dX0_bestPlace_33 : decode cX0_bestPlace 33 = .ok (.iload_n 1, 1) := by decide +kernel
theorem dX0_bestPlace_34 : decode cX0_bestPlace 34 = .ok (.ireturn, 1) := by decide +kernel
theorem dX0_ironedUpper_0 : decode cX0_ironedUpper 0 = .ok (.iload_n 1, 1) := by decide +kernel
theorem dX0_ironedUpper_1 : decode cX0_ironedUpper 1 = .ok (.ifCond .lt 21, 3) := by decide +kernel
theorem dX0_ironedUpper_4 : decode cX0_ironedUpper 4 = .ok (.iload_n 1, 1) := by decide +kernel
theorem dX0_ironedUpper_5 : decode cX0_ironedUpper 5 = .ok (.aload_n 0, 1) := by decide +kernel
theorem dX0_ironedUpper_6 : decode cX0_ironedUpper 6 = .ok (.getfield 24, 3) := by decide +kernel
theorem dX0_ironedUpper_9 : decode cX0_ironedUpper 9 = .ok (.if_icmp .ge 13, 3) := by decide +kernel
theorem dX0_ironedUpper_12 : decode cX0_ironedUpper 12 = .ok (.aload_n 0, 1) := by decide +kernel
theorem dX0_ironedUpper_13 : decode cX0_ironedUpper 13 = .ok (.getfield 18, 3) := by decide +kernel
theorem dX0_ironedUpper_16 : decode cX0_ironedUpper 16 = .ok (.iload_n 1, 1) := by decide +kernel
theorem dX0_ironedUpper_17 : decode cX0_ironedUpper 17 = .ok (.iaload, 1) := by decide +kernel
theorem dX0_ironedUpper_18 : decode cX0_ironedUpper 18 = .ok (.i2l, 1) := by decide +kernel
theorem dX0_ironedUpper_19 : decode cX0_ironedUpper 19 = .ok (.goto 4, 3) := by decide +kernel
theorem dX0_ironedUpper_22 : decode cX0_ironedUpper 22 = .ok (.lconst 0, 1) := by decide +kernel
theorem dX0_ironedUpper_23 : decode cX0_ironedUpper 23 = .ok (.lreturn, 1) := by decide +kernel
theorem dX0_ironedLower_0 : decode cX0_ironedLower 0 = .ok (.iload_n 1, 1) := by decide +kernel
theorem dX0_ironedLower_1 : decode cX0_ironedLower 1 = .ok (.ifCond .lt 21, 3) := by decide +kernel
theorem dX0_ironedLower_4 : decode cX0_ironedLower 4 = .ok (.iload_n 1, 1) := by decide +kernel
theorem dX0_ironedLower_5 : decode cX0_ironedLower 5 = .ok (.aload_n 0, 1) := by decide +kernel
theorem dX0_ironedLower_6 : decode cX0_ironedLower 6 = .ok (.getfield 24, 3) := by decide +kernel
theorem dX0_ironedLower_9 : decode cX0_ironedLower 9 = .ok (.if_icmp .ge 13, 3) := by decide +kernel
theorem dX0_ironedLower_12 : decode cX0_ironedLower 12 = .ok (.aload_n 0, 1) := by decide +kernel
theorem dX0_ironedLower_13 : decode cX0_ironedLower 13 = .ok (.getfield 21, 3) := by decide +kernel
theorem dX0_ironedLower_16 : decode cX0_ironedLower 16 = .ok (.iload_n 1, 1) := by decide +kernel
theorem dX0_ironedLower_17 : decode cX0_ironedLower 17 = .ok (.iaload, 1) := by decide +kernel
theorem dX0_ironedLower_18 : decode cX0_ironedLower 18 = .ok (.i2l, 1) := by decide +kernel
theorem dX0_ironedLower_19 : decode cX0_ironedLower 19 = .ok (.goto 4, 3) := by decide +kernel
theorem dX0_ironedLower_22 : decode cX0_ironedLower 22 = .ok (.lconst 1, 1) := by decide +kernel
theorem dX0_ironedLower_23 : decode cX0_ironedLower 23 = .ok (.lreturn, 1) := by decide +kernel
set_option maxRecDepth 20000 in
theorem ggX0_iron_X0_nextCorner : GoodIn wsX0_iron wsX0_nextCorner := goodIn_r _ [8, 9, 10, 11, 7, 12, 13, 14, 15, 16, 1, 17, 18, 19, 20, 21, 22, 23, 24, 25, 26, 27, 28, 29, 30, 31] (by decide +kernel) (by decide +kernel)
set_option maxRecDepth 20000 in
theorem gX0_iron_X0_nextCorner : GoodIn wsX0_iron (wsV RX0 51 RX0 yX0_nextCorner wsX0_nextCorner) := goodIn_app (goodIn_of _ (by decide +kernel)) ggX0_iron_X0_nextCorner
set_option maxRecDepth 20000 in
theorem ggX0_iron_X0_takeAt : GoodIn wsX0_iron wsX0_takeAt := goodIn_r _ [12, 13, 14, 15, 7, 16, 1, 17, 18, 19, 20, 21, 22, 23, 24, 25, 26, 27, 28, 29, 30, 31] (by decide +kernel) (by decide +kernel)
set_option maxRecDepth 20000 in
theorem gX0_iron_X0_takeAt : GoodIn wsX0_iron (wsV RX0 48 RX0 yX0_takeAt wsX0_takeAt) := goodIn_app (goodIn_of _ (by decide +kernel)) ggX0_iron_X0_takeAt
set_option maxRecDepth 20000 in
theorem ggX0_iron_X0_shareAt : GoodIn wsX0_iron wsX0_shareAt := goodIn_r _ [21, 22, 23, 24, 25, 1, 26, 27, 28, 29, 30, 31] (by decide +kernel) (by decide +kernel)
set_option maxRecDepth 20000 in
theorem gX0_iron_X0_shareAt : GoodIn wsX0_iron (wsV RX0 41 RX0 yX0_shareAt wsX0_shareAt) := goodIn_app (goodIn_of _ (by decide +kernel)) ggX0_iron_X0_shareAt
theorem dX0_iron_0 : decode cX0_iron 0 = .ok (.aload_n 0, 1) := by decide +kernel
theorem dX0_iron_1 : decode cX0_iron 1 = .ok (.getfield 24, 3) := by decide +kernel
theorem dX0_iron_4 : decode cX0_iron 4 = .ok (.istore_n 1, 1) := by decide +kernel
theorem dX0_iron_5 : decode cX0_iron 5 = .ok (.iconst 0, 1) := by decide +kernel
theorem dX0_iron_6 : decode cX0_iron 6 = .ok (.istore_n 2, 1) := by decide +kernel
theorem dX0_iron_7 : decode cX0_iron 7 = .ok (.iconst 1, 1) := by decide +kernel
theorem dX0_iron_8 : decode cX0_iron 8 = .ok (.istore_n 3, 1) := by decide +kernel
theorem dX0_iron_9 : decode cX0_iron 9 = .ok (.aload_n 0, 1) := by decide +kernel
theorem dX0_iron_10 : decode cX0_iron 10 = .ok (.getfield 24, 3) := by decide +kernel
theorem dX0_iron_13 : decode cX0_iron 13 = .ok (.iconst 1, 1) := by decide +kernel
theorem dX0_iron_14 : decode cX0_iron 14 = .ok (.isub, 1) := by decide +kernel
theorem dX0_iron_15 : decode cX0_iron 15 = .ok (.istore 4, 2) := by decide +kernel
theorem dX0_iron_17 : decode cX0_iron 17 = .ok (.iload 4, 2) := by decide +kernel
theorem dX0_iron_19 : decode cX0_iron 19 = .ok (.ifCond .lt 67, 3) := by decide +kernel
theorem dX0_iron_22 : decode cX0_iron 22 = .ok (.iload 4, 2) := by decide +kernel
theorem dX0_iron_24 : decode cX0_iron 24 = .ok (.iload_n 1, 1) := by decide +kernel
theorem dX0_iron_25 : decode cX0_iron 25 = .ok (.if_icmp .ge 39, 3) := by decide +kernel
theorem dX0_iron_28 : decode cX0_iron 28 = .ok (.aload_n 0, 1) := by decide +kernel
theorem dX0_iron_29 : decode cX0_iron 29 = .ok (.iload_n 1, 1) := by decide +kernel
theorem dX0_iron_30 : decode cX0_iron 30 = .ok (.invokevirtual 51, 3) := by decide +kernel
theorem dX0_iron_33 : decode cX0_iron 33 = .ok (.istore 5, 2) := by decide +kernel
theorem dX0_iron_35 : decode cX0_iron 35 = .ok (.aload_n 0, 1) := by decide +kernel
theorem dX0_iron_36 : decode cX0_iron 36 = .ok (.iload 5, 2) := by decide +kernel
theorem dX0_iron_38 : decode cX0_iron 38 = .ok (.invokevirtual 48, 3) := by decide +kernel
theorem dX0_iron_41 : decode cX0_iron 41 = .ok (.aload_n 0, 1) := by decide +kernel
theorem dX0_iron_42 : decode cX0_iron 42 = .ok (.iload_n 1, 1) := by decide +kernel
theorem dX0_iron_43 : decode cX0_iron 43 = .ok (.invokevirtual 48, 3) := by decide +kernel
theorem dX0_iron_46 : decode cX0_iron 46 = .ok (.isub, 1) := by decide +kernel
theorem dX0_iron_47 : decode cX0_iron 47 = .ok (.istore_n 2, 1) := by decide +kernel
theorem dX0_iron_48 : decode cX0_iron 48 = .ok (.aload_n 0, 1) := by decide +kernel
theorem dX0_iron_49 : decode cX0_iron 49 = .ok (.iload 5, 2) := by decide +kernel
theorem dX0_iron_51 : decode cX0_iron 51 = .ok (.invokevirtual 41, 3) := by decide +kernel
theorem dX0_iron_54 : decode cX0_iron 54 = .ok (.aload_n 0, 1) := by decide +kernel
theorem dX0_iron_55 : decode cX0_iron 55 = .ok (.iload_n 1, 1) := by decide +kernel
theorem dX0_iron_56 : decode cX0_iron 56 = .ok (.invokevirtual 41, 3) := by decide +kernel
theorem dX0_iron_59 : decode cX0_iron 59 = .ok (.isub, 1) := by decide +kernel
theorem dX0_iron_60 : decode cX0_iron 60 = .ok (.istore_n 3, 1) := by decide +kernel
theorem dX0_iron_61 : decode cX0_iron 61 = .ok (.iload 5, 2) := by decide +kernel
theorem dX0_iron_63 : decode cX0_iron 63 = .ok (.istore_n 1, 1) := by decide +kernel
theorem dX0_iron_64 : decode cX0_iron 64 = .ok (.aload_n 0, 1) := by decide +kernel
theorem dX0_iron_65 : decode cX0_iron 65 = .ok (.getfield 18, 3) := by decide +kernel
theorem dX0_iron_68 : decode cX0_iron 68 = .ok (.iload 4, 2) := by decide +kernel
theorem dX0_iron_70 : decode cX0_iron 70 = .ok (.iload_n 2, 1) := by decide +kernel
theorem dX0_iron_71 : decode cX0_iron 71 = .ok (.iastore, 1) := by decide +kernel
theorem dX0_iron_72 : decode cX0_iron 72 = .ok (.aload_n 0, 1) := by decide +kernel
theorem dX0_iron_73 : decode cX0_iron 73 = .ok (.getfield 21, 3) := by decide +kernel
theorem dX0_iron_76 : decode cX0_iron 76 = .ok (.iload 4, 2) := by decide +kernel
theorem dX0_iron_78 : decode cX0_iron 78 = .ok (.iload_n 3, 1) := by decide +kernel
theorem dX0_iron_79 : decode cX0_iron 79 = .ok (.iastore, 1) := by decide +kernel
theorem dX0_iron_80 : decode cX0_iron 80 = .ok (.iinc 4 (-1), 3) := by decide +kernel
theorem dX0_iron_83 : decode cX0_iron 83 = .ok (.goto (-66), 3) := by decide +kernel
theorem dX0_iron_86 : decode cX0_iron 86 = .ok (.return_, 1) := by decide +kernel
set_option maxRecDepth 20000 in
theorem ggX0_nextCorner_X0_takeAt : GoodIn wsX0_nextCorner wsX0_takeAt := goodIn_r _ [5, 6, 7, 8, 4, 9, 10, 11, 12, 13, 14, 15, 16, 17, 18, 19, 20, 21, 22, 23, 24, 25] (by decide +kernel) (by decide +kernel)
set_option maxRecDepth 20000 in
theorem gX0_nextCorner_X0_takeAt : GoodIn wsX0_nextCorner (wsV RX0 48 RX0 yX0_takeAt wsX0_takeAt) := goodIn_app (goodIn_of _ (by decide +kernel)) ggX0_nextCorner_X0_takeAt
set_option maxRecDepth 20000 in
theorem ggX0_nextCorner_X0_shareAt : GoodIn wsX0_nextCorner wsX0_shareAt := goodIn_r _ [15, 16, 17, 18, 19, 10, 20, 21, 22, 23, 24, 25] (by decide +kernel) (by decide +kernel)
set_option maxRecDepth 20000 in
theorem gX0_nextCorner_X0_shareAt : GoodIn wsX0_nextCorner (wsV RX0 41 RX0 yX0_shareAt wsX0_shareAt) := goodIn_app (goodIn_of _ (by decide +kernel)) ggX0_nextCorner_X0_shareAt
theorem dX0_nextCorner_0 : decode cX0_nextCorner 0 = .ok (.iload_n 1, 1) := by decide +kernel
theorem dX0_nextCorner_1 : decode cX0_nextCorner 1 = .ok (.iconst 1, 1) := by decide +kernel
theorem dX0_nextCorner_2 : decode cX0_nextCorner 2 = .ok (.isub, 1) := by decide +kernel
theorem dX0_nextCorner_3 : decode cX0_nextCorner 3 = .ok (.istore_n 2, 1) := by decide +kernel
theorem dX0_nextCorner_4 : decode cX0_nextCorner 4 = .ok (.iload_n 1, 1) := by decide +kernel
theorem dX0_nextCorner_5 : decode cX0_nextCorner 5 = .ok (.iconst 2, 1) := by decide +kernel
theorem dX0_nextCorner_6 : decode cX0_nextCorner 6 = .ok (.isub, 1) := by decide +kernel
theorem dX0_nextCorner_7 : decode cX0_nextCorner 7 = .ok (.istore_n 3, 1) := by decide +kernel
theorem dX0_nextCorner_8 : decode cX0_nextCorner 8 = .ok (.iload_n 3, 1) := by decide +kernel
theorem dX0_nextCorner_9 : decode cX0_nextCorner 9 = .ok (.ifCond .lt 81, 3) := by decide +kernel
theorem dX0_nextCorner_12 : decode cX0_nextCorner 12 = .ok (.aload_n 0, 1) := by decide +kernel
theorem dX0_nextCorner_13 : decode cX0_nextCorner 13 = .ok (.iload_n 3, 1) := by decide +kernel
theorem dX0_nextCorner_14 : decode cX0_nextCorner 14 = .ok (.invokevirtual 48, 3) := by decide +kernel
theorem dX0_nextCorner_17 : decode cX0_nextCorner 17 = .ok (.aload_n 0, 1) := by decide +kernel
theorem dX0_nextCorner_18 : decode cX0_nextCorner 18 = .ok (.iload_n 1, 1) := by decide +kernel
theorem dX0_nextCorner_19 : decode cX0_nextCorner 19 = .ok (.invokevirtual 48, 3) := by decide +kernel
theorem dX0_nextCorner_22 : decode cX0_nextCorner 22 = .ok (.isub, 1) := by decide +kernel
theorem dX0_nextCorner_23 : decode cX0_nextCorner 23 = .ok (.i2l, 1) := by decide +kernel
theorem dX0_nextCorner_24 : decode cX0_nextCorner 24 = .ok (.lstore 4, 2) := by decide +kernel
theorem dX0_nextCorner_26 : decode cX0_nextCorner 26 = .ok (.aload_n 0, 1) := by decide +kernel
theorem dX0_nextCorner_27 : decode cX0_nextCorner 27 = .ok (.iload_n 3, 1) := by decide +kernel
theorem dX0_nextCorner_28 : decode cX0_nextCorner 28 = .ok (.invokevirtual 41, 3) := by decide +kernel
theorem dX0_nextCorner_31 : decode cX0_nextCorner 31 = .ok (.aload_n 0, 1) := by decide +kernel
theorem dX0_nextCorner_32 : decode cX0_nextCorner 32 = .ok (.iload_n 1, 1) := by decide +kernel
theorem dX0_nextCorner_33 : decode cX0_nextCorner 33 = .ok (.invokevirtual 41, 3) := by decide +kernel
theorem dX0_nextCorner_36 : decode cX0_nextCorner 36 = .ok (.isub, 1) := by decide +kernel
theorem dX0_nextCorner_37 : decode cX0_nextCorner 37 = .ok (.i2l, 1) := by decide +kernel
theorem dX0_nextCorner_38 : decode cX0_nextCorner 38 = .ok (.lstore 6, 2) := by decide +kernel
theorem dX0_nextCorner_40 : decode cX0_nextCorner 40 = .ok (.aload_n 0, 1) := by decide +kernel
theorem dX0_nextCorner_41 : decode cX0_nextCorner 41 = .ok (.iload_n 2, 1) := by decide +kernel
theorem dX0_nextCorner_42 : decode cX0_nextCorner 42 = .ok (.invokevirtual 48, 3) := by decide +kernel
theorem dX0_nextCorner_45 : decode cX0_nextCorner 45 = .ok (.aload_n 0, 1) := by decide +kernel
theorem dX0_nextCorner_46 : decode cX0_nextCorner 46 = .ok (.iload_n 1, 1) := by decide +kernel
theorem dX0_nextCorner_47 : decode cX0_nextCorner 47 = .ok (.invokevirtual 48, 3) := by decide +kernel
theorem dX0_nextCorner_50 : decode cX0_nextCorner 50 = .ok (.isub, 1) := by decide +kernel
theorem dX0_nextCorner_51 : decode cX0_nextCorner 51 = .ok (.i2l, 1) := by decide +kernel
theorem dX0_nextCorner_52 : decode cX0_nextCorner 52 = .ok (.lstore 8, 2) := by decide +kernel
theorem dX0_nextCorner_54 : decode cX0_nextCorner 54 = .ok (.aload_n 0, 1) := by decide +kernel
theorem dX0_nextCorner_55 : decode cX0_nextCorner 55 = .ok (.iload_n 2, 1) := by decide +kernel
theorem dX0_nextCorner_56 : decode cX0_nextCorner 56 = .ok (.invokevirtual 41, 3) := by decide +kernel
theorem dX0_nextCorner_59 : decode cX0_nextCorner 59 = .ok (.aload_n 0, 1) := by decide +kernel
theorem dX0_nextCorner_60 : decode cX0_nextCorner 60 = .ok (.iload_n 1, 1) := by decide +kernel
theorem dX0_nextCorner_61 : decode cX0_nextCorner 61 = .ok (.invokevirtual 41, 3) := by decide +kernel
theorem dX0_nextCorner_64 : decode cX0_nextCorner 64 = .ok (.isub, 1) := by decide +kernel
theorem dX0_nextCorner_65 : decode cX0_nextCorner 65 = .ok (.i2l, 1) := by decide +kernel
theorem dX0_nextCorner_66 : decode cX0_nextCorner 66 = .ok (.lstore 10, 2) := by decide +kernel
theorem dX0_nextCorner_68 : decode cX0_nextCorner 68 = .ok (.lload 4, 2) := by decide +kernel
theorem dX0_nextCorner_70 : decode cX0_nextCorner 70 = .ok (.lload 10, 2) := by decide +kernel
theorem dX0_nextCorner_72 : decode cX0_nextCorner 72 = .ok (.lmul, 1) := by decide +kernel
theorem dX0_nextCorner_73 : decode cX0_nextCorner 73 = .ok (.lload 8, 2) := by decide +kernel
theorem dX0_nextCorner_75 : decode cX0_nextCorner 75 = .ok (.lload 6, 2) := by decide +kernel
theorem dX0_nextCorner_77 : decode cX0_nextCorner 77 = .ok (.lmul, 1) := by decide +kernel
theorem dX0_nextCorner_78 : decode cX0_nextCorner 78 = .ok (.lcmp, 1) := by decide +kernel
theorem dX0_nextCorner_79 : decode cX0_nextCorner 79 = .ok (.ifCond .lt 5, 3) := by decide +kernel
theorem dX0_nextCorner_82 : decode cX0_nextCorner 82 = .ok (.iload_n 3, 1) := by decide +kernel
theorem dX0_nextCorner_83 : decode cX0_nextCorner 83 = .ok (.istore_n 2, 1) := by decide +kernel
theorem dX0_nextCorner_84 : decode cX0_nextCorner 84 = .ok (.iinc 3 (-1), 3) := by decide +kernel
theorem dX0_nextCorner_87 : decode cX0_nextCorner 87 = .ok (.goto (-79), 3) := by decide +kernel
theorem dX0_nextCorner_90 : decode cX0_nextCorner 90 = .ok (.iload_n 2, 1) := by decide +kernel
theorem dX0_nextCorner_91 : decode cX0_nextCorner 91 = .ok (.ireturn, 1) := by decide +kernel
set_option maxRecDepth 20000 in
theorem ggX1_init_X0_init : GoodIn wsX1_init wsX0_init := goodIn_r _ [18, 19, 2, 3, 10, 20, 21, 22, 23, 24, 25, 26, 27, 6, 28, 29, 30, 31, 32, 33, 34, 35, 36, 37, 38, 39, 40, 41, 42, 43, 44, 45, 46, 47, 48, 49, 50, 51, 52, 53, 54, 55, 56, 57] (by decide +kernel) (by decide +kernel)
set_option maxRecDepth 20000 in
theorem gX1_init_X0_init : GoodIn wsX1_init (wsX0_init) := ggX1_init_X0_init
theorem dX1_init_0 : decode cX1_init 0 = .ok (.aload_n 0, 1) := by decide +kernel
theorem dX1_init_1 : decode cX1_init 1 = .ok (.invokespecial 1, 3) := by decide +kernel
theorem dX1_init_4 : decode cX1_init 4 = .ok (.aload_n 0, 1) := by decide +kernel
theorem dX1_init_5 : decode cX1_init 5 = .ok (.new 7, 3) := by decide +kernel
theorem dX1_init_8 : decode cX1_init 8 = .ok (.dup, 1) := by decide +kernel
theorem dX1_init_9 : decode cX1_init 9 = .ok (.invokespecial 9, 3) := by decide +kernel
theorem dX1_init_12 : decode cX1_init 12 = .ok (.putfield 10, 3) := by decide +kernel
theorem dX1_init_15 : decode cX1_init 15 = .ok (.aload_n 0, 1) := by decide +kernel
theorem dX1_init_16 : decode cX1_init 16 = .ok (.new 7, 3) := by decide +kernel
theorem dX1_init_19 : decode cX1_init 19 = .ok (.dup, 1) := by decide +kernel
theorem dX1_init_20 : decode cX1_init 20 = .ok (.invokespecial 9, 3) := by decide +kernel
theorem dX1_init_23 : decode cX1_init 23 = .ok (.putfield 16, 3) := by decide +kernel
theorem dX1_init_26 : decode cX1_init 26 = .ok (.aload_n 0, 1) := by decide +kernel
theorem dX1_init_27 : decode cX1_init 27 = .ok (.new 7, 3) := by decide +kernel
theorem dX1_init_30 : decode cX1_init 30 = .ok (.dup, 1) := by decide +kernel
theorem dX1_init_31 : decode cX1_init 31 = .ok (.invokespecial 9, 3) := by decide +kernel
theorem dX1_init_34 : decode cX1_init 34 = .ok (.putfield 19, 3) := by decide +kernel
theorem dX1_init_37 : decode cX1_init 37 = .ok (.aload_n 0, 1) := by decide +kernel
theorem dX1_init_38 : decode cX1_init 38 = .ok (.bipush 12, 2) := by decide +kernel
theorem dX1_init_40 : decode cX1_init 40 = .ok (.newarray .int, 2) := by decide +kernel
theorem dX1_init_42 : decode cX1_init 42 = .ok (.putfield 22, 3) := by decide +kernel
theorem dX1_init_45 : decode cX1_init 45 = .ok (.aload_n 0, 1) := by decide +kernel
theorem dX1_init_46 : decode cX1_init 46 = .ok (.iconst 1, 1) := by decide +kernel
theorem dX1_init_47 : decode cX1_init 47 = .ok (.putfield 26, 3) := by decide +kernel
theorem dX1_init_50 : decode cX1_init 50 = .ok (.aload_n 0, 1) := by decide +kernel
theorem dX1_init_51 : decode cX1_init 51 = .ok (.iconst 0, 1) := by decide +kernel
theorem dX1_init_52 : decode cX1_init 52 = .ok (.putfield 30, 3) := by decide +kernel
theorem dX1_init_55 : decode cX1_init 55 = .ok (.aload_n 0, 1) := by decide +kernel
theorem dX1_init_56 : decode cX1_init 56 = .ok (.iconst 0, 1) := by decide +kernel
theorem dX1_init_57 : decode cX1_init 57 = .ok (.putfield 33, 3) := by decide +kernel
theorem dX1_init_60 : decode cX1_init 60 = .ok (.aload_n 0, 1) := by decide +kernel
theorem dX1_init_61 : decode cX1_init 61 = .ok (.lconst 0, 1) := by decide +kernel
theorem dX1_init_62 : decode cX1_init 62 = .ok (.putfield 36, 3) := by decide +kernel
theorem dX1_init_65 : decode cX1_init 65 = .ok (.return_, 1) := by decide +kernel
end
section
set_option maxRecDepth 20000 in
theorem ggX1_buyers_X0_begin : GoodIn wsX1_buyers wsX0_begin := goodIn_r _ [9, 10, 11, 12, 13, 14, 15, 8, 16, 17, 18, 19, 20, 21, 22, 23, 24, 25, 26, 27, 28, 29, 30, 31, 32, 33, 34, 35, 36, 37, 38, 47, 48, 49, 50, 51] (by decide +kernel) (by decide +kernel)
set_option maxRecDepth 20000 in
theorem gX1_buyers_X0_begin : GoodIn wsX1_buyers (wsV RX1 40 RX0 yX0_begin wsX0_begin) := goodIn_app (goodIn_of _ (by decide +kernel)) ggX1_buyers_X0_begin
theorem dX1_buyers_0 : decode cX1_buyers 0 = .ok (.iload_n 1, 1) := by decide +kernel
theorem dX1_buyers_1 : decode cX1_buyers 1 = .ok (.iconst 1, 1) := by decide +kernel
theorem dX1_buyers_2 : decode cX1_buyers 2 = .ok (.if_icmp .lt 8, 3) := by decide +kernel
theorem dX1_buyers_5 : decode cX1_buyers 5 = .ok (.iload_n 1, 1) := by decide +kernel
theorem dX1_buyers_6 : decode cX1_buyers 6 = .ok (.iconst 3, 1) := by decide +kernel
theorem dX1_buyers_7 : decode cX1_buyers 7 = .ok (.if_icmp .le 5, 3) := by decide +kernel
theorem dX1_buyers_10 : decode cX1_buyers 10 = .ok (.iconst (-1), 1) := by decide +kernel
theorem dX1_buyers_11 : decode cX1_buyers 11 = .ok (.ireturn, 1) := by decide +kernel
theorem dX1_buyers_12 : decode cX1_buyers 12 = .ok (.aload_n 0, 1) := by decide +kernel
theorem dX1_buyers_13 : decode cX1_buyers 13 = .ok (.getfield 26, 3) := by decide +kernel
theorem dX1_buyers_16 : decode cX1_buyers 16 = .ok (.istore_n 2, 1) := by decide +kernel
theorem dX1_buyers_17 : decode cX1_buyers 17 = .ok (.aload_n 0, 1) := by decide +kernel
theorem dX1_buyers_18 : decode cX1_buyers 18 = .ok (.iload_n 1, 1) := by decide +kernel
theorem dX1_buyers_19 : decode cX1_buyers 19 = .ok (.putfield 26, 3) := by decide +kernel
theorem dX1_buyers_22 : decode cX1_buyers 22 = .ok (.aload_n 0, 1) := by decide +kernel
theorem dX1_buyers_23 : decode cX1_buyers 23 = .ok (.getfield 10, 3) := by decide +kernel
theorem dX1_buyers_26 : decode cX1_buyers 26 = .ok (.iconst 0, 1) := by decide +kernel
theorem dX1_buyers_27 : decode cX1_buyers 27 = .ok (.iconst 1, 1) := by decide +kernel
theorem dX1_buyers_28 : decode cX1_buyers 28 = .ok (.invokevirtual 40, 3) := by decide +kernel
theorem dX1_buyers_31 : decode cX1_buyers 31 = .ok (.aload_n 0, 1) := by decide +kernel
theorem dX1_buyers_32 : decode cX1_buyers 32 = .ok (.getfield 16, 3) := by decide +kernel
theorem dX1_buyers_35 : decode cX1_buyers 35 = .ok (.iconst 0, 1) := by decide +kernel
theorem dX1_buyers_36 : decode cX1_buyers 36 = .ok (.iconst 1, 1) := by decide +kernel
theorem dX1_buyers_37 : decode cX1_buyers 37 = .ok (.invokevirtual 40, 3) := by decide +kernel
theorem dX1_buyers_40 : decode cX1_buyers 40 = .ok (.aload_n 0, 1) := by decide +kernel
theorem dX1_buyers_41 : decode cX1_buyers 41 = .ok (.getfield 19, 3) := by decide +kernel
theorem dX1_buyers_44 : decode cX1_buyers 44 = .ok (.iconst 0, 1) := by decide +kernel
theorem dX1_buyers_45 : decode cX1_buyers 45 = .ok (.iconst 1, 1) := by decide +kernel
theorem dX1_buyers_46 : decode cX1_buyers 46 = .ok (.invokevirtual 40, 3) := by decide +kernel
theorem dX1_buyers_49 : decode cX1_buyers 49 = .ok (.iload_n 2, 1) := by decide +kernel
theorem dX1_buyers_50 : decode cX1_buyers 50 = .ok (.ireturn, 1) := by decide +kernel
set_option maxRecDepth 20000 in
theorem ggX1_book_X1_isBuyer : GoodIn wsX1_book wsX1_isBuyer := goodIn_r _ [5, 6, 59, 60, 61, 62, 63, 64, 65, 66] (by decide +kernel) (by decide +kernel)
set_option maxRecDepth 20000 in
theorem gX1_book_X1_isBuyer : GoodIn wsX1_book (wsV RX1 44 RX1 yX1_isBuyer wsX1_isBuyer) := goodIn_app (goodIn_of _ (by decide +kernel)) ggX1_book_X1_isBuyer
set_option maxRecDepth 20000 in
theorem ggX1_book_X1_isWorth : GoodIn wsX1_book wsX1_isWorth := goodIn_r _ [9] (by decide +kernel) (by decide +kernel)
set_option maxRecDepth 20000 in
theorem gX1_book_X1_isWorth : GoodIn wsX1_book (va_wsS RX1 48 yX1_isWorth wsX1_isWorth) := goodIn_app (goodIn_of _ (by decide +kernel)) ggX1_book_X1_isWorth
set_option maxRecDepth 20000 in
theorem ggX1_book_X1_isWeight : GoodIn wsX1_book wsX1_isWeight := goodIn_r _ [12] (by decide +kernel) (by decide +kernel)
set_option maxRecDepth 20000 in
theorem gX1_book_X1_isWeight : GoodIn wsX1_book (va_wsS RX1 51 yX1_isWeight wsX1_isWeight) := goodIn_app (goodIn_of _ (by decide +kernel)) ggX1_book_X1_isWeight
set_option maxRecDepth 20000 in
theorem ggX1_book_X1_bookOf : GoodIn wsX1_book wsX1_bookOf := goodIn_r _ [16, 17, 18, 19, 59, 60, 61, 62, 63, 64, 65, 66] (by decide +kernel) (by decide +kernel)
set_option maxRecDepth 20000 in
theorem gX1_book_X1_bookOf : GoodIn wsX1_book (wsV RX1 54 RX1 yX1_bookOf wsX1_bookOf) := goodIn_app (goodIn_of _ (by decide +kernel)) ggX1_book_X1_bookOf
set_option maxRecDepth 20000 in
theorem ggX1_book_X0_begin : GoodIn wsX1_book wsX0_begin := goodIn_r _ [24, 25, 26, 27, 28, 29, 30, 23, 31, 32, 33, 34, 35, 36, 37, 38, 39, 40, 41, 42, 43, 44, 45, 46, 47, 48, 49, 50, 51, 52, 53, 54, 55, 56, 57, 58] (by decide +kernel) (by decide +kernel)
set_option maxRecDepth 20000 in
theorem gX1_book_X0_begin : GoodIn wsX1_book (wsV RX1 40 RX0 yX0_begin wsX0_begin) := goodIn_app (goodIn_of _ (by decide +kernel)) ggX1_book_X0_begin
theorem dX1_book_0 : decode cX1_book 0 = .ok (.aload_n 0, 1) := by decide +kernel
theorem dX1_book_1 : decode cX1_book 1 = .ok (.iload_n 1, 1) := by decide +kernel
theorem dX1_book_2 : decode cX1_book 2 = .ok (.invokevirtual 44, 3) := by decide +kernel
theorem dX1_book_5 : decode cX1_book 5 = .ok (.ifCond .eq 17, 3) := by decide +kernel
theorem dX1_book_8 : decode cX1_book 8 = .ok (.iload_n 2, 1) := by decide +kernel
theorem dX1_book_9 : decode cX1_book 9 = .ok (.invokestatic 48, 3) := by decide +kernel
theorem dX1_book_12 : decode cX1_book 12 = .ok (.ifCond .eq 10, 3) := by decide +kernel
theorem dX1_book_15 : decode cX1_book 15 = .ok (.iload_n 3, 1) := by decide +kernel
theorem dX1_book_16 : decode cX1_book 16 = .ok (.invokestatic 51, 3) := by decide +kernel
theorem dX1_book_19 : decode cX1_book 19 = .ok (.ifCond .ne 5, 3) := by decide +kernel
theorem dX1_book_22 : decode cX1_book 22 = .ok (.iconst (-1), 1) := by decide +kernel
theorem dX1_book_23 : decode cX1_book 23 = .ok (.ireturn, 1) := by decide +kernel
theorem dX1_book_24 : decode cX1_book 24 = .ok (.aload_n 0, 1) := by decide +kernel
theorem dX1_book_25 : decode cX1_book 25 = .ok (.iload_n 1, 1) := by decide +kernel
theorem dX1_book_26 : decode cX1_book 26 = .ok (.invokevirtual 54, 3) := by decide +kernel
theorem dX1_book_29 : decode cX1_book 29 = .ok (.astore 4, 2) := by decide +kernel
theorem dX1_book_31 : decode cX1_book 31 = .ok (.aload 4, 2) := by decide +kernel
theorem dX1_book_33 : decode cX1_book 33 = .ok (.iload_n 2, 1) := by decide +kernel
theorem dX1_book_34 : decode cX1_book 34 = .ok (.iload_n 3, 1) := by decide +kernel
theorem dX1_book_35 : decode cX1_book 35 = .ok (.invokevirtual 40, 3) := by decide +kernel
theorem dX1_book_38 : decode cX1_book 38 = .ok (.aload 4, 2) := by decide +kernel
theorem dX1_book_40 : decode cX1_book 40 = .ok (.getfield 58, 3) := by decide +kernel
theorem dX1_book_43 : decode cX1_book 43 = .ok (.ireturn, 1) := by decide +kernel
set_option maxRecDepth 20000 in
theorem ggX1_more_X1_isBuyer : GoodIn wsX1_more wsX1_isBuyer := goodIn_r _ [5, 6, 60, 61, 62, 63, 64, 65, 66, 67] (by decide +kernel) (by decide +kernel)
set_option maxRecDepth 20000 in
theorem gX1_more_X1_isBuyer : GoodIn wsX1_more (wsV RX1 44 RX1 yX1_isBuyer wsX1_isBuyer) := goodIn_app (goodIn_of _ (by decide +kernel)) ggX1_more_X1_isBuyer
set_option maxRecDepth 20000 in
theorem ggX1_more_X1_isWorth : GoodIn wsX1_more wsX1_isWorth := goodIn_r _ [9] (by decide +kernel) (by decide +kernel)
set_option maxRecDepth 20000 in
theorem gX1_more_X1_isWorth : GoodIn wsX1_more (va_wsS RX1 48 yX1_isWorth wsX1_isWorth) := goodIn_app (goodIn_of _ (by decide +kernel)) ggX1_more_X1_isWorth
set_option maxRecDepth 20000 in
theorem ggX1_more_X1_isWeight : GoodIn wsX1_more wsX1_isWeight := goodIn_r _ [12] (by decide +kernel) (by decide +kernel)
set_option maxRecDepth 20000 in
theorem gX1_more_X1_isWeight : GoodIn wsX1_more (va_wsS RX1 51 yX1_isWeight wsX1_isWeight) := goodIn_app (goodIn_of _ (by decide +kernel)) ggX1_more_X1_isWeight
set_option maxRecDepth 20000 in
theorem ggX1_more_X1_bookOf : GoodIn wsX1_more wsX1_bookOf := goodIn_r _ [16, 17, 18, 19, 60, 61, 62, 63, 64, 65, 66, 67] (by decide +kernel) (by decide +kernel)
set_option maxRecDepth 20000 in
theorem gX1_more_X1_bookOf : GoodIn wsX1_more (wsV RX1 54 RX1 yX1_bookOf wsX1_bookOf) := goodIn_app (goodIn_of _ (by decide +kernel)) ggX1_more_X1_bookOf
set_option maxRecDepth 20000 in
theorem ggX1_more_X0_worthAt : GoodIn wsX1_more wsX0_worthAt := goodIn_r _ [24, 25, 26, 55, 56, 57, 58, 59] (by decide +kernel) (by decide +kernel)
set_option maxRecDepth 20000 in
theorem gX1_more_X0_worthAt : GoodIn wsX1_more (wsV RX1 61 RX0 yX0_worthAt wsX0_worthAt) := goodIn_app (goodIn_of _ (by decide +kernel)) ggX1_more_X0_worthAt
set_option maxRecDepth 20000 in
theorem ggX1_more_X0_add : GoodIn wsX1_more wsX0_add := goodIn_r _ [30, 25, 26, 31, 32, 33, 34, 23, 35, 36, 37, 38, 39, 40, 41, 42, 43, 44, 45, 46, 21, 22, 24, 47, 48, 49, 50, 51, 52, 53, 54, 55, 56, 57, 58, 59] (by decide +kernel) (by decide +kernel)
set_option maxRecDepth 20000 in
theorem gX1_more_X0_add : GoodIn wsX1_more (wsV RX1 65 RX0 yX0_add wsX0_add) := goodIn_app (goodIn_of _ (by decide +kernel)) ggX1_more_X0_add
theorem dX1_more_0 : decode cX1_more 0 = .ok (.aload_n 0, 1) := by decide +kernel
theorem dX1_more_1 : decode cX1_more 1 = .ok (.iload_n 1, 1) := by decide +kernel
theorem dX1_more_2 : decode cX1_more 2 = .ok (.invokevirtual 44, 3) := by decide +kernel
theorem dX1_more_5 : decode cX1_more 5 = .ok (.ifCond .eq 17, 3) := by decide +kernel
theorem dX1_more_8 : decode cX1_more 8 = .ok (.iload_n 2, 1) := by decide +kernel
theorem dX1_more_9 : decode cX1_more 9 = .ok (.invokestatic 48, 3) := by decide +kernel
theorem dX1_more_12 : decode cX1_more 12 = .ok (.ifCond .eq 10, 3) := by decide +kernel
theorem dX1_more_15 : decode cX1_more 15 = .ok (.iload_n 3, 1) := by decide +kernel
theorem dX1_more_16 : decode cX1_more 16 = .ok (.invokestatic 51, 3) := by decide +kernel
theorem dX1_more_19 : decode cX1_more 19 = .ok (.ifCond .ne 5, 3) := by decide +kernel
theorem dX1_more_22 : decode cX1_more 22 = .ok (.iconst (-1), 1) := by decide +kernel
theorem dX1_more_23 : decode cX1_more 23 = .ok (.ireturn, 1) := by decide +kernel
theorem dX1_more_24 : decode cX1_more 24 = .ok (.aload_n 0, 1) := by decide +kernel
theorem dX1_more_25 : decode cX1_more 25 = .ok (.iload_n 1, 1) := by decide +kernel
theorem dX1_more_26 : decode cX1_more 26 = .ok (.invokevirtual 54, 3) := by decide +kernel
theorem dX1_more_29 : decode cX1_more 29 = .ok (.astore 4, 2) := by decide +kernel
theorem dX1_more_31 : decode cX1_more 31 = .ok (.iload_n 2, 1) := by decide +kernel
theorem dX1_more_32 : decode cX1_more 32 = .ok (.aload 4, 2) := by decide +kernel
theorem dX1_more_34 : decode cX1_more 34 = .ok (.aload 4, 2) := by decide +kernel
theorem dX1_more_36 : decode cX1_more 36 = .ok (.getfield 58, 3) := by decide +kernel
theorem dX1_more_39 : decode cX1_more 39 = .ok (.iconst 1, 1) := by decide +kernel
theorem dX1_more_40 : decode cX1_more 40 = .ok (.isub, 1) := by decide +kernel
theorem dX1_more_41 : decode cX1_more 41 = .ok (.invokevirtual 61, 3) := by decide +kernel
theorem dX1_more_44 : decode cX1_more 44 = .ok (.if_icmp .gt 5, 3) := by decide +kernel
theorem dX1_more_47 : decode cX1_more 47 = .ok (.iconst (-1), 1) := by decide +kernel
theorem dX1_more_48 : decode cX1_more 48 = .ok (.ireturn, 1) := by decide +kernel
theorem dX1_more_49 : decode cX1_more 49 = .ok (.aload 4, 2) := by decide +kernel
theorem dX1_more_51 : decode cX1_more 51 = .ok (.getfield 58, 3) := by decide +kernel
theorem dX1_more_54 : decode cX1_more 54 = .ok (.iconst 5, 1) := by decide +kernel
theorem dX1_more_55 : decode cX1_more 55 = .ok (.if_icmp .lt 6, 3) := by decide +kernel
theorem dX1_more_58 : decode cX1_more 58 = .ok (.bipush (-3), 2) := by decide +kernel
theorem dX1_more_60 : decode cX1_more 60 = .ok (.ireturn, 1) := by decide +kernel
theorem dX1_more_61 : decode cX1_more 61 = .ok (.aload 4, 2) := by decide +kernel
theorem dX1_more_63 : decode cX1_more 63 = .ok (.iload_n 2, 1) := by decide +kernel
theorem dX1_more_64 : decode cX1_more 64 = .ok (.iload_n 3, 1) := by decide +kernel
theorem dX1_more_65 : decode cX1_more 65 = .ok (.invokevirtual 65, 3) := by decide +kernel
theorem dX1_more_68 : decode cX1_more 68 = .ok (.aload 4, 2) := by decide +kernel
theorem dX1_more_70 : decode cX1_more 70 = .ok (.getfield 58, 3) := by decide +kernel
theorem dX1_more_73 : decode cX1_more 73 = .ok (.ireturn, 1) := by decide +kernel
set_option maxRecDepth 20000 in
theorem ggX1_about_X1_isBuyer : GoodIn wsX1_about wsX1_isBuyer := goodIn_r _ [5, 6, 44, 45, 46, 47, 48, 49, 50, 51] (by decide +kernel) (by decide +kernel)
set_option maxRecDepth 20000 in
theorem gX1_about_X1_isBuyer : GoodIn wsX1_about (wsV RX1 44 RX1 yX1_isBuyer wsX1_isBuyer) := goodIn_app (goodIn_of _ (by decide +kernel)) ggX1_about_X1_isBuyer
set_option maxRecDepth 20000 in
theorem ggX1_about_X1_bookOf : GoodIn wsX1_about wsX1_bookOf := goodIn_r _ [10, 11, 12, 13, 44, 45, 46, 47, 48, 49, 50, 51] (by decide +kernel) (by decide +kernel)
set_option maxRecDepth 20000 in
theorem gX1_about_X1_bookOf : GoodIn wsX1_about (wsV RX1 54 RX1 yX1_bookOf wsX1_bookOf) := goodIn_app (goodIn_of _ (by decide +kernel)) ggX1_about_X1_bookOf
set_option maxRecDepth 20000 in
theorem ggX1_about_X0_has : GoodIn wsX1_about wsX0_has := goodIn_r _ [18, 19, 52, 53, 54, 55, 56] (by decide +kernel) (by decide +kernel)
set_option maxRecDepth 20000 in
theorem gX1_about_X0_has : GoodIn wsX1_about (wsV RX1 68 RX0 yX0_has wsX0_has) := goodIn_app (goodIn_of _ (by decide +kernel)) ggX1_about_X0_has
set_option maxRecDepth 20000 in
theorem ggX1_about_X0_worthAt : GoodIn wsX1_about wsX0_worthAt := goodIn_r _ [23, 19, 24, 52, 53, 54, 55, 56] (by decide +kernel) (by decide +kernel)
set_option maxRecDepth 20000 in
theorem gX1_about_X0_worthAt : GoodIn wsX1_about (wsV RX1 61 RX0 yX0_worthAt wsX0_worthAt) := goodIn_app (goodIn_of _ (by decide +kernel)) ggX1_about_X0_worthAt
set_option maxRecDepth 20000 in
theorem ggX1_about_X0_weightAt : GoodIn wsX1_about wsX0_weightAt := goodIn_r _ [28, 19, 29, 52, 53, 54, 55, 56] (by decide +kernel) (by decide +kernel)
set_option maxRecDepth 20000 in
theorem gX1_about_X0_weightAt : GoodIn wsX1_about (wsV RX1 71 RX0 yX0_weightAt wsX0_weightAt) := goodIn_app (goodIn_of _ (by decide +kernel)) ggX1_about_X0_weightAt
set_option maxRecDepth 20000 in
theorem ggX1_about_X0_shareAt : GoodIn wsX1_about wsX0_shareAt := goodIn_r _ [33, 34, 35, 36, 37, 19, 29, 52, 53, 54, 55, 56] (by decide +kernel) (by decide +kernel)
set_option maxRecDepth 20000 in
theorem gX1_about_X0_shareAt : GoodIn wsX1_about (wsV RX1 74 RX0 yX0_shareAt wsX0_shareAt) := goodIn_app (goodIn_of _ (by decide +kernel)) ggX1_about_X0_shareAt
set_option maxRecDepth 20000 in
theorem ggX1_about_X0_takeAt : GoodIn wsX1_about wsX0_takeAt := goodIn_r _ [41, 42, 21, 22, 17, 23, 19, 24, 43, 31, 32, 33, 34, 35, 36, 37, 29, 52, 53, 54, 55, 56] (by decide +kernel) (by decide +kernel)
set_option maxRecDepth 20000 in
theorem gX1_about_X0_takeAt : GoodIn wsX1_about (wsV RX1 77 RX0 yX0_takeAt wsX0_takeAt) := goodIn_app (goodIn_of _ (by decide +kernel)) ggX1_about_X0_takeAt
theorem dX1_about_0 : decode cX1_about 0 = .ok (.aload_n 0, 1) := by decide +kernel
theorem dX1_about_1 : decode cX1_about 1 = .ok (.iload_n 1, 1) := by decide +kernel
theorem dX1_about_2 : decode cX1_about 2 = .ok (.invokevirtual 44, 3) := by decide +kernel
theorem dX1_about_5 : decode cX1_about 5 = .ok (.ifCond .eq 15, 3) := by decide +kernel
theorem dX1_about_8 : decode cX1_about 8 = .ok (.aload_n 0, 1) := by decide +kernel
theorem dX1_about_9 : decode cX1_about 9 = .ok (.iload_n 1, 1) := by decide +kernel
theorem dX1_about_10 : decode cX1_about 10 = .ok (.invokevirtual 54, 3) := by decide +kernel
theorem dX1_about_13 : decode cX1_about 13 = .ok (.iload_n 2, 1) := by decide +kernel
theorem dX1_about_14 : decode cX1_about 14 = .ok (.invokevirtual 68, 3) := by decide +kernel
theorem dX1_about_17 : decode cX1_about 17 = .ok (.ifCond .ne 5, 3) := by decide +kernel
theorem dX1_about_20 : decode cX1_about 20 = .ok (.iconst (-1), 1) := by decide +kernel
theorem dX1_about_21 : decode cX1_about 21 = .ok (.ireturn, 1) := by decide +kernel
theorem dX1_about_22 : decode cX1_about 22 = .ok (.aload_n 0, 1) := by decide +kernel
theorem dX1_about_23 : decode cX1_about 23 = .ok (.iload_n 1, 1) := by decide +kernel
theorem dX1_about_24 : decode cX1_about 24 = .ok (.invokevirtual 54, 3) := by decide +kernel
theorem dX1_about_27 : decode cX1_about 27 = .ok (.astore 4, 2) := by decide +kernel
theorem dX1_about_29 : decode cX1_about 29 = .ok (.iload_n 3, 1) := by decide +kernel
theorem dX1_about_30 : decode cX1_about 30 = .ok (.tableswitch 58 0 3 #[30, 37, 44, 51], 30) := by decide +kernel
theorem dX1_about_60 : decode cX1_about 60 = .ok (.aload 4, 2) := by decide +kernel
theorem dX1_about_62 : decode cX1_about 62 = .ok (.iload_n 2, 1) := by decide +kernel
theorem dX1_about_63 : decode cX1_about 63 = .ok (.invokevirtual 61, 3) := by decide +kernel
theorem dX1_about_66 : decode cX1_about 66 = .ok (.ireturn, 1) := by decide +kernel
theorem dX1_about_67 : decode cX1_about 67 = .ok (.aload 4, 2) := by decide +kernel
theorem dX1_about_69 : decode cX1_about 69 = .ok (.iload_n 2, 1) := by decide +kernel
theorem dX1_about_70 : decode cX1_about 70 = .ok (.invokevirtual 71, 3) := by decide +kernel
theorem dX1_about_73 : decode cX1_about 73 = .ok (.ireturn, 1) := by decide +kernel
theorem dX1_about_74 : decode cX1_about 74 = .ok (.aload 4, 2) := by decide +kernel
theorem dX1_about_76 : decode cX1_about 76 = .ok (.iload_n 2, 1) := by decide +kernel
theorem dX1_about_77 : decode cX1_about 77 = .ok (.invokevirtual 74, 3) := by decide +kernel
theorem dX1_about_80 : decode cX1_about 80 = .ok (.ireturn, 1) := by decide +kernel
theorem dX1_about_81 : decode cX1_about 81 = .ok (.aload 4, 2) := by decide +kernel
theorem dX1_about_83 : decode cX1_about 83 = .ok (.iload_n 2, 1) := by decide +kernel
theorem dX1_about_84 : decode cX1_about 84 = .ok (.invokevirtual 77, 3) := by decide +kernel
theorem dX1_about_87 : decode cX1_about 87 = .ok (.ireturn, 1) := by decide +kernel
theorem dX1_about_88 : decode cX1_about 88 = .ok (.iconst (-1), 1) := by decide +kernel
theorem dX1_about_89 : decode cX1_about 89 = .ok (.ireturn, 1) := by decide +kernel
set_option maxRecDepth 20000 in
theorem ggX1_whole_X1_isBuyer : GoodIn wsX1_whole wsX1_isBuyer := goodIn_r _ [5, 6, 47, 48, 49, 50, 51, 52, 53, 54] (by decide +kernel) (by decide +kernel)
set_option maxRecDepth 20000 in
theorem gX1_whole_X1_isBuyer : GoodIn wsX1_whole (wsV RX1 44 RX1 yX1_isBuyer wsX1_isBuyer) := goodIn_app (goodIn_of _ (by decide +kernel)) ggX1_whole_X1_isBuyer
set_option maxRecDepth 20000 in
theorem ggX1_whole_X1_bookOf : GoodIn wsX1_whole wsX1_bookOf := goodIn_r _ [10, 11, 12, 13, 47, 48, 49, 50, 51, 52, 53, 54] (by decide +kernel) (by decide +kernel)
set_option maxRecDepth 20000 in
theorem gX1_whole_X1_bookOf : GoodIn wsX1_whole (wsV RX1 54 RX1 yX1_bookOf wsX1_bookOf) := goodIn_app (goodIn_of _ (by decide +kernel)) ggX1_whole_X1_bookOf
set_option maxRecDepth 20000 in
theorem ggX1_whole_X0_allWeights : GoodIn wsX1_whole wsX0_allWeights := goodIn_r _ [18, 19, 20, 21, 17, 22, 23, 24, 25, 26, 27, 28, 42, 43, 44, 45, 46] (by decide +kernel) (by decide +kernel)
set_option maxRecDepth 20000 in
theorem gX1_whole_X0_allWeights : GoodIn wsX1_whole (wsV RX1 80 RX0 yX0_allWeights wsX0_allWeights) := goodIn_app (goodIn_of _ (by decide +kernel)) ggX1_whole_X0_allWeights
set_option maxRecDepth 20000 in
theorem ggX1_whole_X0_bestPlace : GoodIn wsX1_whole wsX0_bestPlace := goodIn_r _ [32, 27, 33, 34, 35, 17, 36, 37, 38, 39, 40, 41, 19, 20, 21, 22, 23, 24, 25, 26, 28, 42, 43, 44, 45, 46] (by decide +kernel) (by decide +kernel)
set_option maxRecDepth 20000 in
theorem gX1_whole_X0_bestPlace : GoodIn wsX1_whole (wsV RX1 84 RX0 yX0_bestPlace wsX0_bestPlace) := goodIn_app (goodIn_of _ (by decide +kernel)) ggX1_whole_X0_bestPlace
theorem dX1_whole_0 : decode cX1_whole 0 = .ok (.aload_n 0, 1) := by decide +kernel
theorem dX1_whole_1 : decode cX1_whole 1 = .ok (.iload_n 1, 1) := by decide +kernel
theorem dX1_whole_2 : decode cX1_whole 2 = .ok (.invokevirtual 44, 3) := by decide +kernel
theorem dX1_whole_5 : decode cX1_whole 5 = .ok (.ifCond .ne 5, 3) := by decide +kernel
theorem dX1_whole_8 : decode cX1_whole 8 = .ok (.iconst (-1), 1) := by decide +kernel
theorem dX1_whole_9 : decode cX1_whole 9 = .ok (.ireturn, 1) := by decide +kernel
theorem dX1_whole_10 : decode cX1_whole 10 = .ok (.aload_n 0, 1) := by decide +kernel
theorem dX1_whole_11 : decode cX1_whole 11 = .ok (.iload_n 1, 1) := by decide +kernel
theorem dX1_whole_12 : decode cX1_whole 12 = .ok (.invokevirtual 54, 3) := by decide +kernel
theorem dX1_whole_15 : decode cX1_whole 15 = .ok (.astore_n 3, 1) := by decide +kernel
theorem dX1_whole_16 : decode cX1_whole 16 = .ok (.iload_n 2, 1) := by decide +kernel
theorem dX1_whole_17 : decode cX1_whole 17 = .ok (.tableswitch 42 0 2 #[27, 32, 37], 27) := by decide +kernel
theorem dX1_whole_44 : decode cX1_whole 44 = .ok (.aload_n 3, 1) := by decide +kernel
theorem dX1_whole_45 : decode cX1_whole 45 = .ok (.getfield 58, 3) := by decide +kernel
theorem dX1_whole_48 : decode cX1_whole 48 = .ok (.ireturn, 1) := by decide +kernel
theorem dX1_whole_49 : decode cX1_whole 49 = .ok (.aload_n 3, 1) := by decide +kernel
theorem dX1_whole_50 : decode cX1_whole 50 = .ok (.invokevirtual 80, 3) := by decide +kernel
theorem dX1_whole_53 : decode cX1_whole 53 = .ok (.ireturn, 1) := by decide +kernel
theorem dX1_whole_54 : decode cX1_whole 54 = .ok (.aload_n 3, 1) := by decide +kernel
theorem dX1_whole_55 : decode cX1_whole 55 = .ok (.invokevirtual 84, 3) := by decide +kernel
theorem dX1_whole_58 : decode cX1_whole 58 = .ok (.ireturn, 1) := by decide +kernel
theorem dX1_whole_59 : decode cX1_whole 59 = .ok (.iconst (-1), 1) := by decide +kernel
theorem dX1_whole_60 : decode cX1_whole 60 = .ok (.ireturn, 1) := by decide +kernel
set_option maxRecDepth 20000 in
theorem ggX1_slope_X1_isBuyer : GoodIn wsX1_slope wsX1_isBuyer := goodIn_r _ [6, 7, 65, 66, 67, 68, 69, 70, 71, 72] (by decide +kernel) (by decide +kernel)
set_option maxRecDepth 20000 in
theorem gX1_slope_X1_isBuyer : GoodIn wsX1_slope (wsV RX1 44 RX1 yX1_isBuyer wsX1_isBuyer) := goodIn_app (goodIn_of _ (by decide +kernel)) ggX1_slope_X1_isBuyer
set_option maxRecDepth 20000 in
theorem ggX1_slope_X1_bookOf : GoodIn wsX1_slope wsX1_bookOf := goodIn_r _ [11, 12, 13, 14, 65, 66, 67, 68, 69, 70, 71, 72] (by decide +kernel) (by decide +kernel)
set_option maxRecDepth 20000 in
theorem gX1_slope_X1_bookOf : GoodIn wsX1_slope (wsV RX1 54 RX1 yX1_bookOf wsX1_bookOf) := goodIn_app (goodIn_of _ (by decide +kernel)) ggX1_slope_X1_bookOf
set_option maxRecDepth 20000 in
theorem ggX1_slope_X0_has : GoodIn wsX1_slope wsX0_has := goodIn_r _ [19, 20, 73, 74, 75, 76, 77] (by decide +kernel) (by decide +kernel)
set_option maxRecDepth 20000 in
theorem gX1_slope_X0_has : GoodIn wsX1_slope (wsV RX1 68 RX0 yX0_has wsX0_has) := goodIn_app (goodIn_of _ (by decide +kernel)) ggX1_slope_X0_has
set_option maxRecDepth 20000 in
theorem ggX1_slope_X1_isPart : GoodIn wsX1_slope wsX1_isPart := goodIn_r _ [23] (by decide +kernel) (by decide +kernel)
set_option maxRecDepth 20000 in
theorem gX1_slope_X1_isPart : GoodIn wsX1_slope (va_wsS RX1 87 yX1_isPart wsX1_isPart) := goodIn_app (goodIn_of _ (by decide +kernel)) ggX1_slope_X1_isPart
set_option maxRecDepth 20000 in
theorem ggX1_slope_X0_ironedUpper : GoodIn wsX1_slope wsX0_ironedUpper := goodIn_r _ [27, 20, 28, 73, 74, 75, 76, 77] (by decide +kernel) (by decide +kernel)
set_option maxRecDepth 20000 in
theorem gX1_slope_X0_ironedUpper : GoodIn wsX1_slope (wsV RX1 92 RX0 yX0_ironedUpper wsX0_ironedUpper) := goodIn_app (goodIn_of _ (by decide +kernel)) ggX1_slope_X0_ironedUpper
set_option maxRecDepth 20000 in
theorem ggX1_slope_X0_ironedLower : GoodIn wsX1_slope wsX0_ironedLower := goodIn_r _ [32, 20, 33, 73, 74, 75, 76, 77] (by decide +kernel) (by decide +kernel)
set_option maxRecDepth 20000 in
theorem gX1_slope_X0_ironedLower : GoodIn wsX1_slope (wsV RX1 96 RX0 yX0_ironedLower wsX0_ironedLower) := goodIn_app (goodIn_of _ (by decide +kernel)) ggX1_slope_X0_ironedLower
set_option maxRecDepth 20000 in
theorem ggX1_slope_X1_leastPart : GoodIn wsX1_slope wsX1_leastPart := goodIn_r _ [36, 37, 38, 39, 40, 1, 41, 42, 5, 43] (by decide +kernel) (by decide +kernel)
set_option maxRecDepth 20000 in
theorem gX1_slope_X1_leastPart : GoodIn wsX1_slope (va_wsS RX1 99 yX1_leastPart wsX1_leastPart) := goodIn_app (goodIn_of _ (by decide +kernel)) ggX1_slope_X1_leastPart
set_option maxRecDepth 20000 in
theorem ggX1_slope_X0_takeAt : GoodIn wsX1_slope wsX0_takeAt := goodIn_r _ [47, 48, 49, 50, 18, 51, 20, 52, 53, 54, 55, 56, 57, 58, 39, 59, 60, 73, 74, 75, 76, 77] (by decide +kernel) (by decide +kernel)
set_option maxRecDepth 20000 in
theorem gX1_slope_X0_takeAt : GoodIn wsX1_slope (wsV RX1 77 RX0 yX0_takeAt wsX0_takeAt) := goodIn_app (goodIn_of _ (by decide +kernel)) ggX1_slope_X0_takeAt
set_option maxRecDepth 20000 in
theorem ggX1_slope_X0_weightAt : GoodIn wsX1_slope wsX0_weightAt := goodIn_r _ [64, 20, 60, 73, 74, 75, 76, 77] (by decide +kernel) (by decide +kernel)
set_option maxRecDepth 20000 in
theorem gX1_slope_X0_weightAt : GoodIn wsX1_slope (wsV RX1 71 RX0 yX0_weightAt wsX0_weightAt) := goodIn_app (goodIn_of _ (by decide +kernel)) ggX1_slope_X0_weightAt
theorem dX1_slope_0 : decode cX1_slope 0 = .ok (.aload_n 0, 1) := by decide +kernel
theorem dX1_slope_1 : decode cX1_slope 1 = .ok (.iload_n 1, 1) := by decide +kernel
theorem dX1_slope_2 : decode cX1_slope 2 = .ok (.invokevirtual 44, 3) := by decide +kernel
theorem dX1_slope_5 : decode cX1_slope 5 = .ok (.ifCond .eq 23, 3) := by decide +kernel
theorem dX1_slope_8 : decode cX1_slope 8 = .ok (.aload_n 0, 1) := by decide +kernel
theorem dX1_slope_9 : decode cX1_slope 9 = .ok (.iload_n 1, 1) := by decide +kernel
theorem dX1_slope_10 : decode cX1_slope 10 = .ok (.invokevirtual 54, 3) := by decide +kernel
theorem dX1_slope_13 : decode cX1_slope 13 = .ok (.iload_n 2, 1) := by decide +kernel
theorem dX1_slope_14 : decode cX1_slope 14 = .ok (.invokevirtual 68, 3) := by decide +kernel
theorem dX1_slope_17 : decode cX1_slope 17 = .ok (.ifCond .eq 11, 3) := by decide +kernel
theorem dX1_slope_20 : decode cX1_slope 20 = .ok (.iload 4, 2) := by decide +kernel
theorem dX1_slope_22 : decode cX1_slope 22 = .ok (.invokestatic 87, 3) := by decide +kernel
theorem dX1_slope_25 : decode cX1_slope 25 = .ok (.ifCond .ne 7, 3) := by decide +kernel
theorem dX1_slope_28 : decode cX1_slope 28 = .ok (.ldc2_w 90, 3) := by decide +kernel
theorem dX1_slope_31 : decode cX1_slope 31 = .ok (.lreturn, 1) := by decide +kernel
theorem dX1_slope_32 : decode cX1_slope 32 = .ok (.aload_n 0, 1) := by decide +kernel
theorem dX1_slope_33 : decode cX1_slope 33 = .ok (.iload_n 1, 1) := by decide +kernel
theorem dX1_slope_34 : decode cX1_slope 34 = .ok (.invokevirtual 54, 3) := by decide +kernel
theorem dX1_slope_37 : decode cX1_slope 37 = .ok (.astore 5, 2) := by decide +kernel
theorem dX1_slope_39 : decode cX1_slope 39 = .ok (.iload_n 3, 1) := by decide +kernel
theorem dX1_slope_40 : decode cX1_slope 40 = .ok (.ifCond .eq 21, 3) := by decide +kernel
theorem dX1_slope_43 : decode cX1_slope 43 = .ok (.aload 5, 2) := by decide +kernel
theorem dX1_slope_45 : decode cX1_slope 45 = .ok (.iload_n 2, 1) := by decide +kernel
theorem dX1_slope_46 : decode cX1_slope 46 = .ok (.invokevirtual 92, 3) := by decide +kernel
theorem dX1_slope_49 : decode cX1_slope 49 = .ok (.aload 5, 2) := by decide +kernel
theorem dX1_slope_51 : decode cX1_slope 51 = .ok (.iload_n 2, 1) := by decide +kernel
theorem dX1_slope_52 : decode cX1_slope 52 = .ok (.invokevirtual 96, 3) := by decide +kernel
theorem dX1_slope_55 : decode cX1_slope 55 = .ok (.iload 4, 2) := by decide +kernel
theorem dX1_slope_57 : decode cX1_slope 57 = .ok (.invokestatic 99, 3) := by decide +kernel
theorem dX1_slope_60 : decode cX1_slope 60 = .ok (.lreturn, 1) := by decide +kernel
theorem dX1_slope_61 : decode cX1_slope 61 = .ok (.aload 5, 2) := by decide +kernel
theorem dX1_slope_63 : decode cX1_slope 63 = .ok (.iload_n 2, 1) := by decide +kernel
theorem dX1_slope_64 : decode cX1_slope 64 = .ok (.invokevirtual 77, 3) := by decide +kernel
theorem dX1_slope_67 : decode cX1_slope 67 = .ok (.aload 5, 2) := by decide +kernel
theorem dX1_slope_69 : decode cX1_slope 69 = .ok (.iload_n 2, 1) := by decide +kernel
theorem dX1_slope_70 : decode cX1_slope 70 = .ok (.iconst 1, 1) := by decide +kernel
theorem dX1_slope_71 : decode cX1_slope 71 = .ok (.iadd, 1) := by decide +kernel
theorem dX1_slope_72 : decode cX1_slope 72 = .ok (.invokevirtual 77, 3) := by decide +kernel
theorem dX1_slope_75 : decode cX1_slope 75 = .ok (.isub, 1) := by decide +kernel
theorem dX1_slope_76 : decode cX1_slope 76 = .ok (.i2l, 1) := by decide +kernel
theorem dX1_slope_77 : decode cX1_slope 77 = .ok (.aload 5, 2) := by decide +kernel
theorem dX1_slope_79 : decode cX1_slope 79 = .ok (.iload_n 2, 1) := by decide +kernel
theorem dX1_slope_80 : decode cX1_slope 80 = .ok (.invokevirtual 71, 3) := by decide +kernel
theorem dX1_slope_83 : decode cX1_slope 83 = .ok (.i2l, 1) := by decide +kernel
theorem dX1_slope_84 : decode cX1_slope 84 = .ok (.iload 4, 2) := by decide +kernel
theorem dX1_slope_86 : decode cX1_slope 86 = .ok (.invokestatic 99, 3) := by decide +kernel
theorem dX1_slope_89 : decode cX1_slope 89 = .ok (.lreturn, 1) := by decide +kernel
set_option maxRecDepth 20000 in
theorem ggX1_gets_X1_arePlaces : GoodIn wsX1_gets wsX1_arePlaces := goodIn_r _ [5, 6, 7, 8, 9, 4, 10, 11, 12, 13, 14, 15, 16, 17, 18, 19, 20, 21, 22, 37, 38, 39, 40, 41, 42, 43, 44, 45, 46, 47, 48, 49] (by decide +kernel) (by decide +kernel)
set_option maxRecDepth 20000 in
theorem gX1_gets_X1_arePlaces : GoodIn wsX1_gets (wsV RX1 103 RX1 yX1_arePlaces wsX1_arePlaces) := goodIn_app (goodIn_of _ (by decide +kernel)) ggX1_gets_X1_arePlaces
set_option maxRecDepth 20000 in
theorem ggX1_gets_X1_winner : GoodIn wsX1_gets wsX1_winner := goodIn_r _ [26, 6, 14, 15, 4, 16, 7, 8, 9, 10, 11, 12, 13, 27, 28, 29, 20, 30, 22, 31, 32, 33, 34, 35, 36, 37, 38, 39, 40, 41, 42, 43, 44, 45, 46, 47, 48, 49] (by decide +kernel) (by decide +kernel)
set_option maxRecDepth 20000 in
theorem gX1_gets_X1_winner : GoodIn wsX1_gets (wsV RX1 107 RX1 yX1_winner wsX1_winner) := goodIn_app (goodIn_of _ (by decide +kernel)) ggX1_gets_X1_winner
theorem dX1_gets_0 : decode cX1_gets 0 = .ok (.aload_n 0, 1) := by decide +kernel
theorem dX1_gets_1 : decode cX1_gets 1 = .ok (.iload_n 1, 1) := by decide +kernel
theorem dX1_gets_2 : decode cX1_gets 2 = .ok (.iload_n 2, 1) := by decide +kernel
theorem dX1_gets_3 : decode cX1_gets 3 = .ok (.iload_n 3, 1) := by decide +kernel
theorem dX1_gets_4 : decode cX1_gets 4 = .ok (.invokevirtual 103, 3) := by decide +kernel
theorem dX1_gets_7 : decode cX1_gets 7 = .ok (.ifCond .ne 5, 3) := by decide +kernel
theorem dX1_gets_10 : decode cX1_gets 10 = .ok (.iconst (-1), 1) := by decide +kernel
theorem dX1_gets_11 : decode cX1_gets 11 = .ok (.ireturn, 1) := by decide +kernel
theorem dX1_gets_12 : decode cX1_gets 12 = .ok (.aload_n 0, 1) := by decide +kernel
theorem dX1_gets_13 : decode cX1_gets 13 = .ok (.iload_n 1, 1) := by decide +kernel
theorem dX1_gets_14 : decode cX1_gets 14 = .ok (.iload_n 2, 1) := by decide +kernel
theorem dX1_gets_15 : decode cX1_gets 15 = .ok (.iload_n 3, 1) := by decide +kernel
theorem dX1_gets_16 : decode cX1_gets 16 = .ok (.invokevirtual 107, 3) := by decide +kernel
theorem dX1_gets_19 : decode cX1_gets 19 = .ok (.ireturn, 1) := by decide +kernel
set_option maxRecDepth 20000 in
theorem ggX1_pays_X1_arePlaces : GoodIn wsX1_pays wsX1_arePlaces := goodIn_r _ [5, 6, 7, 8, 9, 4, 10, 11, 12, 13, 14, 15, 16, 17, 18, 19, 20, 21, 22, 54, 55, 56, 57, 58, 59, 60, 61, 62, 63, 64, 65, 66] (by decide +kernel) (by decide +kernel)
set_option maxRecDepth 20000 in
theorem gX1_pays_X1_arePlaces : GoodIn wsX1_pays (wsV RX1 103 RX1 yX1_arePlaces wsX1_arePlaces) := goodIn_app (goodIn_of _ (by decide +kernel)) ggX1_pays_X1_arePlaces
set_option maxRecDepth 20000 in
theorem ggX1_pays_X1_isBuyer : GoodIn wsX1_pays wsX1_isBuyer := goodIn_r _ [26, 6, 54, 55, 56, 57, 58, 59, 60, 61] (by decide +kernel) (by decide +kernel)
set_option maxRecDepth 20000 in
theorem gX1_pays_X1_isBuyer : GoodIn wsX1_pays (wsV RX1 44 RX1 yX1_isBuyer wsX1_isBuyer) := goodIn_app (goodIn_of _ (by decide +kernel)) ggX1_pays_X1_isBuyer
set_option maxRecDepth 20000 in
theorem ggX1_pays_X1_winner : GoodIn wsX1_pays wsX1_winner := goodIn_r _ [30, 6, 14, 15, 4, 16, 7, 8, 9, 10, 11, 12, 13, 31, 32, 33, 20, 34, 22, 35, 36, 37, 38, 39, 40, 54, 55, 56, 57, 58, 59, 60, 61, 62, 63, 64, 65, 66] (by decide +kernel) (by decide +kernel)
set_option maxRecDepth 20000 in
theorem gX1_pays_X1_winner : GoodIn wsX1_pays (wsV RX1 107 RX1 yX1_winner wsX1_winner) := goodIn_app (goodIn_of _ (by decide +kernel)) ggX1_pays_X1_winner
set_option maxRecDepth 20000 in
theorem ggX1_pays_X1_leastWinning : GoodIn wsX1_pays wsX1_leastWinning := goodIn_r _ [44, 7, 8, 9, 4, 10, 11, 12, 13, 45, 46, 47, 48, 27, 28, 29, 30, 6, 14, 15, 16, 31, 32, 33, 20, 34, 22, 35, 36, 37, 38, 39, 40, 49, 50, 51, 52, 53, 62, 63, 64, 65, 66, 54, 55, 56, 57, 58, 59, 60, 61] (by decide +kernel) (by decide +kernel)
set_option maxRecDepth 20000 in
theorem gX1_pays_X1_leastWinning : GoodIn wsX1_pays (wsV RX1 111 RX1 yX1_leastWinning wsX1_leastWinning) := goodIn_app (goodIn_of _ (by decide +kernel)) ggX1_pays_X1_leastWinning
theorem dX1_pays_0 : decode cX1_pays 0 = .ok (.aload_n 0, 1) := by decide +kernel
theorem dX1_pays_1 : decode cX1_pays 1 = .ok (.iload_n 1, 1) := by decide +kernel
theorem dX1_pays_2 : decode cX1_pays 2 = .ok (.iload_n 2, 1) := by decide +kernel
theorem dX1_pays_3 : decode cX1_pays 3 = .ok (.iload_n 3, 1) := by decide +kernel
theorem dX1_pays_4 : decode cX1_pays 4 = .ok (.invokevirtual 103, 3) := by decide +kernel
theorem dX1_pays_7 : decode cX1_pays 7 = .ok (.ifCond .eq 12, 3) := by decide +kernel
theorem dX1_pays_10 : decode cX1_pays 10 = .ok (.aload_n 0, 1) := by decide +kernel
theorem dX1_pays_11 : decode cX1_pays 11 = .ok (.iload 4, 2) := by decide +kernel
theorem dX1_pays_13 : decode cX1_pays 13 = .ok (.invokevirtual 44, 3) := by decide +kernel
theorem dX1_pays_16 : decode cX1_pays 16 = .ok (.ifCond .ne 5, 3) := by decide +kernel
theorem dX1_pays_19 : decode cX1_pays 19 = .ok (.iconst (-1), 1) := by decide +kernel
theorem dX1_pays_20 : decode cX1_pays 20 = .ok (.ireturn, 1) := by decide +kernel
theorem dX1_pays_21 : decode cX1_pays 21 = .ok (.aload_n 0, 1) := by decide +kernel
theorem dX1_pays_22 : decode cX1_pays 22 = .ok (.iload_n 1, 1) := by decide +kernel
theorem dX1_pays_23 : decode cX1_pays 23 = .ok (.iload_n 2, 1) := by decide +kernel
theorem dX1_pays_24 : decode cX1_pays 24 = .ok (.iload_n 3, 1) := by decide +kernel
theorem dX1_pays_25 : decode cX1_pays 25 = .ok (.invokevirtual 107, 3) := by decide +kernel
theorem dX1_pays_28 : decode cX1_pays 28 = .ok (.iload 4, 2) := by decide +kernel
theorem dX1_pays_30 : decode cX1_pays 30 = .ok (.if_icmp .ne 15, 3) := by decide +kernel
theorem dX1_pays_33 : decode cX1_pays 33 = .ok (.aload_n 0, 1) := by decide +kernel
theorem dX1_pays_34 : decode cX1_pays 34 = .ok (.iload_n 1, 1) := by decide +kernel
theorem dX1_pays_35 : decode cX1_pays 35 = .ok (.iload_n 2, 1) := by decide +kernel
theorem dX1_pays_36 : decode cX1_pays 36 = .ok (.iload_n 3, 1) := by decide +kernel
theorem dX1_pays_37 : decode cX1_pays 37 = .ok (.iload 4, 2) := by decide +kernel
theorem dX1_pays_39 : decode cX1_pays 39 = .ok (.invokevirtual 111, 3) := by decide +kernel
theorem dX1_pays_42 : decode cX1_pays 42 = .ok (.goto 4, 3) := by decide +kernel
theorem dX1_pays_45 : decode cX1_pays 45 = .ok (.iconst 0, 1) := by decide +kernel
theorem dX1_pays_46 : decode cX1_pays 46 = .ok (.ireturn, 1) := by decide +kernel
set_option maxRecDepth 20000 in
theorem ggX1_gain_X1_arePlaces : GoodIn wsX1_gain wsX1_arePlaces := goodIn_r _ [6, 7, 8, 9, 10, 5, 11, 12, 13, 14, 15, 16, 17, 18, 19, 20, 21, 22, 23, 55, 56, 57, 58, 59, 60, 61, 62, 63, 64, 65, 66, 67] (by decide +kernel) (by decide +kernel)
set_option maxRecDepth 20000 in
theorem gX1_gain_X1_arePlaces : GoodIn wsX1_gain (wsV RX1 103 RX1 yX1_arePlaces wsX1_arePlaces) := goodIn_app (goodIn_of _ (by decide +kernel)) ggX1_gain_X1_arePlaces
set_option maxRecDepth 20000 in
theorem ggX1_gain_X1_isBuyer : GoodIn wsX1_gain wsX1_isBuyer := goodIn_r _ [27, 7, 55, 56, 57, 58, 59, 60, 61, 62] (by decide +kernel) (by decide +kernel)
set_option maxRecDepth 20000 in
theorem gX1_gain_X1_isBuyer : GoodIn wsX1_gain (wsV RX1 44 RX1 yX1_isBuyer wsX1_isBuyer) := goodIn_app (goodIn_of _ (by decide +kernel)) ggX1_gain_X1_isBuyer
set_option maxRecDepth 20000 in
theorem ggX1_gain_X1_bookOf : GoodIn wsX1_gain wsX1_bookOf := goodIn_r _ [11, 12, 13, 14, 55, 56, 57, 58, 59, 60, 61, 62] (by decide +kernel) (by decide +kernel)
set_option maxRecDepth 20000 in
theorem gX1_gain_X1_bookOf : GoodIn wsX1_gain (wsV RX1 54 RX1 yX1_bookOf wsX1_bookOf) := goodIn_app (goodIn_of _ (by decide +kernel)) ggX1_gain_X1_bookOf
set_option maxRecDepth 20000 in
theorem ggX1_gain_X0_has : GoodIn wsX1_gain wsX0_has := goodIn_r _ [22, 23, 63, 64, 65, 66, 67] (by decide +kernel) (by decide +kernel)
set_option maxRecDepth 20000 in
theorem gX1_gain_X0_has : GoodIn wsX1_gain (wsV RX1 68 RX0 yX0_has wsX0_has) := goodIn_app (goodIn_of _ (by decide +kernel)) ggX1_gain_X0_has
set_option maxRecDepth 20000 in
theorem ggX1_gain_X1_getsWith : GoodIn wsX1_gain wsX1_getsWith := goodIn_r _ [31, 32, 33, 34, 5, 35, 7, 15, 16, 17, 8, 9, 10, 11, 12, 13, 14, 36, 37, 38, 21, 39, 23, 40, 41, 42, 43, 44, 45, 55, 56, 57, 58, 59, 60, 61, 62, 63, 64, 65, 66, 67] (by decide +kernel) (by decide +kernel)
set_option maxRecDepth 20000 in
theorem gX1_gain_X1_getsWith : GoodIn wsX1_gain (wsV RX1 115 RX1 yX1_getsWith wsX1_getsWith) := goodIn_app (goodIn_of _ (by decide +kernel)) ggX1_gain_X1_getsWith
set_option maxRecDepth 20000 in
theorem ggX1_gain_X1_pick : GoodIn wsX1_gain wsX1_pick := goodIn_r _ [17] (by decide +kernel) (by decide +kernel)
set_option maxRecDepth 20000 in
theorem gX1_gain_X1_pick : GoodIn wsX1_gain (va_wsS RX1 119 yX1_pick wsX1_pick) := goodIn_app (goodIn_of _ (by decide +kernel)) ggX1_gain_X1_pick
set_option maxRecDepth 20000 in
theorem ggX1_gain_X0_worthAt : GoodIn wsX1_gain wsX0_worthAt := goodIn_r _ [49, 23, 50, 63, 64, 65, 66, 67] (by decide +kernel) (by decide +kernel)
set_option maxRecDepth 20000 in
theorem gX1_gain_X0_worthAt : GoodIn wsX1_gain (wsV RX1 61 RX0 yX0_worthAt wsX0_worthAt) := goodIn_app (goodIn_of _ (by decide +kernel)) ggX1_gain_X0_worthAt
set_option maxRecDepth 20000 in
theorem ggX1_gain_X1_leastWinning : GoodIn wsX1_gain wsX1_leastWinning := goodIn_r _ [54, 8, 9, 10, 5, 11, 12, 13, 14, 28, 29, 30, 31, 32, 33, 34, 35, 7, 15, 16, 17, 36, 37, 38, 21, 39, 23, 40, 41, 42, 43, 44, 45, 46, 47, 48, 49, 50, 63, 64, 65, 66, 67, 55, 56, 57, 58, 59, 60, 61, 62] (by decide +kernel) (by decide +kernel)
set_option maxRecDepth 20000 in
theorem gX1_gain_X1_leastWinning : GoodIn wsX1_gain (wsV RX1 111 RX1 yX1_leastWinning wsX1_leastWinning) := goodIn_app (goodIn_of _ (by decide +kernel)) ggX1_gain_X1_leastWinning
theorem dX1_gain_0 : decode cX1_gain 0 = .ok (.aload_n 0, 1) := by decide +kernel
theorem dX1_gain_1 : decode cX1_gain 1 = .ok (.iload_n 1, 1) := by decide +kernel
theorem dX1_gain_2 : decode cX1_gain 2 = .ok (.iload_n 2, 1) := by decide +kernel
theorem dX1_gain_3 : decode cX1_gain 3 = .ok (.iload_n 3, 1) := by decide +kernel
theorem dX1_gain_4 : decode cX1_gain 4 = .ok (.invokevirtual 103, 3) := by decide +kernel
theorem dX1_gain_7 : decode cX1_gain 7 = .ok (.ifCond .eq 26, 3) := by decide +kernel
theorem dX1_gain_10 : decode cX1_gain 10 = .ok (.aload_n 0, 1) := by decide +kernel
theorem dX1_gain_11 : decode cX1_gain 11 = .ok (.iload 4, 2) := by decide +kernel
theorem dX1_gain_13 : decode cX1_gain 13 = .ok (.invokevirtual 44, 3) := by decide +kernel
theorem dX1_gain_16 : decode cX1_gain 16 = .ok (.ifCond .eq 17, 3) := by decide +kernel
theorem dX1_gain_19 : decode cX1_gain 19 = .ok (.aload_n 0, 1) := by decide +kernel
theorem dX1_gain_20 : decode cX1_gain 20 = .ok (.iload 4, 2) := by decide +kernel
theorem dX1_gain_22 : decode cX1_gain 22 = .ok (.invokevirtual 54, 3) := by decide +kernel
theorem dX1_gain_25 : decode cX1_gain 25 = .ok (.iload 5, 2) := by decide +kernel
theorem dX1_gain_27 : decode cX1_gain 27 = .ok (.invokevirtual 68, 3) := by decide +kernel
theorem dX1_gain_30 : decode cX1_gain 30 = .ok (.ifCond .ne 7, 3) := by decide +kernel
theorem dX1_gain_33 : decode cX1_gain 33 = .ok (.ldc2_w 90, 3) := by decide +kernel
theorem dX1_gain_36 : decode cX1_gain 36 = .ok (.lreturn, 1) := by decide +kernel
theorem dX1_gain_37 : decode cX1_gain 37 = .ok (.aload_n 0, 1) := by decide +kernel
theorem dX1_gain_38 : decode cX1_gain 38 = .ok (.iload 5, 2) := by decide +kernel
theorem dX1_gain_40 : decode cX1_gain 40 = .ok (.iload_n 1, 1) := by decide +kernel
theorem dX1_gain_41 : decode cX1_gain 41 = .ok (.iload_n 2, 1) := by decide +kernel
theorem dX1_gain_42 : decode cX1_gain 42 = .ok (.iload_n 3, 1) := by decide +kernel
theorem dX1_gain_43 : decode cX1_gain 43 = .ok (.iload 4, 2) := by decide +kernel
theorem dX1_gain_45 : decode cX1_gain 45 = .ok (.invokevirtual 115, 3) := by decide +kernel
theorem dX1_gain_48 : decode cX1_gain 48 = .ok (.ifCond .ne 5, 3) := by decide +kernel
theorem dX1_gain_51 : decode cX1_gain 51 = .ok (.lconst 0, 1) := by decide +kernel
theorem dX1_gain_52 : decode cX1_gain 52 = .ok (.lreturn, 1) := by decide +kernel
theorem dX1_gain_53 : decode cX1_gain 53 = .ok (.aload_n 0, 1) := by decide +kernel
theorem dX1_gain_54 : decode cX1_gain 54 = .ok (.iload 4, 2) := by decide +kernel
theorem dX1_gain_56 : decode cX1_gain 56 = .ok (.invokevirtual 54, 3) := by decide +kernel
theorem dX1_gain_59 : decode cX1_gain 59 = .ok (.iload 4, 2) := by decide +kernel
theorem dX1_gain_61 : decode cX1_gain 61 = .ok (.iload_n 1, 1) := by decide +kernel
theorem dX1_gain_62 : decode cX1_gain 62 = .ok (.iload_n 2, 1) := by decide +kernel
theorem dX1_gain_63 : decode cX1_gain 63 = .ok (.iload_n 3, 1) := by decide +kernel
theorem dX1_gain_64 : decode cX1_gain 64 = .ok (.invokestatic 119, 3) := by decide +kernel
theorem dX1_gain_67 : decode cX1_gain 67 = .ok (.invokevirtual 61, 3) := by decide +kernel
theorem dX1_gain_70 : decode cX1_gain 70 = .ok (.istore 6, 2) := by decide +kernel
theorem dX1_gain_72 : decode cX1_gain 72 = .ok (.iload 6, 2) := by decide +kernel
theorem dX1_gain_74 : decode cX1_gain 74 = .ok (.aload_n 0, 1) := by decide +kernel
theorem dX1_gain_75 : decode cX1_gain 75 = .ok (.iload_n 1, 1) := by decide +kernel
theorem dX1_gain_76 : decode cX1_gain 76 = .ok (.iload_n 2, 1) := by decide +kernel
theorem dX1_gain_77 : decode cX1_gain 77 = .ok (.iload_n 3, 1) := by decide +kernel
theorem dX1_gain_78 : decode cX1_gain 78 = .ok (.iload 4, 2) := by decide +kernel
theorem dX1_gain_80 : decode cX1_gain 80 = .ok (.invokevirtual 111, 3) := by decide +kernel
theorem dX1_gain_83 : decode cX1_gain 83 = .ok (.isub, 1) := by decide +kernel
theorem dX1_gain_84 : decode cX1_gain 84 = .ok (.i2l, 1) := by decide +kernel
theorem dX1_gain_85 : decode cX1_gain 85 = .ok (.lreturn, 1) := by decide +kernel
set_option maxRecDepth 20000 in
theorem ggX1_brings_X1_isPart : GoodIn wsX1_brings wsX1_isPart := goodIn_r _ [5] (by decide +kernel) (by decide +kernel)
set_option maxRecDepth 20000 in
theorem gX1_brings_X1_isPart : GoodIn wsX1_brings (va_wsS RX1 87 yX1_isPart wsX1_isPart) := goodIn_app (goodIn_of _ (by decide +kernel)) ggX1_brings_X1_isPart
set_option maxRecDepth 20000 in
theorem ggX1_brings_X1_meanPaid : GoodIn wsX1_brings wsX1_meanPaid := goodIn_r _ [9, 10, 11, 12, 13, 14, 15, 16, 17, 18, 19, 20, 21, 22, 4, 23, 24, 25, 26, 27, 28, 29, 30, 31, 32, 33, 34, 35, 36, 37, 38, 39, 40, 41, 42, 43, 44, 45, 46, 47, 48, 49, 50, 51, 52, 53, 54, 55, 56, 57, 58, 59, 60, 61, 62, 63, 64, 65, 66, 67, 68, 69, 70, 71, 72, 73, 74, 75, 76, 77, 78, 79, 80, 81, 82, 83, 84, 85, 86, 87, 88, 89, 1, 90, 91, 92, 93, 94, 95, 96, 97, 98, 99, 100, 101, 102, 103, 104, 105] (by decide +kernel) (by decide +kernel)
set_option maxRecDepth 20000 in
theorem gX1_brings_X1_meanPaid : GoodIn wsX1_brings (wsV RX1 122 RX1 yX1_meanPaid wsX1_meanPaid) := goodIn_app (goodIn_of _ (by decide +kernel)) ggX1_brings_X1_meanPaid
theorem dX1_brings_0 : decode cX1_brings 0 = .ok (.iload_n 1, 1) := by decide +kernel
theorem dX1_brings_1 : decode cX1_brings 1 = .ok (.invokestatic 87, 3) := by decide +kernel
theorem dX1_brings_4 : decode cX1_brings 4 = .ok (.ifCond .ne 7, 3) := by decide +kernel
theorem dX1_brings_7 : decode cX1_brings 7 = .ok (.ldc2_w 90, 3) := by decide +kernel
theorem dX1_brings_10 : decode cX1_brings 10 = .ok (.lreturn, 1) := by decide +kernel
theorem dX1_brings_11 : decode cX1_brings 11 = .ok (.aload_n 0, 1) := by decide +kernel
theorem dX1_brings_12 : decode cX1_brings 12 = .ok (.iconst 3, 1) := by decide +kernel
theorem dX1_brings_13 : decode cX1_brings 13 = .ok (.iload_n 1, 1) := by decide +kernel
theorem dX1_brings_14 : decode cX1_brings 14 = .ok (.invokevirtual 122, 3) := by decide +kernel
theorem dX1_brings_17 : decode cX1_brings 17 = .ok (.lreturn, 1) := by decide +kernel
set_option maxRecDepth 20000 in
theorem ggX1_reserve_X1_isWorth : GoodIn wsX1_reserve wsX1_isWorth := goodIn_r _ [5] (by decide +kernel) (by decide +kernel)
set_option maxRecDepth 20000 in
theorem gX1_reserve_X1_isWorth : GoodIn wsX1_reserve (va_wsS RX1 48 yX1_isWorth wsX1_isWorth) := goodIn_app (goodIn_of _ (by decide +kernel)) ggX1_reserve_X1_isWorth
theorem dX1_reserve_0 : decode cX1_reserve 0 = .ok (.iload_n 1, 1) := by decide +kernel
theorem dX1_reserve_1 : decode cX1_reserve 1 = .ok (.invokestatic 48, 3) := by decide +kernel
theorem dX1_reserve_4 : decode cX1_reserve 4 = .ok (.ifCond .ne 5, 3) := by decide +kernel
theorem dX1_reserve_7 : decode cX1_reserve 7 = .ok (.iconst (-1), 1) := by decide +kernel
theorem dX1_reserve_8 : decode cX1_reserve 8 = .ok (.ireturn, 1) := by decide +kernel
theorem dX1_reserve_9 : decode cX1_reserve 9 = .ok (.aload_n 0, 1) := by decide +kernel
theorem dX1_reserve_10 : decode cX1_reserve 10 = .ok (.getfield 33, 3) := by decide +kernel
theorem dX1_reserve_13 : decode cX1_reserve 13 = .ok (.istore_n 2, 1) := by decide +kernel
theorem dX1_reserve_14 : decode cX1_reserve 14 = .ok (.aload_n 0, 1) := by decide +kernel
theorem dX1_reserve_15 : decode cX1_reserve 15 = .ok (.iload_n 1, 1) := by decide +kernel
theorem dX1_reserve_16 : decode cX1_reserve 16 = .ok (.putfield 33, 3) := by decide +kernel
theorem dX1_reserve_19 : decode cX1_reserve 19 = .ok (.iload_n 2, 1) := by decide +kernel
theorem dX1_reserve_20 : decode cX1_reserve 20 = .ok (.ireturn, 1) := by decide +kernel
set_option maxRecDepth 20000 in
theorem ggX1_pay_X1_isKind : GoodIn wsX1_pay wsX1_isKind := goodIn_r _ [5] (by decide +kernel) (by decide +kernel)
set_option maxRecDepth 20000 in
theorem gX1_pay_X1_isKind : GoodIn wsX1_pay (va_wsS RX1 126 yX1_isKind wsX1_isKind) := goodIn_app (goodIn_of _ (by decide +kernel)) ggX1_pay_X1_isKind
set_option maxRecDepth 20000 in
theorem ggX1_pay_X1_areWorths : GoodIn wsX1_pay wsX1_areWorths := goodIn_r _ [9, 10, 11, 12, 4, 13, 14, 15, 16, 36, 37, 38, 39, 40, 41, 42, 43] (by decide +kernel) (by decide +kernel)
set_option maxRecDepth 20000 in
theorem gX1_pay_X1_areWorths : GoodIn wsX1_pay (wsV RX1 129 RX1 yX1_areWorths wsX1_areWorths) := goodIn_app (goodIn_of _ (by decide +kernel)) ggX1_pay_X1_areWorths
set_option maxRecDepth 20000 in
theorem ggX1_pay_X1_paidByKind : GoodIn wsX1_pay wsX1_paidByKind := goodIn_r _ [20, 10, 21, 22, 23, 24, 25, 26, 27, 28, 11, 12, 4, 13, 29, 30, 31, 32, 36, 37, 38, 39, 40, 41, 42, 43] (by decide +kernel) (by decide +kernel)
set_option maxRecDepth 20000 in
theorem gX1_pay_X1_paidByKind : GoodIn wsX1_pay (wsV RX1 132 RX1 yX1_paidByKind wsX1_paidByKind) := goodIn_app (goodIn_of _ (by decide +kernel)) ggX1_pay_X1_paidByKind
set_option maxRecDepth 20000 in
theorem ggX1_pay_X1_asksOf : GoodIn wsX1_pay wsX1_asksOf := goodIn_r _ [35] (by decide +kernel) (by decide +kernel)
set_option maxRecDepth 20000 in
theorem gX1_pay_X1_asksOf : GoodIn wsX1_pay (va_wsS RX1 135 yX1_asksOf wsX1_asksOf) := goodIn_app (goodIn_of _ (by decide +kernel)) ggX1_pay_X1_asksOf
theorem dX1_pay_0 : decode cX1_pay 0 = .ok (.iload_n 1, 1) := by decide +kernel
theorem dX1_pay_1 : decode cX1_pay 1 = .ok (.invokestatic 126, 3) := by decide +kernel
theorem dX1_pay_4 : decode cX1_pay 4 = .ok (.ifCond .eq 14, 3) := by decide +kernel
theorem dX1_pay_7 : decode cX1_pay 7 = .ok (.aload_n 0, 1) := by decide +kernel
theorem dX1_pay_8 : decode cX1_pay 8 = .ok (.iload_n 2, 1) := by decide +kernel
theorem dX1_pay_9 : decode cX1_pay 9 = .ok (.iload_n 3, 1) := by decide +kernel
theorem dX1_pay_10 : decode cX1_pay 10 = .ok (.iload 4, 2) := by decide +kernel
theorem dX1_pay_12 : decode cX1_pay 12 = .ok (.invokevirtual 129, 3) := by decide +kernel
theorem dX1_pay_15 : decode cX1_pay 15 = .ok (.ifCond .ne 5, 3) := by decide +kernel
theorem dX1_pay_18 : decode cX1_pay 18 = .ok (.iconst (-1), 1) := by decide +kernel
theorem dX1_pay_19 : decode cX1_pay 19 = .ok (.ireturn, 1) := by decide +kernel
theorem dX1_pay_20 : decode cX1_pay 20 = .ok (.aload_n 0, 1) := by decide +kernel
theorem dX1_pay_21 : decode cX1_pay 21 = .ok (.iload_n 1, 1) := by decide +kernel
theorem dX1_pay_22 : decode cX1_pay 22 = .ok (.iload_n 2, 1) := by decide +kernel
theorem dX1_pay_23 : decode cX1_pay 23 = .ok (.iload_n 3, 1) := by decide +kernel
theorem dX1_pay_24 : decode cX1_pay 24 = .ok (.iload 4, 2) := by decide +kernel
theorem dX1_pay_26 : decode cX1_pay 26 = .ok (.invokevirtual 132, 3) := by decide +kernel
theorem dX1_pay_29 : decode cX1_pay 29 = .ok (.istore 5, 2) := by decide +kernel
theorem dX1_pay_31 : decode cX1_pay 31 = .ok (.iload 5, 2) := by decide +kernel
theorem dX1_pay_33 : decode cX1_pay 33 = .ok (.bipush (-9), 2) := by decide +kernel
theorem dX1_pay_35 : decode cX1_pay 35 = .ok (.if_icmp .eq 17, 3) := by decide +kernel
theorem dX1_pay_38 : decode cX1_pay 38 = .ok (.aload_n 0, 1) := by decide +kernel
theorem dX1_pay_39 : decode cX1_pay 39 = .ok (.dup, 1) := by decide +kernel
theorem dX1_pay_40 : decode cX1_pay 40 = .ok (.getfield 36, 3) := by decide +kernel
theorem dX1_pay_43 : decode cX1_pay 43 = .ok (.iload_n 1, 1) := by decide +kernel
theorem dX1_pay_44 : decode cX1_pay 44 = .ok (.invokestatic 135, 3) := by decide +kernel
theorem dX1_pay_47 : decode cX1_pay 47 = .ok (.i2l, 1) := by decide +kernel
theorem dX1_pay_48 : decode cX1_pay 48 = .ok (.ladd, 1) := by decide +kernel
theorem dX1_pay_49 : decode cX1_pay 49 = .ok (.putfield 36, 3) := by decide +kernel
theorem dX1_pay_52 : decode cX1_pay 52 = .ok (.iload 5, 2) := by decide +kernel
theorem dX1_pay_54 : decode cX1_pay 54 = .ok (.ireturn, 1) := by decide +kernel
set_option maxRecDepth 20000 in
theorem ggX1_average_X1_isKind : GoodIn wsX1_average wsX1_isKind := goodIn_r _ [5] (by decide +kernel) (by decide +kernel)
set_option maxRecDepth 20000 in
theorem gX1_average_X1_isKind : GoodIn wsX1_average (va_wsS RX1 126 yX1_isKind wsX1_isKind) := goodIn_app (goodIn_of _ (by decide +kernel)) ggX1_average_X1_isKind
set_option maxRecDepth 20000 in
theorem ggX1_average_X1_isPart : GoodIn wsX1_average wsX1_isPart := goodIn_r _ [8] (by decide +kernel) (by decide +kernel)
set_option maxRecDepth 20000 in
theorem gX1_average_X1_isPart : GoodIn wsX1_average (va_wsS RX1 87 yX1_isPart wsX1_isPart) := goodIn_app (goodIn_of _ (by decide +kernel)) ggX1_average_X1_isPart
set_option maxRecDepth 20000 in
theorem ggX1_average_X1_meanPaid : GoodIn wsX1_average wsX1_meanPaid := goodIn_r _ [12, 13, 14, 15, 16, 17, 18, 19, 20, 21, 22, 23, 24, 25, 4, 26, 27, 28, 29, 30, 31, 32, 33, 34, 35, 36, 37, 38, 39, 40, 41, 42, 43, 44, 45, 46, 47, 48, 49, 50, 51, 52, 53, 54, 55, 56, 57, 58, 59, 60, 61, 62, 63, 64, 65, 66, 67, 68, 69, 70, 71, 72, 73, 74, 75, 76, 77, 78, 79, 80, 81, 82, 83, 84, 85, 86, 87, 88, 89, 90, 91, 92, 1, 93, 94, 95, 96, 97, 98, 99, 100, 101, 102, 103, 104, 105, 106, 107, 108] (by decide +kernel) (by decide +kernel)
set_option maxRecDepth 20000 in
theorem gX1_average_X1_meanPaid : GoodIn wsX1_average (wsV RX1 122 RX1 yX1_meanPaid wsX1_meanPaid) := goodIn_app (goodIn_of _ (by decide +kernel)) ggX1_average_X1_meanPaid
theorem dX1_average_0 : decode cX1_average 0 = .ok (.iload_n 1, 1) := by decide +kernel
theorem dX1_average_1 : decode cX1_average 1 = .ok (.invokestatic 126, 3) := by decide +kernel
theorem dX1_average_4 : decode cX1_average 4 = .ok (.ifCond .eq 10, 3) := by decide +kernel
theorem dX1_average_7 : decode cX1_average 7 = .ok (.iload_n 2, 1) := by decide +kernel
theorem dX1_average_8 : decode cX1_average 8 = .ok (.invokestatic 87, 3) := by decide +kernel
theorem dX1_average_11 : decode cX1_average 11 = .ok (.ifCond .ne 7, 3) := by decide +kernel
theorem dX1_average_14 : decode cX1_average 14 = .ok (.ldc2_w 90, 3) := by decide +kernel
theorem dX1_average_17 : decode cX1_average 17 = .ok (.lreturn, 1) := by decide +kernel
theorem dX1_average_18 : decode cX1_average 18 = .ok (.aload_n 0, 1) := by decide +kernel
theorem dX1_average_19 : decode cX1_average 19 = .ok (.iload_n 1, 1) := by decide +kernel
theorem dX1_average_20 : decode cX1_average 20 = .ok (.iload_n 2, 1) := by decide +kernel
theorem dX1_average_21 : decode cX1_average 21 = .ok (.invokevirtual 122, 3) := by decide +kernel
theorem dX1_average_24 : decode cX1_average 24 = .ok (.lreturn, 1) := by decide +kernel
set_option maxRecDepth 20000 in
theorem ggX1_offers_X1_isOrder : GoodIn wsX1_offers wsX1_isOrder := goodIn_r _ [8, 2, 9, 10, 11, 7, 12, 68, 69, 70, 71, 72, 73, 74, 75] (by decide +kernel) (by decide +kernel)
set_option maxRecDepth 20000 in
theorem gX1_offers_X1_isOrder : GoodIn wsX1_offers (wsV RX1 138 RX1 yX1_isOrder wsX1_isOrder) := goodIn_app (goodIn_of _ (by decide +kernel)) ggX1_offers_X1_isOrder
set_option maxRecDepth 20000 in
theorem ggX1_offers_X1_isPart : GoodIn wsX1_offers wsX1_isPart := goodIn_r _ [15] (by decide +kernel) (by decide +kernel)
set_option maxRecDepth 20000 in
theorem gX1_offers_X1_isPart : GoodIn wsX1_offers (va_wsS RX1 87 yX1_isPart wsX1_isPart) := goodIn_app (goodIn_of _ (by decide +kernel)) ggX1_offers_X1_isPart
set_option maxRecDepth 20000 in
theorem ggX1_offers_X1_isBuyer : GoodIn wsX1_offers wsX1_isBuyer := goodIn_r _ [12, 2, 68, 69, 70, 71, 72, 73, 74, 75] (by decide +kernel) (by decide +kernel)
set_option maxRecDepth 20000 in
theorem gX1_offers_X1_isBuyer : GoodIn wsX1_offers (wsV RX1 44 RX1 yX1_isBuyer wsX1_isBuyer) := goodIn_app (goodIn_of _ (by decide +kernel)) ggX1_offers_X1_isBuyer
set_option maxRecDepth 20000 in
theorem ggX1_offers_X1_bookOf : GoodIn wsX1_offers wsX1_bookOf := goodIn_r _ [19, 20, 21, 22, 68, 69, 70, 71, 72, 73, 74, 75] (by decide +kernel) (by decide +kernel)
set_option maxRecDepth 20000 in
theorem gX1_offers_X1_bookOf : GoodIn wsX1_offers (wsV RX1 54 RX1 yX1_bookOf wsX1_bookOf) := goodIn_app (goodIn_of _ (by decide +kernel)) ggX1_offers_X1_bookOf
set_option maxRecDepth 20000 in
theorem ggX1_offers_X1_bestOffer : GoodIn wsX1_offers wsX1_bestOffer := goodIn_r _ [25, 26, 27, 7, 28, 29, 30, 31, 32, 33, 34, 35, 36, 37, 38, 39, 40, 41, 42, 43, 44, 45, 46, 47, 48, 49, 50, 51, 52, 53, 76, 77, 78, 79, 80] (by decide +kernel) (by decide +kernel)
set_option maxRecDepth 20000 in
theorem gX1_offers_X1_bestOffer : GoodIn wsX1_offers (va_wsS RX1 141 yX1_bestOffer wsX1_bestOffer) := goodIn_app (goodIn_of _ (by decide +kernel)) ggX1_offers_X1_bestOffer
set_option maxRecDepth 20000 in
theorem ggX1_offers_X0_has : GoodIn wsX1_offers wsX0_has := goodIn_r _ [57, 38, 76, 77, 78, 79, 80] (by decide +kernel) (by decide +kernel)
set_option maxRecDepth 20000 in
theorem gX1_offers_X0_has : GoodIn wsX1_offers (wsV RX1 68 RX0 yX0_has wsX0_has) := goodIn_app (goodIn_of _ (by decide +kernel)) ggX1_offers_X0_has
set_option maxRecDepth 20000 in
theorem ggX1_offers_X0_worthAt : GoodIn wsX1_offers wsX0_worthAt := goodIn_r _ [37, 38, 39, 76, 77, 78, 79, 80] (by decide +kernel) (by decide +kernel)
set_option maxRecDepth 20000 in
theorem gX1_offers_X0_worthAt : GoodIn wsX1_offers (wsV RX1 61 RX0 yX0_worthAt wsX0_worthAt) := goodIn_app (goodIn_of _ (by decide +kernel)) ggX1_offers_X0_worthAt
set_option maxRecDepth 20000 in
theorem ggX1_offers_X1_offerBrings : GoodIn wsX1_offers wsX1_offerBrings := goodIn_r _ [28, 29, 30, 31, 32, 33, 34, 35, 36, 37, 38, 39, 40, 41, 42, 43, 44, 45, 46, 47, 48, 49, 50, 51, 52, 53, 76, 77, 78, 79, 80] (by decide +kernel) (by decide +kernel)
set_option maxRecDepth 20000 in
theorem gX1_offers_X1_offerBrings : GoodIn wsX1_offers (va_wsS RX1 147 yX1_offerBrings wsX1_offerBrings) := goodIn_app (goodIn_of _ (by decide +kernel)) ggX1_offers_X1_offerBrings
set_option maxRecDepth 20000 in
theorem ggX1_offers_X0_allWeights : GoodIn wsX1_offers wsX0_allWeights := goodIn_r _ [52, 40, 41, 42, 32, 43, 44, 45, 46, 47, 38, 48, 76, 77, 78, 79, 80] (by decide +kernel) (by decide +kernel)
set_option maxRecDepth 20000 in
theorem gX1_offers_X0_allWeights : GoodIn wsX1_offers (wsV RX1 80 RX0 yX0_allWeights wsX0_allWeights) := goodIn_app (goodIn_of _ (by decide +kernel)) ggX1_offers_X0_allWeights
set_option maxRecDepth 20000 in
theorem ggX1_offers_X1_leastPart : GoodIn wsX1_offers wsX1_leastPart := goodIn_r _ [61, 62, 63, 46, 64, 1, 65, 66, 7, 67] (by decide +kernel) (by decide +kernel)
set_option maxRecDepth 20000 in
theorem gX1_offers_X1_leastPart : GoodIn wsX1_offers (va_wsS RX1 99 yX1_leastPart wsX1_leastPart) := goodIn_app (goodIn_of _ (by decide +kernel)) ggX1_offers_X1_leastPart
theorem dX1_offers_0 : decode cX1_offers 0 = .ok (.aload_n 0, 1) := by decide +kernel
theorem dX1_offers_1 : decode cX1_offers 1 = .ok (.iload_n 1, 1) := by decide +kernel
theorem dX1_offers_2 : decode cX1_offers 2 = .ok (.invokevirtual 138, 3) := by decide +kernel
theorem dX1_offers_5 : decode cX1_offers 5 = .ok (.ifCond .eq 20, 3) := by decide +kernel
theorem dX1_offers_8 : decode cX1_offers 8 = .ok (.iload_n 2, 1) := by decide +kernel
theorem dX1_offers_9 : decode cX1_offers 9 = .ok (.invokestatic 87, 3) := by decide +kernel
theorem dX1_offers_12 : decode cX1_offers 12 = .ok (.ifCond .ne 17, 3) := by decide +kernel
theorem dX1_offers_15 : decode cX1_offers 15 = .ok (.aload_n 0, 1) := by decide +kernel
theorem dX1_offers_16 : decode cX1_offers 16 = .ok (.iload_n 2, 1) := by decide +kernel
theorem dX1_offers_17 : decode cX1_offers 17 = .ok (.iconst 2, 1) := by decide +kernel
theorem dX1_offers_18 : decode cX1_offers 18 = .ok (.isub, 1) := by decide +kernel
theorem dX1_offers_19 : decode cX1_offers 19 = .ok (.invokevirtual 44, 3) := by decide +kernel
theorem dX1_offers_22 : decode cX1_offers 22 = .ok (.ifCond .ne 7, 3) := by decide +kernel
theorem dX1_offers_25 : decode cX1_offers 25 = .ok (.ldc2_w 90, 3) := by decide +kernel
theorem dX1_offers_28 : decode cX1_offers 28 = .ok (.lreturn, 1) := by decide +kernel
theorem dX1_offers_29 : decode cX1_offers 29 = .ok (.lconst 0, 1) := by decide +kernel
theorem dX1_offers_30 : decode cX1_offers 30 = .ok (.lstore_n 3, 1) := by decide +kernel
theorem dX1_offers_31 : decode cX1_offers 31 = .ok (.lconst 1, 1) := by decide +kernel
theorem dX1_offers_32 : decode cX1_offers 32 = .ok (.lstore 5, 2) := by decide +kernel
theorem dX1_offers_34 : decode cX1_offers 34 = .ok (.iload_n 1, 1) := by decide +kernel
theorem dX1_offers_35 : decode cX1_offers 35 = .ok (.istore 7, 2) := by decide +kernel
theorem dX1_offers_37 : decode cX1_offers 37 = .ok (.iconst 0, 1) := by decide +kernel
theorem dX1_offers_38 : decode cX1_offers 38 = .ok (.istore 8, 2) := by decide +kernel
theorem dX1_offers_40 : decode cX1_offers 40 = .ok (.iload 8, 2) := by decide +kernel
theorem dX1_offers_42 : decode cX1_offers 42 = .ok (.aload_n 0, 1) := by decide +kernel
theorem dX1_offers_43 : decode cX1_offers 43 = .ok (.getfield 26, 3) := by decide +kernel
theorem dX1_offers_46 : decode cX1_offers 46 = .ok (.if_icmp .ge 94, 3) := by decide +kernel
theorem dX1_offers_49 : decode cX1_offers 49 = .ok (.iload 7, 2) := by decide +kernel
theorem dX1_offers_51 : decode cX1_offers 51 = .ok (.iconst 3, 1) := by decide +kernel
theorem dX1_offers_52 : decode cX1_offers 52 = .ok (.irem, 1) := by decide +kernel
theorem dX1_offers_53 : decode cX1_offers 53 = .ok (.istore 9, 2) := by decide +kernel
theorem dX1_offers_55 : decode cX1_offers 55 = .ok (.iload 7, 2) := by decide +kernel
theorem dX1_offers_57 : decode cX1_offers 57 = .ok (.iconst 3, 1) := by decide +kernel
theorem dX1_offers_58 : decode cX1_offers 58 = .ok (.idiv, 1) := by decide +kernel
theorem dX1_offers_59 : decode cX1_offers 59 = .ok (.istore 7, 2) := by decide +kernel
theorem dX1_offers_61 : decode cX1_offers 61 = .ok (.aload_n 0, 1) := by decide +kernel
theorem dX1_offers_62 : decode cX1_offers 62 = .ok (.iload 9, 2) := by decide +kernel
theorem dX1_offers_64 : decode cX1_offers 64 = .ok (.invokevirtual 54, 3) := by decide +kernel
theorem dX1_offers_67 : decode cX1_offers 67 = .ok (.astore 10, 2) := by decide +kernel
theorem dX1_offers_69 : decode cX1_offers 69 = .ok (.aload 10, 2) := by decide +kernel
theorem dX1_offers_71 : decode cX1_offers 71 = .ok (.lload_n 3, 1) := by decide +kernel
theorem dX1_offers_72 : decode cX1_offers 72 = .ok (.lload 5, 2) := by decide +kernel
theorem dX1_offers_74 : decode cX1_offers 74 = .ok (.invokestatic 141, 3) := by decide +kernel
theorem dX1_offers_77 : decode cX1_offers 77 = .ok (.istore 11, 2) := by decide +kernel
theorem dX1_offers_79 : decode cX1_offers 79 = .ok (.iload 9, 2) := by decide +kernel
theorem dX1_offers_81 : decode cX1_offers 81 = .ok (.iload_n 2, 1) := by decide +kernel
theorem dX1_offers_82 : decode cX1_offers 82 = .ok (.iconst 2, 1) := by decide +kernel
theorem dX1_offers_83 : decode cX1_offers 83 = .ok (.isub, 1) := by decide +kernel
theorem dX1_offers_84 : decode cX1_offers 84 = .ok (.if_icmp .ne 28, 3) := by decide +kernel
theorem dX1_offers_87 : decode cX1_offers 87 = .ok (.aload 10, 2) := by decide +kernel
theorem dX1_offers_89 : decode cX1_offers 89 = .ok (.iload 11, 2) := by decide +kernel
theorem dX1_offers_91 : decode cX1_offers 91 = .ok (.invokevirtual 68, 3) := by decide +kernel
theorem dX1_offers_94 : decode cX1_offers 94 = .ok (.ifCond .eq 14, 3) := by decide +kernel
theorem dX1_offers_97 : decode cX1_offers 97 = .ok (.aload 10, 2) := by decide +kernel
theorem dX1_offers_99 : decode cX1_offers 99 = .ok (.iload 11, 2) := by decide +kernel
theorem dX1_offers_101 : decode cX1_offers 101 = .ok (.invokevirtual 61, 3) := by decide +kernel
theorem dX1_offers_104 : decode cX1_offers 104 = .ok (.i2l, 1) := by decide +kernel
theorem dX1_offers_105 : decode cX1_offers 105 = .ok (.goto 6, 3) := by decide +kernel
theorem dX1_offers_108 : decode cX1_offers 108 = .ok (.ldc2_w 145, 3) := by decide +kernel
theorem dX1_offers_111 : decode cX1_offers 111 = .ok (.lreturn, 1) := by decide +kernel
theorem dX1_offers_112 : decode cX1_offers 112 = .ok (.aload 10, 2) := by decide +kernel
theorem dX1_offers_114 : decode cX1_offers 114 = .ok (.iload 11, 2) := by decide +kernel
theorem dX1_offers_116 : decode cX1_offers 116 = .ok (.lload_n 3, 1) := by decide +kernel
theorem dX1_offers_117 : decode cX1_offers 117 = .ok (.lload 5, 2) := by decide +kernel
theorem dX1_offers_119 : decode cX1_offers 119 = .ok (.invokestatic 147, 3) := by decide +kernel
theorem dX1_offers_122 : decode cX1_offers 122 = .ok (.lstore_n 3, 1) := by decide +kernel
theorem dX1_offers_123 : decode cX1_offers 123 = .ok (.lload 5, 2) := by decide +kernel
theorem dX1_offers_125 : decode cX1_offers 125 = .ok (.aload 10, 2) := by decide +kernel
theorem dX1_offers_127 : decode cX1_offers 127 = .ok (.invokevirtual 80, 3) := by decide +kernel
theorem dX1_offers_130 : decode cX1_offers 130 = .ok (.i2l, 1) := by decide +kernel
theorem dX1_offers_131 : decode cX1_offers 131 = .ok (.lmul, 1) := by decide +kernel
theorem dX1_offers_132 : decode cX1_offers 132 = .ok (.lstore 5, 2) := by decide +kernel
theorem dX1_offers_134 : decode cX1_offers 134 = .ok (.iinc 8 1, 3) := by decide +kernel
theorem dX1_offers_137 : decode cX1_offers 137 = .ok (.goto (-97), 3) := by decide +kernel
theorem dX1_offers_140 : decode cX1_offers 140 = .ok (.lload_n 3, 1) := by decide +kernel
theorem dX1_offers_141 : decode cX1_offers 141 = .ok (.lload 5, 2) := by decide +kernel
theorem dX1_offers_143 : decode cX1_offers 143 = .ok (.iload_n 2, 1) := by decide +kernel
theorem dX1_offers_144 : decode cX1_offers 144 = .ok (.invokestatic 99, 3) := by decide +kernel
theorem dX1_offers_147 : decode cX1_offers 147 = .ok (.lreturn, 1) := by decide +kernel
set_option maxRecDepth 20000 in
theorem ggX1_bundle_X1_isBuyer : GoodIn wsX1_bundle wsX1_isBuyer := goodIn_r _ [5, 6, 61, 62, 63, 64, 65, 66, 67, 68] (by decide +kernel) (by decide +kernel)
set_option maxRecDepth 20000 in
theorem gX1_bundle_X1_isBuyer : GoodIn wsX1_bundle (wsV RX1 44 RX1 yX1_isBuyer wsX1_isBuyer) := goodIn_app (goodIn_of _ (by decide +kernel)) ggX1_bundle_X1_isBuyer
set_option maxRecDepth 20000 in
theorem ggX1_bundle_X1_bookOf : GoodIn wsX1_bundle wsX1_bookOf := goodIn_r _ [10, 11, 12, 13, 61, 62, 63, 64, 65, 66, 67, 68] (by decide +kernel) (by decide +kernel)
set_option maxRecDepth 20000 in
theorem gX1_bundle_X1_bookOf : GoodIn wsX1_bundle (wsV RX1 54 RX1 yX1_bookOf wsX1_bookOf) := goodIn_app (goodIn_of _ (by decide +kernel)) ggX1_bundle_X1_bookOf
set_option maxRecDepth 20000 in
theorem ggX1_bundle_X1_bestSum : GoodIn wsX1_bundle wsX1_bestSum := goodIn_r _ [16, 17, 18, 19, 20, 21, 22, 23, 24, 25, 4, 26, 27, 28, 29, 30, 31, 69, 70, 71, 72, 73] (by decide +kernel) (by decide +kernel)
set_option maxRecDepth 20000 in
theorem gX1_bundle_X1_bestSum : GoodIn wsX1_bundle (va_wsS RX1 151 yX1_bestSum wsX1_bestSum) := goodIn_app (goodIn_of _ (by decide +kernel)) ggX1_bundle_X1_bestSum
set_option maxRecDepth 20000 in
theorem ggX1_bundle_X1_pairsFrom : GoodIn wsX1_bundle wsX1_pairsFrom := goodIn_r _ [26, 17, 18, 19, 20, 21, 22, 23, 27, 28, 29, 30, 31, 69, 70, 71, 72, 73] (by decide +kernel) (by decide +kernel)
set_option maxRecDepth 20000 in
theorem gX1_bundle_X1_pairsFrom : GoodIn wsX1_bundle (va_wsS RX1 155 yX1_pairsFrom wsX1_pairsFrom) := goodIn_app (goodIn_of _ (by decide +kernel)) ggX1_bundle_X1_pairsFrom
set_option maxRecDepth 20000 in
theorem ggX1_bundle_X1_bothAlone : GoodIn wsX1_bundle wsX1_bothAlone := goodIn_r _ [34, 35, 36, 37, 20, 38, 22, 39, 40, 41, 42, 43, 18, 19, 21, 23, 44, 45, 46, 47, 48, 49, 50, 51, 31, 52, 53, 54, 55, 56, 69, 70, 71, 72, 73] (by decide +kernel) (by decide +kernel)
set_option maxRecDepth 20000 in
theorem gX1_bundle_X1_bothAlone : GoodIn wsX1_bundle (va_wsS RX1 159 yX1_bothAlone wsX1_bothAlone) := goodIn_app (goodIn_of _ (by decide +kernel)) ggX1_bundle_X1_bothAlone
set_option maxRecDepth 20000 in
theorem ggX1_bundle_J6_signum_0f7a4 : GoodIn wsX1_bundle wsJ6_signum_0f7a4 := goodIn_r _ [60] (by decide +kernel) (by decide +kernel)
set_option maxRecDepth 20000 in
theorem gX1_bundle_J6_signum_0f7a4 : GoodIn wsX1_bundle (va_wsS RX1 162 yJ6_signum_0f7a4 wsJ6_signum_0f7a4) := goodIn_app (goodIn_of _ (by decide +kernel)) ggX1_bundle_J6_signum_0f7a4
theorem dX1_bundle_0 : decode cX1_bundle 0 = .ok (.aload_n 0, 1) := by decide +kernel
theorem dX1_bundle_1 : decode cX1_bundle 1 = .ok (.iload_n 1, 1) := by decide +kernel
theorem dX1_bundle_2 : decode cX1_bundle 2 = .ok (.invokevirtual 44, 3) := by decide +kernel
theorem dX1_bundle_5 : decode cX1_bundle 5 = .ok (.ifCond .eq 16, 3) := by decide +kernel
theorem dX1_bundle_8 : decode cX1_bundle 8 = .ok (.aload_n 0, 1) := by decide +kernel
theorem dX1_bundle_9 : decode cX1_bundle 9 = .ok (.iload_n 2, 1) := by decide +kernel
theorem dX1_bundle_10 : decode cX1_bundle 10 = .ok (.invokevirtual 44, 3) := by decide +kernel
theorem dX1_bundle_13 : decode cX1_bundle 13 = .ok (.ifCond .eq 8, 3) := by decide +kernel
theorem dX1_bundle_16 : decode cX1_bundle 16 = .ok (.iload_n 1, 1) := by decide +kernel
theorem dX1_bundle_17 : decode cX1_bundle 17 = .ok (.iload_n 2, 1) := by decide +kernel
theorem dX1_bundle_18 : decode cX1_bundle 18 = .ok (.if_icmp .ne 6, 3) := by decide +kernel
theorem dX1_bundle_21 : decode cX1_bundle 21 = .ok (.bipush (-5), 2) := by decide +kernel
theorem dX1_bundle_23 : decode cX1_bundle 23 = .ok (.ireturn, 1) := by decide +kernel
theorem dX1_bundle_24 : decode cX1_bundle 24 = .ok (.aload_n 0, 1) := by decide +kernel
theorem dX1_bundle_25 : decode cX1_bundle 25 = .ok (.iload_n 1, 1) := by decide +kernel
theorem dX1_bundle_26 : decode cX1_bundle 26 = .ok (.invokevirtual 54, 3) := by decide +kernel
theorem dX1_bundle_29 : decode cX1_bundle 29 = .ok (.astore 4, 2) := by decide +kernel
theorem dX1_bundle_31 : decode cX1_bundle 31 = .ok (.aload_n 0, 1) := by decide +kernel
theorem dX1_bundle_32 : decode cX1_bundle 32 = .ok (.iload_n 2, 1) := by decide +kernel
theorem dX1_bundle_33 : decode cX1_bundle 33 = .ok (.invokevirtual 54, 3) := by decide +kernel
theorem dX1_bundle_36 : decode cX1_bundle 36 = .ok (.astore 5, 2) := by decide +kernel
theorem dX1_bundle_38 : decode cX1_bundle 38 = .ok (.aload 4, 2) := by decide +kernel
theorem dX1_bundle_40 : decode cX1_bundle 40 = .ok (.aload 5, 2) := by decide +kernel
theorem dX1_bundle_42 : decode cX1_bundle 42 = .ok (.invokestatic 151, 3) := by decide +kernel
theorem dX1_bundle_45 : decode cX1_bundle 45 = .ok (.istore 6, 2) := by decide +kernel
theorem dX1_bundle_47 : decode cX1_bundle 47 = .ok (.aload 4, 2) := by decide +kernel
theorem dX1_bundle_49 : decode cX1_bundle 49 = .ok (.aload 5, 2) := by decide +kernel
theorem dX1_bundle_51 : decode cX1_bundle 51 = .ok (.iload 6, 2) := by decide +kernel
theorem dX1_bundle_53 : decode cX1_bundle 53 = .ok (.invokestatic 155, 3) := by decide +kernel
theorem dX1_bundle_56 : decode cX1_bundle 56 = .ok (.istore 7, 2) := by decide +kernel
theorem dX1_bundle_58 : decode cX1_bundle 58 = .ok (.iload_n 3, 1) := by decide +kernel
theorem dX1_bundle_59 : decode cX1_bundle 59 = .ok (.tableswitch 48 0 2 #[25, 28, 31], 25) := by decide +kernel
theorem dX1_bundle_84 : decode cX1_bundle 84 = .ok (.iload 6, 2) := by decide +kernel
theorem dX1_bundle_86 : decode cX1_bundle 86 = .ok (.ireturn, 1) := by decide +kernel
theorem dX1_bundle_87 : decode cX1_bundle 87 = .ok (.iload 7, 2) := by decide +kernel
theorem dX1_bundle_89 : decode cX1_bundle 89 = .ok (.ireturn, 1) := by decide +kernel
theorem dX1_bundle_90 : decode cX1_bundle 90 = .ok (.iload 6, 2) := by decide +kernel
theorem dX1_bundle_92 : decode cX1_bundle 92 = .ok (.iload 7, 2) := by decide +kernel
theorem dX1_bundle_94 : decode cX1_bundle 94 = .ok (.imul, 1) := by decide +kernel
theorem dX1_bundle_95 : decode cX1_bundle 95 = .ok (.aload 4, 2) := by decide +kernel
theorem dX1_bundle_97 : decode cX1_bundle 97 = .ok (.aload 5, 2) := by decide +kernel
theorem dX1_bundle_99 : decode cX1_bundle 99 = .ok (.invokestatic 159, 3) := by decide +kernel
theorem dX1_bundle_102 : decode cX1_bundle 102 = .ok (.isub, 1) := by decide +kernel
theorem dX1_bundle_103 : decode cX1_bundle 103 = .ok (.invokestatic 162, 3) := by decide +kernel
theorem dX1_bundle_106 : decode cX1_bundle 106 = .ok (.ireturn, 1) := by decide +kernel
theorem dX1_bundle_107 : decode cX1_bundle 107 = .ok (.bipush (-5), 2) := by decide +kernel
theorem dX1_bundle_109 : decode cX1_bundle 109 = .ok (.ireturn, 1) := by decide +kernel
set_option maxRecDepth 20000 in
theorem ggX1_sample_X1_isWorth : GoodIn wsX1_sample wsX1_isWorth := goodIn_r _ [6] (by decide +kernel) (by decide +kernel)
set_option maxRecDepth 20000 in
theorem gX1_sample_X1_isWorth : GoodIn wsX1_sample (va_wsS RX1 48 yX1_isWorth wsX1_isWorth) := goodIn_app (goodIn_of _ (by decide +kernel)) ggX1_sample_X1_isWorth
theorem dX1_sample_0 : decode cX1_sample 0 = .ok (.iload_n 1, 1) := by decide +kernel
theorem dX1_sample_1 : decode cX1_sample 1 = .ok (.invokestatic 48, 3) := by decide +kernel
theorem dX1_sample_4 : decode cX1_sample 4 = .ok (.ifCond .ne 5, 3) := by decide +kernel
theorem dX1_sample_7 : decode cX1_sample 7 = .ok (.iconst (-1), 1) := by decide +kernel
theorem dX1_sample_8 : decode cX1_sample 8 = .ok (.ireturn, 1) := by decide +kernel
theorem dX1_sample_9 : decode cX1_sample 9 = .ok (.aload_n 0, 1) := by decide +kernel
theorem dX1_sample_10 : decode cX1_sample 10 = .ok (.getfield 30, 3) := by decide +kernel
theorem dX1_sample_13 : decode cX1_sample 13 = .ok (.bipush 12, 2) := by decide +kernel
theorem dX1_sample_15 : decode cX1_sample 15 = .ok (.if_icmp .lt 6, 3) := by decide +kernel
theorem dX1_sample_18 : decode cX1_sample 18 = .ok (.bipush (-3), 2) := by decide +kernel
theorem dX1_sample_20 : decode cX1_sample 20 = .ok (.ireturn, 1) := by decide +kernel
theorem dX1_sample_21 : decode cX1_sample 21 = .ok (.aload_n 0, 1) := by decide +kernel
theorem dX1_sample_22 : decode cX1_sample 22 = .ok (.getfield 22, 3) := by decide +kernel
theorem dX1_sample_25 : decode cX1_sample 25 = .ok (.aload_n 0, 1) := by decide +kernel
theorem dX1_sample_26 : decode cX1_sample 26 = .ok (.getfield 30, 3) := by decide +kernel
theorem dX1_sample_29 : decode cX1_sample 29 = .ok (.iload_n 1, 1) := by decide +kernel
theorem dX1_sample_30 : decode cX1_sample 30 = .ok (.iastore, 1) := by decide +kernel
theorem dX1_sample_31 : decode cX1_sample 31 = .ok (.aload_n 0, 1) := by decide +kernel
theorem dX1_sample_32 : decode cX1_sample 32 = .ok (.dup, 1) := by decide +kernel
theorem dX1_sample_33 : decode cX1_sample 33 = .ok (.getfield 30, 3) := by decide +kernel
theorem dX1_sample_36 : decode cX1_sample 36 = .ok (.iconst 1, 1) := by decide +kernel
theorem dX1_sample_37 : decode cX1_sample 37 = .ok (.iadd, 1) := by decide +kernel
theorem dX1_sample_38 : decode cX1_sample 38 = .ok (.putfield 30, 3) := by decide +kernel
theorem dX1_sample_41 : decode cX1_sample 41 = .ok (.aload_n 0, 1) := by decide +kernel
theorem dX1_sample_42 : decode cX1_sample 42 = .ok (.getfield 30, 3) := by decide +kernel
theorem dX1_sample_45 : decode cX1_sample 45 = .ok (.ireturn, 1) := by decide +kernel
theorem dX1_clear_0 : decode cX1_clear 0 = .ok (.aload_n 0, 1) := by decide +kernel
theorem dX1_clear_1 : decode cX1_clear 1 = .ok (.getfield 30, 3) := by decide +kernel
theorem dX1_clear_4 : decode cX1_clear 4 = .ok (.istore_n 1, 1) := by decide +kernel
theorem dX1_clear_5 : decode cX1_clear 5 = .ok (.aload_n 0, 1) := by decide +kernel
theorem dX1_clear_6 : decode cX1_clear 6 = .ok (.iconst 0, 1) := by decide +kernel
theorem dX1_clear_7 : decode cX1_clear 7 = .ok (.putfield 30, 3) := by decide +kernel
theorem dX1_clear_10 : decode cX1_clear 10 = .ok (.iload_n 1, 1) := by decide +kernel
theorem dX1_clear_11 : decode cX1_clear 11 = .ok (.ireturn, 1) := by decide +kernel
set_option maxRecDepth 20000 in
theorem ggX1_learnt_X1_samplesFrom : GoodIn wsX1_learnt wsX1_samplesFrom := goodIn_r _ [7, 1, 2, 8, 9, 10, 11, 12, 13, 14, 15] (by decide +kernel) (by decide +kernel)
set_option maxRecDepth 20000 in
theorem gX1_learnt_X1_samplesFrom : GoodIn wsX1_learnt (wsV RX1 167 RX1 yX1_samplesFrom wsX1_samplesFrom) := goodIn_app (goodIn_of _ (by decide +kernel)) ggX1_learnt_X1_samplesFrom
theorem dX1_learnt_0 : decode cX1_learnt 0 = .ok (.bipush (-9), 2) := by decide +kernel
theorem dX1_learnt_2 : decode cX1_learnt 2 = .ok (.istore_n 1, 1) := by decide +kernel
theorem dX1_learnt_3 : decode cX1_learnt 3 = .ok (.iconst (-1), 1) := by decide +kernel
theorem dX1_learnt_4 : decode cX1_learnt 4 = .ok (.istore_n 2, 1) := by decide +kernel
theorem dX1_learnt_5 : decode cX1_learnt 5 = .ok (.iconst 0, 1) := by decide +kernel
theorem dX1_learnt_6 : decode cX1_learnt 6 = .ok (.istore_n 3, 1) := by decide +kernel
theorem dX1_learnt_7 : decode cX1_learnt 7 = .ok (.iload_n 3, 1) := by decide +kernel
theorem dX1_learnt_8 : decode cX1_learnt 8 = .ok (.aload_n 0, 1) := by decide +kernel
theorem dX1_learnt_9 : decode cX1_learnt 9 = .ok (.getfield 30, 3) := by decide +kernel
theorem dX1_learnt_12 : decode cX1_learnt 12 = .ok (.if_icmp .ge 60, 3) := by decide +kernel
theorem dX1_learnt_15 : decode cX1_learnt 15 = .ok (.aload_n 0, 1) := by decide +kernel
theorem dX1_learnt_16 : decode cX1_learnt 16 = .ok (.getfield 22, 3) := by decide +kernel
theorem dX1_learnt_19 : decode cX1_learnt 19 = .ok (.iload_n 3, 1) := by decide +kernel
theorem dX1_learnt_20 : decode cX1_learnt 20 = .ok (.iaload, 1) := by decide +kernel
theorem dX1_learnt_21 : decode cX1_learnt 21 = .ok (.aload_n 0, 1) := by decide +kernel
theorem dX1_learnt_22 : decode cX1_learnt 22 = .ok (.aload_n 0, 1) := by decide +kernel
theorem dX1_learnt_23 : decode cX1_learnt 23 = .ok (.getfield 22, 3) := by decide +kernel
theorem dX1_learnt_26 : decode cX1_learnt 26 = .ok (.iload_n 3, 1) := by decide +kernel
theorem dX1_learnt_27 : decode cX1_learnt 27 = .ok (.iaload, 1) := by decide +kernel
theorem dX1_learnt_28 : decode cX1_learnt 28 = .ok (.invokevirtual 167, 3) := by decide +kernel
theorem dX1_learnt_31 : decode cX1_learnt 31 = .ok (.imul, 1) := by decide +kernel
theorem dX1_learnt_32 : decode cX1_learnt 32 = .ok (.istore 4, 2) := by decide +kernel
theorem dX1_learnt_34 : decode cX1_learnt 34 = .ok (.iload 4, 2) := by decide +kernel
theorem dX1_learnt_36 : decode cX1_learnt 36 = .ok (.iload_n 2, 1) := by decide +kernel
theorem dX1_learnt_37 : decode cX1_learnt 37 = .ok (.if_icmp .gt 19, 3) := by decide +kernel
theorem dX1_learnt_40 : decode cX1_learnt 40 = .ok (.iload 4, 2) := by decide +kernel
theorem dX1_learnt_42 : decode cX1_learnt 42 = .ok (.iload_n 2, 1) := by decide +kernel
theorem dX1_learnt_43 : decode cX1_learnt 43 = .ok (.if_icmp .ne 23, 3) := by decide +kernel
theorem dX1_learnt_46 : decode cX1_learnt 46 = .ok (.aload_n 0, 1) := by decide +kernel
theorem dX1_learnt_47 : decode cX1_learnt 47 = .ok (.getfield 22, 3) := by decide +kernel
theorem dX1_learnt_50 : decode cX1_learnt 50 = .ok (.iload_n 3, 1) := by decide +kernel
theorem dX1_learnt_51 : decode cX1_learnt 51 = .ok (.iaload, 1) := by decide +kernel
theorem dX1_learnt_52 : decode cX1_learnt 52 = .ok (.iload_n 1, 1) := by decide +kernel
theorem dX1_learnt_53 : decode cX1_learnt 53 = .ok (.if_icmp .ge 13, 3) := by decide +kernel
theorem dX1_learnt_56 : decode cX1_learnt 56 = .ok (.aload_n 0, 1) := by decide +kernel
theorem dX1_learnt_57 : decode cX1_learnt 57 = .ok (.getfield 22, 3) := by decide +kernel
theorem dX1_learnt_60 : decode cX1_learnt 60 = .ok (.iload_n 3, 1) := by decide +kernel
theorem dX1_learnt_61 : decode cX1_learnt 61 = .ok (.iaload, 1) := by decide +kernel
theorem dX1_learnt_62 : decode cX1_learnt 62 = .ok (.istore_n 1, 1) := by decide +kernel
theorem dX1_learnt_63 : decode cX1_learnt 63 = .ok (.iload 4, 2) := by decide +kernel
theorem dX1_learnt_65 : decode cX1_learnt 65 = .ok (.istore_n 2, 1) := by decide +kernel
theorem dX1_learnt_66 : decode cX1_learnt 66 = .ok (.iinc 3 1, 3) := by decide +kernel
theorem dX1_learnt_69 : decode cX1_learnt 69 = .ok (.goto (-62), 3) := by decide +kernel
theorem dX1_learnt_72 : decode cX1_learnt 72 = .ok (.iload_n 1, 1) := by decide +kernel
theorem dX1_learnt_73 : decode cX1_learnt 73 = .ok (.ireturn, 1) := by decide +kernel
theorem dX1_count_0 : decode cX1_count 0 = .ok (.iload_n 1, 1) := by decide +kernel
theorem dX1_count_1 : decode cX1_count 1 = .ok (.tableswitch 42 0 2 #[27, 32, 37], 27) := by decide +kernel
theorem dX1_count_28 : decode cX1_count 28 = .ok (.aload_n 0, 1) := by decide +kernel
theorem dX1_count_29 : decode cX1_count 29 = .ok (.getfield 26, 3) := by decide +kernel
theorem dX1_count_32 : decode cX1_count 32 = .ok (.ireturn, 1) := by decide +kernel
theorem dX1_count_33 : decode cX1_count 33 = .ok (.aload_n 0, 1) := by decide +kernel
theorem dX1_count_34 : decode cX1_count 34 = .ok (.getfield 33, 3) := by decide +kernel
theorem dX1_count_37 : decode cX1_count 37 = .ok (.ireturn, 1) := by decide +kernel
theorem dX1_count_38 : decode cX1_count 38 = .ok (.aload_n 0, 1) := by decide +kernel
theorem dX1_count_39 : decode cX1_count 39 = .ok (.getfield 30, 3) := by decide +kernel
theorem dX1_count_42 : decode cX1_count 42 = .ok (.ireturn, 1) := by decide +kernel
theorem dX1_count_43 : decode cX1_count 43 = .ok (.iconst (-1), 1) := by decide +kernel
theorem dX1_count_44 : decode cX1_count 44 = .ok (.ireturn, 1) := by decide +kernel
theorem dX1_trace_0 : decode cX1_trace 0 = .ok (.aload_n 0, 1) := by decide +kernel
theorem dX1_trace_1 : decode cX1_trace 1 = .ok (.getfield 36, 3) := by decide +kernel
theorem dX1_trace_4 : decode cX1_trace 4 = .ok (.lreturn, 1) := by decide +kernel
theorem dX1_isBuyer_0 : decode cX1_isBuyer 0 = .ok (.iload_n 1, 1) := by decide +kernel
theorem dX1_isBuyer_1 : decode cX1_isBuyer 1 = .ok (.ifCond .lt 15, 3) := by decide +kernel
theorem dX1_isBuyer_4 : decode cX1_isBuyer 4 = .ok (.iload_n 1, 1) := by decide +kernel
theorem dX1_isBuyer_5 : decode cX1_isBuyer 5 = .ok (.aload_n 0, 1) := by decide +kernel
theorem dX1_isBuyer_6 : decode cX1_isBuyer 6 = .ok (.getfield 26, 3) := by decide +kernel
theorem dX1_isBuyer_9 : decode cX1_isBuyer 9 = .ok (.if_icmp .ge 7, 3) := by decide +kernel
theorem dX1_isBuyer_12 : decode cX1_isBuyer 12 = .ok (.iconst 1, 1) := by decide +kernel
theorem dX1_isBuyer_13 : decode cX1_isBuyer 13 = .ok (.goto 4, 3) := by decide +kernel
theorem dX1_isBuyer_16 : decode cX1_isBuyer 16 = .ok (.iconst 0, 1) := by decide +kernel
theorem dX1_isBuyer_17 : decode cX1_isBuyer 17 = .ok (.ireturn, 1) := by decide +kernel
theorem dX1_isWorth_0 : decode cX1_isWorth 0 = .ok (.iload_n 0, 1) := by decide +kernel
theorem dX1_isWorth_1 : decode cX1_isWorth 1 = .ok (.ifCond .lt 14, 3) := by decide +kernel
theorem dX1_isWorth_4 : decode cX1_isWorth 4 = .ok (.iload_n 0, 1) := by decide +kernel
theorem dX1_isWorth_5 : decode cX1_isWorth 5 = .ok (.sipush 1000, 3) := by decide +kernel
theorem dX1_isWorth_8 : decode cX1_isWorth 8 = .ok (.if_icmp .gt 7, 3) := by decide +kernel
theorem dX1_isWorth_11 : decode cX1_isWorth 11 = .ok (.iconst 1, 1) := by decide +kernel
theorem dX1_isWorth_12 : decode cX1_isWorth 12 = .ok (.goto 4, 3) := by decide +kernel
theorem dX1_isWorth_15 : decode cX1_isWorth 15 = .ok (.iconst 0, 1) := by decide +kernel
theorem dX1_isWorth_16 : decode cX1_isWorth 16 = .ok (.ireturn, 1) := by decide +kernel
theorem dX1_isWeight_0 : decode cX1_isWeight 0 = .ok (.iload_n 0, 1) := by decide +kernel
theorem dX1_isWeight_1 : decode cX1_isWeight 1 = .ok (.iconst 1, 1) := by decide +kernel
theorem dX1_isWeight_2 : decode cX1_isWeight 2 = .ok (.if_icmp .lt 13, 3) := by decide +kernel
theorem dX1_isWeight_5 : decode cX1_isWeight 5 = .ok (.iload_n 0, 1) := by decide +kernel
theorem dX1_isWeight_6 : decode cX1_isWeight 6 = .ok (.bipush 9, 2) := by decide +kernel
theorem dX1_isWeight_8 : decode cX1_isWeight 8 = .ok (.if_icmp .gt 7, 3) := by decide +kernel
theorem dX1_isWeight_11 : decode cX1_isWeight 11 = .ok (.iconst 1, 1) := by decide +kernel
theorem dX1_isWeight_12 : decode cX1_isWeight 12 = .ok (.goto 4, 3) := by decide +kernel
theorem dX1_isWeight_15 : decode cX1_isWeight 15 = .ok (.iconst 0, 1) := by decide +kernel
theorem dX1_isWeight_16 : decode cX1_isWeight 16 = .ok (.ireturn, 1) := by decide +kernel
theorem dX1_isPart_0 : decode cX1_isPart 0 = .ok (.iload_n 0, 1) := by decide +kernel
theorem dX1_isPart_1 : decode cX1_isPart 1 = .ok (.ifCond .eq 8, 3) := by decide +kernel
theorem dX1_isPart_4 : decode cX1_isPart 4 = .ok (.iload_n 0, 1) := by decide +kernel
theorem dX1_isPart_5 : decode cX1_isPart 5 = .ok (.iconst 1, 1) := by decide +kernel
theorem dX1_isPart_6 : decode cX1_isPart 6 = .ok (.if_icmp .ne 7, 3) := by decide +kernel
theorem dX1_isPart_9 : decode cX1_isPart 9 = .ok (.iconst 1, 1) := by decide +kernel
theorem dX1_isPart_10 : decode cX1_isPart 10 = .ok (.goto 4, 3) := by decide +kernel
theorem dX1_isPart_13 : decode cX1_isPart 13 = .ok (.iconst 0, 1) := by decide +kernel
theorem dX1_isPart_14 : decode cX1_isPart 14 = .ok (.ireturn, 1) := by decide +kernel
theorem dX1_isKind_0 : decode cX1_isKind 0 = .ok (.iload_n 0, 1) := by decide +kernel
theorem dX1_isKind_1 : decode cX1_isKind 1 = .ok (.ifCond .lt 12, 3) := by decide +kernel
theorem dX1_isKind_4 : decode cX1_isKind 4 = .ok (.iload_n 0, 1) := by decide +kernel
theorem dX1_isKind_5 : decode cX1_isKind 5 = .ok (.iconst 2, 1) := by decide +kernel
theorem dX1_isKind_6 : decode cX1_isKind 6 = .ok (.if_icmp .gt 7, 3) := by decide +kernel
theorem dX1_isKind_9 : decode cX1_isKind 9 = .ok (.iconst 1, 1) := by decide +kernel
theorem dX1_isKind_10 : decode cX1_isKind 10 = .ok (.goto 4, 3) := by decide +kernel
theorem dX1_isKind_13 : decode cX1_isKind 13 = .ok (.iconst 0, 1) := by decide +kernel
theorem dX1_isKind_14 : decode cX1_isKind 14 = .ok (.ireturn, 1) := by decide +kernel
end
section
set_option maxRecDepth 20000 in
theorem ggX1_arePlaces_X1_bookOf : GoodIn wsX1_arePlaces wsX1_bookOf := goodIn_r _ [6, 7, 8, 9, 19, 20, 21, 22, 23, 24, 25, 26] (by decide +kernel) (by decide +kernel)
set_option maxRecDepth 20000 in
theorem gX1_arePlaces_X1_bookOf : GoodIn wsX1_arePlaces (wsV RX1 54 RX1 yX1_bookOf wsX1_bookOf) := goodIn_app (goodIn_of _ (by decide +kernel)) ggX1_arePlaces_X1_bookOf
set_option maxRecDepth 20000 in
theorem ggX1_arePlaces_X1_pick : GoodIn wsX1_arePlaces wsX1_pick := goodIn_r _ [12] (by decide +kernel) (by decide +kernel)
set_option maxRecDepth 20000 in
theorem gX1_arePlaces_X1_pick : GoodIn wsX1_arePlaces (va_wsS RX1 119 yX1_pick wsX1_pick) := goodIn_app (goodIn_of _ (by decide +kernel)) ggX1_arePlaces_X1_pick
set_option maxRecDepth 20000 in
theorem ggX1_arePlaces_X0_has : GoodIn wsX1_arePlaces wsX0_has := goodIn_r _ [17, 18, 27, 28, 29, 30, 31] (by decide +kernel) (by decide +kernel)
set_option maxRecDepth 20000 in
theorem gX1_arePlaces_X0_has : GoodIn wsX1_arePlaces (wsV RX1 68 RX0 yX0_has wsX0_has) := goodIn_app (goodIn_of _ (by decide +kernel)) ggX1_arePlaces_X0_has
theorem dX1_arePlaces_0 : decode cX1_arePlaces 0 = .ok (.iconst 0, 1) := by decide +kernel
theorem dX1_arePlaces_1 : decode cX1_arePlaces 1 = .ok (.istore 4, 2) := by decide +kernel
theorem dX1_arePlaces_3 : decode cX1_arePlaces 3 = .ok (.iload 4, 2) := by decide +kernel
theorem dX1_arePlaces_5 : decode cX1_arePlaces 5 = .ok (.aload_n 0, 1) := by decide +kernel
theorem dX1_arePlaces_6 : decode cX1_arePlaces 6 = .ok (.getfield 26, 3) := by decide +kernel
theorem dX1_arePlaces_9 : decode cX1_arePlaces 9 = .ok (.if_icmp .ge 31, 3) := by decide +kernel
theorem dX1_arePlaces_12 : decode cX1_arePlaces 12 = .ok (.aload_n 0, 1) := by decide +kernel
theorem dX1_arePlaces_13 : decode cX1_arePlaces 13 = .ok (.iload 4, 2) := by decide +kernel
theorem dX1_arePlaces_15 : decode cX1_arePlaces 15 = .ok (.invokevirtual 54, 3) := by decide +kernel
theorem dX1_arePlaces_18 : decode cX1_arePlaces 18 = .ok (.iload 4, 2) := by decide +kernel
theorem dX1_arePlaces_20 : decode cX1_arePlaces 20 = .ok (.iload_n 1, 1) := by decide +kernel
theorem dX1_arePlaces_21 : decode cX1_arePlaces 21 = .ok (.iload_n 2, 1) := by decide +kernel
theorem dX1_arePlaces_22 : decode cX1_arePlaces 22 = .ok (.iload_n 3, 1) := by decide +kernel
theorem dX1_arePlaces_23 : decode cX1_arePlaces 23 = .ok (.invokestatic 119, 3) := by decide +kernel
theorem dX1_arePlaces_26 : decode cX1_arePlaces 26 = .ok (.invokevirtual 68, 3) := by decide +kernel
theorem dX1_arePlaces_29 : decode cX1_arePlaces 29 = .ok (.ifCond .ne 5, 3) := by decide +kernel
theorem dX1_arePlaces_32 : decode cX1_arePlaces 32 = .ok (.iconst 0, 1) := by decide +kernel
theorem dX1_arePlaces_33 : decode cX1_arePlaces 33 = .ok (.ireturn, 1) := by decide +kernel
theorem dX1_arePlaces_34 : decode cX1_arePlaces 34 = .ok (.iinc 4 1, 3) := by decide +kernel
theorem dX1_arePlaces_37 : decode cX1_arePlaces 37 = .ok (.goto (-34), 3) := by decide +kernel
theorem dX1_arePlaces_40 : decode cX1_arePlaces 40 = .ok (.iconst 1, 1) := by decide +kernel
theorem dX1_arePlaces_41 : decode cX1_arePlaces 41 = .ok (.ireturn, 1) := by decide +kernel
set_option maxRecDepth 20000 in
theorem ggX1_areWorths_X1_pick : GoodIn wsX1_areWorths wsX1_pick := goodIn_r _ [5] (by decide +kernel) (by decide +kernel)
set_option maxRecDepth 20000 in
theorem gX1_areWorths_X1_pick : GoodIn wsX1_areWorths (va_wsS RX1 119 yX1_pick wsX1_pick) := goodIn_app (goodIn_of _ (by decide +kernel)) ggX1_areWorths_X1_pick
set_option maxRecDepth 20000 in
theorem ggX1_areWorths_X1_isWorth : GoodIn wsX1_areWorths wsX1_isWorth := goodIn_r _ [8] (by decide +kernel) (by decide +kernel)
set_option maxRecDepth 20000 in
theorem gX1_areWorths_X1_isWorth : GoodIn wsX1_areWorths (va_wsS RX1 48 yX1_isWorth wsX1_isWorth) := goodIn_app (goodIn_of _ (by decide +kernel)) ggX1_areWorths_X1_isWorth
theorem dX1_areWorths_0 : decode cX1_areWorths 0 = .ok (.iconst 0, 1) := by decide +kernel
theorem dX1_areWorths_1 : decode cX1_areWorths 1 = .ok (.istore 4, 2) := by decide +kernel
theorem dX1_areWorths_3 : decode cX1_areWorths 3 = .ok (.iload 4, 2) := by decide +kernel
theorem dX1_areWorths_5 : decode cX1_areWorths 5 = .ok (.aload_n 0, 1) := by decide +kernel
theorem dX1_areWorths_6 : decode cX1_areWorths 6 = .ok (.getfield 26, 3) := by decide +kernel
theorem dX1_areWorths_9 : decode cX1_areWorths 9 = .ok (.if_icmp .ge 25, 3) := by decide +kernel
theorem dX1_areWorths_12 : decode cX1_areWorths 12 = .ok (.iload 4, 2) := by decide +kernel
theorem dX1_areWorths_14 : decode cX1_areWorths 14 = .ok (.iload_n 1, 1) := by decide +kernel
theorem dX1_areWorths_15 : decode cX1_areWorths 15 = .ok (.iload_n 2, 1) := by decide +kernel
theorem dX1_areWorths_16 : decode cX1_areWorths 16 = .ok (.iload_n 3, 1) := by decide +kernel
theorem dX1_areWorths_17 : decode cX1_areWorths 17 = .ok (.invokestatic 119, 3) := by decide +kernel
theorem dX1_areWorths_20 : decode cX1_areWorths 20 = .ok (.invokestatic 48, 3) := by decide +kernel
theorem dX1_areWorths_23 : decode cX1_areWorths 23 = .ok (.ifCond .ne 5, 3) := by decide +kernel
theorem dX1_areWorths_26 : decode cX1_areWorths 26 = .ok (.iconst 0, 1) := by decide +kernel
theorem dX1_areWorths_27 : decode cX1_areWorths 27 = .ok (.ireturn, 1) := by decide +kernel
theorem dX1_areWorths_28 : decode cX1_areWorths 28 = .ok (.iinc 4 1, 3) := by decide +kernel
theorem dX1_areWorths_31 : decode cX1_areWorths 31 = .ok (.goto (-28), 3) := by decide +kernel
theorem dX1_areWorths_34 : decode cX1_areWorths 34 = .ok (.iconst 1, 1) := by decide +kernel
theorem dX1_areWorths_35 : decode cX1_areWorths 35 = .ok (.ireturn, 1) := by decide +kernel
set_option maxRecDepth 20000 in
theorem ggX1_isOrder_X1_isBuyer : GoodIn wsX1_isOrder wsX1_isBuyer := goodIn_r _ [6, 1, 7, 8, 9, 10, 11, 12, 13, 14] (by decide +kernel) (by decide +kernel)
set_option maxRecDepth 20000 in
theorem gX1_isOrder_X1_isBuyer : GoodIn wsX1_isOrder (wsV RX1 44 RX1 yX1_isBuyer wsX1_isBuyer) := goodIn_app (goodIn_of _ (by decide +kernel)) ggX1_isOrder_X1_isBuyer
theorem dX1_isOrder_0 : decode cX1_isOrder 0 = .ok (.iload_n 1, 1) := by decide +kernel
theorem dX1_isOrder_1 : decode cX1_isOrder 1 = .ok (.ifCond .ge 5, 3) := by decide +kernel
theorem dX1_isOrder_4 : decode cX1_isOrder 4 = .ok (.iconst 0, 1) := by decide +kernel
theorem dX1_isOrder_5 : decode cX1_isOrder 5 = .ok (.ireturn, 1) := by decide +kernel
theorem dX1_isOrder_6 : decode cX1_isOrder 6 = .ok (.iconst 0, 1) := by decide +kernel
theorem dX1_isOrder_7 : decode cX1_isOrder 7 = .ok (.istore_n 2, 1) := by decide +kernel
theorem dX1_isOrder_8 : decode cX1_isOrder 8 = .ok (.iload_n 1, 1) := by decide +kernel
theorem dX1_isOrder_9 : decode cX1_isOrder 9 = .ok (.istore_n 3, 1) := by decide +kernel
theorem dX1_isOrder_10 : decode cX1_isOrder 10 = .ok (.iconst 0, 1) := by decide +kernel
theorem dX1_isOrder_11 : decode cX1_isOrder 11 = .ok (.istore 4, 2) := by decide +kernel
theorem dX1_isOrder_13 : decode cX1_isOrder 13 = .ok (.iload 4, 2) := by decide +kernel
theorem dX1_isOrder_15 : decode cX1_isOrder 15 = .ok (.aload_n 0, 1) := by decide +kernel
theorem dX1_isOrder_16 : decode cX1_isOrder 16 = .ok (.getfield 26, 3) := by decide +kernel
theorem dX1_isOrder_19 : decode cX1_isOrder 19 = .ok (.if_icmp .ge 46, 3) := by decide +kernel
theorem dX1_isOrder_22 : decode cX1_isOrder 22 = .ok (.iload_n 3, 1) := by decide +kernel
theorem dX1_isOrder_23 : decode cX1_isOrder 23 = .ok (.iconst 3, 1) := by decide +kernel
theorem dX1_isOrder_24 : decode cX1_isOrder 24 = .ok (.irem, 1) := by decide +kernel
theorem dX1_isOrder_25 : decode cX1_isOrder 25 = .ok (.istore 5, 2) := by decide +kernel
theorem dX1_isOrder_27 : decode cX1_isOrder 27 = .ok (.iload_n 3, 1) := by decide +kernel
theorem dX1_isOrder_28 : decode cX1_isOrder 28 = .ok (.iconst 3, 1) := by decide +kernel
theorem dX1_isOrder_29 : decode cX1_isOrder 29 = .ok (.idiv, 1) := by decide +kernel
theorem dX1_isOrder_30 : decode cX1_isOrder 30 = .ok (.istore_n 3, 1) := by decide +kernel
theorem dX1_isOrder_31 : decode cX1_isOrder 31 = .ok (.aload_n 0, 1) := by decide +kernel
theorem dX1_isOrder_32 : decode cX1_isOrder 32 = .ok (.iload 5, 2) := by decide +kernel
theorem dX1_isOrder_34 : decode cX1_isOrder 34 = .ok (.invokevirtual 44, 3) := by decide +kernel
theorem dX1_isOrder_37 : decode cX1_isOrder 37 = .ok (.ifCond .eq 13, 3) := by decide +kernel
theorem dX1_isOrder_40 : decode cX1_isOrder 40 = .ok (.iload_n 2, 1) := by decide +kernel
theorem dX1_isOrder_41 : decode cX1_isOrder 41 = .ok (.iload 5, 2) := by decide +kernel
theorem dX1_isOrder_43 : decode cX1_isOrder 43 = .ok (.ishr, 1) := by decide +kernel
theorem dX1_isOrder_44 : decode cX1_isOrder 44 = .ok (.iconst 1, 1) := by decide +kernel
theorem dX1_isOrder_45 : decode cX1_isOrder 45 = .ok (.iand, 1) := by decide +kernel
theorem dX1_isOrder_46 : decode cX1_isOrder 46 = .ok (.iconst 1, 1) := by decide +kernel
theorem dX1_isOrder_47 : decode cX1_isOrder 47 = .ok (.if_icmp .ne 5, 3) := by decide +kernel
theorem dX1_isOrder_50 : decode cX1_isOrder 50 = .ok (.iconst 0, 1) := by decide +kernel
theorem dX1_isOrder_51 : decode cX1_isOrder 51 = .ok (.ireturn, 1) := by decide +kernel
theorem dX1_isOrder_52 : decode cX1_isOrder 52 = .ok (.iload_n 2, 1) := by decide +kernel
theorem dX1_isOrder_53 : decode cX1_isOrder 53 = .ok (.iconst 1, 1) := by decide +kernel
theorem dX1_isOrder_54 : decode cX1_isOrder 54 = .ok (.iload 5, 2) := by decide +kernel
theorem dX1_isOrder_56 : decode cX1_isOrder 56 = .ok (.ishl, 1) := by decide +kernel
theorem dX1_isOrder_57 : decode cX1_isOrder 57 = .ok (.ior, 1) := by decide +kernel
theorem dX1_isOrder_58 : decode cX1_isOrder 58 = .ok (.istore_n 2, 1) := by decide +kernel
theorem dX1_isOrder_59 : decode cX1_isOrder 59 = .ok (.iinc 4 1, 3) := by decide +kernel
theorem dX1_isOrder_62 : decode cX1_isOrder 62 = .ok (.goto (-49), 3) := by decide +kernel
theorem dX1_isOrder_65 : decode cX1_isOrder 65 = .ok (.iload_n 3, 1) := by decide +kernel
theorem dX1_isOrder_66 : decode cX1_isOrder 66 = .ok (.ifCond .ne 7, 3) := by decide +kernel
theorem dX1_isOrder_69 : decode cX1_isOrder 69 = .ok (.iconst 1, 1) := by decide +kernel
theorem dX1_isOrder_70 : decode cX1_isOrder 70 = .ok (.goto 4, 3) := by decide +kernel
theorem dX1_isOrder_73 : decode cX1_isOrder 73 = .ok (.iconst 0, 1) := by decide +kernel
theorem dX1_isOrder_74 : decode cX1_isOrder 74 = .ok (.ireturn, 1) := by decide +kernel
theorem dX1_bookOf_0 : decode cX1_bookOf 0 = .ok (.iload_n 1, 1) := by decide +kernel
theorem dX1_bookOf_1 : decode cX1_bookOf 1 = .ok (.ifCond .ne 10, 3) := by decide +kernel
theorem dX1_bookOf_4 : decode cX1_bookOf 4 = .ok (.aload_n 0, 1) := by decide +kernel
theorem dX1_bookOf_5 : decode cX1_bookOf 5 = .ok (.getfield 10, 3) := by decide +kernel
theorem dX1_bookOf_8 : decode cX1_bookOf 8 = .ok (.goto 19, 3) := by decide +kernel
theorem dX1_bookOf_11 : decode cX1_bookOf 11 = .ok (.iload_n 1, 1) := by decide +kernel
theorem dX1_bookOf_12 : decode cX1_bookOf 12 = .ok (.iconst 1, 1) := by decide +kernel
theorem dX1_bookOf_13 : decode cX1_bookOf 13 = .ok (.if_icmp .ne 10, 3) := by decide +kernel
theorem dX1_bookOf_16 : decode cX1_bookOf 16 = .ok (.aload_n 0, 1) := by decide +kernel
theorem dX1_bookOf_17 : decode cX1_bookOf 17 = .ok (.getfield 16, 3) := by decide +kernel
theorem dX1_bookOf_20 : decode cX1_bookOf 20 = .ok (.goto 7, 3) := by decide +kernel
theorem dX1_bookOf_23 : decode cX1_bookOf 23 = .ok (.aload_n 0, 1) := by decide +kernel
theorem dX1_bookOf_24 : decode cX1_bookOf 24 = .ok (.getfield 19, 3) := by decide +kernel
theorem dX1_bookOf_27 : decode cX1_bookOf 27 = .ok (.areturn, 1) := by decide +kernel
theorem dX1_pick_0 : decode cX1_pick 0 = .ok (.iload_n 0, 1) := by decide +kernel
theorem dX1_pick_1 : decode cX1_pick 1 = .ok (.ifCond .ne 7, 3) := by decide +kernel
theorem dX1_pick_4 : decode cX1_pick 4 = .ok (.iload_n 1, 1) := by decide +kernel
theorem dX1_pick_5 : decode cX1_pick 5 = .ok (.goto 13, 3) := by decide +kernel
theorem dX1_pick_8 : decode cX1_pick 8 = .ok (.iload_n 0, 1) := by decide +kernel
theorem dX1_pick_9 : decode cX1_pick 9 = .ok (.iconst 1, 1) := by decide +kernel
theorem dX1_pick_10 : decode cX1_pick 10 = .ok (.if_icmp .ne 7, 3) := by decide +kernel
theorem dX1_pick_13 : decode cX1_pick 13 = .ok (.iload_n 2, 1) := by decide +kernel
theorem dX1_pick_14 : decode cX1_pick 14 = .ok (.goto 4, 3) := by decide +kernel
theorem dX1_pick_17 : decode cX1_pick 17 = .ok (.iload_n 3, 1) := by decide +kernel
theorem dX1_pick_18 : decode cX1_pick 18 = .ok (.ireturn, 1) := by decide +kernel
set_option maxRecDepth 20000 in
theorem ggX1_winner_X1_pick : GoodIn wsX1_winner wsX1_pick := goodIn_r _ [5] (by decide +kernel) (by decide +kernel)
set_option maxRecDepth 20000 in
theorem gX1_winner_X1_pick : GoodIn wsX1_winner (va_wsS RX1 119 yX1_pick wsX1_pick) := goodIn_app (goodIn_of _ (by decide +kernel)) ggX1_winner_X1_pick
set_option maxRecDepth 20000 in
theorem ggX1_winner_X1_bookOf : GoodIn wsX1_winner wsX1_bookOf := goodIn_r _ [9, 10, 11, 12, 25, 26, 27, 28, 29, 30, 31, 32] (by decide +kernel) (by decide +kernel)
set_option maxRecDepth 20000 in
theorem gX1_winner_X1_bookOf : GoodIn wsX1_winner (wsV RX1 54 RX1 yX1_bookOf wsX1_bookOf) := goodIn_app (goodIn_of _ (by decide +kernel)) ggX1_winner_X1_bookOf
set_option maxRecDepth 20000 in
theorem ggX1_winner_X0_ironedUpper : GoodIn wsX1_winner wsX0_ironedUpper := goodIn_r _ [17, 18, 19, 33, 34, 35, 36, 37] (by decide +kernel) (by decide +kernel)
set_option maxRecDepth 20000 in
theorem gX1_winner_X0_ironedUpper : GoodIn wsX1_winner (wsV RX1 92 RX0 yX0_ironedUpper wsX0_ironedUpper) := goodIn_app (goodIn_of _ (by decide +kernel)) ggX1_winner_X0_ironedUpper
set_option maxRecDepth 20000 in
theorem ggX1_winner_X0_ironedLower : GoodIn wsX1_winner wsX0_ironedLower := goodIn_r _ [23, 18, 24, 33, 34, 35, 36, 37] (by decide +kernel) (by decide +kernel)
set_option maxRecDepth 20000 in
theorem gX1_winner_X0_ironedLower : GoodIn wsX1_winner (wsV RX1 96 RX0 yX0_ironedLower wsX0_ironedLower) := goodIn_app (goodIn_of _ (by decide +kernel)) ggX1_winner_X0_ironedLower
theorem dX1_winner_0 : decode cX1_winner 0 = .ok (.bipush (-9), 2) := by decide +kernel
theorem dX1_winner_2 : decode cX1_winner 2 = .ok (.istore 4, 2) := by decide +kernel
theorem dX1_winner_4 : decode cX1_winner 4 = .ok (.lconst 0, 1) := by decide +kernel
theorem dX1_winner_5 : decode cX1_winner 5 = .ok (.lstore 5, 2) := by decide +kernel
theorem dX1_winner_7 : decode cX1_winner 7 = .ok (.lconst 1, 1) := by decide +kernel
theorem dX1_winner_8 : decode cX1_winner 8 = .ok (.lstore 7, 2) := by decide +kernel
theorem dX1_winner_10 : decode cX1_winner 10 = .ok (.iconst 0, 1) := by decide +kernel
theorem dX1_winner_11 : decode cX1_winner 11 = .ok (.istore 9, 2) := by decide +kernel
theorem dX1_winner_13 : decode cX1_winner 13 = .ok (.iload 9, 2) := by decide +kernel
theorem dX1_winner_15 : decode cX1_winner 15 = .ok (.aload_n 0, 1) := by decide +kernel
theorem dX1_winner_16 : decode cX1_winner 16 = .ok (.getfield 26, 3) := by decide +kernel
theorem dX1_winner_19 : decode cX1_winner 19 = .ok (.if_icmp .ge 71, 3) := by decide +kernel
theorem dX1_winner_22 : decode cX1_winner 22 = .ok (.iload 9, 2) := by decide +kernel
theorem dX1_winner_24 : decode cX1_winner 24 = .ok (.iload_n 1, 1) := by decide +kernel
theorem dX1_winner_25 : decode cX1_winner 25 = .ok (.iload_n 2, 1) := by decide +kernel
theorem dX1_winner_26 : decode cX1_winner 26 = .ok (.iload_n 3, 1) := by decide +kernel
theorem dX1_winner_27 : decode cX1_winner 27 = .ok (.invokestatic 119, 3) := by decide +kernel
theorem dX1_winner_30 : decode cX1_winner 30 = .ok (.istore 10, 2) := by decide +kernel
theorem dX1_winner_32 : decode cX1_winner 32 = .ok (.aload_n 0, 1) := by decide +kernel
theorem dX1_winner_33 : decode cX1_winner 33 = .ok (.iload 9, 2) := by decide +kernel
theorem dX1_winner_35 : decode cX1_winner 35 = .ok (.invokevirtual 54, 3) := by decide +kernel
theorem dX1_winner_38 : decode cX1_winner 38 = .ok (.iload 10, 2) := by decide +kernel
theorem dX1_winner_40 : decode cX1_winner 40 = .ok (.invokevirtual 92, 3) := by decide +kernel
theorem dX1_winner_43 : decode cX1_winner 43 = .ok (.lstore 11, 2) := by decide +kernel
theorem dX1_winner_45 : decode cX1_winner 45 = .ok (.aload_n 0, 1) := by decide +kernel
theorem dX1_winner_46 : decode cX1_winner 46 = .ok (.iload 9, 2) := by decide +kernel
theorem dX1_winner_48 : decode cX1_winner 48 = .ok (.invokevirtual 54, 3) := by decide +kernel
theorem dX1_winner_51 : decode cX1_winner 51 = .ok (.iload 10, 2) := by decide +kernel
theorem dX1_winner_53 : decode cX1_winner 53 = .ok (.invokevirtual 96, 3) := by decide +kernel
theorem dX1_winner_56 : decode cX1_winner 56 = .ok (.lstore 13, 2) := by decide +kernel
theorem dX1_winner_58 : decode cX1_winner 58 = .ok (.lload 11, 2) := by decide +kernel
theorem dX1_winner_60 : decode cX1_winner 60 = .ok (.lload 7, 2) := by decide +kernel
theorem dX1_winner_62 : decode cX1_winner 62 = .ok (.lmul, 1) := by decide +kernel
theorem dX1_winner_63 : decode cX1_winner 63 = .ok (.lload 5, 2) := by decide +kernel
theorem dX1_winner_65 : decode cX1_winner 65 = .ok (.lload 13, 2) := by decide +kernel
theorem dX1_winner_67 : decode cX1_winner 67 = .ok (.lmul, 1) := by decide +kernel
theorem dX1_winner_68 : decode cX1_winner 68 = .ok (.lcmp, 1) := by decide +kernel
theorem dX1_winner_69 : decode cX1_winner 69 = .ok (.ifCond .le 15, 3) := by decide +kernel
theorem dX1_winner_72 : decode cX1_winner 72 = .ok (.iload 9, 2) := by decide +kernel
theorem dX1_winner_74 : decode cX1_winner 74 = .ok (.istore 4, 2) := by decide +kernel
theorem dX1_winner_76 : decode cX1_winner 76 = .ok (.lload 11, 2) := by decide +kernel
theorem dX1_winner_78 : decode cX1_winner 78 = .ok (.lstore 5, 2) := by decide +kernel
theorem dX1_winner_80 : decode cX1_winner 80 = .ok (.lload 13, 2) := by decide +kernel
theorem dX1_winner_82 : decode cX1_winner 82 = .ok (.lstore 7, 2) := by decide +kernel
theorem dX1_winner_84 : decode cX1_winner 84 = .ok (.iinc 9 1, 3) := by decide +kernel
theorem dX1_winner_87 : decode cX1_winner 87 = .ok (.goto (-74), 3) := by decide +kernel
theorem dX1_winner_90 : decode cX1_winner 90 = .ok (.iload 4, 2) := by decide +kernel
theorem dX1_winner_92 : decode cX1_winner 92 = .ok (.ireturn, 1) := by decide +kernel
set_option maxRecDepth 20000 in
theorem ggX1_getsWith_X1_winner : GoodIn wsX1_getsWith wsX1_winner := goodIn_r _ [5, 6, 7, 8, 4, 9, 10, 11, 12, 13, 14, 15, 16, 17, 18, 19, 20, 21, 22, 23, 24, 25, 26, 27, 28, 29, 30, 31, 32, 33, 34, 35, 36, 37, 38, 39, 40, 41] (by decide +kernel) (by decide +kernel)
set_option maxRecDepth 20000 in
theorem gX1_getsWith_X1_winner : GoodIn wsX1_getsWith (wsV RX1 107 RX1 yX1_winner wsX1_winner) := goodIn_app (goodIn_of _ (by decide +kernel)) ggX1_getsWith_X1_winner
theorem dX1_getsWith_0 : decode cX1_getsWith 0 = .ok (.aload_n 0, 1) := by decide +kernel
theorem dX1_getsWith_1 : decode cX1_getsWith 1 = .ok (.iload 5, 2) := by decide +kernel
theorem dX1_getsWith_3 : decode cX1_getsWith 3 = .ok (.ifCond .ne 7, 3) := by decide +kernel
theorem dX1_getsWith_6 : decode cX1_getsWith 6 = .ok (.iload_n 1, 1) := by decide +kernel
theorem dX1_getsWith_7 : decode cX1_getsWith 7 = .ok (.goto 4, 3) := by decide +kernel
theorem dX1_getsWith_10 : decode cX1_getsWith 10 = .ok (.iload_n 2, 1) := by decide +kernel
theorem dX1_getsWith_11 : decode cX1_getsWith 11 = .ok (.iload 5, 2) := by decide +kernel
theorem dX1_getsWith_13 : decode cX1_getsWith 13 = .ok (.iconst 1, 1) := by decide +kernel
theorem dX1_getsWith_14 : decode cX1_getsWith 14 = .ok (.if_icmp .ne 7, 3) := by decide +kernel
theorem dX1_getsWith_17 : decode cX1_getsWith 17 = .ok (.iload_n 1, 1) := by decide +kernel
theorem dX1_getsWith_18 : decode cX1_getsWith 18 = .ok (.goto 4, 3) := by decide +kernel
theorem dX1_getsWith_21 : decode cX1_getsWith 21 = .ok (.iload_n 3, 1) := by decide +kernel
theorem dX1_getsWith_22 : decode cX1_getsWith 22 = .ok (.iload 5, 2) := by decide +kernel
theorem dX1_getsWith_24 : decode cX1_getsWith 24 = .ok (.iconst 2, 1) := by decide +kernel
theorem dX1_getsWith_25 : decode cX1_getsWith 25 = .ok (.if_icmp .ne 7, 3) := by decide +kernel
theorem dX1_getsWith_28 : decode cX1_getsWith 28 = .ok (.iload_n 1, 1) := by decide +kernel
theorem dX1_getsWith_29 : decode cX1_getsWith 29 = .ok (.goto 5, 3) := by decide +kernel
theorem dX1_getsWith_32 : decode cX1_getsWith 32 = .ok (.iload 4, 2) := by decide +kernel
theorem dX1_getsWith_34 : decode cX1_getsWith 34 = .ok (.invokevirtual 107, 3) := by decide +kernel
theorem dX1_getsWith_37 : decode cX1_getsWith 37 = .ok (.iload 5, 2) := by decide +kernel
theorem dX1_getsWith_39 : decode cX1_getsWith 39 = .ok (.if_icmp .ne 7, 3) := by decide +kernel
theorem dX1_getsWith_42 : decode cX1_getsWith 42 = .ok (.iconst 1, 1) := by decide +kernel
theorem dX1_getsWith_43 : decode cX1_getsWith 43 = .ok (.goto 4, 3) := by decide +kernel
theorem dX1_getsWith_46 : decode cX1_getsWith 46 = .ok (.iconst 0, 1) := by decide +kernel
theorem dX1_getsWith_47 : decode cX1_getsWith 47 = .ok (.ireturn, 1) := by decide +kernel
set_option maxRecDepth 20000 in
theorem ggX1_leastWinning_X1_bookOf : GoodIn wsX1_leastWinning wsX1_bookOf := goodIn_r _ [5, 6, 7, 8, 43, 44, 45, 46, 47, 48, 49, 50] (by decide +kernel) (by decide +kernel)
set_option maxRecDepth 20000 in
theorem gX1_leastWinning_X1_bookOf : GoodIn wsX1_leastWinning (wsV RX1 54 RX1 yX1_bookOf wsX1_bookOf) := goodIn_app (goodIn_of _ (by decide +kernel)) ggX1_leastWinning_X1_bookOf
set_option maxRecDepth 20000 in
theorem ggX1_leastWinning_X1_getsWith : GoodIn wsX1_leastWinning wsX1_getsWith := goodIn_r _ [12, 13, 14, 15, 4, 16, 17, 18, 19, 20, 1, 2, 3, 5, 6, 7, 8, 21, 22, 23, 24, 25, 26, 27, 28, 29, 30, 31, 32, 43, 44, 45, 46, 47, 48, 49, 50, 38, 39, 40, 41, 42] (by decide +kernel) (by decide +kernel)
set_option maxRecDepth 20000 in
theorem gX1_leastWinning_X1_getsWith : GoodIn wsX1_leastWinning (wsV RX1 115 RX1 yX1_getsWith wsX1_getsWith) := goodIn_app (goodIn_of _ (by decide +kernel)) ggX1_leastWinning_X1_getsWith
set_option maxRecDepth 20000 in
theorem ggX1_leastWinning_X0_worthAt : GoodIn wsX1_leastWinning wsX0_worthAt := goodIn_r _ [36, 26, 37, 38, 39, 40, 41, 42] (by decide +kernel) (by decide +kernel)
set_option maxRecDepth 20000 in
theorem gX1_leastWinning_X0_worthAt : GoodIn wsX1_leastWinning (wsV RX1 61 RX0 yX0_worthAt wsX0_worthAt) := goodIn_app (goodIn_of _ (by decide +kernel)) ggX1_leastWinning_X0_worthAt
theorem dX1_leastWinning_0 : decode cX1_leastWinning 0 = .ok (.aload_n 0, 1) := by decide +kernel
theorem dX1_leastWinning_1 : decode cX1_leastWinning 1 = .ok (.iload 4, 2) := by decide +kernel
theorem dX1_leastWinning_3 : decode cX1_leastWinning 3 = .ok (.invokevirtual 54, 3) := by decide +kernel
theorem dX1_leastWinning_6 : decode cX1_leastWinning 6 = .ok (.astore 5, 2) := by decide +kernel
theorem dX1_leastWinning_8 : decode cX1_leastWinning 8 = .ok (.iconst 0, 1) := by decide +kernel
theorem dX1_leastWinning_9 : decode cX1_leastWinning 9 = .ok (.istore 6, 2) := by decide +kernel
theorem dX1_leastWinning_11 : decode cX1_leastWinning 11 = .ok (.iload 6, 2) := by decide +kernel
theorem dX1_leastWinning_13 : decode cX1_leastWinning 13 = .ok (.aload 5, 2) := by decide +kernel
theorem dX1_leastWinning_15 : decode cX1_leastWinning 15 = .ok (.getfield 58, 3) := by decide +kernel
theorem dX1_leastWinning_18 : decode cX1_leastWinning 18 = .ok (.if_icmp .ge 31, 3) := by decide +kernel
theorem dX1_leastWinning_21 : decode cX1_leastWinning 21 = .ok (.aload_n 0, 1) := by decide +kernel
theorem dX1_leastWinning_22 : decode cX1_leastWinning 22 = .ok (.iload 6, 2) := by decide +kernel
theorem dX1_leastWinning_24 : decode cX1_leastWinning 24 = .ok (.iload_n 1, 1) := by decide +kernel
theorem dX1_leastWinning_25 : decode cX1_leastWinning 25 = .ok (.iload_n 2, 1) := by decide +kernel
theorem dX1_leastWinning_26 : decode cX1_leastWinning 26 = .ok (.iload_n 3, 1) := by decide +kernel
theorem dX1_leastWinning_27 : decode cX1_leastWinning 27 = .ok (.iload 4, 2) := by decide +kernel
theorem dX1_leastWinning_29 : decode cX1_leastWinning 29 = .ok (.invokevirtual 115, 3) := by decide +kernel
theorem dX1_leastWinning_32 : decode cX1_leastWinning 32 = .ok (.ifCond .eq 11, 3) := by decide +kernel
theorem dX1_leastWinning_35 : decode cX1_leastWinning 35 = .ok (.aload 5, 2) := by decide +kernel
theorem dX1_leastWinning_37 : decode cX1_leastWinning 37 = .ok (.iload 6, 2) := by decide +kernel
theorem dX1_leastWinning_39 : decode cX1_leastWinning 39 = .ok (.invokevirtual 61, 3) := by decide +kernel
theorem dX1_leastWinning_42 : decode cX1_leastWinning 42 = .ok (.ireturn, 1) := by decide +kernel
theorem dX1_leastWinning_43 : decode cX1_leastWinning 43 = .ok (.iinc 6 1, 3) := by decide +kernel
theorem dX1_leastWinning_46 : decode cX1_leastWinning 46 = .ok (.goto (-35), 3) := by decide +kernel
theorem dX1_leastWinning_49 : decode cX1_leastWinning 49 = .ok (.iconst 0, 1) := by decide +kernel
theorem dX1_leastWinning_50 : decode cX1_leastWinning 50 = .ok (.ireturn, 1) := by decide +kernel
set_option maxRecDepth 20000 in
theorem ggX1_paidByKind_X1_pick : GoodIn wsX1_paidByKind wsX1_pick := goodIn_r _ [13] (by decide +kernel) (by decide +kernel)
set_option maxRecDepth 20000 in
theorem gX1_paidByKind_X1_pick : GoodIn wsX1_paidByKind (va_wsS RX1 119 yX1_pick wsX1_pick) := goodIn_app (goodIn_of _ (by decide +kernel)) ggX1_paidByKind_X1_pick
set_option maxRecDepth 20000 in
theorem ggX1_paidByKind_X1_priceOf : GoodIn wsX1_paidByKind wsX1_priceOf := goodIn_r _ [17, 9, 6, 7, 4, 8, 18, 19, 20, 21, 22, 23, 24, 25] (by decide +kernel) (by decide +kernel)
set_option maxRecDepth 20000 in
theorem gX1_paidByKind_X1_priceOf : GoodIn wsX1_paidByKind (wsV RX1 179 RX1 yX1_priceOf wsX1_priceOf) := goodIn_app (goodIn_of _ (by decide +kernel)) ggX1_paidByKind_X1_priceOf
theorem dX1_paidByKind_0 : decode cX1_paidByKind 0 = .ok (.iconst (-1), 1) := by decide +kernel
theorem dX1_paidByKind_1 : decode cX1_paidByKind 1 = .ok (.istore 5, 2) := by decide +kernel
theorem dX1_paidByKind_3 : decode cX1_paidByKind 3 = .ok (.iconst 0, 1) := by decide +kernel
theorem dX1_paidByKind_4 : decode cX1_paidByKind 4 = .ok (.istore 6, 2) := by decide +kernel
theorem dX1_paidByKind_6 : decode cX1_paidByKind 6 = .ok (.iconst 0, 1) := by decide +kernel
theorem dX1_paidByKind_7 : decode cX1_paidByKind 7 = .ok (.istore 7, 2) := by decide +kernel
theorem dX1_paidByKind_9 : decode cX1_paidByKind 9 = .ok (.iload 7, 2) := by decide +kernel
theorem dX1_paidByKind_11 : decode cX1_paidByKind 11 = .ok (.aload_n 0, 1) := by decide +kernel
theorem dX1_paidByKind_12 : decode cX1_paidByKind 12 = .ok (.getfield 26, 3) := by decide +kernel
theorem dX1_paidByKind_15 : decode cX1_paidByKind 15 = .ok (.if_icmp .ge 43, 3) := by decide +kernel
theorem dX1_paidByKind_18 : decode cX1_paidByKind 18 = .ok (.iload 7, 2) := by decide +kernel
theorem dX1_paidByKind_20 : decode cX1_paidByKind 20 = .ok (.iload_n 2, 1) := by decide +kernel
theorem dX1_paidByKind_21 : decode cX1_paidByKind 21 = .ok (.iload_n 3, 1) := by decide +kernel
theorem dX1_paidByKind_22 : decode cX1_paidByKind 22 = .ok (.iload 4, 2) := by decide +kernel
theorem dX1_paidByKind_24 : decode cX1_paidByKind 24 = .ok (.invokestatic 119, 3) := by decide +kernel
theorem dX1_paidByKind_27 : decode cX1_paidByKind 27 = .ok (.istore 8, 2) := by decide +kernel
theorem dX1_paidByKind_29 : decode cX1_paidByKind 29 = .ok (.iload 6, 2) := by decide +kernel
theorem dX1_paidByKind_31 : decode cX1_paidByKind 31 = .ok (.iload 8, 2) := by decide +kernel
theorem dX1_paidByKind_33 : decode cX1_paidByKind 33 = .ok (.iload 5, 2) := by decide +kernel
theorem dX1_paidByKind_35 : decode cX1_paidByKind 35 = .ok (.invokestatic 170, 3) := by decide +kernel
theorem dX1_paidByKind_38 : decode cX1_paidByKind 38 = .ok (.invokestatic 176, 3) := by decide +kernel
theorem dX1_paidByKind_41 : decode cX1_paidByKind 41 = .ok (.istore 6, 2) := by decide +kernel
theorem dX1_paidByKind_43 : decode cX1_paidByKind 43 = .ok (.iload 5, 2) := by decide +kernel
theorem dX1_paidByKind_45 : decode cX1_paidByKind 45 = .ok (.iload 8, 2) := by decide +kernel
theorem dX1_paidByKind_47 : decode cX1_paidByKind 47 = .ok (.invokestatic 176, 3) := by decide +kernel
theorem dX1_paidByKind_50 : decode cX1_paidByKind 50 = .ok (.istore 5, 2) := by decide +kernel
theorem dX1_paidByKind_52 : decode cX1_paidByKind 52 = .ok (.iinc 7 1, 3) := by decide +kernel
theorem dX1_paidByKind_55 : decode cX1_paidByKind 55 = .ok (.goto (-46), 3) := by decide +kernel
theorem dX1_paidByKind_58 : decode cX1_paidByKind 58 = .ok (.iload_n 1, 1) := by decide +kernel
theorem dX1_paidByKind_59 : decode cX1_paidByKind 59 = .ok (.ifCond .eq 15, 3) := by decide +kernel
theorem dX1_paidByKind_62 : decode cX1_paidByKind 62 = .ok (.iload 5, 2) := by decide +kernel
theorem dX1_paidByKind_64 : decode cX1_paidByKind 64 = .ok (.aload_n 0, 1) := by decide +kernel
theorem dX1_paidByKind_65 : decode cX1_paidByKind 65 = .ok (.getfield 33, 3) := by decide +kernel
theorem dX1_paidByKind_68 : decode cX1_paidByKind 68 = .ok (.if_icmp .ge 6, 3) := by decide +kernel
theorem dX1_paidByKind_71 : decode cX1_paidByKind 71 = .ok (.bipush (-9), 2) := by decide +kernel
theorem dX1_paidByKind_73 : decode cX1_paidByKind 73 = .ok (.ireturn, 1) := by decide +kernel
theorem dX1_paidByKind_74 : decode cX1_paidByKind 74 = .ok (.aload_n 0, 1) := by decide +kernel
theorem dX1_paidByKind_75 : decode cX1_paidByKind 75 = .ok (.iload_n 1, 1) := by decide +kernel
theorem dX1_paidByKind_76 : decode cX1_paidByKind 76 = .ok (.iload 6, 2) := by decide +kernel
theorem dX1_paidByKind_78 : decode cX1_paidByKind 78 = .ok (.invokevirtual 179, 3) := by decide +kernel
theorem dX1_paidByKind_81 : decode cX1_paidByKind 81 = .ok (.ireturn, 1) := by decide +kernel
theorem dX1_priceOf_0 : decode cX1_priceOf 0 = .ok (.iload_n 2, 1) := by decide +kernel
theorem dX1_priceOf_1 : decode cX1_priceOf 1 = .ok (.istore_n 3, 1) := by decide +kernel
theorem dX1_priceOf_2 : decode cX1_priceOf 2 = .ok (.iload_n 1, 1) := by decide +kernel
theorem dX1_priceOf_3 : decode cX1_priceOf 3 = .ok (.iconst 1, 1) := by decide +kernel
theorem dX1_priceOf_4 : decode cX1_priceOf 4 = .ok (.if_icmp .lt 12, 3) := by decide +kernel
theorem dX1_priceOf_7 : decode cX1_priceOf 7 = .ok (.iload_n 3, 1) := by decide +kernel
theorem dX1_priceOf_8 : decode cX1_priceOf 8 = .ok (.aload_n 0, 1) := by decide +kernel
theorem dX1_priceOf_9 : decode cX1_priceOf 9 = .ok (.getfield 33, 3) := by decide +kernel
theorem dX1_priceOf_12 : decode cX1_priceOf 12 = .ok (.invokestatic 176, 3) := by decide +kernel
theorem dX1_priceOf_15 : decode cX1_priceOf 15 = .ok (.istore_n 3, 1) := by decide +kernel
theorem dX1_priceOf_16 : decode cX1_priceOf 16 = .ok (.iload_n 1, 1) := by decide +kernel
theorem dX1_priceOf_17 : decode cX1_priceOf 17 = .ok (.iconst 2, 1) := by decide +kernel
theorem dX1_priceOf_18 : decode cX1_priceOf 18 = .ok (.if_icmp .lt 10, 3) := by decide +kernel
theorem dX1_priceOf_21 : decode cX1_priceOf 21 = .ok (.iload_n 3, 1) := by decide +kernel
theorem dX1_priceOf_22 : decode cX1_priceOf 22 = .ok (.iload_n 3, 1) := by decide +kernel
theorem dX1_priceOf_23 : decode cX1_priceOf 23 = .ok (.bipush 10, 2) := by decide +kernel
theorem dX1_priceOf_25 : decode cX1_priceOf 25 = .ok (.idiv, 1) := by decide +kernel
theorem dX1_priceOf_26 : decode cX1_priceOf 26 = .ok (.iadd, 1) := by decide +kernel
theorem dX1_priceOf_27 : decode cX1_priceOf 27 = .ok (.istore_n 3, 1) := by decide +kernel
theorem dX1_priceOf_28 : decode cX1_priceOf 28 = .ok (.iload_n 3, 1) := by decide +kernel
theorem dX1_priceOf_29 : decode cX1_priceOf 29 = .ok (.ireturn, 1) := by decide +kernel
theorem dX1_asksOf_0 : decode cX1_asksOf 0 = .ok (.iload_n 0, 1) := by decide +kernel
theorem dX1_asksOf_1 : decode cX1_asksOf 1 = .ok (.iconst 2, 1) := by decide +kernel
theorem dX1_asksOf_2 : decode cX1_asksOf 2 = .ok (.if_icmp .ne 8, 3) := by decide +kernel
theorem dX1_asksOf_5 : decode cX1_asksOf 5 = .ok (.bipush 111, 2) := by decide +kernel
theorem dX1_asksOf_7 : decode cX1_asksOf 7 = .ok (.goto 14, 3) := by decide +kernel
theorem dX1_asksOf_10 : decode cX1_asksOf 10 = .ok (.iload_n 0, 1) := by decide +kernel
theorem dX1_asksOf_11 : decode cX1_asksOf 11 = .ok (.iconst 1, 1) := by decide +kernel
theorem dX1_asksOf_12 : decode cX1_asksOf 12 = .ok (.if_icmp .ne 8, 3) := by decide +kernel
theorem dX1_asksOf_15 : decode cX1_asksOf 15 = .ok (.bipush 11, 2) := by decide +kernel
theorem dX1_asksOf_17 : decode cX1_asksOf 17 = .ok (.goto 4, 3) := by decide +kernel
theorem dX1_asksOf_20 : decode cX1_asksOf 20 = .ok (.iconst 1, 1) := by decide +kernel
theorem dX1_asksOf_21 : decode cX1_asksOf 21 = .ok (.ireturn, 1) := by decide +kernel
set_option maxRecDepth 20000 in
theorem ggX1_meanPaid_X0_weightAt : GoodIn wsX1_meanPaid wsX0_weightAt := goodIn_r _ [8, 9, 10, 94, 95, 96, 97, 98] (by decide +kernel) (by decide +kernel)
set_option maxRecDepth 20000 in
theorem gX1_meanPaid_X0_weightAt : GoodIn wsX1_meanPaid (wsV RX1 71 RX0 yX0_weightAt wsX0_weightAt) := goodIn_app (goodIn_of _ (by decide +kernel)) ggX1_meanPaid_X0_weightAt
set_option maxRecDepth 20000 in
theorem ggX1_meanPaid_X1_paidAt : GoodIn wsX1_meanPaid wsX1_paidAt := goodIn_r _ [15, 1, 2, 3, 16, 17, 18, 14, 19, 20, 21, 22, 23, 24, 25, 26, 27, 28, 29, 30, 7, 31, 9, 32, 33, 34, 35, 36, 37, 38, 39, 40, 41, 42, 43, 44, 45, 46, 47, 48, 49, 50, 51, 52, 53, 54, 55, 56, 57, 58, 59, 60, 61, 62, 63, 64, 65, 66, 86, 87, 88, 89, 90, 91, 92, 93, 94, 95, 96, 97, 98] (by decide +kernel) (by decide +kernel)
set_option maxRecDepth 20000 in
theorem gX1_meanPaid_X1_paidAt : GoodIn wsX1_meanPaid (wsV RX1 182 RX1 yX1_paidAt wsX1_paidAt) := goodIn_app (goodIn_of _ (by decide +kernel)) ggX1_meanPaid_X1_paidAt
set_option maxRecDepth 20000 in
theorem ggX1_meanPaid_X0_allWeights : GoodIn wsX1_meanPaid wsX0_allWeights := goodIn_r _ [70, 71, 72, 73, 7, 74, 75, 60, 57, 61, 9, 10, 94, 95, 96, 97, 98] (by decide +kernel) (by decide +kernel)
set_option maxRecDepth 20000 in
theorem gX1_meanPaid_X0_allWeights : GoodIn wsX1_meanPaid (wsV RX1 80 RX0 yX0_allWeights wsX0_allWeights) := goodIn_app (goodIn_of _ (by decide +kernel)) ggX1_meanPaid_X0_allWeights
set_option maxRecDepth 20000 in
theorem ggX1_meanPaid_X1_leastPart : GoodIn wsX1_meanPaid wsX1_leastPart := goodIn_r _ [78, 79, 80, 57, 81, 82, 83, 84, 14, 85] (by decide +kernel) (by decide +kernel)
set_option maxRecDepth 20000 in
theorem gX1_meanPaid_X1_leastPart : GoodIn wsX1_meanPaid (va_wsS RX1 99 yX1_leastPart wsX1_leastPart) := goodIn_app (goodIn_of _ (by decide +kernel)) ggX1_meanPaid_X1_leastPart
theorem dX1_meanPaid_0 : decode cX1_meanPaid 0 = .ok (.lconst 0, 1) := by decide +kernel
theorem dX1_meanPaid_1 : decode cX1_meanPaid 1 = .ok (.lstore_n 3, 1) := by decide +kernel
theorem dX1_meanPaid_2 : decode cX1_meanPaid 2 = .ok (.iconst 0, 1) := by decide +kernel
theorem dX1_meanPaid_3 : decode cX1_meanPaid 3 = .ok (.istore 5, 2) := by decide +kernel
theorem dX1_meanPaid_5 : decode cX1_meanPaid 5 = .ok (.iload 5, 2) := by decide +kernel
theorem dX1_meanPaid_7 : decode cX1_meanPaid 7 = .ok (.aload_n 0, 1) := by decide +kernel
theorem dX1_meanPaid_8 : decode cX1_meanPaid 8 = .ok (.getfield 10, 3) := by decide +kernel
theorem dX1_meanPaid_11 : decode cX1_meanPaid 11 = .ok (.getfield 58, 3) := by decide +kernel
theorem dX1_meanPaid_14 : decode cX1_meanPaid 14 = .ok (.if_icmp .ge 103, 3) := by decide +kernel
theorem dX1_meanPaid_17 : decode cX1_meanPaid 17 = .ok (.iconst 0, 1) := by decide +kernel
theorem dX1_meanPaid_18 : decode cX1_meanPaid 18 = .ok (.istore 6, 2) := by decide +kernel
theorem dX1_meanPaid_20 : decode cX1_meanPaid 20 = .ok (.iload 6, 2) := by decide +kernel
theorem dX1_meanPaid_22 : decode cX1_meanPaid 22 = .ok (.aload_n 0, 1) := by decide +kernel
theorem dX1_meanPaid_23 : decode cX1_meanPaid 23 = .ok (.getfield 16, 3) := by decide +kernel
theorem dX1_meanPaid_26 : decode cX1_meanPaid 26 = .ok (.getfield 58, 3) := by decide +kernel
theorem dX1_meanPaid_29 : decode cX1_meanPaid 29 = .ok (.if_icmp .ge 82, 3) := by decide +kernel
theorem dX1_meanPaid_32 : decode cX1_meanPaid 32 = .ok (.iconst 0, 1) := by decide +kernel
theorem dX1_meanPaid_33 : decode cX1_meanPaid 33 = .ok (.istore 7, 2) := by decide +kernel
theorem dX1_meanPaid_35 : decode cX1_meanPaid 35 = .ok (.iload 7, 2) := by decide +kernel
theorem dX1_meanPaid_37 : decode cX1_meanPaid 37 = .ok (.aload_n 0, 1) := by decide +kernel
theorem dX1_meanPaid_38 : decode cX1_meanPaid 38 = .ok (.getfield 19, 3) := by decide +kernel
theorem dX1_meanPaid_41 : decode cX1_meanPaid 41 = .ok (.getfield 58, 3) := by decide +kernel
theorem dX1_meanPaid_44 : decode cX1_meanPaid 44 = .ok (.if_icmp .ge 61, 3) := by decide +kernel
theorem dX1_meanPaid_47 : decode cX1_meanPaid 47 = .ok (.aload_n 0, 1) := by decide +kernel
theorem dX1_meanPaid_48 : decode cX1_meanPaid 48 = .ok (.getfield 10, 3) := by decide +kernel
theorem dX1_meanPaid_51 : decode cX1_meanPaid 51 = .ok (.iload 5, 2) := by decide +kernel
theorem dX1_meanPaid_53 : decode cX1_meanPaid 53 = .ok (.invokevirtual 71, 3) := by decide +kernel
theorem dX1_meanPaid_56 : decode cX1_meanPaid 56 = .ok (.i2l, 1) := by decide +kernel
theorem dX1_meanPaid_57 : decode cX1_meanPaid 57 = .ok (.aload_n 0, 1) := by decide +kernel
theorem dX1_meanPaid_58 : decode cX1_meanPaid 58 = .ok (.getfield 16, 3) := by decide +kernel
theorem dX1_meanPaid_61 : decode cX1_meanPaid 61 = .ok (.iload 6, 2) := by decide +kernel
theorem dX1_meanPaid_63 : decode cX1_meanPaid 63 = .ok (.invokevirtual 71, 3) := by decide +kernel
theorem dX1_meanPaid_66 : decode cX1_meanPaid 66 = .ok (.i2l, 1) := by decide +kernel
theorem dX1_meanPaid_67 : decode cX1_meanPaid 67 = .ok (.lmul, 1) := by decide +kernel
theorem dX1_meanPaid_68 : decode cX1_meanPaid 68 = .ok (.aload_n 0, 1) := by decide +kernel
theorem dX1_meanPaid_69 : decode cX1_meanPaid 69 = .ok (.getfield 19, 3) := by decide +kernel
theorem dX1_meanPaid_72 : decode cX1_meanPaid 72 = .ok (.iload 7, 2) := by decide +kernel
theorem dX1_meanPaid_74 : decode cX1_meanPaid 74 = .ok (.invokevirtual 71, 3) := by decide +kernel
theorem dX1_meanPaid_77 : decode cX1_meanPaid 77 = .ok (.i2l, 1) := by decide +kernel
theorem dX1_meanPaid_78 : decode cX1_meanPaid 78 = .ok (.lmul, 1) := by decide +kernel
theorem dX1_meanPaid_79 : decode cX1_meanPaid 79 = .ok (.lstore 8, 2) := by decide +kernel
theorem dX1_meanPaid_81 : decode cX1_meanPaid 81 = .ok (.lload_n 3, 1) := by decide +kernel
theorem dX1_meanPaid_82 : decode cX1_meanPaid 82 = .ok (.lload 8, 2) := by decide +kernel
theorem dX1_meanPaid_84 : decode cX1_meanPaid 84 = .ok (.aload_n 0, 1) := by decide +kernel
theorem dX1_meanPaid_85 : decode cX1_meanPaid 85 = .ok (.iload_n 1, 1) := by decide +kernel
theorem dX1_meanPaid_86 : decode cX1_meanPaid 86 = .ok (.iload 5, 2) := by decide +kernel
theorem dX1_meanPaid_88 : decode cX1_meanPaid 88 = .ok (.iload 6, 2) := by decide +kernel
theorem dX1_meanPaid_90 : decode cX1_meanPaid 90 = .ok (.iload 7, 2) := by decide +kernel
theorem dX1_meanPaid_92 : decode cX1_meanPaid 92 = .ok (.invokevirtual 182, 3) := by decide +kernel
theorem dX1_meanPaid_95 : decode cX1_meanPaid 95 = .ok (.i2l, 1) := by decide +kernel
theorem dX1_meanPaid_96 : decode cX1_meanPaid 96 = .ok (.lmul, 1) := by decide +kernel
theorem dX1_meanPaid_97 : decode cX1_meanPaid 97 = .ok (.ladd, 1) := by decide +kernel
theorem dX1_meanPaid_98 : decode cX1_meanPaid 98 = .ok (.lstore_n 3, 1) := by decide +kernel
theorem dX1_meanPaid_99 : decode cX1_meanPaid 99 = .ok (.iinc 7 1, 3) := by decide +kernel
theorem dX1_meanPaid_102 : decode cX1_meanPaid 102 = .ok (.goto (-67), 3) := by decide +kernel
theorem dX1_meanPaid_105 : decode cX1_meanPaid 105 = .ok (.iinc 6 1, 3) := by decide +kernel
theorem dX1_meanPaid_108 : decode cX1_meanPaid 108 = .ok (.goto (-88), 3) := by decide +kernel
theorem dX1_meanPaid_111 : decode cX1_meanPaid 111 = .ok (.iinc 5 1, 3) := by decide +kernel
theorem dX1_meanPaid_114 : decode cX1_meanPaid 114 = .ok (.goto (-109), 3) := by decide +kernel
theorem dX1_meanPaid_117 : decode cX1_meanPaid 117 = .ok (.aload_n 0, 1) := by decide +kernel
theorem dX1_meanPaid_118 : decode cX1_meanPaid 118 = .ok (.getfield 10, 3) := by decide +kernel
theorem dX1_meanPaid_121 : decode cX1_meanPaid 121 = .ok (.invokevirtual 80, 3) := by decide +kernel
theorem dX1_meanPaid_124 : decode cX1_meanPaid 124 = .ok (.i2l, 1) := by decide +kernel
theorem dX1_meanPaid_125 : decode cX1_meanPaid 125 = .ok (.aload_n 0, 1) := by decide +kernel
theorem dX1_meanPaid_126 : decode cX1_meanPaid 126 = .ok (.getfield 16, 3) := by decide +kernel
theorem dX1_meanPaid_129 : decode cX1_meanPaid 129 = .ok (.invokevirtual 80, 3) := by decide +kernel
theorem dX1_meanPaid_132 : decode cX1_meanPaid 132 = .ok (.i2l, 1) := by decide +kernel
theorem dX1_meanPaid_133 : decode cX1_meanPaid 133 = .ok (.lmul, 1) := by decide +kernel
theorem dX1_meanPaid_134 : decode cX1_meanPaid 134 = .ok (.aload_n 0, 1) := by decide +kernel
theorem dX1_meanPaid_135 : decode cX1_meanPaid 135 = .ok (.getfield 19, 3) := by decide +kernel
theorem dX1_meanPaid_138 : decode cX1_meanPaid 138 = .ok (.invokevirtual 80, 3) := by decide +kernel
theorem dX1_meanPaid_141 : decode cX1_meanPaid 141 = .ok (.i2l, 1) := by decide +kernel
theorem dX1_meanPaid_142 : decode cX1_meanPaid 142 = .ok (.lmul, 1) := by decide +kernel
theorem dX1_meanPaid_143 : decode cX1_meanPaid 143 = .ok (.lstore 5, 2) := by decide +kernel
theorem dX1_meanPaid_145 : decode cX1_meanPaid 145 = .ok (.lload_n 3, 1) := by decide +kernel
theorem dX1_meanPaid_146 : decode cX1_meanPaid 146 = .ok (.lload 5, 2) := by decide +kernel
theorem dX1_meanPaid_148 : decode cX1_meanPaid 148 = .ok (.iload_n 2, 1) := by decide +kernel
theorem dX1_meanPaid_149 : decode cX1_meanPaid 149 = .ok (.invokestatic 99, 3) := by decide +kernel
theorem dX1_meanPaid_152 : decode cX1_meanPaid 152 = .ok (.lreturn, 1) := by decide +kernel
set_option maxRecDepth 20000 in
theorem ggX1_paidAt_X1_winner : GoodIn wsX1_paidAt wsX1_winner := goodIn_r _ [8, 9, 10, 11, 7, 12, 13, 14, 15, 16, 1, 2, 3, 17, 18, 19, 20, 21, 22, 23, 24, 25, 26, 27, 28, 58, 59, 60, 61, 62, 63, 64, 65, 66, 67, 68, 69, 70] (by decide +kernel) (by decide +kernel)
set_option maxRecDepth 20000 in
theorem gX1_paidAt_X1_winner : GoodIn wsX1_paidAt (wsV RX1 107 RX1 yX1_winner wsX1_winner) := goodIn_app (goodIn_of _ (by decide +kernel)) ggX1_paidAt_X1_winner
set_option maxRecDepth 20000 in
theorem ggX1_paidAt_X1_leastWinning : GoodIn wsX1_paidAt wsX1_leastWinning := goodIn_r _ [32, 13, 14, 15, 7, 16, 1, 2, 3, 33, 34, 35, 36, 4, 5, 6, 8, 9, 10, 11, 12, 17, 18, 19, 20, 21, 22, 23, 24, 25, 26, 27, 28, 37, 38, 39, 40, 41, 66, 67, 68, 69, 70, 58, 59, 60, 61, 62, 63, 64, 65] (by decide +kernel) (by decide +kernel)
set_option maxRecDepth 20000 in
theorem gX1_paidAt_X1_leastWinning : GoodIn wsX1_paidAt (wsV RX1 111 RX1 yX1_leastWinning wsX1_leastWinning) := goodIn_app (goodIn_of _ (by decide +kernel)) ggX1_paidAt_X1_leastWinning
set_option maxRecDepth 20000 in
theorem ggX1_paidAt_X0_worthAt : GoodIn wsX1_paidAt wsX0_worthAt := goodIn_r _ [40, 22, 41, 66, 67, 68, 69, 70] (by decide +kernel) (by decide +kernel)
set_option maxRecDepth 20000 in
theorem gX1_paidAt_X0_worthAt : GoodIn wsX1_paidAt (wsV RX1 61 RX0 yX0_worthAt wsX0_worthAt) := goodIn_app (goodIn_of _ (by decide +kernel)) ggX1_paidAt_X0_worthAt
set_option maxRecDepth 20000 in
theorem ggX1_paidAt_X1_paidByKind : GoodIn wsX1_paidAt wsX1_paidByKind := goodIn_r _ [45, 9, 46, 47, 48, 49, 50, 51, 52, 53, 10, 11, 7, 12, 54, 55, 56, 57, 58, 59, 60, 61, 62, 63, 64, 65] (by decide +kernel) (by decide +kernel)
set_option maxRecDepth 20000 in
theorem gX1_paidAt_X1_paidByKind : GoodIn wsX1_paidAt (wsV RX1 132 RX1 yX1_paidByKind wsX1_paidByKind) := goodIn_app (goodIn_of _ (by decide +kernel)) ggX1_paidAt_X1_paidByKind
theorem dX1_paidAt_0 : decode cX1_paidAt 0 = .ok (.iload_n 1, 1) := by decide +kernel
theorem dX1_paidAt_1 : decode cX1_paidAt 1 = .ok (.iconst 3, 1) := by decide +kernel
theorem dX1_paidAt_2 : decode cX1_paidAt 2 = .ok (.if_icmp .ne 35, 3) := by decide +kernel
theorem dX1_paidAt_5 : decode cX1_paidAt 5 = .ok (.aload_n 0, 1) := by decide +kernel
theorem dX1_paidAt_6 : decode cX1_paidAt 6 = .ok (.iload_n 2, 1) := by decide +kernel
theorem dX1_paidAt_7 : decode cX1_paidAt 7 = .ok (.iload_n 3, 1) := by decide +kernel
theorem dX1_paidAt_8 : decode cX1_paidAt 8 = .ok (.iload 4, 2) := by decide +kernel
theorem dX1_paidAt_10 : decode cX1_paidAt 10 = .ok (.invokevirtual 107, 3) := by decide +kernel
theorem dX1_paidAt_13 : decode cX1_paidAt 13 = .ok (.istore 5, 2) := by decide +kernel
theorem dX1_paidAt_15 : decode cX1_paidAt 15 = .ok (.iload 5, 2) := by decide +kernel
theorem dX1_paidAt_17 : decode cX1_paidAt 17 = .ok (.bipush (-9), 2) := by decide +kernel
theorem dX1_paidAt_19 : decode cX1_paidAt 19 = .ok (.if_icmp .ne 7, 3) := by decide +kernel
theorem dX1_paidAt_22 : decode cX1_paidAt 22 = .ok (.iconst 0, 1) := by decide +kernel
theorem dX1_paidAt_23 : decode cX1_paidAt 23 = .ok (.goto 13, 3) := by decide +kernel
theorem dX1_paidAt_26 : decode cX1_paidAt 26 = .ok (.aload_n 0, 1) := by decide +kernel
theorem dX1_paidAt_27 : decode cX1_paidAt 27 = .ok (.iload_n 2, 1) := by decide +kernel
theorem dX1_paidAt_28 : decode cX1_paidAt 28 = .ok (.iload_n 3, 1) := by decide +kernel
theorem dX1_paidAt_29 : decode cX1_paidAt 29 = .ok (.iload 4, 2) := by decide +kernel
theorem dX1_paidAt_31 : decode cX1_paidAt 31 = .ok (.iload 5, 2) := by decide +kernel
theorem dX1_paidAt_33 : decode cX1_paidAt 33 = .ok (.invokevirtual 111, 3) := by decide +kernel
theorem dX1_paidAt_36 : decode cX1_paidAt 36 = .ok (.ireturn, 1) := by decide +kernel
theorem dX1_paidAt_37 : decode cX1_paidAt 37 = .ok (.aload_n 0, 1) := by decide +kernel
theorem dX1_paidAt_38 : decode cX1_paidAt 38 = .ok (.iload_n 1, 1) := by decide +kernel
theorem dX1_paidAt_39 : decode cX1_paidAt 39 = .ok (.aload_n 0, 1) := by decide +kernel
theorem dX1_paidAt_40 : decode cX1_paidAt 40 = .ok (.getfield 10, 3) := by decide +kernel
theorem dX1_paidAt_43 : decode cX1_paidAt 43 = .ok (.iload_n 2, 1) := by decide +kernel
theorem dX1_paidAt_44 : decode cX1_paidAt 44 = .ok (.invokevirtual 61, 3) := by decide +kernel
theorem dX1_paidAt_47 : decode cX1_paidAt 47 = .ok (.aload_n 0, 1) := by decide +kernel
theorem dX1_paidAt_48 : decode cX1_paidAt 48 = .ok (.getfield 16, 3) := by decide +kernel
theorem dX1_paidAt_51 : decode cX1_paidAt 51 = .ok (.iload_n 3, 1) := by decide +kernel
theorem dX1_paidAt_52 : decode cX1_paidAt 52 = .ok (.invokevirtual 61, 3) := by decide +kernel
theorem dX1_paidAt_55 : decode cX1_paidAt 55 = .ok (.aload_n 0, 1) := by decide +kernel
theorem dX1_paidAt_56 : decode cX1_paidAt 56 = .ok (.getfield 19, 3) := by decide +kernel
theorem dX1_paidAt_59 : decode cX1_paidAt 59 = .ok (.iload 4, 2) := by decide +kernel
theorem dX1_paidAt_61 : decode cX1_paidAt 61 = .ok (.invokevirtual 61, 3) := by decide +kernel
theorem dX1_paidAt_64 : decode cX1_paidAt 64 = .ok (.invokevirtual 132, 3) := by decide +kernel
theorem dX1_paidAt_67 : decode cX1_paidAt 67 = .ok (.istore 5, 2) := by decide +kernel
theorem dX1_paidAt_69 : decode cX1_paidAt 69 = .ok (.iload 5, 2) := by decide +kernel
theorem dX1_paidAt_71 : decode cX1_paidAt 71 = .ok (.bipush (-9), 2) := by decide +kernel
theorem dX1_paidAt_73 : decode cX1_paidAt 73 = .ok (.if_icmp .ne 7, 3) := by decide +kernel
theorem dX1_paidAt_76 : decode cX1_paidAt 76 = .ok (.iconst 0, 1) := by decide +kernel
theorem dX1_paidAt_77 : decode cX1_paidAt 77 = .ok (.goto 5, 3) := by decide +kernel
theorem dX1_paidAt_80 : decode cX1_paidAt 80 = .ok (.iload 5, 2) := by decide +kernel
theorem dX1_paidAt_82 : decode cX1_paidAt 82 = .ok (.ireturn, 1) := by decide +kernel
set_option maxRecDepth 20000 in
theorem ggX1_leastPart_X1_commonDivisor : GoodIn wsX1_leastPart wsX1_commonDivisor := goodIn_r _ [9] (by decide +kernel) (by decide +kernel)
set_option maxRecDepth 20000 in
theorem gX1_leastPart_X1_commonDivisor : GoodIn wsX1_leastPart (va_wsS RX1 189 yX1_commonDivisor wsX1_commonDivisor) := goodIn_app (goodIn_of _ (by decide +kernel)) ggX1_leastPart_X1_commonDivisor
theorem dX1_leastPart_0 : decode cX1_leastPart 0 = .ok (.lload_n 0, 1) := by decide +kernel
theorem dX1_leastPart_1 : decode cX1_leastPart 1 = .ok (.invokestatic 185, 3) := by decide +kernel
theorem dX1_leastPart_4 : decode cX1_leastPart 4 = .ok (.lload_n 2, 1) := by decide +kernel
theorem dX1_leastPart_5 : decode cX1_leastPart 5 = .ok (.invokestatic 189, 3) := by decide +kernel
theorem dX1_leastPart_8 : decode cX1_leastPart 8 = .ok (.lstore 5, 2) := by decide +kernel
theorem dX1_leastPart_10 : decode cX1_leastPart 10 = .ok (.lload 5, 2) := by decide +kernel
theorem dX1_leastPart_12 : decode cX1_leastPart 12 = .ok (.lconst 0, 1) := by decide +kernel
theorem dX1_leastPart_13 : decode cX1_leastPart 13 = .ok (.lcmp, 1) := by decide +kernel
theorem dX1_leastPart_14 : decode cX1_leastPart 14 = .ok (.ifCond .gt 7, 3) := by decide +kernel
theorem dX1_leastPart_17 : decode cX1_leastPart 17 = .ok (.ldc2_w 90, 3) := by decide +kernel
theorem dX1_leastPart_20 : decode cX1_leastPart 20 = .ok (.lreturn, 1) := by decide +kernel
theorem dX1_leastPart_21 : decode cX1_leastPart 21 = .ok (.iload 4, 2) := by decide +kernel
theorem dX1_leastPart_23 : decode cX1_leastPart 23 = .ok (.ifCond .ne 7, 3) := by decide +kernel
theorem dX1_leastPart_26 : decode cX1_leastPart 26 = .ok (.lload_n 0, 1) := by decide +kernel
theorem dX1_leastPart_27 : decode cX1_leastPart 27 = .ok (.goto 4, 3) := by decide +kernel
theorem dX1_leastPart_30 : decode cX1_leastPart 30 = .ok (.lload_n 2, 1) := by decide +kernel
theorem dX1_leastPart_31 : decode cX1_leastPart 31 = .ok (.lload 5, 2) := by decide +kernel
theorem dX1_leastPart_33 : decode cX1_leastPart 33 = .ok (.ldiv, 1) := by decide +kernel
theorem dX1_leastPart_34 : decode cX1_leastPart 34 = .ok (.lreturn, 1) := by decide +kernel
theorem dX1_commonDivisor_0 : decode cX1_commonDivisor 0 = .ok (.lload_n 0, 1) := by decide +kernel
theorem dX1_commonDivisor_1 : decode cX1_commonDivisor 1 = .ok (.lstore 4, 2) := by decide +kernel
theorem dX1_commonDivisor_3 : decode cX1_commonDivisor 3 = .ok (.lload_n 2, 1) := by decide +kernel
theorem dX1_commonDivisor_4 : decode cX1_commonDivisor 4 = .ok (.lstore 6, 2) := by decide +kernel
theorem dX1_commonDivisor_6 : decode cX1_commonDivisor 6 = .ok (.iconst 0, 1) := by decide +kernel
theorem dX1_commonDivisor_7 : decode cX1_commonDivisor 7 = .ok (.istore 8, 2) := by decide +kernel
theorem dX1_commonDivisor_9 : decode cX1_commonDivisor 9 = .ok (.iload 8, 2) := by decide +kernel
theorem dX1_commonDivisor_11 : decode cX1_commonDivisor 11 = .ok (.bipush 100, 2) := by decide +kernel
theorem dX1_commonDivisor_13 : decode cX1_commonDivisor 13 = .ok (.if_icmp .ge 31, 3) := by decide +kernel
theorem dX1_commonDivisor_16 : decode cX1_commonDivisor 16 = .ok (.lload 6, 2) := by decide +kernel
theorem dX1_commonDivisor_18 : decode cX1_commonDivisor 18 = .ok (.lconst 0, 1) := by decide +kernel
theorem dX1_commonDivisor_19 : decode cX1_commonDivisor 19 = .ok (.lcmp, 1) := by decide +kernel
theorem dX1_commonDivisor_20 : decode cX1_commonDivisor 20 = .ok (.ifCond .eq 24, 3) := by decide +kernel
theorem dX1_commonDivisor_23 : decode cX1_commonDivisor 23 = .ok (.lload 4, 2) := by decide +kernel
theorem dX1_commonDivisor_25 : decode cX1_commonDivisor 25 = .ok (.lload 6, 2) := by decide +kernel
theorem dX1_commonDivisor_27 : decode cX1_commonDivisor 27 = .ok (.lrem, 1) := by decide +kernel
theorem dX1_commonDivisor_28 : decode cX1_commonDivisor 28 = .ok (.lstore 9, 2) := by decide +kernel
theorem dX1_commonDivisor_30 : decode cX1_commonDivisor 30 = .ok (.lload 6, 2) := by decide +kernel
theorem dX1_commonDivisor_32 : decode cX1_commonDivisor 32 = .ok (.lstore 4, 2) := by decide +kernel
theorem dX1_commonDivisor_34 : decode cX1_commonDivisor 34 = .ok (.lload 9, 2) := by decide +kernel
theorem dX1_commonDivisor_36 : decode cX1_commonDivisor 36 = .ok (.lstore 6, 2) := by decide +kernel
theorem dX1_commonDivisor_38 : decode cX1_commonDivisor 38 = .ok (.iinc 8 1, 3) := by decide +kernel
theorem dX1_commonDivisor_41 : decode cX1_commonDivisor 41 = .ok (.goto (-32), 3) := by decide +kernel
theorem dX1_commonDivisor_44 : decode cX1_commonDivisor 44 = .ok (.lload 4, 2) := by decide +kernel
theorem dX1_commonDivisor_46 : decode cX1_commonDivisor 46 = .ok (.lreturn, 1) := by decide +kernel
set_option maxRecDepth 20000 in
theorem ggX1_bestOffer_X1_offerBrings : GoodIn wsX1_bestOffer wsX1_offerBrings := goodIn_r _ [4, 5, 6, 7, 8, 9, 10, 11, 12, 13, 14, 15, 16, 17, 18, 19, 20, 21, 22, 23, 24, 25, 26, 27, 28, 29, 30, 31, 32, 33, 34] (by decide +kernel) (by decide +kernel)
set_option maxRecDepth 20000 in
theorem gX1_bestOffer_X1_offerBrings : GoodIn wsX1_bestOffer (va_wsS RX1 147 yX1_offerBrings wsX1_offerBrings) := goodIn_app (goodIn_of _ (by decide +kernel)) ggX1_bestOffer_X1_offerBrings
theorem dX1_bestOffer_0 : decode cX1_bestOffer 0 = .ok (.iconst 0, 1) := by decide +kernel
theorem dX1_bestOffer_1 : decode cX1_bestOffer 1 = .ok (.istore 5, 2) := by decide +kernel
theorem dX1_bestOffer_3 : decode cX1_bestOffer 3 = .ok (.iconst 1, 1) := by decide +kernel
theorem dX1_bestOffer_4 : decode cX1_bestOffer 4 = .ok (.istore 6, 2) := by decide +kernel
theorem dX1_bestOffer_6 : decode cX1_bestOffer 6 = .ok (.iload 6, 2) := by decide +kernel
theorem dX1_bestOffer_8 : decode cX1_bestOffer 8 = .ok (.aload_n 0, 1) := by decide +kernel
theorem dX1_bestOffer_9 : decode cX1_bestOffer 9 = .ok (.getfield 58, 3) := by decide +kernel
theorem dX1_bestOffer_12 : decode cX1_bestOffer 12 = .ok (.if_icmp .gt 33, 3) := by decide +kernel
theorem dX1_bestOffer_15 : decode cX1_bestOffer 15 = .ok (.aload_n 0, 1) := by decide +kernel
theorem dX1_bestOffer_16 : decode cX1_bestOffer 16 = .ok (.iload 6, 2) := by decide +kernel
theorem dX1_bestOffer_18 : decode cX1_bestOffer 18 = .ok (.lload_n 1, 1) := by decide +kernel
theorem dX1_bestOffer_19 : decode cX1_bestOffer 19 = .ok (.lload_n 3, 1) := by decide +kernel
theorem dX1_bestOffer_20 : decode cX1_bestOffer 20 = .ok (.invokestatic 147, 3) := by decide +kernel
theorem dX1_bestOffer_23 : decode cX1_bestOffer 23 = .ok (.aload_n 0, 1) := by decide +kernel
theorem dX1_bestOffer_24 : decode cX1_bestOffer 24 = .ok (.iload 5, 2) := by decide +kernel
theorem dX1_bestOffer_26 : decode cX1_bestOffer 26 = .ok (.lload_n 1, 1) := by decide +kernel
theorem dX1_bestOffer_27 : decode cX1_bestOffer 27 = .ok (.lload_n 3, 1) := by decide +kernel
theorem dX1_bestOffer_28 : decode cX1_bestOffer 28 = .ok (.invokestatic 147, 3) := by decide +kernel
theorem dX1_bestOffer_31 : decode cX1_bestOffer 31 = .ok (.lcmp, 1) := by decide +kernel
theorem dX1_bestOffer_32 : decode cX1_bestOffer 32 = .ok (.ifCond .le 7, 3) := by decide +kernel
theorem dX1_bestOffer_35 : decode cX1_bestOffer 35 = .ok (.iload 6, 2) := by decide +kernel
theorem dX1_bestOffer_37 : decode cX1_bestOffer 37 = .ok (.istore 5, 2) := by decide +kernel
theorem dX1_bestOffer_39 : decode cX1_bestOffer 39 = .ok (.iinc 6 1, 3) := by decide +kernel
theorem dX1_bestOffer_42 : decode cX1_bestOffer 42 = .ok (.goto (-36), 3) := by decide +kernel
theorem dX1_bestOffer_45 : decode cX1_bestOffer 45 = .ok (.iload 5, 2) := by decide +kernel
theorem dX1_bestOffer_47 : decode cX1_bestOffer 47 = .ok (.ireturn, 1) := by decide +kernel
set_option maxRecDepth 20000 in
theorem ggX1_offerBrings_X0_takeAt : GoodIn wsX1_offerBrings wsX0_takeAt := goodIn_r _ [5, 6, 7, 8, 4, 9, 10, 11, 12, 13, 14, 15, 16, 17, 18, 19, 20, 26, 27, 28, 29, 30] (by decide +kernel) (by decide +kernel)
set_option maxRecDepth 20000 in
theorem gX1_offerBrings_X0_takeAt : GoodIn wsX1_offerBrings (wsV RX1 77 RX0 yX0_takeAt wsX0_takeAt) := goodIn_app (goodIn_of _ (by decide +kernel)) ggX1_offerBrings_X0_takeAt
set_option maxRecDepth 20000 in
theorem ggX1_offerBrings_X0_allWeights : GoodIn wsX1_offerBrings wsX0_allWeights := goodIn_r _ [24, 12, 13, 14, 4, 15, 16, 17, 18, 19, 10, 20, 26, 27, 28, 29, 30] (by decide +kernel) (by decide +kernel)
set_option maxRecDepth 20000 in
theorem gX1_offerBrings_X0_allWeights : GoodIn wsX1_offerBrings (wsV RX1 80 RX0 yX0_allWeights wsX0_allWeights) := goodIn_app (goodIn_of _ (by decide +kernel)) ggX1_offerBrings_X0_allWeights
set_option maxRecDepth 20000 in
theorem ggX1_offerBrings_X0_shareAt : GoodIn wsX1_offerBrings wsX0_shareAt := goodIn_r _ [15, 16, 17, 18, 19, 10, 20, 26, 27, 28, 29, 30] (by decide +kernel) (by decide +kernel)
set_option maxRecDepth 20000 in
theorem gX1_offerBrings_X0_shareAt : GoodIn wsX1_offerBrings (wsV RX1 74 RX0 yX0_shareAt wsX0_shareAt) := goodIn_app (goodIn_of _ (by decide +kernel)) ggX1_offerBrings_X0_shareAt
theorem dX1_offerBrings_0 : decode cX1_offerBrings 0 = .ok (.aload_n 0, 1) := by decide +kernel
theorem dX1_offerBrings_1 : decode cX1_offerBrings 1 = .ok (.iload_n 1, 1) := by decide +kernel
theorem dX1_offerBrings_2 : decode cX1_offerBrings 2 = .ok (.invokevirtual 77, 3) := by decide +kernel
theorem dX1_offerBrings_5 : decode cX1_offerBrings 5 = .ok (.i2l, 1) := by decide +kernel
theorem dX1_offerBrings_6 : decode cX1_offerBrings 6 = .ok (.lload 4, 2) := by decide +kernel
theorem dX1_offerBrings_8 : decode cX1_offerBrings 8 = .ok (.lmul, 1) := by decide +kernel
theorem dX1_offerBrings_9 : decode cX1_offerBrings 9 = .ok (.aload_n 0, 1) := by decide +kernel
theorem dX1_offerBrings_10 : decode cX1_offerBrings 10 = .ok (.invokevirtual 80, 3) := by decide +kernel
theorem dX1_offerBrings_13 : decode cX1_offerBrings 13 = .ok (.aload_n 0, 1) := by decide +kernel
theorem dX1_offerBrings_14 : decode cX1_offerBrings 14 = .ok (.iload_n 1, 1) := by decide +kernel
theorem dX1_offerBrings_15 : decode cX1_offerBrings 15 = .ok (.invokevirtual 74, 3) := by decide +kernel
theorem dX1_offerBrings_18 : decode cX1_offerBrings 18 = .ok (.isub, 1) := by decide +kernel
theorem dX1_offerBrings_19 : decode cX1_offerBrings 19 = .ok (.i2l, 1) := by decide +kernel
theorem dX1_offerBrings_20 : decode cX1_offerBrings 20 = .ok (.lload_n 2, 1) := by decide +kernel
theorem dX1_offerBrings_21 : decode cX1_offerBrings 21 = .ok (.lmul, 1) := by decide +kernel
theorem dX1_offerBrings_22 : decode cX1_offerBrings 22 = .ok (.ladd, 1) := by decide +kernel
theorem dX1_offerBrings_23 : decode cX1_offerBrings 23 = .ok (.lreturn, 1) := by decide +kernel
set_option maxRecDepth 20000 in
theorem ggX1_bestSum_X0_worthAt : GoodIn wsX1_bestSum wsX0_worthAt := goodIn_r _ [5, 6, 7, 17, 18, 19, 20, 21] (by decide +kernel) (by decide +kernel)
set_option maxRecDepth 20000 in
theorem gX1_bestSum_X0_worthAt : GoodIn wsX1_bestSum (wsV RX1 61 RX0 yX0_worthAt wsX0_worthAt) := goodIn_app (goodIn_of _ (by decide +kernel)) ggX1_bestSum_X0_worthAt
set_option maxRecDepth 20000 in
theorem ggX1_bestSum_X1_pairsFrom : GoodIn wsX1_bestSum wsX1_pairsFrom := goodIn_r _ [11, 1, 2, 3, 4, 5, 6, 7, 12, 13, 14, 15, 16, 17, 18, 19, 20, 21] (by decide +kernel) (by decide +kernel)
set_option maxRecDepth 20000 in
theorem gX1_bestSum_X1_pairsFrom : GoodIn wsX1_bestSum (va_wsS RX1 155 yX1_pairsFrom wsX1_pairsFrom) := goodIn_app (goodIn_of _ (by decide +kernel)) ggX1_bestSum_X1_pairsFrom
theorem dX1_bestSum_0 : decode cX1_bestSum 0 = .ok (.iconst 0, 1) := by decide +kernel
theorem dX1_bestSum_1 : decode cX1_bestSum 1 = .ok (.istore_n 2, 1) := by decide +kernel
theorem dX1_bestSum_2 : decode cX1_bestSum 2 = .ok (.iconst (-1), 1) := by decide +kernel
theorem dX1_bestSum_3 : decode cX1_bestSum 3 = .ok (.istore_n 3, 1) := by decide +kernel
theorem dX1_bestSum_4 : decode cX1_bestSum 4 = .ok (.iconst 0, 1) := by decide +kernel
theorem dX1_bestSum_5 : decode cX1_bestSum 5 = .ok (.istore 4, 2) := by decide +kernel
theorem dX1_bestSum_7 : decode cX1_bestSum 7 = .ok (.iload 4, 2) := by decide +kernel
theorem dX1_bestSum_9 : decode cX1_bestSum 9 = .ok (.aload_n 0, 1) := by decide +kernel
theorem dX1_bestSum_10 : decode cX1_bestSum 10 = .ok (.getfield 58, 3) := by decide +kernel
theorem dX1_bestSum_13 : decode cX1_bestSum 13 = .ok (.if_icmp .ge 78, 3) := by decide +kernel
theorem dX1_bestSum_16 : decode cX1_bestSum 16 = .ok (.iconst 0, 1) := by decide +kernel
theorem dX1_bestSum_17 : decode cX1_bestSum 17 = .ok (.istore 5, 2) := by decide +kernel
theorem dX1_bestSum_19 : decode cX1_bestSum 19 = .ok (.iload 5, 2) := by decide +kernel
theorem dX1_bestSum_21 : decode cX1_bestSum 21 = .ok (.aload_n 1, 1) := by decide +kernel
theorem dX1_bestSum_22 : decode cX1_bestSum 22 = .ok (.getfield 58, 3) := by decide +kernel
theorem dX1_bestSum_25 : decode cX1_bestSum 25 = .ok (.if_icmp .ge 60, 3) := by decide +kernel
theorem dX1_bestSum_28 : decode cX1_bestSum 28 = .ok (.aload_n 0, 1) := by decide +kernel
theorem dX1_bestSum_29 : decode cX1_bestSum 29 = .ok (.iload 4, 2) := by decide +kernel
theorem dX1_bestSum_31 : decode cX1_bestSum 31 = .ok (.invokevirtual 61, 3) := by decide +kernel
theorem dX1_bestSum_34 : decode cX1_bestSum 34 = .ok (.aload_n 1, 1) := by decide +kernel
theorem dX1_bestSum_35 : decode cX1_bestSum 35 = .ok (.iload 5, 2) := by decide +kernel
theorem dX1_bestSum_37 : decode cX1_bestSum 37 = .ok (.invokevirtual 61, 3) := by decide +kernel
theorem dX1_bestSum_40 : decode cX1_bestSum 40 = .ok (.iadd, 1) := by decide +kernel
theorem dX1_bestSum_41 : decode cX1_bestSum 41 = .ok (.istore 6, 2) := by decide +kernel
theorem dX1_bestSum_43 : decode cX1_bestSum 43 = .ok (.iload 6, 2) := by decide +kernel
theorem dX1_bestSum_45 : decode cX1_bestSum 45 = .ok (.aload_n 0, 1) := by decide +kernel
theorem dX1_bestSum_46 : decode cX1_bestSum 46 = .ok (.aload_n 1, 1) := by decide +kernel
theorem dX1_bestSum_47 : decode cX1_bestSum 47 = .ok (.iload 6, 2) := by decide +kernel
theorem dX1_bestSum_49 : decode cX1_bestSum 49 = .ok (.invokestatic 155, 3) := by decide +kernel
theorem dX1_bestSum_52 : decode cX1_bestSum 52 = .ok (.imul, 1) := by decide +kernel
theorem dX1_bestSum_53 : decode cX1_bestSum 53 = .ok (.istore 7, 2) := by decide +kernel
theorem dX1_bestSum_55 : decode cX1_bestSum 55 = .ok (.iload 7, 2) := by decide +kernel
theorem dX1_bestSum_57 : decode cX1_bestSum 57 = .ok (.iload_n 3, 1) := by decide +kernel
theorem dX1_bestSum_58 : decode cX1_bestSum 58 = .ok (.if_icmp .gt 15, 3) := by decide +kernel
theorem dX1_bestSum_61 : decode cX1_bestSum 61 = .ok (.iload 7, 2) := by decide +kernel
theorem dX1_bestSum_63 : decode cX1_bestSum 63 = .ok (.iload_n 3, 1) := by decide +kernel
theorem dX1_bestSum_64 : decode cX1_bestSum 64 = .ok (.if_icmp .ne 15, 3) := by decide +kernel
theorem dX1_bestSum_67 : decode cX1_bestSum 67 = .ok (.iload 6, 2) := by decide +kernel
theorem dX1_bestSum_69 : decode cX1_bestSum 69 = .ok (.iload_n 2, 1) := by decide +kernel
theorem dX1_bestSum_70 : decode cX1_bestSum 70 = .ok (.if_icmp .ge 9, 3) := by decide +kernel
theorem dX1_bestSum_73 : decode cX1_bestSum 73 = .ok (.iload 6, 2) := by decide +kernel
theorem dX1_bestSum_75 : decode cX1_bestSum 75 = .ok (.istore_n 2, 1) := by decide +kernel
theorem dX1_bestSum_76 : decode cX1_bestSum 76 = .ok (.iload 7, 2) := by decide +kernel
theorem dX1_bestSum_78 : decode cX1_bestSum 78 = .ok (.istore_n 3, 1) := by decide +kernel
theorem dX1_bestSum_79 : decode cX1_bestSum 79 = .ok (.iinc 5 1, 3) := by decide +kernel
theorem dX1_bestSum_82 : decode cX1_bestSum 82 = .ok (.goto (-63), 3) := by decide +kernel
theorem dX1_bestSum_85 : decode cX1_bestSum 85 = .ok (.iinc 4 1, 3) := by decide +kernel
theorem dX1_bestSum_88 : decode cX1_bestSum 88 = .ok (.goto (-81), 3) := by decide +kernel
theorem dX1_bestSum_91 : decode cX1_bestSum 91 = .ok (.iload_n 2, 1) := by decide +kernel
theorem dX1_bestSum_92 : decode cX1_bestSum 92 = .ok (.ireturn, 1) := by decide +kernel
set_option maxRecDepth 20000 in
theorem ggX1_pairsFrom_X0_worthAt : GoodIn wsX1_pairsFrom wsX0_worthAt := goodIn_r _ [5, 6, 7, 13, 14, 15, 16, 17] (by decide +kernel) (by decide +kernel)
set_option maxRecDepth 20000 in
theorem gX1_pairsFrom_X0_worthAt : GoodIn wsX1_pairsFrom (wsV RX1 61 RX0 yX0_worthAt wsX0_worthAt) := goodIn_app (goodIn_of _ (by decide +kernel)) ggX1_pairsFrom_X0_worthAt
set_option maxRecDepth 20000 in
theorem ggX1_pairsFrom_X0_weightAt : GoodIn wsX1_pairsFrom wsX0_weightAt := goodIn_r _ [11, 6, 12, 13, 14, 15, 16, 17] (by decide +kernel) (by decide +kernel)
set_option maxRecDepth 20000 in
theorem gX1_pairsFrom_X0_weightAt : GoodIn wsX1_pairsFrom (wsV RX1 71 RX0 yX0_weightAt wsX0_weightAt) := goodIn_app (goodIn_of _ (by decide +kernel)) ggX1_pairsFrom_X0_weightAt
theorem dX1_pairsFrom_0 : decode cX1_pairsFrom 0 = .ok (.iconst 0, 1) := by decide +kernel
theorem dX1_pairsFrom_1 : decode cX1_pairsFrom 1 = .ok (.istore_n 3, 1) := by decide +kernel
theorem dX1_pairsFrom_2 : decode cX1_pairsFrom 2 = .ok (.iconst 0, 1) := by decide +kernel
theorem dX1_pairsFrom_3 : decode cX1_pairsFrom 3 = .ok (.istore 4, 2) := by decide +kernel
theorem dX1_pairsFrom_5 : decode cX1_pairsFrom 5 = .ok (.iload 4, 2) := by decide +kernel
theorem dX1_pairsFrom_7 : decode cX1_pairsFrom 7 = .ok (.aload_n 0, 1) := by decide +kernel
theorem dX1_pairsFrom_8 : decode cX1_pairsFrom 8 = .ok (.getfield 58, 3) := by decide +kernel
theorem dX1_pairsFrom_11 : decode cX1_pairsFrom 11 = .ok (.if_icmp .ge 60, 3) := by decide +kernel
theorem dX1_pairsFrom_14 : decode cX1_pairsFrom 14 = .ok (.iconst 0, 1) := by decide +kernel
theorem dX1_pairsFrom_15 : decode cX1_pairsFrom 15 = .ok (.istore 5, 2) := by decide +kernel
theorem dX1_pairsFrom_17 : decode cX1_pairsFrom 17 = .ok (.iload 5, 2) := by decide +kernel
theorem dX1_pairsFrom_19 : decode cX1_pairsFrom 19 = .ok (.aload_n 1, 1) := by decide +kernel
theorem dX1_pairsFrom_20 : decode cX1_pairsFrom 20 = .ok (.getfield 58, 3) := by decide +kernel
theorem dX1_pairsFrom_23 : decode cX1_pairsFrom 23 = .ok (.if_icmp .ge 42, 3) := by decide +kernel
theorem dX1_pairsFrom_26 : decode cX1_pairsFrom 26 = .ok (.aload_n 0, 1) := by decide +kernel
theorem dX1_pairsFrom_27 : decode cX1_pairsFrom 27 = .ok (.iload 4, 2) := by decide +kernel
theorem dX1_pairsFrom_29 : decode cX1_pairsFrom 29 = .ok (.invokevirtual 61, 3) := by decide +kernel
theorem dX1_pairsFrom_32 : decode cX1_pairsFrom 32 = .ok (.aload_n 1, 1) := by decide +kernel
theorem dX1_pairsFrom_33 : decode cX1_pairsFrom 33 = .ok (.iload 5, 2) := by decide +kernel
theorem dX1_pairsFrom_35 : decode cX1_pairsFrom 35 = .ok (.invokevirtual 61, 3) := by decide +kernel
theorem dX1_pairsFrom_38 : decode cX1_pairsFrom 38 = .ok (.iadd, 1) := by decide +kernel
theorem dX1_pairsFrom_39 : decode cX1_pairsFrom 39 = .ok (.iload_n 2, 1) := by decide +kernel
theorem dX1_pairsFrom_40 : decode cX1_pairsFrom 40 = .ok (.if_icmp .lt 19, 3) := by decide +kernel
theorem dX1_pairsFrom_43 : decode cX1_pairsFrom 43 = .ok (.iload_n 3, 1) := by decide +kernel
theorem dX1_pairsFrom_44 : decode cX1_pairsFrom 44 = .ok (.aload_n 0, 1) := by decide +kernel
theorem dX1_pairsFrom_45 : decode cX1_pairsFrom 45 = .ok (.iload 4, 2) := by decide +kernel
theorem dX1_pairsFrom_47 : decode cX1_pairsFrom 47 = .ok (.invokevirtual 71, 3) := by decide +kernel
theorem dX1_pairsFrom_50 : decode cX1_pairsFrom 50 = .ok (.aload_n 1, 1) := by decide +kernel
theorem dX1_pairsFrom_51 : decode cX1_pairsFrom 51 = .ok (.iload 5, 2) := by decide +kernel
theorem dX1_pairsFrom_53 : decode cX1_pairsFrom 53 = .ok (.invokevirtual 71, 3) := by decide +kernel
theorem dX1_pairsFrom_56 : decode cX1_pairsFrom 56 = .ok (.imul, 1) := by decide +kernel
theorem dX1_pairsFrom_57 : decode cX1_pairsFrom 57 = .ok (.iadd, 1) := by decide +kernel
theorem dX1_pairsFrom_58 : decode cX1_pairsFrom 58 = .ok (.istore_n 3, 1) := by decide +kernel
theorem dX1_pairsFrom_59 : decode cX1_pairsFrom 59 = .ok (.iinc 5 1, 3) := by decide +kernel
theorem dX1_pairsFrom_62 : decode cX1_pairsFrom 62 = .ok (.goto (-45), 3) := by decide +kernel
theorem dX1_pairsFrom_65 : decode cX1_pairsFrom 65 = .ok (.iinc 4 1, 3) := by decide +kernel
theorem dX1_pairsFrom_68 : decode cX1_pairsFrom 68 = .ok (.goto (-63), 3) := by decide +kernel
theorem dX1_pairsFrom_71 : decode cX1_pairsFrom 71 = .ok (.iload_n 3, 1) := by decide +kernel
theorem dX1_pairsFrom_72 : decode cX1_pairsFrom 72 = .ok (.ireturn, 1) := by decide +kernel
set_option maxRecDepth 20000 in
theorem ggX1_bothAlone_X0_bestPlace : GoodIn wsX1_bothAlone wsX0_bestPlace := goodIn_r _ [5, 6, 7, 8, 9, 4, 10, 11, 12, 13, 14, 15, 16, 17, 18, 19, 20, 21, 22, 23, 24, 30, 31, 32, 33, 34] (by decide +kernel) (by decide +kernel)
set_option maxRecDepth 20000 in
theorem gX1_bothAlone_X0_bestPlace : GoodIn wsX1_bothAlone (wsV RX1 84 RX0 yX0_bestPlace wsX0_bestPlace) := goodIn_app (goodIn_of _ (by decide +kernel)) ggX1_bothAlone_X0_bestPlace
set_option maxRecDepth 20000 in
theorem ggX1_bothAlone_X0_takeAt : GoodIn wsX1_bothAlone wsX0_takeAt := goodIn_r _ [10, 11, 12, 13, 4, 14, 6, 15, 16, 17, 18, 19, 20, 21, 22, 23, 24, 30, 31, 32, 33, 34] (by decide +kernel) (by decide +kernel)
set_option maxRecDepth 20000 in
theorem gX1_bothAlone_X0_takeAt : GoodIn wsX1_bothAlone (wsV RX1 77 RX0 yX0_takeAt wsX0_takeAt) := goodIn_app (goodIn_of _ (by decide +kernel)) ggX1_bothAlone_X0_takeAt
set_option maxRecDepth 20000 in
theorem ggX1_bothAlone_X0_allWeights : GoodIn wsX1_bothAlone wsX0_allWeights := goodIn_r _ [29, 16, 17, 18, 4, 19, 20, 21, 22, 23, 6, 24, 30, 31, 32, 33, 34] (by decide +kernel) (by decide +kernel)
set_option maxRecDepth 20000 in
theorem gX1_bothAlone_X0_allWeights : GoodIn wsX1_bothAlone (wsV RX1 80 RX0 yX0_allWeights wsX0_allWeights) := goodIn_app (goodIn_of _ (by decide +kernel)) ggX1_bothAlone_X0_allWeights
theorem dX1_bothAlone_0 : decode cX1_bothAlone 0 = .ok (.aload_n 0, 1) := by decide +kernel
theorem dX1_bothAlone_1 : decode cX1_bothAlone 1 = .ok (.aload_n 0, 1) := by decide +kernel
theorem dX1_bothAlone_2 : decode cX1_bothAlone 2 = .ok (.invokevirtual 84, 3) := by decide +kernel
theorem dX1_bothAlone_5 : decode cX1_bothAlone 5 = .ok (.invokevirtual 77, 3) := by decide +kernel
theorem dX1_bothAlone_8 : decode cX1_bothAlone 8 = .ok (.aload_n 1, 1) := by decide +kernel
theorem dX1_bothAlone_9 : decode cX1_bothAlone 9 = .ok (.invokevirtual 80, 3) := by decide +kernel
theorem dX1_bothAlone_12 : decode cX1_bothAlone 12 = .ok (.imul, 1) := by decide +kernel
theorem dX1_bothAlone_13 : decode cX1_bothAlone 13 = .ok (.aload_n 1, 1) := by decide +kernel
theorem dX1_bothAlone_14 : decode cX1_bothAlone 14 = .ok (.aload_n 1, 1) := by decide +kernel
theorem dX1_bothAlone_15 : decode cX1_bothAlone 15 = .ok (.invokevirtual 84, 3) := by decide +kernel
theorem dX1_bothAlone_18 : decode cX1_bothAlone 18 = .ok (.invokevirtual 77, 3) := by decide +kernel
theorem dX1_bothAlone_21 : decode cX1_bothAlone 21 = .ok (.aload_n 0, 1) := by decide +kernel
theorem dX1_bothAlone_22 : decode cX1_bothAlone 22 = .ok (.invokevirtual 80, 3) := by decide +kernel
theorem dX1_bothAlone_25 : decode cX1_bothAlone 25 = .ok (.imul, 1) := by decide +kernel
theorem dX1_bothAlone_26 : decode cX1_bothAlone 26 = .ok (.iadd, 1) := by decide +kernel
theorem dX1_bothAlone_27 : decode cX1_bothAlone 27 = .ok (.ireturn, 1) := by decide +kernel
theorem dX1_samplesFrom_0 : decode cX1_samplesFrom 0 = .ok (.iconst 0, 1) := by decide +kernel
theorem dX1_samplesFrom_1 : decode cX1_samplesFrom 1 = .ok (.istore_n 2, 1) := by decide +kernel
theorem dX1_samplesFrom_2 : decode cX1_samplesFrom 2 = .ok (.iconst 0, 1) := by decide +kernel
theorem dX1_samplesFrom_3 : decode cX1_samplesFrom 3 = .ok (.istore_n 3, 1) := by decide +kernel
theorem dX1_samplesFrom_4 : decode cX1_samplesFrom 4 = .ok (.iload_n 3, 1) := by decide +kernel
theorem dX1_samplesFrom_5 : decode cX1_samplesFrom 5 = .ok (.aload_n 0, 1) := by decide +kernel
theorem dX1_samplesFrom_6 : decode cX1_samplesFrom 6 = .ok (.getfield 30, 3) := by decide +kernel
theorem dX1_samplesFrom_9 : decode cX1_samplesFrom 9 = .ok (.if_icmp .ge 22, 3) := by decide +kernel
theorem dX1_samplesFrom_12 : decode cX1_samplesFrom 12 = .ok (.aload_n 0, 1) := by decide +kernel
theorem dX1_samplesFrom_13 : decode cX1_samplesFrom 13 = .ok (.getfield 22, 3) := by decide +kernel
theorem dX1_samplesFrom_16 : decode cX1_samplesFrom 16 = .ok (.iload_n 3, 1) := by decide +kernel
theorem dX1_samplesFrom_17 : decode cX1_samplesFrom 17 = .ok (.iaload, 1) := by decide +kernel
theorem dX1_samplesFrom_18 : decode cX1_samplesFrom 18 = .ok (.iload_n 1, 1) := by decide +kernel
theorem dX1_samplesFrom_19 : decode cX1_samplesFrom 19 = .ok (.if_icmp .lt 6, 3) := by decide +kernel
theorem dX1_samplesFrom_22 : decode cX1_samplesFrom 22 = .ok (.iinc 2 1, 3) := by decide +kernel
theorem dX1_samplesFrom_25 : decode cX1_samplesFrom 25 = .ok (.iinc 3 1, 3) := by decide +kernel
theorem dX1_samplesFrom_28 : decode cX1_samplesFrom 28 = .ok (.goto (-24), 3) := by decide +kernel
theorem dX1_samplesFrom_31 : decode cX1_samplesFrom 31 = .ok (.iload_n 2, 1) := by decide +kernel
theorem dX1_samplesFrom_32 : decode cX1_samplesFrom 32 = .ok (.ireturn, 1) := by decide +kernel
set_option maxRecDepth 20000 in
theorem ggX2_init_X2_renews : GoodIn wsX2_init wsX2_renews := goodIn_r _ [17, 6, 7, 8, 18, 19, 20, 21, 22, 23, 24, 25, 26, 27, 28, 29, 30, 31] (by decide +kernel) (by decide +kernel)
set_option maxRecDepth 20000 in
theorem gX2_init_X2_renews : GoodIn wsX2_init (wsV RX2 35 RX2 yX2_renews wsX2_renews) := goodIn_app (goodIn_of _ (by decide +kernel)) ggX2_init_X2_renews
theorem dX2_init_0 : decode cX2_init 0 = .ok (.aload_n 0, 1) := by decide +kernel
theorem dX2_init_1 : decode cX2_init 1 = .ok (.invokespecial 1, 3) := by decide +kernel
theorem dX2_init_4 : decode cX2_init 4 = .ok (.aload_n 0, 1) := by decide +kernel
theorem dX2_init_5 : decode cX2_init 5 = .ok (.iconst 1, 1) := by decide +kernel
theorem dX2_init_6 : decode cX2_init 6 = .ok (.putfield 7, 3) := by decide +kernel
theorem dX2_init_9 : decode cX2_init 9 = .ok (.aload_n 0, 1) := by decide +kernel
theorem dX2_init_10 : decode cX2_init 10 = .ok (.iconst 3, 1) := by decide +kernel
theorem dX2_init_11 : decode cX2_init 11 = .ok (.newarray .int, 2) := by decide +kernel
theorem dX2_init_13 : decode cX2_init 13 = .ok (.putfield 13, 3) := by decide +kernel
theorem dX2_init_16 : decode cX2_init 16 = .ok (.aload_n 0, 1) := by decide +kernel
theorem dX2_init_17 : decode cX2_init 17 = .ok (.bipush 15, 2) := by decide +kernel
theorem dX2_init_19 : decode cX2_init 19 = .ok (.newarray .int, 2) := by decide +kernel
theorem dX2_init_21 : decode cX2_init 21 = .ok (.putfield 17, 3) := by decide +kernel
theorem dX2_init_24 : decode cX2_init 24 = .ok (.aload_n 0, 1) := by decide +kernel
theorem dX2_init_25 : decode cX2_init 25 = .ok (.bipush 15, 2) := by decide +kernel
theorem dX2_init_27 : decode cX2_init 27 = .ok (.newarray .int, 2) := by decide +kernel
theorem dX2_init_29 : decode cX2_init 29 = .ok (.putfield 20, 3) := by decide +kernel
theorem dX2_init_32 : decode cX2_init 32 = .ok (.aload_n 0, 1) := by decide +kernel
theorem dX2_init_33 : decode cX2_init 33 = .ok (.bipush 12, 2) := by decide +kernel
theorem dX2_init_35 : decode cX2_init 35 = .ok (.newarray .int, 2) := by decide +kernel
theorem dX2_init_37 : decode cX2_init 37 = .ok (.putfield 23, 3) := by decide +kernel
theorem dX2_init_40 : decode cX2_init 40 = .ok (.aload_n 0, 1) := by decide +kernel
theorem dX2_init_41 : decode cX2_init 41 = .ok (.iconst 3, 1) := by decide +kernel
theorem dX2_init_42 : decode cX2_init 42 = .ok (.newarray .int, 2) := by decide +kernel
theorem dX2_init_44 : decode cX2_init 44 = .ok (.putfield 26, 3) := by decide +kernel
theorem dX2_init_47 : decode cX2_init 47 = .ok (.aload_n 0, 1) := by decide +kernel
theorem dX2_init_48 : decode cX2_init 48 = .ok (.iconst 3, 1) := by decide +kernel
theorem dX2_init_49 : decode cX2_init 49 = .ok (.newarray .int, 2) := by decide +kernel
theorem dX2_init_51 : decode cX2_init 51 = .ok (.putfield 29, 3) := by decide +kernel
theorem dX2_init_54 : decode cX2_init 54 = .ok (.aload_n 0, 1) := by decide +kernel
theorem dX2_init_55 : decode cX2_init 55 = .ok (.iconst 3, 1) := by decide +kernel
theorem dX2_init_56 : decode cX2_init 56 = .ok (.newarray .int, 2) := by decide +kernel
theorem dX2_init_58 : decode cX2_init 58 = .ok (.putfield 32, 3) := by decide +kernel
theorem dX2_init_61 : decode cX2_init 61 = .ok (.aload_n 0, 1) := by decide +kernel
theorem dX2_init_62 : decode cX2_init 62 = .ok (.invokevirtual 35, 3) := by decide +kernel
theorem dX2_init_65 : decode cX2_init 65 = .ok (.return_, 1) := by decide +kernel
theorem dX2_in_0 : decode cX2_in 0 = .ok (.iload_n 0, 1) := by decide +kernel
theorem dX2_in_1 : decode cX2_in 1 = .ok (.iload_n 1, 1) := by decide +kernel
theorem dX2_in_2 : decode cX2_in 2 = .ok (.if_icmp .lt 12, 3) := by decide +kernel
theorem dX2_in_5 : decode cX2_in 5 = .ok (.iload_n 0, 1) := by decide +kernel
theorem dX2_in_6 : decode cX2_in 6 = .ok (.iload_n 2, 1) := by decide +kernel
theorem dX2_in_7 : decode cX2_in 7 = .ok (.if_icmp .gt 7, 3) := by decide +kernel
theorem dX2_in_10 : decode cX2_in 10 = .ok (.iconst 1, 1) := by decide +kernel
theorem dX2_in_11 : decode cX2_in 11 = .ok (.goto 4, 3) := by decide +kernel
theorem dX2_in_14 : decode cX2_in 14 = .ok (.iconst 0, 1) := by decide +kernel
theorem dX2_in_15 : decode cX2_in 15 = .ok (.ireturn, 1) := by decide +kernel
theorem dX2_renews_0 : decode cX2_renews 0 = .ok (.iconst 0, 1) := by decide +kernel
theorem dX2_renews_1 : decode cX2_renews 1 = .ok (.istore_n 1, 1) := by decide +kernel
theorem dX2_renews_2 : decode cX2_renews 2 = .ok (.iload_n 1, 1) := by decide +kernel
theorem dX2_renews_3 : decode cX2_renews 3 = .ok (.iconst 3, 1) := by decide +kernel
theorem dX2_renews_4 : decode cX2_renews 4 = .ok (.if_icmp .ge 34, 3) := by decide +kernel
theorem dX2_renews_7 : decode cX2_renews 7 = .ok (.aload_n 0, 1) := by decide +kernel
theorem dX2_renews_8 : decode cX2_renews 8 = .ok (.getfield 13, 3) := by decide +kernel
theorem dX2_renews_11 : decode cX2_renews 11 = .ok (.iload_n 1, 1) := by decide +kernel
theorem dX2_renews_12 : decode cX2_renews 12 = .ok (.iconst 1, 1) := by decide +kernel
theorem dX2_renews_13 : decode cX2_renews 13 = .ok (.iastore, 1) := by decide +kernel
theorem dX2_renews_14 : decode cX2_renews 14 = .ok (.aload_n 0, 1) := by decide +kernel
theorem dX2_renews_15 : decode cX2_renews 15 = .ok (.getfield 17, 3) := by decide +kernel
theorem dX2_renews_18 : decode cX2_renews 18 = .ok (.iconst 5, 1) := by decide +kernel
theorem dX2_renews_19 : decode cX2_renews 19 = .ok (.iload_n 1, 1) := by decide +kernel
theorem dX2_renews_20 : decode cX2_renews 20 = .ok (.imul, 1) := by decide +kernel
theorem dX2_renews_21 : decode cX2_renews 21 = .ok (.iconst 0, 1) := by decide +kernel
theorem dX2_renews_22 : decode cX2_renews 22 = .ok (.iastore, 1) := by decide +kernel
theorem dX2_renews_23 : decode cX2_renews 23 = .ok (.aload_n 0, 1) := by decide +kernel
theorem dX2_renews_24 : decode cX2_renews 24 = .ok (.getfield 20, 3) := by decide +kernel
theorem dX2_renews_27 : decode cX2_renews 27 = .ok (.iconst 5, 1) := by decide +kernel
theorem dX2_renews_28 : decode cX2_renews 28 = .ok (.iload_n 1, 1) := by decide +kernel
theorem dX2_renews_29 : decode cX2_renews 29 = .ok (.imul, 1) := by decide +kernel
theorem dX2_renews_30 : decode cX2_renews 30 = .ok (.iconst 1, 1) := by decide +kernel
theorem dX2_renews_31 : decode cX2_renews 31 = .ok (.iastore, 1) := by decide +kernel
theorem dX2_renews_32 : decode cX2_renews 32 = .ok (.iinc 1 1, 3) := by decide +kernel
theorem dX2_renews_35 : decode cX2_renews 35 = .ok (.goto (-33), 3) := by decide +kernel
theorem dX2_renews_38 : decode cX2_renews 38 = .ok (.return_, 1) := by decide +kernel
set_option maxRecDepth 20000 in
theorem ggX2_isBuyer_X2_in : GoodIn wsX2_isBuyer wsX2_in := goodIn_r _ [5] (by decide +kernel) (by decide +kernel)
set_option maxRecDepth 20000 in
theorem gX2_isBuyer_X2_in : GoodIn wsX2_isBuyer (va_wsS RX2 41 yX2_in wsX2_in) := goodIn_app (goodIn_of _ (by decide +kernel)) ggX2_isBuyer_X2_in
theorem dX2_isBuyer_0 : decode cX2_isBuyer 0 = .ok (.iload_n 1, 1) := by decide +kernel
theorem dX2_isBuyer_1 : decode cX2_isBuyer 1 = .ok (.iconst 0, 1) := by decide +kernel
theorem dX2_isBuyer_2 : decode cX2_isBuyer 2 = .ok (.aload_n 0, 1) := by decide +kernel
theorem dX2_isBuyer_3 : decode cX2_isBuyer 3 = .ok (.getfield 7, 3) := by decide +kernel
theorem dX2_isBuyer_6 : decode cX2_isBuyer 6 = .ok (.iconst 1, 1) := by decide +kernel
theorem dX2_isBuyer_7 : decode cX2_isBuyer 7 = .ok (.isub, 1) := by decide +kernel
theorem dX2_isBuyer_8 : decode cX2_isBuyer 8 = .ok (.invokestatic 41, 3) := by decide +kernel
theorem dX2_isBuyer_11 : decode cX2_isBuyer 11 = .ok (.ireturn, 1) := by decide +kernel
end
section
set_option maxRecDepth 20000 in
theorem ggX2_buyers_X2_in : GoodIn wsX2_buyers wsX2_in := goodIn_r _ [6] (by decide +kernel) (by decide +kernel)
set_option maxRecDepth 20000 in
theorem gX2_buyers_X2_in : GoodIn wsX2_buyers (va_wsS RX2 41 yX2_in wsX2_in) := goodIn_app (goodIn_of _ (by decide +kernel)) ggX2_buyers_X2_in
set_option maxRecDepth 20000 in
theorem ggX2_buyers_X2_renews : GoodIn wsX2_buyers wsX2_renews := goodIn_r _ [10, 11, 12, 13, 14, 15, 16, 17, 18, 19, 20, 21, 22, 23, 24, 25, 26, 27] (by decide +kernel) (by decide +kernel)
set_option maxRecDepth 20000 in
theorem gX2_buyers_X2_renews : GoodIn wsX2_buyers (wsV RX2 35 RX2 yX2_renews wsX2_renews) := goodIn_app (goodIn_of _ (by decide +kernel)) ggX2_buyers_X2_renews
theorem dX2_buyers_0 : decode cX2_buyers 0 = .ok (.aload_n 0, 1) := by decide +kernel
theorem dX2_buyers_1 : decode cX2_buyers 1 = .ok (.iconst 0, 1) := by decide +kernel
theorem dX2_buyers_2 : decode cX2_buyers 2 = .ok (.putfield 38, 3) := by decide +kernel
theorem dX2_buyers_5 : decode cX2_buyers 5 = .ok (.iload_n 1, 1) := by decide +kernel
theorem dX2_buyers_6 : decode cX2_buyers 6 = .ok (.iconst 1, 1) := by decide +kernel
theorem dX2_buyers_7 : decode cX2_buyers 7 = .ok (.iconst 3, 1) := by decide +kernel
theorem dX2_buyers_8 : decode cX2_buyers 8 = .ok (.invokestatic 41, 3) := by decide +kernel
theorem dX2_buyers_11 : decode cX2_buyers 11 = .ok (.ifCond .ne 5, 3) := by decide +kernel
theorem dX2_buyers_14 : decode cX2_buyers 14 = .ok (.iconst (-1), 1) := by decide +kernel
theorem dX2_buyers_15 : decode cX2_buyers 15 = .ok (.ireturn, 1) := by decide +kernel
theorem dX2_buyers_16 : decode cX2_buyers 16 = .ok (.aload_n 0, 1) := by decide +kernel
theorem dX2_buyers_17 : decode cX2_buyers 17 = .ok (.getfield 7, 3) := by decide +kernel
theorem dX2_buyers_20 : decode cX2_buyers 20 = .ok (.istore_n 2, 1) := by decide +kernel
theorem dX2_buyers_21 : decode cX2_buyers 21 = .ok (.aload_n 0, 1) := by decide +kernel
theorem dX2_buyers_22 : decode cX2_buyers 22 = .ok (.iload_n 1, 1) := by decide +kernel
theorem dX2_buyers_23 : decode cX2_buyers 23 = .ok (.putfield 7, 3) := by decide +kernel
theorem dX2_buyers_26 : decode cX2_buyers 26 = .ok (.aload_n 0, 1) := by decide +kernel
theorem dX2_buyers_27 : decode cX2_buyers 27 = .ok (.invokevirtual 35, 3) := by decide +kernel
theorem dX2_buyers_30 : decode cX2_buyers 30 = .ok (.iload_n 2, 1) := by decide +kernel
theorem dX2_buyers_31 : decode cX2_buyers 31 = .ok (.ireturn, 1) := by decide +kernel
set_option maxRecDepth 20000 in
theorem ggX2_book_X2_isBuyer : GoodIn wsX2_book wsX2_isBuyer := goodIn_r _ [9, 10, 11, 12, 8, 13, 14, 15, 16, 17, 18, 19, 20, 21, 22, 23, 24, 25, 26, 27] (by decide +kernel) (by decide +kernel)
set_option maxRecDepth 20000 in
theorem gX2_book_X2_isBuyer : GoodIn wsX2_book (wsV RX2 45 RX2 yX2_isBuyer wsX2_isBuyer) := goodIn_app (goodIn_of _ (by decide +kernel)) ggX2_book_X2_isBuyer
set_option maxRecDepth 20000 in
theorem ggX2_book_X2_in : GoodIn wsX2_book wsX2_in := goodIn_r _ [13] (by decide +kernel) (by decide +kernel)
set_option maxRecDepth 20000 in
theorem gX2_book_X2_in : GoodIn wsX2_book (va_wsS RX2 41 yX2_in wsX2_in) := goodIn_app (goodIn_of _ (by decide +kernel)) ggX2_book_X2_in
theorem dX2_book_0 : decode cX2_book 0 = .ok (.aload_n 0, 1) := by decide +kernel
theorem dX2_book_1 : decode cX2_book 1 = .ok (.iconst 0, 1) := by decide +kernel
theorem dX2_book_2 : decode cX2_book 2 = .ok (.putfield 38, 3) := by decide +kernel
theorem dX2_book_5 : decode cX2_book 5 = .ok (.aload_n 0, 1) := by decide +kernel
theorem dX2_book_6 : decode cX2_book 6 = .ok (.iload_n 1, 1) := by decide +kernel
theorem dX2_book_7 : decode cX2_book 7 = .ok (.invokevirtual 45, 3) := by decide +kernel
theorem dX2_book_10 : decode cX2_book 10 = .ok (.ifCond .eq 24, 3) := by decide +kernel
theorem dX2_book_13 : decode cX2_book 13 = .ok (.iload_n 2, 1) := by decide +kernel
theorem dX2_book_14 : decode cX2_book 14 = .ok (.iconst 0, 1) := by decide +kernel
theorem dX2_book_15 : decode cX2_book 15 = .ok (.sipush 1000, 3) := by decide +kernel
theorem dX2_book_18 : decode cX2_book 18 = .ok (.invokestatic 41, 3) := by decide +kernel
theorem dX2_book_21 : decode cX2_book 21 = .ok (.ifCond .eq 13, 3) := by decide +kernel
theorem dX2_book_24 : decode cX2_book 24 = .ok (.iload_n 3, 1) := by decide +kernel
theorem dX2_book_25 : decode cX2_book 25 = .ok (.iconst 1, 1) := by decide +kernel
theorem dX2_book_26 : decode cX2_book 26 = .ok (.bipush 9, 2) := by decide +kernel
theorem dX2_book_28 : decode cX2_book 28 = .ok (.invokestatic 41, 3) := by decide +kernel
theorem dX2_book_31 : decode cX2_book 31 = .ok (.ifCond .ne 5, 3) := by decide +kernel
theorem dX2_book_34 : decode cX2_book 34 = .ok (.iconst (-1), 1) := by decide +kernel
theorem dX2_book_35 : decode cX2_book 35 = .ok (.ireturn, 1) := by decide +kernel
theorem dX2_book_36 : decode cX2_book 36 = .ok (.aload_n 0, 1) := by decide +kernel
theorem dX2_book_37 : decode cX2_book 37 = .ok (.getfield 13, 3) := by decide +kernel
theorem dX2_book_40 : decode cX2_book 40 = .ok (.iload_n 1, 1) := by decide +kernel
theorem dX2_book_41 : decode cX2_book 41 = .ok (.iconst 1, 1) := by decide +kernel
theorem dX2_book_42 : decode cX2_book 42 = .ok (.iastore, 1) := by decide +kernel
theorem dX2_book_43 : decode cX2_book 43 = .ok (.aload_n 0, 1) := by decide +kernel
theorem dX2_book_44 : decode cX2_book 44 = .ok (.getfield 17, 3) := by decide +kernel
theorem dX2_book_47 : decode cX2_book 47 = .ok (.iconst 5, 1) := by decide +kernel
theorem dX2_book_48 : decode cX2_book 48 = .ok (.iload_n 1, 1) := by decide +kernel
theorem dX2_book_49 : decode cX2_book 49 = .ok (.imul, 1) := by decide +kernel
theorem dX2_book_50 : decode cX2_book 50 = .ok (.iload_n 2, 1) := by decide +kernel
theorem dX2_book_51 : decode cX2_book 51 = .ok (.iastore, 1) := by decide +kernel
theorem dX2_book_52 : decode cX2_book 52 = .ok (.aload_n 0, 1) := by decide +kernel
theorem dX2_book_53 : decode cX2_book 53 = .ok (.getfield 20, 3) := by decide +kernel
theorem dX2_book_56 : decode cX2_book 56 = .ok (.iconst 5, 1) := by decide +kernel
theorem dX2_book_57 : decode cX2_book 57 = .ok (.iload_n 1, 1) := by decide +kernel
theorem dX2_book_58 : decode cX2_book 58 = .ok (.imul, 1) := by decide +kernel
theorem dX2_book_59 : decode cX2_book 59 = .ok (.iload_n 3, 1) := by decide +kernel
theorem dX2_book_60 : decode cX2_book 60 = .ok (.iastore, 1) := by decide +kernel
theorem dX2_book_61 : decode cX2_book 61 = .ok (.iconst 1, 1) := by decide +kernel
theorem dX2_book_62 : decode cX2_book 62 = .ok (.ireturn, 1) := by decide +kernel
set_option maxRecDepth 20000 in
theorem ggX2_more_X2_isBuyer : GoodIn wsX2_more wsX2_isBuyer := goodIn_r _ [9, 10, 11, 12, 8, 13, 14, 15, 16, 17, 18, 19, 20, 21, 22, 23, 24, 25, 26, 27] (by decide +kernel) (by decide +kernel)
set_option maxRecDepth 20000 in
theorem gX2_more_X2_isBuyer : GoodIn wsX2_more (wsV RX2 45 RX2 yX2_isBuyer wsX2_isBuyer) := goodIn_app (goodIn_of _ (by decide +kernel)) ggX2_more_X2_isBuyer
set_option maxRecDepth 20000 in
theorem ggX2_more_X2_in : GoodIn wsX2_more wsX2_in := goodIn_r _ [13] (by decide +kernel) (by decide +kernel)
set_option maxRecDepth 20000 in
theorem gX2_more_X2_in : GoodIn wsX2_more (va_wsS RX2 41 yX2_in wsX2_in) := goodIn_app (goodIn_of _ (by decide +kernel)) ggX2_more_X2_in
theorem dX2_more_0 : decode cX2_more 0 = .ok (.aload_n 0, 1) := by decide +kernel
theorem dX2_more_1 : decode cX2_more 1 = .ok (.iconst 0, 1) := by decide +kernel
theorem dX2_more_2 : decode cX2_more 2 = .ok (.putfield 38, 3) := by decide +kernel
theorem dX2_more_5 : decode cX2_more 5 = .ok (.aload_n 0, 1) := by decide +kernel
theorem dX2_more_6 : decode cX2_more 6 = .ok (.iload_n 1, 1) := by decide +kernel
theorem dX2_more_7 : decode cX2_more 7 = .ok (.invokevirtual 45, 3) := by decide +kernel
theorem dX2_more_10 : decode cX2_more 10 = .ok (.ifCond .eq 45, 3) := by decide +kernel
theorem dX2_more_13 : decode cX2_more 13 = .ok (.iload_n 2, 1) := by decide +kernel
theorem dX2_more_14 : decode cX2_more 14 = .ok (.iconst 0, 1) := by decide +kernel
theorem dX2_more_15 : decode cX2_more 15 = .ok (.sipush 1000, 3) := by decide +kernel
theorem dX2_more_18 : decode cX2_more 18 = .ok (.invokestatic 41, 3) := by decide +kernel
theorem dX2_more_21 : decode cX2_more 21 = .ok (.ifCond .eq 34, 3) := by decide +kernel
theorem dX2_more_24 : decode cX2_more 24 = .ok (.iload_n 3, 1) := by decide +kernel
theorem dX2_more_25 : decode cX2_more 25 = .ok (.iconst 1, 1) := by decide +kernel
theorem dX2_more_26 : decode cX2_more 26 = .ok (.bipush 9, 2) := by decide +kernel
theorem dX2_more_28 : decode cX2_more 28 = .ok (.invokestatic 41, 3) := by decide +kernel
theorem dX2_more_31 : decode cX2_more 31 = .ok (.ifCond .eq 24, 3) := by decide +kernel
theorem dX2_more_34 : decode cX2_more 34 = .ok (.iload_n 2, 1) := by decide +kernel
theorem dX2_more_35 : decode cX2_more 35 = .ok (.aload_n 0, 1) := by decide +kernel
theorem dX2_more_36 : decode cX2_more 36 = .ok (.getfield 17, 3) := by decide +kernel
theorem dX2_more_39 : decode cX2_more 39 = .ok (.iconst 5, 1) := by decide +kernel
theorem dX2_more_40 : decode cX2_more 40 = .ok (.iload_n 1, 1) := by decide +kernel
theorem dX2_more_41 : decode cX2_more 41 = .ok (.imul, 1) := by decide +kernel
theorem dX2_more_42 : decode cX2_more 42 = .ok (.aload_n 0, 1) := by decide +kernel
theorem dX2_more_43 : decode cX2_more 43 = .ok (.getfield 13, 3) := by decide +kernel
theorem dX2_more_46 : decode cX2_more 46 = .ok (.iload_n 1, 1) := by decide +kernel
theorem dX2_more_47 : decode cX2_more 47 = .ok (.iaload, 1) := by decide +kernel
theorem dX2_more_48 : decode cX2_more 48 = .ok (.iadd, 1) := by decide +kernel
theorem dX2_more_49 : decode cX2_more 49 = .ok (.iconst 1, 1) := by decide +kernel
theorem dX2_more_50 : decode cX2_more 50 = .ok (.isub, 1) := by decide +kernel
theorem dX2_more_51 : decode cX2_more 51 = .ok (.iaload, 1) := by decide +kernel
theorem dX2_more_52 : decode cX2_more 52 = .ok (.if_icmp .gt 5, 3) := by decide +kernel
theorem dX2_more_55 : decode cX2_more 55 = .ok (.iconst (-1), 1) := by decide +kernel
theorem dX2_more_56 : decode cX2_more 56 = .ok (.ireturn, 1) := by decide +kernel
theorem dX2_more_57 : decode cX2_more 57 = .ok (.aload_n 0, 1) := by decide +kernel
theorem dX2_more_58 : decode cX2_more 58 = .ok (.getfield 13, 3) := by decide +kernel
theorem dX2_more_61 : decode cX2_more 61 = .ok (.iload_n 1, 1) := by decide +kernel
theorem dX2_more_62 : decode cX2_more 62 = .ok (.iaload, 1) := by decide +kernel
theorem dX2_more_63 : decode cX2_more 63 = .ok (.iconst 5, 1) := by decide +kernel
theorem dX2_more_64 : decode cX2_more 64 = .ok (.if_icmp .ne 6, 3) := by decide +kernel
theorem dX2_more_67 : decode cX2_more 67 = .ok (.bipush (-3), 2) := by decide +kernel
theorem dX2_more_69 : decode cX2_more 69 = .ok (.ireturn, 1) := by decide +kernel
theorem dX2_more_70 : decode cX2_more 70 = .ok (.aload_n 0, 1) := by decide +kernel
theorem dX2_more_71 : decode cX2_more 71 = .ok (.getfield 17, 3) := by decide +kernel
theorem dX2_more_74 : decode cX2_more 74 = .ok (.iconst 5, 1) := by decide +kernel
theorem dX2_more_75 : decode cX2_more 75 = .ok (.iload_n 1, 1) := by decide +kernel
theorem dX2_more_76 : decode cX2_more 76 = .ok (.imul, 1) := by decide +kernel
theorem dX2_more_77 : decode cX2_more 77 = .ok (.aload_n 0, 1) := by decide +kernel
theorem dX2_more_78 : decode cX2_more 78 = .ok (.getfield 13, 3) := by decide +kernel
theorem dX2_more_81 : decode cX2_more 81 = .ok (.iload_n 1, 1) := by decide +kernel
theorem dX2_more_82 : decode cX2_more 82 = .ok (.iaload, 1) := by decide +kernel
theorem dX2_more_83 : decode cX2_more 83 = .ok (.iadd, 1) := by decide +kernel
theorem dX2_more_84 : decode cX2_more 84 = .ok (.iload_n 2, 1) := by decide +kernel
theorem dX2_more_85 : decode cX2_more 85 = .ok (.iastore, 1) := by decide +kernel
theorem dX2_more_86 : decode cX2_more 86 = .ok (.aload_n 0, 1) := by decide +kernel
theorem dX2_more_87 : decode cX2_more 87 = .ok (.getfield 20, 3) := by decide +kernel
theorem dX2_more_90 : decode cX2_more 90 = .ok (.iconst 5, 1) := by decide +kernel
theorem dX2_more_91 : decode cX2_more 91 = .ok (.iload_n 1, 1) := by decide +kernel
theorem dX2_more_92 : decode cX2_more 92 = .ok (.imul, 1) := by decide +kernel
theorem dX2_more_93 : decode cX2_more 93 = .ok (.aload_n 0, 1) := by decide +kernel
theorem dX2_more_94 : decode cX2_more 94 = .ok (.getfield 13, 3) := by decide +kernel
theorem dX2_more_97 : decode cX2_more 97 = .ok (.iload_n 1, 1) := by decide +kernel
theorem dX2_more_98 : decode cX2_more 98 = .ok (.iaload, 1) := by decide +kernel
theorem dX2_more_99 : decode cX2_more 99 = .ok (.iadd, 1) := by decide +kernel
theorem dX2_more_100 : decode cX2_more 100 = .ok (.iload_n 3, 1) := by decide +kernel
theorem dX2_more_101 : decode cX2_more 101 = .ok (.iastore, 1) := by decide +kernel
theorem dX2_more_102 : decode cX2_more 102 = .ok (.aload_n 0, 1) := by decide +kernel
theorem dX2_more_103 : decode cX2_more 103 = .ok (.getfield 13, 3) := by decide +kernel
theorem dX2_more_106 : decode cX2_more 106 = .ok (.iload_n 1, 1) := by decide +kernel
theorem dX2_more_107 : decode cX2_more 107 = .ok (.dup2, 1) := by decide +kernel
theorem dX2_more_108 : decode cX2_more 108 = .ok (.iaload, 1) := by decide +kernel
theorem dX2_more_109 : decode cX2_more 109 = .ok (.iconst 1, 1) := by decide +kernel
theorem dX2_more_110 : decode cX2_more 110 = .ok (.iadd, 1) := by decide +kernel
theorem dX2_more_111 : decode cX2_more 111 = .ok (.iastore, 1) := by decide +kernel
theorem dX2_more_112 : decode cX2_more 112 = .ok (.aload_n 0, 1) := by decide +kernel
theorem dX2_more_113 : decode cX2_more 113 = .ok (.getfield 13, 3) := by decide +kernel
theorem dX2_more_116 : decode cX2_more 116 = .ok (.iload_n 1, 1) := by decide +kernel
theorem dX2_more_117 : decode cX2_more 117 = .ok (.iaload, 1) := by decide +kernel
theorem dX2_more_118 : decode cX2_more 118 = .ok (.ireturn, 1) := by decide +kernel
theorem dX2_share_0 : decode cX2_share 0 = .ok (.iconst 0, 1) := by decide +kernel
theorem dX2_share_1 : decode cX2_share 1 = .ok (.istore_n 3, 1) := by decide +kernel
theorem dX2_share_2 : decode cX2_share 2 = .ok (.iload_n 2, 1) := by decide +kernel
theorem dX2_share_3 : decode cX2_share 3 = .ok (.istore 4, 2) := by decide +kernel
theorem dX2_share_5 : decode cX2_share 5 = .ok (.iload 4, 2) := by decide +kernel
theorem dX2_share_7 : decode cX2_share 7 = .ok (.aload_n 0, 1) := by decide +kernel
theorem dX2_share_8 : decode cX2_share 8 = .ok (.getfield 13, 3) := by decide +kernel
theorem dX2_share_11 : decode cX2_share 11 = .ok (.iload_n 1, 1) := by decide +kernel
theorem dX2_share_12 : decode cX2_share 12 = .ok (.iaload, 1) := by decide +kernel
theorem dX2_share_13 : decode cX2_share 13 = .ok (.if_icmp .ge 23, 3) := by decide +kernel
theorem dX2_share_16 : decode cX2_share 16 = .ok (.iload_n 3, 1) := by decide +kernel
theorem dX2_share_17 : decode cX2_share 17 = .ok (.aload_n 0, 1) := by decide +kernel
theorem dX2_share_18 : decode cX2_share 18 = .ok (.getfield 20, 3) := by decide +kernel
theorem dX2_share_21 : decode cX2_share 21 = .ok (.iconst 5, 1) := by decide +kernel
theorem dX2_share_22 : decode cX2_share 22 = .ok (.iload_n 1, 1) := by decide +kernel
theorem dX2_share_23 : decode cX2_share 23 = .ok (.imul, 1) := by decide +kernel
theorem dX2_share_24 : decode cX2_share 24 = .ok (.iload 4, 2) := by decide +kernel
theorem dX2_share_26 : decode cX2_share 26 = .ok (.iadd, 1) := by decide +kernel
theorem dX2_share_27 : decode cX2_share 27 = .ok (.iaload, 1) := by decide +kernel
theorem dX2_share_28 : decode cX2_share 28 = .ok (.iadd, 1) := by decide +kernel
theorem dX2_share_29 : decode cX2_share 29 = .ok (.istore_n 3, 1) := by decide +kernel
theorem dX2_share_30 : decode cX2_share 30 = .ok (.iinc 4 1, 3) := by decide +kernel
theorem dX2_share_33 : decode cX2_share 33 = .ok (.goto (-28), 3) := by decide +kernel
theorem dX2_share_36 : decode cX2_share 36 = .ok (.iload_n 3, 1) := by decide +kernel
theorem dX2_share_37 : decode cX2_share 37 = .ok (.ireturn, 1) := by decide +kernel
set_option maxRecDepth 20000 in
theorem ggX2_take_X2_share : GoodIn wsX2_take wsX2_share := goodIn_r _ [7, 1, 8, 9, 10, 11, 12, 13, 14, 15, 16, 17, 18, 19, 20, 21, 22] (by decide +kernel) (by decide +kernel)
set_option maxRecDepth 20000 in
theorem gX2_take_X2_share : GoodIn wsX2_take (wsV RX2 49 RX2 yX2_share wsX2_share) := goodIn_app (goodIn_of _ (by decide +kernel)) ggX2_take_X2_share
theorem dX2_take_0 : decode cX2_take 0 = .ok (.iload_n 2, 1) := by decide +kernel
theorem dX2_take_1 : decode cX2_take 1 = .ok (.aload_n 0, 1) := by decide +kernel
theorem dX2_take_2 : decode cX2_take 2 = .ok (.getfield 13, 3) := by decide +kernel
theorem dX2_take_5 : decode cX2_take 5 = .ok (.iload_n 1, 1) := by decide +kernel
theorem dX2_take_6 : decode cX2_take 6 = .ok (.iaload, 1) := by decide +kernel
theorem dX2_take_7 : decode cX2_take 7 = .ok (.if_icmp .ne 7, 3) := by decide +kernel
theorem dX2_take_10 : decode cX2_take 10 = .ok (.iconst 0, 1) := by decide +kernel
theorem dX2_take_11 : decode cX2_take 11 = .ok (.goto 20, 3) := by decide +kernel
theorem dX2_take_14 : decode cX2_take 14 = .ok (.aload_n 0, 1) := by decide +kernel
theorem dX2_take_15 : decode cX2_take 15 = .ok (.getfield 17, 3) := by decide +kernel
theorem dX2_take_18 : decode cX2_take 18 = .ok (.iconst 5, 1) := by decide +kernel
theorem dX2_take_19 : decode cX2_take 19 = .ok (.iload_n 1, 1) := by decide +kernel
theorem dX2_take_20 : decode cX2_take 20 = .ok (.imul, 1) := by decide +kernel
theorem dX2_take_21 : decode cX2_take 21 = .ok (.iload_n 2, 1) := by decide +kernel
theorem dX2_take_22 : decode cX2_take 22 = .ok (.iadd, 1) := by decide +kernel
theorem dX2_take_23 : decode cX2_take 23 = .ok (.iaload, 1) := by decide +kernel
theorem dX2_take_24 : decode cX2_take 24 = .ok (.aload_n 0, 1) := by decide +kernel
theorem dX2_take_25 : decode cX2_take 25 = .ok (.iload_n 1, 1) := by decide +kernel
theorem dX2_take_26 : decode cX2_take 26 = .ok (.iload_n 2, 1) := by decide +kernel
theorem dX2_take_27 : decode cX2_take 27 = .ok (.invokevirtual 49, 3) := by decide +kernel
theorem dX2_take_30 : decode cX2_take 30 = .ok (.imul, 1) := by decide +kernel
theorem dX2_take_31 : decode cX2_take 31 = .ok (.ireturn, 1) := by decide +kernel
set_option maxRecDepth 20000 in
theorem ggX2_bestOf_X2_take : GoodIn wsX2_bestOf wsX2_take := goodIn_r _ [6, 1, 7, 8, 9, 10, 5, 11, 12, 13, 14, 15, 16, 17, 18, 19, 20, 21, 22, 23, 24, 25, 26] (by decide +kernel) (by decide +kernel)
set_option maxRecDepth 20000 in
theorem gX2_bestOf_X2_take : GoodIn wsX2_bestOf (wsV RX2 53 RX2 yX2_take wsX2_take) := goodIn_app (goodIn_of _ (by decide +kernel)) ggX2_bestOf_X2_take
theorem dX2_bestOf_0 : decode cX2_bestOf 0 = .ok (.iconst 0, 1) := by decide +kernel
theorem dX2_bestOf_1 : decode cX2_bestOf 1 = .ok (.istore_n 2, 1) := by decide +kernel
theorem dX2_bestOf_2 : decode cX2_bestOf 2 = .ok (.iconst 1, 1) := by decide +kernel
theorem dX2_bestOf_3 : decode cX2_bestOf 3 = .ok (.istore_n 3, 1) := by decide +kernel
theorem dX2_bestOf_4 : decode cX2_bestOf 4 = .ok (.iload_n 3, 1) := by decide +kernel
theorem dX2_bestOf_5 : decode cX2_bestOf 5 = .ok (.aload_n 0, 1) := by decide +kernel
theorem dX2_bestOf_6 : decode cX2_bestOf 6 = .ok (.getfield 13, 3) := by decide +kernel
theorem dX2_bestOf_9 : decode cX2_bestOf 9 = .ok (.iload_n 1, 1) := by decide +kernel
theorem dX2_bestOf_10 : decode cX2_bestOf 10 = .ok (.iaload, 1) := by decide +kernel
theorem dX2_bestOf_11 : decode cX2_bestOf 11 = .ok (.if_icmp .ge 30, 3) := by decide +kernel
theorem dX2_bestOf_14 : decode cX2_bestOf 14 = .ok (.aload_n 0, 1) := by decide +kernel
theorem dX2_bestOf_15 : decode cX2_bestOf 15 = .ok (.iload_n 1, 1) := by decide +kernel
theorem dX2_bestOf_16 : decode cX2_bestOf 16 = .ok (.iload_n 3, 1) := by decide +kernel
theorem dX2_bestOf_17 : decode cX2_bestOf 17 = .ok (.invokevirtual 53, 3) := by decide +kernel
theorem dX2_bestOf_20 : decode cX2_bestOf 20 = .ok (.aload_n 0, 1) := by decide +kernel
theorem dX2_bestOf_21 : decode cX2_bestOf 21 = .ok (.iload_n 1, 1) := by decide +kernel
theorem dX2_bestOf_22 : decode cX2_bestOf 22 = .ok (.iload_n 2, 1) := by decide +kernel
theorem dX2_bestOf_23 : decode cX2_bestOf 23 = .ok (.invokevirtual 53, 3) := by decide +kernel
theorem dX2_bestOf_26 : decode cX2_bestOf 26 = .ok (.if_icmp .le 7, 3) := by decide +kernel
theorem dX2_bestOf_29 : decode cX2_bestOf 29 = .ok (.iload_n 3, 1) := by decide +kernel
theorem dX2_bestOf_30 : decode cX2_bestOf 30 = .ok (.goto 4, 3) := by decide +kernel
theorem dX2_bestOf_33 : decode cX2_bestOf 33 = .ok (.iload_n 2, 1) := by decide +kernel
theorem dX2_bestOf_34 : decode cX2_bestOf 34 = .ok (.istore_n 2, 1) := by decide +kernel
theorem dX2_bestOf_35 : decode cX2_bestOf 35 = .ok (.iinc 3 1, 3) := by decide +kernel
theorem dX2_bestOf_38 : decode cX2_bestOf 38 = .ok (.goto (-34), 3) := by decide +kernel
theorem dX2_bestOf_41 : decode cX2_bestOf 41 = .ok (.iload_n 2, 1) := by decide +kernel
theorem dX2_bestOf_42 : decode cX2_bestOf 42 = .ok (.ireturn, 1) := by decide +kernel
set_option maxRecDepth 20000 in
theorem ggX2_isPlace_X2_in : GoodIn wsX2_isPlace wsX2_in := goodIn_r _ [5] (by decide +kernel) (by decide +kernel)
set_option maxRecDepth 20000 in
theorem gX2_isPlace_X2_in : GoodIn wsX2_isPlace (va_wsS RX2 41 yX2_in wsX2_in) := goodIn_app (goodIn_of _ (by decide +kernel)) ggX2_isPlace_X2_in
theorem dX2_isPlace_0 : decode cX2_isPlace 0 = .ok (.iload_n 2, 1) := by decide +kernel
theorem dX2_isPlace_1 : decode cX2_isPlace 1 = .ok (.iconst 0, 1) := by decide +kernel
theorem dX2_isPlace_2 : decode cX2_isPlace 2 = .ok (.aload_n 0, 1) := by decide +kernel
theorem dX2_isPlace_3 : decode cX2_isPlace 3 = .ok (.getfield 13, 3) := by decide +kernel
theorem dX2_isPlace_6 : decode cX2_isPlace 6 = .ok (.iload_n 1, 1) := by decide +kernel
theorem dX2_isPlace_7 : decode cX2_isPlace 7 = .ok (.iaload, 1) := by decide +kernel
theorem dX2_isPlace_8 : decode cX2_isPlace 8 = .ok (.iconst 1, 1) := by decide +kernel
theorem dX2_isPlace_9 : decode cX2_isPlace 9 = .ok (.isub, 1) := by decide +kernel
theorem dX2_isPlace_10 : decode cX2_isPlace 10 = .ok (.invokestatic 41, 3) := by decide +kernel
theorem dX2_isPlace_13 : decode cX2_isPlace 13 = .ok (.ireturn, 1) := by decide +kernel
set_option maxRecDepth 20000 in
theorem ggX2_about_X2_isBuyer : GoodIn wsX2_about wsX2_isBuyer := goodIn_r _ [8, 9, 10, 11, 7, 12, 26, 27, 28, 29, 30, 31, 32, 33, 34, 35, 36, 37, 38, 39] (by decide +kernel) (by decide +kernel)
set_option maxRecDepth 20000 in
theorem gX2_about_X2_isBuyer : GoodIn wsX2_about (wsV RX2 45 RX2 yX2_isBuyer wsX2_isBuyer) := goodIn_app (goodIn_of _ (by decide +kernel)) ggX2_about_X2_isBuyer
set_option maxRecDepth 20000 in
theorem ggX2_about_X2_isPlace : GoodIn wsX2_about wsX2_isPlace := goodIn_r _ [16, 17, 10, 11, 7, 12, 26, 27, 28, 29, 30, 31, 32, 33, 34, 35, 36, 37, 38, 39] (by decide +kernel) (by decide +kernel)
set_option maxRecDepth 20000 in
theorem gX2_about_X2_isPlace : GoodIn wsX2_about (wsV RX2 56 RX2 yX2_isPlace wsX2_isPlace) := goodIn_app (goodIn_of _ (by decide +kernel)) ggX2_about_X2_isPlace
set_option maxRecDepth 20000 in
theorem ggX2_about_X2_in : GoodIn wsX2_about wsX2_in := goodIn_r _ [12] (by decide +kernel) (by decide +kernel)
set_option maxRecDepth 20000 in
theorem gX2_about_X2_in : GoodIn wsX2_about (va_wsS RX2 41 yX2_in wsX2_in) := goodIn_app (goodIn_of _ (by decide +kernel)) ggX2_about_X2_in
set_option maxRecDepth 20000 in
theorem ggX2_about_X2_share : GoodIn wsX2_about wsX2_share := goodIn_r _ [21, 17, 3, 26, 27, 28, 29, 30, 31, 32, 33, 34, 35, 36, 37, 38, 39] (by decide +kernel) (by decide +kernel)
set_option maxRecDepth 20000 in
theorem gX2_about_X2_share : GoodIn wsX2_about (wsV RX2 49 RX2 yX2_share wsX2_share) := goodIn_app (goodIn_of _ (by decide +kernel)) ggX2_about_X2_share
set_option maxRecDepth 20000 in
theorem ggX2_about_X2_take : GoodIn wsX2_about wsX2_take := goodIn_r _ [25, 17, 2, 18, 19, 20, 7, 21, 3, 26, 27, 28, 29, 30, 31, 32, 33, 34, 35, 36, 37, 38, 39] (by decide +kernel) (by decide +kernel)
set_option maxRecDepth 20000 in
theorem gX2_about_X2_take : GoodIn wsX2_about (wsV RX2 53 RX2 yX2_take wsX2_take) := goodIn_app (goodIn_of _ (by decide +kernel)) ggX2_about_X2_take
theorem dX2_about_0 : decode cX2_about 0 = .ok (.aload_n 0, 1) := by decide +kernel
theorem dX2_about_1 : decode cX2_about 1 = .ok (.iconst 0, 1) := by decide +kernel
theorem dX2_about_2 : decode cX2_about 2 = .ok (.putfield 38, 3) := by decide +kernel
theorem dX2_about_5 : decode cX2_about 5 = .ok (.aload_n 0, 1) := by decide +kernel
theorem dX2_about_6 : decode cX2_about 6 = .ok (.iload_n 1, 1) := by decide +kernel
theorem dX2_about_7 : decode cX2_about 7 = .ok (.invokevirtual 45, 3) := by decide +kernel
theorem dX2_about_10 : decode cX2_about 10 = .ok (.ifCond .eq 21, 3) := by decide +kernel
theorem dX2_about_13 : decode cX2_about 13 = .ok (.aload_n 0, 1) := by decide +kernel
theorem dX2_about_14 : decode cX2_about 14 = .ok (.iload_n 1, 1) := by decide +kernel
theorem dX2_about_15 : decode cX2_about 15 = .ok (.iload_n 2, 1) := by decide +kernel
theorem dX2_about_16 : decode cX2_about 16 = .ok (.invokevirtual 56, 3) := by decide +kernel
theorem dX2_about_19 : decode cX2_about 19 = .ok (.ifCond .eq 12, 3) := by decide +kernel
theorem dX2_about_22 : decode cX2_about 22 = .ok (.iload_n 3, 1) := by decide +kernel
theorem dX2_about_23 : decode cX2_about 23 = .ok (.iconst 0, 1) := by decide +kernel
theorem dX2_about_24 : decode cX2_about 24 = .ok (.iconst 3, 1) := by decide +kernel
theorem dX2_about_25 : decode cX2_about 25 = .ok (.invokestatic 41, 3) := by decide +kernel
theorem dX2_about_28 : decode cX2_about 28 = .ok (.ifCond .ne 5, 3) := by decide +kernel
theorem dX2_about_31 : decode cX2_about 31 = .ok (.iconst (-1), 1) := by decide +kernel
theorem dX2_about_32 : decode cX2_about 32 = .ok (.ireturn, 1) := by decide +kernel
theorem dX2_about_33 : decode cX2_about 33 = .ok (.iload_n 3, 1) := by decide +kernel
theorem dX2_about_34 : decode cX2_about 34 = .ok (.ifCond .ne 16, 3) := by decide +kernel
theorem dX2_about_37 : decode cX2_about 37 = .ok (.aload_n 0, 1) := by decide +kernel
theorem dX2_about_38 : decode cX2_about 38 = .ok (.getfield 17, 3) := by decide +kernel
theorem dX2_about_41 : decode cX2_about 41 = .ok (.iconst 5, 1) := by decide +kernel
theorem dX2_about_42 : decode cX2_about 42 = .ok (.iload_n 1, 1) := by decide +kernel
theorem dX2_about_43 : decode cX2_about 43 = .ok (.imul, 1) := by decide +kernel
theorem dX2_about_44 : decode cX2_about 44 = .ok (.iload_n 2, 1) := by decide +kernel
theorem dX2_about_45 : decode cX2_about 45 = .ok (.iadd, 1) := by decide +kernel
theorem dX2_about_46 : decode cX2_about 46 = .ok (.iaload, 1) := by decide +kernel
theorem dX2_about_47 : decode cX2_about 47 = .ok (.goto 41, 3) := by decide +kernel
theorem dX2_about_50 : decode cX2_about 50 = .ok (.iload_n 3, 1) := by decide +kernel
theorem dX2_about_51 : decode cX2_about 51 = .ok (.iconst 1, 1) := by decide +kernel
theorem dX2_about_52 : decode cX2_about 52 = .ok (.if_icmp .ne 16, 3) := by decide +kernel
theorem dX2_about_55 : decode cX2_about 55 = .ok (.aload_n 0, 1) := by decide +kernel
theorem dX2_about_56 : decode cX2_about 56 = .ok (.getfield 20, 3) := by decide +kernel
theorem dX2_about_59 : decode cX2_about 59 = .ok (.iconst 5, 1) := by decide +kernel
theorem dX2_about_60 : decode cX2_about 60 = .ok (.iload_n 1, 1) := by decide +kernel
theorem dX2_about_61 : decode cX2_about 61 = .ok (.imul, 1) := by decide +kernel
theorem dX2_about_62 : decode cX2_about 62 = .ok (.iload_n 2, 1) := by decide +kernel
theorem dX2_about_63 : decode cX2_about 63 = .ok (.iadd, 1) := by decide +kernel
theorem dX2_about_64 : decode cX2_about 64 = .ok (.iaload, 1) := by decide +kernel
theorem dX2_about_65 : decode cX2_about 65 = .ok (.goto 23, 3) := by decide +kernel
theorem dX2_about_68 : decode cX2_about 68 = .ok (.iload_n 3, 1) := by decide +kernel
theorem dX2_about_69 : decode cX2_about 69 = .ok (.iconst 2, 1) := by decide +kernel
theorem dX2_about_70 : decode cX2_about 70 = .ok (.if_icmp .ne 12, 3) := by decide +kernel
theorem dX2_about_73 : decode cX2_about 73 = .ok (.aload_n 0, 1) := by decide +kernel
theorem dX2_about_74 : decode cX2_about 74 = .ok (.iload_n 1, 1) := by decide +kernel
theorem dX2_about_75 : decode cX2_about 75 = .ok (.iload_n 2, 1) := by decide +kernel
theorem dX2_about_76 : decode cX2_about 76 = .ok (.invokevirtual 49, 3) := by decide +kernel
theorem dX2_about_79 : decode cX2_about 79 = .ok (.goto 9, 3) := by decide +kernel
theorem dX2_about_82 : decode cX2_about 82 = .ok (.aload_n 0, 1) := by decide +kernel
theorem dX2_about_83 : decode cX2_about 83 = .ok (.iload_n 1, 1) := by decide +kernel
theorem dX2_about_84 : decode cX2_about 84 = .ok (.iload_n 2, 1) := by decide +kernel
theorem dX2_about_85 : decode cX2_about 85 = .ok (.invokevirtual 53, 3) := by decide +kernel
theorem dX2_about_88 : decode cX2_about 88 = .ok (.ireturn, 1) := by decide +kernel
set_option maxRecDepth 20000 in
theorem ggX2_whole_X2_isBuyer : GoodIn wsX2_whole wsX2_isBuyer := goodIn_r _ [7, 8, 9, 10, 6, 11, 26, 27, 28, 29, 30, 31, 32, 33, 34, 35, 36, 37, 38, 39] (by decide +kernel) (by decide +kernel)
set_option maxRecDepth 20000 in
theorem gX2_whole_X2_isBuyer : GoodIn wsX2_whole (wsV RX2 45 RX2 yX2_isBuyer wsX2_isBuyer) := goodIn_app (goodIn_of _ (by decide +kernel)) ggX2_whole_X2_isBuyer
set_option maxRecDepth 20000 in
theorem ggX2_whole_X2_in : GoodIn wsX2_whole wsX2_in := goodIn_r _ [11] (by decide +kernel) (by decide +kernel)
set_option maxRecDepth 20000 in
theorem gX2_whole_X2_in : GoodIn wsX2_whole (va_wsS RX2 41 yX2_in wsX2_in) := goodIn_app (goodIn_of _ (by decide +kernel)) ggX2_whole_X2_in
set_option maxRecDepth 20000 in
theorem ggX2_whole_X2_share : GoodIn wsX2_whole wsX2_share := goodIn_r _ [15, 2, 16, 26, 27, 28, 29, 30, 31, 32, 33, 34, 35, 36, 37, 38, 39] (by decide +kernel) (by decide +kernel)
set_option maxRecDepth 20000 in
theorem gX2_whole_X2_share : GoodIn wsX2_whole (wsV RX2 49 RX2 yX2_share wsX2_share) := goodIn_app (goodIn_of _ (by decide +kernel)) ggX2_whole_X2_share
set_option maxRecDepth 20000 in
theorem ggX2_whole_X2_bestOf : GoodIn wsX2_whole wsX2_bestOf := goodIn_r _ [20, 2, 21, 22, 23, 6, 24, 25, 12, 13, 14, 15, 16, 26, 27, 28, 29, 30, 31, 32, 33, 34, 35, 36, 37, 38, 39] (by decide +kernel) (by decide +kernel)
set_option maxRecDepth 20000 in
theorem gX2_whole_X2_bestOf : GoodIn wsX2_whole (wsV RX2 60 RX2 yX2_bestOf wsX2_bestOf) := goodIn_app (goodIn_of _ (by decide +kernel)) ggX2_whole_X2_bestOf
theorem dX2_whole_0 : decode cX2_whole 0 = .ok (.aload_n 0, 1) := by decide +kernel
theorem dX2_whole_1 : decode cX2_whole 1 = .ok (.iconst 0, 1) := by decide +kernel
theorem dX2_whole_2 : decode cX2_whole 2 = .ok (.putfield 38, 3) := by decide +kernel
theorem dX2_whole_5 : decode cX2_whole 5 = .ok (.aload_n 0, 1) := by decide +kernel
theorem dX2_whole_6 : decode cX2_whole 6 = .ok (.iload_n 1, 1) := by decide +kernel
theorem dX2_whole_7 : decode cX2_whole 7 = .ok (.invokevirtual 45, 3) := by decide +kernel
theorem dX2_whole_10 : decode cX2_whole 10 = .ok (.ifCond .eq 12, 3) := by decide +kernel
theorem dX2_whole_13 : decode cX2_whole 13 = .ok (.iload_n 2, 1) := by decide +kernel
theorem dX2_whole_14 : decode cX2_whole 14 = .ok (.iconst 0, 1) := by decide +kernel
theorem dX2_whole_15 : decode cX2_whole 15 = .ok (.iconst 2, 1) := by decide +kernel
theorem dX2_whole_16 : decode cX2_whole 16 = .ok (.invokestatic 41, 3) := by decide +kernel
theorem dX2_whole_19 : decode cX2_whole 19 = .ok (.ifCond .ne 5, 3) := by decide +kernel
theorem dX2_whole_22 : decode cX2_whole 22 = .ok (.iconst (-1), 1) := by decide +kernel
theorem dX2_whole_23 : decode cX2_whole 23 = .ok (.ireturn, 1) := by decide +kernel
theorem dX2_whole_24 : decode cX2_whole 24 = .ok (.iload_n 2, 1) := by decide +kernel
theorem dX2_whole_25 : decode cX2_whole 25 = .ok (.ifCond .ne 12, 3) := by decide +kernel
theorem dX2_whole_28 : decode cX2_whole 28 = .ok (.aload_n 0, 1) := by decide +kernel
theorem dX2_whole_29 : decode cX2_whole 29 = .ok (.getfield 13, 3) := by decide +kernel
theorem dX2_whole_32 : decode cX2_whole 32 = .ok (.iload_n 1, 1) := by decide +kernel
theorem dX2_whole_33 : decode cX2_whole 33 = .ok (.iaload, 1) := by decide +kernel
theorem dX2_whole_34 : decode cX2_whole 34 = .ok (.goto 22, 3) := by decide +kernel
theorem dX2_whole_37 : decode cX2_whole 37 = .ok (.iload_n 2, 1) := by decide +kernel
theorem dX2_whole_38 : decode cX2_whole 38 = .ok (.iconst 1, 1) := by decide +kernel
theorem dX2_whole_39 : decode cX2_whole 39 = .ok (.if_icmp .ne 12, 3) := by decide +kernel
theorem dX2_whole_42 : decode cX2_whole 42 = .ok (.aload_n 0, 1) := by decide +kernel
theorem dX2_whole_43 : decode cX2_whole 43 = .ok (.iload_n 1, 1) := by decide +kernel
theorem dX2_whole_44 : decode cX2_whole 44 = .ok (.iconst 0, 1) := by decide +kernel
theorem dX2_whole_45 : decode cX2_whole 45 = .ok (.invokevirtual 49, 3) := by decide +kernel
theorem dX2_whole_48 : decode cX2_whole 48 = .ok (.goto 8, 3) := by decide +kernel
theorem dX2_whole_51 : decode cX2_whole 51 = .ok (.aload_n 0, 1) := by decide +kernel
theorem dX2_whole_52 : decode cX2_whole 52 = .ok (.iload_n 1, 1) := by decide +kernel
theorem dX2_whole_53 : decode cX2_whole 53 = .ok (.invokevirtual 60, 3) := by decide +kernel
theorem dX2_whole_56 : decode cX2_whole 56 = .ok (.ireturn, 1) := by decide +kernel
set_option maxRecDepth 20000 in
theorem ggX2_irons_X2_take : GoodIn wsX2_irons wsX2_take := goodIn_r _ [8, 3, 9, 10, 11, 12, 7, 13, 14, 15, 16, 17, 18, 19, 20, 21, 22, 23, 24, 25, 26, 27, 28] (by decide +kernel) (by decide +kernel)
set_option maxRecDepth 20000 in
theorem gX2_irons_X2_take : GoodIn wsX2_irons (wsV RX2 53 RX2 yX2_take wsX2_take) := goodIn_app (goodIn_of _ (by decide +kernel)) ggX2_irons_X2_take
set_option maxRecDepth 20000 in
theorem ggX2_irons_X2_share : GoodIn wsX2_irons wsX2_share := goodIn_r _ [13, 3, 14, 15, 16, 17, 18, 19, 20, 21, 22, 23, 24, 25, 26, 27, 28] (by decide +kernel) (by decide +kernel)
set_option maxRecDepth 20000 in
theorem gX2_irons_X2_share : GoodIn wsX2_irons (wsV RX2 49 RX2 yX2_share wsX2_share) := goodIn_app (goodIn_of _ (by decide +kernel)) ggX2_irons_X2_share
theorem dX2_irons_0 : decode cX2_irons 0 = .ok (.aload_n 0, 1) := by decide +kernel
theorem dX2_irons_1 : decode cX2_irons 1 = .ok (.lconst 0, 1) := by decide +kernel
theorem dX2_irons_2 : decode cX2_irons 2 = .ok (.putfield 64, 3) := by decide +kernel
theorem dX2_irons_5 : decode cX2_irons 5 = .ok (.aload_n 0, 1) := by decide +kernel
theorem dX2_irons_6 : decode cX2_irons 6 = .ok (.lconst 0, 1) := by decide +kernel
theorem dX2_irons_7 : decode cX2_irons 7 = .ok (.putfield 68, 3) := by decide +kernel
theorem dX2_irons_10 : decode cX2_irons 10 = .ok (.iload_n 2, 1) := by decide +kernel
theorem dX2_irons_11 : decode cX2_irons 11 = .ok (.iconst 1, 1) := by decide +kernel
theorem dX2_irons_12 : decode cX2_irons 12 = .ok (.iadd, 1) := by decide +kernel
theorem dX2_irons_13 : decode cX2_irons 13 = .ok (.istore_n 3, 1) := by decide +kernel
theorem dX2_irons_14 : decode cX2_irons 14 = .ok (.iload_n 3, 1) := by decide +kernel
theorem dX2_irons_15 : decode cX2_irons 15 = .ok (.aload_n 0, 1) := by decide +kernel
theorem dX2_irons_16 : decode cX2_irons 16 = .ok (.getfield 13, 3) := by decide +kernel
theorem dX2_irons_19 : decode cX2_irons 19 = .ok (.iload_n 1, 1) := by decide +kernel
theorem dX2_irons_20 : decode cX2_irons 20 = .ok (.iaload, 1) := by decide +kernel
theorem dX2_irons_21 : decode cX2_irons 21 = .ok (.if_icmp .gt 132, 3) := by decide +kernel
theorem dX2_irons_24 : decode cX2_irons 24 = .ok (.lconst 0, 1) := by decide +kernel
theorem dX2_irons_25 : decode cX2_irons 25 = .ok (.lstore 4, 2) := by decide +kernel
theorem dX2_irons_27 : decode cX2_irons 27 = .ok (.lconst 0, 1) := by decide +kernel
theorem dX2_irons_28 : decode cX2_irons 28 = .ok (.lstore 6, 2) := by decide +kernel
theorem dX2_irons_30 : decode cX2_irons 30 = .ok (.iconst 0, 1) := by decide +kernel
theorem dX2_irons_31 : decode cX2_irons 31 = .ok (.istore 8, 2) := by decide +kernel
theorem dX2_irons_33 : decode cX2_irons 33 = .ok (.iload 8, 2) := by decide +kernel
theorem dX2_irons_35 : decode cX2_irons 35 = .ok (.iload_n 2, 1) := by decide +kernel
theorem dX2_irons_36 : decode cX2_irons 36 = .ok (.if_icmp .gt 72, 3) := by decide +kernel
theorem dX2_irons_39 : decode cX2_irons 39 = .ok (.aload_n 0, 1) := by decide +kernel
theorem dX2_irons_40 : decode cX2_irons 40 = .ok (.iload_n 1, 1) := by decide +kernel
theorem dX2_irons_41 : decode cX2_irons 41 = .ok (.iload 8, 2) := by decide +kernel
theorem dX2_irons_43 : decode cX2_irons 43 = .ok (.invokevirtual 53, 3) := by decide +kernel
theorem dX2_irons_46 : decode cX2_irons 46 = .ok (.aload_n 0, 1) := by decide +kernel
theorem dX2_irons_47 : decode cX2_irons 47 = .ok (.iload_n 1, 1) := by decide +kernel
theorem dX2_irons_48 : decode cX2_irons 48 = .ok (.iload_n 3, 1) := by decide +kernel
theorem dX2_irons_49 : decode cX2_irons 49 = .ok (.invokevirtual 53, 3) := by decide +kernel
theorem dX2_irons_52 : decode cX2_irons 52 = .ok (.isub, 1) := by decide +kernel
theorem dX2_irons_53 : decode cX2_irons 53 = .ok (.i2l, 1) := by decide +kernel
theorem dX2_irons_54 : decode cX2_irons 54 = .ok (.lstore 9, 2) := by decide +kernel
theorem dX2_irons_56 : decode cX2_irons 56 = .ok (.aload_n 0, 1) := by decide +kernel
theorem dX2_irons_57 : decode cX2_irons 57 = .ok (.iload_n 1, 1) := by decide +kernel
theorem dX2_irons_58 : decode cX2_irons 58 = .ok (.iload 8, 2) := by decide +kernel
theorem dX2_irons_60 : decode cX2_irons 60 = .ok (.invokevirtual 49, 3) := by decide +kernel
theorem dX2_irons_63 : decode cX2_irons 63 = .ok (.aload_n 0, 1) := by decide +kernel
theorem dX2_irons_64 : decode cX2_irons 64 = .ok (.iload_n 1, 1) := by decide +kernel
theorem dX2_irons_65 : decode cX2_irons 65 = .ok (.iload_n 3, 1) := by decide +kernel
theorem dX2_irons_66 : decode cX2_irons 66 = .ok (.invokevirtual 49, 3) := by decide +kernel
theorem dX2_irons_69 : decode cX2_irons 69 = .ok (.isub, 1) := by decide +kernel
theorem dX2_irons_70 : decode cX2_irons 70 = .ok (.i2l, 1) := by decide +kernel
theorem dX2_irons_71 : decode cX2_irons 71 = .ok (.lstore 11, 2) := by decide +kernel
theorem dX2_irons_73 : decode cX2_irons 73 = .ok (.lload 6, 2) := by decide +kernel
theorem dX2_irons_75 : decode cX2_irons 75 = .ok (.lconst 0, 1) := by decide +kernel
theorem dX2_irons_76 : decode cX2_irons 76 = .ok (.lcmp, 1) := by decide +kernel
theorem dX2_irons_77 : decode cX2_irons 77 = .ok (.ifCond .eq 17, 3) := by decide +kernel
theorem dX2_irons_80 : decode cX2_irons 80 = .ok (.lload 9, 2) := by decide +kernel
theorem dX2_irons_82 : decode cX2_irons 82 = .ok (.lload 6, 2) := by decide +kernel
theorem dX2_irons_84 : decode cX2_irons 84 = .ok (.lmul, 1) := by decide +kernel
theorem dX2_irons_85 : decode cX2_irons 85 = .ok (.lload 4, 2) := by decide +kernel
theorem dX2_irons_87 : decode cX2_irons 87 = .ok (.lload 11, 2) := by decide +kernel
theorem dX2_irons_89 : decode cX2_irons 89 = .ok (.lmul, 1) := by decide +kernel
theorem dX2_irons_90 : decode cX2_irons 90 = .ok (.lcmp, 1) := by decide +kernel
theorem dX2_irons_91 : decode cX2_irons 91 = .ok (.ifCond .le 11, 3) := by decide +kernel
theorem dX2_irons_94 : decode cX2_irons 94 = .ok (.lload 9, 2) := by decide +kernel
theorem dX2_irons_96 : decode cX2_irons 96 = .ok (.lstore 4, 2) := by decide +kernel
theorem dX2_irons_98 : decode cX2_irons 98 = .ok (.lload 11, 2) := by decide +kernel
theorem dX2_irons_100 : decode cX2_irons 100 = .ok (.lstore 6, 2) := by decide +kernel
theorem dX2_irons_102 : decode cX2_irons 102 = .ok (.iinc 8 1, 3) := by decide +kernel
theorem dX2_irons_105 : decode cX2_irons 105 = .ok (.goto (-72), 3) := by decide +kernel
theorem dX2_irons_108 : decode cX2_irons 108 = .ok (.aload_n 0, 1) := by decide +kernel
theorem dX2_irons_109 : decode cX2_irons 109 = .ok (.getfield 68, 3) := by decide +kernel
theorem dX2_irons_112 : decode cX2_irons 112 = .ok (.lconst 0, 1) := by decide +kernel
theorem dX2_irons_113 : decode cX2_irons 113 = .ok (.lcmp, 1) := by decide +kernel
theorem dX2_irons_114 : decode cX2_irons 114 = .ok (.ifCond .eq 21, 3) := by decide +kernel
theorem dX2_irons_117 : decode cX2_irons 117 = .ok (.lload 4, 2) := by decide +kernel
theorem dX2_irons_119 : decode cX2_irons 119 = .ok (.aload_n 0, 1) := by decide +kernel
theorem dX2_irons_120 : decode cX2_irons 120 = .ok (.getfield 68, 3) := by decide +kernel
theorem dX2_irons_123 : decode cX2_irons 123 = .ok (.lmul, 1) := by decide +kernel
theorem dX2_irons_124 : decode cX2_irons 124 = .ok (.aload_n 0, 1) := by decide +kernel
theorem dX2_irons_125 : decode cX2_irons 125 = .ok (.getfield 64, 3) := by decide +kernel
theorem dX2_irons_128 : decode cX2_irons 128 = .ok (.lload 6, 2) := by decide +kernel
theorem dX2_irons_130 : decode cX2_irons 130 = .ok (.lmul, 1) := by decide +kernel
theorem dX2_irons_131 : decode cX2_irons 131 = .ok (.lcmp, 1) := by decide +kernel
theorem dX2_irons_132 : decode cX2_irons 132 = .ok (.ifCond .ge 15, 3) := by decide +kernel
theorem dX2_irons_135 : decode cX2_irons 135 = .ok (.aload_n 0, 1) := by decide +kernel
theorem dX2_irons_136 : decode cX2_irons 136 = .ok (.lload 4, 2) := by decide +kernel
theorem dX2_irons_138 : decode cX2_irons 138 = .ok (.putfield 64, 3) := by decide +kernel
theorem dX2_irons_141 : decode cX2_irons 141 = .ok (.aload_n 0, 1) := by decide +kernel
theorem dX2_irons_142 : decode cX2_irons 142 = .ok (.lload 6, 2) := by decide +kernel
theorem dX2_irons_144 : decode cX2_irons 144 = .ok (.putfield 68, 3) := by decide +kernel
theorem dX2_irons_147 : decode cX2_irons 147 = .ok (.iinc 3 1, 3) := by decide +kernel
theorem dX2_irons_150 : decode cX2_irons 150 = .ok (.goto (-136), 3) := by decide +kernel
theorem dX2_irons_153 : decode cX2_irons 153 = .ok (.return_, 1) := by decide +kernel
theorem dX2_common_0 : decode cX2_common 0 = .ok (.lload_n 0, 1) := by decide +kernel
theorem dX2_common_1 : decode cX2_common 1 = .ok (.lconst 0, 1) := by decide +kernel
theorem dX2_common_2 : decode cX2_common 2 = .ok (.lcmp, 1) := by decide +kernel
theorem dX2_common_3 : decode cX2_common 3 = .ok (.ifCond .ge 8, 3) := by decide +kernel
theorem dX2_common_6 : decode cX2_common 6 = .ok (.lload_n 0, 1) := by decide +kernel
theorem dX2_common_7 : decode cX2_common 7 = .ok (.lneg, 1) := by decide +kernel
theorem dX2_common_8 : decode cX2_common 8 = .ok (.goto 4, 3) := by decide +kernel
theorem dX2_common_11 : decode cX2_common 11 = .ok (.lload_n 0, 1) := by decide +kernel
theorem dX2_common_12 : decode cX2_common 12 = .ok (.lstore 4, 2) := by decide +kernel
theorem dX2_common_14 : decode cX2_common 14 = .ok (.lload_n 2, 1) := by decide +kernel
theorem dX2_common_15 : decode cX2_common 15 = .ok (.lstore 6, 2) := by decide +kernel
theorem dX2_common_17 : decode cX2_common 17 = .ok (.lload 6, 2) := by decide +kernel
theorem dX2_common_19 : decode cX2_common 19 = .ok (.lconst 0, 1) := by decide +kernel
theorem dX2_common_20 : decode cX2_common 20 = .ok (.lcmp, 1) := by decide +kernel
theorem dX2_common_21 : decode cX2_common 21 = .ok (.ifCond .eq 21, 3) := by decide +kernel
theorem dX2_common_24 : decode cX2_common 24 = .ok (.lload 4, 2) := by decide +kernel
theorem dX2_common_26 : decode cX2_common 26 = .ok (.lload 6, 2) := by decide +kernel
theorem dX2_common_28 : decode cX2_common 28 = .ok (.lrem, 1) := by decide +kernel
theorem dX2_common_29 : decode cX2_common 29 = .ok (.lstore 8, 2) := by decide +kernel
theorem dX2_common_31 : decode cX2_common 31 = .ok (.lload 6, 2) := by decide +kernel
theorem dX2_common_33 : decode cX2_common 33 = .ok (.lstore 4, 2) := by decide +kernel
theorem dX2_common_35 : decode cX2_common 35 = .ok (.lload 8, 2) := by decide +kernel
theorem dX2_common_37 : decode cX2_common 37 = .ok (.lstore 6, 2) := by decide +kernel
theorem dX2_common_39 : decode cX2_common 39 = .ok (.goto (-22), 3) := by decide +kernel
theorem dX2_common_42 : decode cX2_common 42 = .ok (.lload 4, 2) := by decide +kernel
theorem dX2_common_44 : decode cX2_common 44 = .ok (.lreturn, 1) := by decide +kernel
set_option maxRecDepth 20000 in
theorem ggX2_part_X2_common : GoodIn wsX2_part wsX2_common := goodIn_r _ [4] (by decide +kernel) (by decide +kernel)
set_option maxRecDepth 20000 in
theorem gX2_part_X2_common : GoodIn wsX2_part (va_wsS RX2 71 yX2_common wsX2_common) := goodIn_app (goodIn_of _ (by decide +kernel)) ggX2_part_X2_common
theorem dX2_part_0 : decode cX2_part 0 = .ok (.lload_n 1, 1) := by decide +kernel
theorem dX2_part_1 : decode cX2_part 1 = .ok (.lload_n 3, 1) := by decide +kernel
theorem dX2_part_2 : decode cX2_part 2 = .ok (.invokestatic 71, 3) := by decide +kernel
theorem dX2_part_5 : decode cX2_part 5 = .ok (.lstore 6, 2) := by decide +kernel
theorem dX2_part_7 : decode cX2_part 7 = .ok (.iload 5, 2) := by decide +kernel
theorem dX2_part_9 : decode cX2_part 9 = .ok (.ifCond .ne 10, 3) := by decide +kernel
theorem dX2_part_12 : decode cX2_part 12 = .ok (.lload_n 1, 1) := by decide +kernel
theorem dX2_part_13 : decode cX2_part 13 = .ok (.lload 6, 2) := by decide +kernel
theorem dX2_part_15 : decode cX2_part 15 = .ok (.ldiv, 1) := by decide +kernel
theorem dX2_part_16 : decode cX2_part 16 = .ok (.goto 7, 3) := by decide +kernel
theorem dX2_part_19 : decode cX2_part 19 = .ok (.lload_n 3, 1) := by decide +kernel
theorem dX2_part_20 : decode cX2_part 20 = .ok (.lload 6, 2) := by decide +kernel
theorem dX2_part_22 : decode cX2_part 22 = .ok (.ldiv, 1) := by decide +kernel
theorem dX2_part_23 : decode cX2_part 23 = .ok (.lreturn, 1) := by decide +kernel
set_option maxRecDepth 20000 in
theorem ggX2_slope_X2_isBuyer : GoodIn wsX2_slope wsX2_isBuyer := goodIn_r _ [10, 11, 12, 13, 9, 14, 40, 41, 42, 43, 44, 45, 46, 47, 48, 49, 50, 51, 52, 53] (by decide +kernel) (by decide +kernel)
set_option maxRecDepth 20000 in
theorem gX2_slope_X2_isBuyer : GoodIn wsX2_slope (wsV RX2 45 RX2 yX2_isBuyer wsX2_isBuyer) := goodIn_app (goodIn_of _ (by decide +kernel)) ggX2_slope_X2_isBuyer
set_option maxRecDepth 20000 in
theorem ggX2_slope_X2_isPlace : GoodIn wsX2_slope wsX2_isPlace := goodIn_r _ [18, 19, 12, 13, 9, 14, 40, 41, 42, 43, 44, 45, 46, 47, 48, 49, 50, 51, 52, 53] (by decide +kernel) (by decide +kernel)
set_option maxRecDepth 20000 in
theorem gX2_slope_X2_isPlace : GoodIn wsX2_slope (wsV RX2 56 RX2 yX2_isPlace wsX2_isPlace) := goodIn_app (goodIn_of _ (by decide +kernel)) ggX2_slope_X2_isPlace
set_option maxRecDepth 20000 in
theorem ggX2_slope_X2_in : GoodIn wsX2_slope wsX2_in := goodIn_r _ [14] (by decide +kernel) (by decide +kernel)
set_option maxRecDepth 20000 in
theorem gX2_slope_X2_in : GoodIn wsX2_slope (va_wsS RX2 41 yX2_in wsX2_in) := goodIn_app (goodIn_of _ (by decide +kernel)) ggX2_slope_X2_in
set_option maxRecDepth 20000 in
theorem ggX2_slope_X2_irons : GoodIn wsX2_slope wsX2_irons := goodIn_r _ [23, 3, 5, 19, 24, 25, 26, 9, 27, 28, 29, 30, 31, 32, 4, 40, 41, 42, 43, 44, 45, 46, 47, 48, 49, 50, 51, 52, 53] (by decide +kernel) (by decide +kernel)
set_option maxRecDepth 20000 in
theorem gX2_slope_X2_irons : GoodIn wsX2_slope (wsV RX2 77 RX2 yX2_irons wsX2_irons) := goodIn_app (goodIn_of _ (by decide +kernel)) ggX2_slope_X2_irons
set_option maxRecDepth 20000 in
theorem ggX2_slope_X2_take : GoodIn wsX2_slope wsX2_take := goodIn_r _ [27, 19, 28, 29, 30, 31, 9, 32, 4, 40, 41, 42, 43, 44, 45, 46, 47, 48, 49, 50, 51, 52, 53] (by decide +kernel) (by decide +kernel)
set_option maxRecDepth 20000 in
theorem gX2_slope_X2_take : GoodIn wsX2_slope (wsV RX2 53 RX2 yX2_take wsX2_take) := goodIn_app (goodIn_of _ (by decide +kernel)) ggX2_slope_X2_take
set_option maxRecDepth 20000 in
theorem ggX2_slope_X2_part : GoodIn wsX2_slope wsX2_part := goodIn_r _ [36, 37, 38, 9, 39] (by decide +kernel) (by decide +kernel)
set_option maxRecDepth 20000 in
theorem gX2_slope_X2_part : GoodIn wsX2_slope (wsV RX2 81 RX2 yX2_part wsX2_part) := goodIn_app (goodIn_of _ (by decide +kernel)) ggX2_slope_X2_part
theorem dX2_slope_0 : decode cX2_slope 0 = .ok (.aload_n 0, 1) := by decide +kernel
theorem dX2_slope_1 : decode cX2_slope 1 = .ok (.iconst 0, 1) := by decide +kernel
theorem dX2_slope_2 : decode cX2_slope 2 = .ok (.putfield 38, 3) := by decide +kernel
theorem dX2_slope_5 : decode cX2_slope 5 = .ok (.aload_n 0, 1) := by decide +kernel
theorem dX2_slope_6 : decode cX2_slope 6 = .ok (.iload_n 1, 1) := by decide +kernel
theorem dX2_slope_7 : decode cX2_slope 7 = .ok (.invokevirtual 45, 3) := by decide +kernel
theorem dX2_slope_10 : decode cX2_slope 10 = .ok (.ifCond .eq 22, 3) := by decide +kernel
theorem dX2_slope_13 : decode cX2_slope 13 = .ok (.aload_n 0, 1) := by decide +kernel
theorem dX2_slope_14 : decode cX2_slope 14 = .ok (.iload_n 1, 1) := by decide +kernel
theorem dX2_slope_15 : decode cX2_slope 15 = .ok (.iload_n 2, 1) := by decide +kernel
theorem dX2_slope_16 : decode cX2_slope 16 = .ok (.invokevirtual 56, 3) := by decide +kernel
theorem dX2_slope_19 : decode cX2_slope 19 = .ok (.ifCond .eq 13, 3) := by decide +kernel
theorem dX2_slope_22 : decode cX2_slope 22 = .ok (.iload 4, 2) := by decide +kernel
theorem dX2_slope_24 : decode cX2_slope 24 = .ok (.iconst 0, 1) := by decide +kernel
theorem dX2_slope_25 : decode cX2_slope 25 = .ok (.iconst 1, 1) := by decide +kernel
theorem dX2_slope_26 : decode cX2_slope 26 = .ok (.invokestatic 41, 3) := by decide +kernel
theorem dX2_slope_29 : decode cX2_slope 29 = .ok (.ifCond .ne 7, 3) := by decide +kernel
theorem dX2_slope_32 : decode cX2_slope 32 = .ok (.ldc2_w 75, 3) := by decide +kernel
theorem dX2_slope_35 : decode cX2_slope 35 = .ok (.lreturn, 1) := by decide +kernel
theorem dX2_slope_36 : decode cX2_slope 36 = .ok (.iload_n 3, 1) := by decide +kernel
theorem dX2_slope_37 : decode cX2_slope 37 = .ok (.ifCond .eq 12, 3) := by decide +kernel
theorem dX2_slope_40 : decode cX2_slope 40 = .ok (.aload_n 0, 1) := by decide +kernel
theorem dX2_slope_41 : decode cX2_slope 41 = .ok (.iload_n 1, 1) := by decide +kernel
theorem dX2_slope_42 : decode cX2_slope 42 = .ok (.iload_n 2, 1) := by decide +kernel
theorem dX2_slope_43 : decode cX2_slope 43 = .ok (.invokevirtual 77, 3) := by decide +kernel
theorem dX2_slope_46 : decode cX2_slope 46 = .ok (.goto 38, 3) := by decide +kernel
theorem dX2_slope_49 : decode cX2_slope 49 = .ok (.aload_n 0, 1) := by decide +kernel
theorem dX2_slope_50 : decode cX2_slope 50 = .ok (.aload_n 0, 1) := by decide +kernel
theorem dX2_slope_51 : decode cX2_slope 51 = .ok (.iload_n 1, 1) := by decide +kernel
theorem dX2_slope_52 : decode cX2_slope 52 = .ok (.iload_n 2, 1) := by decide +kernel
theorem dX2_slope_53 : decode cX2_slope 53 = .ok (.invokevirtual 53, 3) := by decide +kernel
theorem dX2_slope_56 : decode cX2_slope 56 = .ok (.aload_n 0, 1) := by decide +kernel
theorem dX2_slope_57 : decode cX2_slope 57 = .ok (.iload_n 1, 1) := by decide +kernel
theorem dX2_slope_58 : decode cX2_slope 58 = .ok (.iload_n 2, 1) := by decide +kernel
theorem dX2_slope_59 : decode cX2_slope 59 = .ok (.iconst 1, 1) := by decide +kernel
theorem dX2_slope_60 : decode cX2_slope 60 = .ok (.iadd, 1) := by decide +kernel
theorem dX2_slope_61 : decode cX2_slope 61 = .ok (.invokevirtual 53, 3) := by decide +kernel
theorem dX2_slope_64 : decode cX2_slope 64 = .ok (.isub, 1) := by decide +kernel
theorem dX2_slope_65 : decode cX2_slope 65 = .ok (.i2l, 1) := by decide +kernel
theorem dX2_slope_66 : decode cX2_slope 66 = .ok (.putfield 64, 3) := by decide +kernel
theorem dX2_slope_69 : decode cX2_slope 69 = .ok (.aload_n 0, 1) := by decide +kernel
theorem dX2_slope_70 : decode cX2_slope 70 = .ok (.aload_n 0, 1) := by decide +kernel
theorem dX2_slope_71 : decode cX2_slope 71 = .ok (.getfield 20, 3) := by decide +kernel
theorem dX2_slope_74 : decode cX2_slope 74 = .ok (.iconst 5, 1) := by decide +kernel
theorem dX2_slope_75 : decode cX2_slope 75 = .ok (.iload_n 1, 1) := by decide +kernel
theorem dX2_slope_76 : decode cX2_slope 76 = .ok (.imul, 1) := by decide +kernel
theorem dX2_slope_77 : decode cX2_slope 77 = .ok (.iload_n 2, 1) := by decide +kernel
theorem dX2_slope_78 : decode cX2_slope 78 = .ok (.iadd, 1) := by decide +kernel
theorem dX2_slope_79 : decode cX2_slope 79 = .ok (.iaload, 1) := by decide +kernel
theorem dX2_slope_80 : decode cX2_slope 80 = .ok (.i2l, 1) := by decide +kernel
theorem dX2_slope_81 : decode cX2_slope 81 = .ok (.putfield 68, 3) := by decide +kernel
theorem dX2_slope_84 : decode cX2_slope 84 = .ok (.aload_n 0, 1) := by decide +kernel
theorem dX2_slope_85 : decode cX2_slope 85 = .ok (.aload_n 0, 1) := by decide +kernel
theorem dX2_slope_86 : decode cX2_slope 86 = .ok (.getfield 64, 3) := by decide +kernel
theorem dX2_slope_89 : decode cX2_slope 89 = .ok (.aload_n 0, 1) := by decide +kernel
theorem dX2_slope_90 : decode cX2_slope 90 = .ok (.getfield 68, 3) := by decide +kernel
theorem dX2_slope_93 : decode cX2_slope 93 = .ok (.iload 4, 2) := by decide +kernel
theorem dX2_slope_95 : decode cX2_slope 95 = .ok (.invokevirtual 81, 3) := by decide +kernel
theorem dX2_slope_98 : decode cX2_slope 98 = .ok (.lreturn, 1) := by decide +kernel
set_option maxRecDepth 20000 in
theorem ggX2_getter_X2_irons : GoodIn wsX2_getter wsX2_irons := goodIn_r _ [9, 3, 4, 10, 11, 12, 13, 8, 14, 15, 16, 17, 18, 19, 20, 21, 22, 23, 24, 25, 26, 27, 28, 29, 30, 31, 32, 33, 34] (by decide +kernel) (by decide +kernel)
set_option maxRecDepth 20000 in
theorem gX2_getter_X2_irons : GoodIn wsX2_getter (wsV RX2 77 RX2 yX2_irons wsX2_irons) := goodIn_app (goodIn_of _ (by decide +kernel)) ggX2_getter_X2_irons
theorem dX2_getter_0 : decode cX2_getter 0 = .ok (.bipush (-9), 2) := by decide +kernel
theorem dX2_getter_2 : decode cX2_getter 2 = .ok (.istore_n 1, 1) := by decide +kernel
theorem dX2_getter_3 : decode cX2_getter 3 = .ok (.lconst 0, 1) := by decide +kernel
theorem dX2_getter_4 : decode cX2_getter 4 = .ok (.lstore_n 2, 1) := by decide +kernel
theorem dX2_getter_5 : decode cX2_getter 5 = .ok (.lconst 1, 1) := by decide +kernel
theorem dX2_getter_6 : decode cX2_getter 6 = .ok (.lstore 4, 2) := by decide +kernel
theorem dX2_getter_8 : decode cX2_getter 8 = .ok (.iconst 0, 1) := by decide +kernel
theorem dX2_getter_9 : decode cX2_getter 9 = .ok (.istore 6, 2) := by decide +kernel
theorem dX2_getter_11 : decode cX2_getter 11 = .ok (.iload 6, 2) := by decide +kernel
theorem dX2_getter_13 : decode cX2_getter 13 = .ok (.aload_n 0, 1) := by decide +kernel
theorem dX2_getter_14 : decode cX2_getter 14 = .ok (.getfield 7, 3) := by decide +kernel
theorem dX2_getter_17 : decode cX2_getter 17 = .ok (.if_icmp .ge 53, 3) := by decide +kernel
theorem dX2_getter_20 : decode cX2_getter 20 = .ok (.aload_n 0, 1) := by decide +kernel
theorem dX2_getter_21 : decode cX2_getter 21 = .ok (.iload 6, 2) := by decide +kernel
theorem dX2_getter_23 : decode cX2_getter 23 = .ok (.aload_n 0, 1) := by decide +kernel
theorem dX2_getter_24 : decode cX2_getter 24 = .ok (.getfield 26, 3) := by decide +kernel
theorem dX2_getter_27 : decode cX2_getter 27 = .ok (.iload 6, 2) := by decide +kernel
theorem dX2_getter_29 : decode cX2_getter 29 = .ok (.iaload, 1) := by decide +kernel
theorem dX2_getter_30 : decode cX2_getter 30 = .ok (.invokevirtual 77, 3) := by decide +kernel
theorem dX2_getter_33 : decode cX2_getter 33 = .ok (.aload_n 0, 1) := by decide +kernel
theorem dX2_getter_34 : decode cX2_getter 34 = .ok (.getfield 64, 3) := by decide +kernel
theorem dX2_getter_37 : decode cX2_getter 37 = .ok (.lload 4, 2) := by decide +kernel
theorem dX2_getter_39 : decode cX2_getter 39 = .ok (.lmul, 1) := by decide +kernel
theorem dX2_getter_40 : decode cX2_getter 40 = .ok (.lload_n 2, 1) := by decide +kernel
theorem dX2_getter_41 : decode cX2_getter 41 = .ok (.aload_n 0, 1) := by decide +kernel
theorem dX2_getter_42 : decode cX2_getter 42 = .ok (.getfield 68, 3) := by decide +kernel
theorem dX2_getter_45 : decode cX2_getter 45 = .ok (.lmul, 1) := by decide +kernel
theorem dX2_getter_46 : decode cX2_getter 46 = .ok (.lcmp, 1) := by decide +kernel
theorem dX2_getter_47 : decode cX2_getter 47 = .ok (.ifCond .le 17, 3) := by decide +kernel
theorem dX2_getter_50 : decode cX2_getter 50 = .ok (.aload_n 0, 1) := by decide +kernel
theorem dX2_getter_51 : decode cX2_getter 51 = .ok (.getfield 64, 3) := by decide +kernel
theorem dX2_getter_54 : decode cX2_getter 54 = .ok (.lstore_n 2, 1) := by decide +kernel
theorem dX2_getter_55 : decode cX2_getter 55 = .ok (.aload_n 0, 1) := by decide +kernel
theorem dX2_getter_56 : decode cX2_getter 56 = .ok (.getfield 68, 3) := by decide +kernel
theorem dX2_getter_59 : decode cX2_getter 59 = .ok (.lstore 4, 2) := by decide +kernel
theorem dX2_getter_61 : decode cX2_getter 61 = .ok (.iload 6, 2) := by decide +kernel
theorem dX2_getter_63 : decode cX2_getter 63 = .ok (.istore_n 1, 1) := by decide +kernel
theorem dX2_getter_64 : decode cX2_getter 64 = .ok (.iinc 6 1, 3) := by decide +kernel
theorem dX2_getter_67 : decode cX2_getter 67 = .ok (.goto (-56), 3) := by decide +kernel
theorem dX2_getter_70 : decode cX2_getter 70 = .ok (.iload_n 1, 1) := by decide +kernel
theorem dX2_getter_71 : decode cX2_getter 71 = .ok (.ireturn, 1) := by decide +kernel
set_option maxRecDepth 20000 in
theorem ggX2_paid_X2_getter : GoodIn wsX2_paid wsX2_getter := goodIn_r _ [7, 8, 1, 9, 10, 11, 12, 13, 6, 14, 15, 16, 17, 18, 19, 2, 20, 21, 22, 23, 24, 25, 26, 27, 28, 29, 30, 31, 32, 33, 34, 35, 36, 37, 38] (by decide +kernel) (by decide +kernel)
set_option maxRecDepth 20000 in
theorem gX2_paid_X2_getter : GoodIn wsX2_paid (wsV RX2 85 RX2 yX2_getter wsX2_getter) := goodIn_app (goodIn_of _ (by decide +kernel)) ggX2_paid_X2_getter
theorem dX2_paid_0 : decode cX2_paid 0 = .ok (.aload_n 0, 1) := by decide +kernel
theorem dX2_paid_1 : decode cX2_paid 1 = .ok (.invokevirtual 85, 3) := by decide +kernel
theorem dX2_paid_4 : decode cX2_paid 4 = .ok (.iload_n 1, 1) := by decide +kernel
theorem dX2_paid_5 : decode cX2_paid 5 = .ok (.if_icmp .eq 5, 3) := by decide +kernel
theorem dX2_paid_8 : decode cX2_paid 8 = .ok (.iconst 0, 1) := by decide +kernel
theorem dX2_paid_9 : decode cX2_paid 9 = .ok (.ireturn, 1) := by decide +kernel
theorem dX2_paid_10 : decode cX2_paid 10 = .ok (.aload_n 0, 1) := by decide +kernel
theorem dX2_paid_11 : decode cX2_paid 11 = .ok (.getfield 26, 3) := by decide +kernel
theorem dX2_paid_14 : decode cX2_paid 14 = .ok (.iload_n 1, 1) := by decide +kernel
theorem dX2_paid_15 : decode cX2_paid 15 = .ok (.iaload, 1) := by decide +kernel
theorem dX2_paid_16 : decode cX2_paid 16 = .ok (.istore_n 2, 1) := by decide +kernel
theorem dX2_paid_17 : decode cX2_paid 17 = .ok (.iconst 0, 1) := by decide +kernel
theorem dX2_paid_18 : decode cX2_paid 18 = .ok (.istore_n 3, 1) := by decide +kernel
theorem dX2_paid_19 : decode cX2_paid 19 = .ok (.iload_n 2, 1) := by decide +kernel
theorem dX2_paid_20 : decode cX2_paid 20 = .ok (.istore 4, 2) := by decide +kernel
theorem dX2_paid_22 : decode cX2_paid 22 = .ok (.iload 4, 2) := by decide +kernel
theorem dX2_paid_24 : decode cX2_paid 24 = .ok (.ifCond .lt 41, 3) := by decide +kernel
theorem dX2_paid_27 : decode cX2_paid 27 = .ok (.aload_n 0, 1) := by decide +kernel
theorem dX2_paid_28 : decode cX2_paid 28 = .ok (.getfield 26, 3) := by decide +kernel
theorem dX2_paid_31 : decode cX2_paid 31 = .ok (.iload_n 1, 1) := by decide +kernel
theorem dX2_paid_32 : decode cX2_paid 32 = .ok (.iload 4, 2) := by decide +kernel
theorem dX2_paid_34 : decode cX2_paid 34 = .ok (.iastore, 1) := by decide +kernel
theorem dX2_paid_35 : decode cX2_paid 35 = .ok (.aload_n 0, 1) := by decide +kernel
theorem dX2_paid_36 : decode cX2_paid 36 = .ok (.invokevirtual 85, 3) := by decide +kernel
theorem dX2_paid_39 : decode cX2_paid 39 = .ok (.iload_n 1, 1) := by decide +kernel
theorem dX2_paid_40 : decode cX2_paid 40 = .ok (.if_icmp .ne 17, 3) := by decide +kernel
theorem dX2_paid_43 : decode cX2_paid 43 = .ok (.aload_n 0, 1) := by decide +kernel
theorem dX2_paid_44 : decode cX2_paid 44 = .ok (.getfield 17, 3) := by decide +kernel
theorem dX2_paid_47 : decode cX2_paid 47 = .ok (.iconst 5, 1) := by decide +kernel
theorem dX2_paid_48 : decode cX2_paid 48 = .ok (.iload_n 1, 1) := by decide +kernel
theorem dX2_paid_49 : decode cX2_paid 49 = .ok (.imul, 1) := by decide +kernel
theorem dX2_paid_50 : decode cX2_paid 50 = .ok (.iload 4, 2) := by decide +kernel
theorem dX2_paid_52 : decode cX2_paid 52 = .ok (.iadd, 1) := by decide +kernel
theorem dX2_paid_53 : decode cX2_paid 53 = .ok (.iaload, 1) := by decide +kernel
theorem dX2_paid_54 : decode cX2_paid 54 = .ok (.goto 4, 3) := by decide +kernel
theorem dX2_paid_57 : decode cX2_paid 57 = .ok (.iload_n 3, 1) := by decide +kernel
theorem dX2_paid_58 : decode cX2_paid 58 = .ok (.istore_n 3, 1) := by decide +kernel
theorem dX2_paid_59 : decode cX2_paid 59 = .ok (.iinc 4 (-1), 3) := by decide +kernel
theorem dX2_paid_62 : decode cX2_paid 62 = .ok (.goto (-40), 3) := by decide +kernel
theorem dX2_paid_65 : decode cX2_paid 65 = .ok (.aload_n 0, 1) := by decide +kernel
theorem dX2_paid_66 : decode cX2_paid 66 = .ok (.getfield 26, 3) := by decide +kernel
theorem dX2_paid_69 : decode cX2_paid 69 = .ok (.iload_n 1, 1) := by decide +kernel
theorem dX2_paid_70 : decode cX2_paid 70 = .ok (.iload_n 2, 1) := by decide +kernel
theorem dX2_paid_71 : decode cX2_paid 71 = .ok (.iastore, 1) := by decide +kernel
theorem dX2_paid_72 : decode cX2_paid 72 = .ok (.iload_n 3, 1) := by decide +kernel
theorem dX2_paid_73 : decode cX2_paid 73 = .ok (.ireturn, 1) := by decide +kernel
set_option maxRecDepth 20000 in
theorem ggX2_isPlaces_X2_isPlace : GoodIn wsX2_isPlaces wsX2_isPlace := goodIn_r _ [7, 8, 9, 10, 6, 11, 12, 13, 14, 15, 16, 17, 18, 19, 20, 21, 22, 23, 24, 25] (by decide +kernel) (by decide +kernel)
set_option maxRecDepth 20000 in
theorem gX2_isPlaces_X2_isPlace : GoodIn wsX2_isPlaces (wsV RX2 56 RX2 yX2_isPlace wsX2_isPlace) := goodIn_app (goodIn_of _ (by decide +kernel)) ggX2_isPlaces_X2_isPlace
theorem dX2_isPlaces_0 : decode cX2_isPlaces 0 = .ok (.aload_n 0, 1) := by decide +kernel
theorem dX2_isPlaces_1 : decode cX2_isPlaces 1 = .ok (.getfield 26, 3) := by decide +kernel
theorem dX2_isPlaces_4 : decode cX2_isPlaces 4 = .ok (.iconst 0, 1) := by decide +kernel
theorem dX2_isPlaces_5 : decode cX2_isPlaces 5 = .ok (.iload_n 1, 1) := by decide +kernel
theorem dX2_isPlaces_6 : decode cX2_isPlaces 6 = .ok (.iastore, 1) := by decide +kernel
theorem dX2_isPlaces_7 : decode cX2_isPlaces 7 = .ok (.aload_n 0, 1) := by decide +kernel
theorem dX2_isPlaces_8 : decode cX2_isPlaces 8 = .ok (.getfield 26, 3) := by decide +kernel
theorem dX2_isPlaces_11 : decode cX2_isPlaces 11 = .ok (.iconst 1, 1) := by decide +kernel
theorem dX2_isPlaces_12 : decode cX2_isPlaces 12 = .ok (.iload_n 2, 1) := by decide +kernel
theorem dX2_isPlaces_13 : decode cX2_isPlaces 13 = .ok (.iastore, 1) := by decide +kernel
theorem dX2_isPlaces_14 : decode cX2_isPlaces 14 = .ok (.aload_n 0, 1) := by decide +kernel
theorem dX2_isPlaces_15 : decode cX2_isPlaces 15 = .ok (.getfield 26, 3) := by decide +kernel
theorem dX2_isPlaces_18 : decode cX2_isPlaces 18 = .ok (.iconst 2, 1) := by decide +kernel
theorem dX2_isPlaces_19 : decode cX2_isPlaces 19 = .ok (.iload_n 3, 1) := by decide +kernel
theorem dX2_isPlaces_20 : decode cX2_isPlaces 20 = .ok (.iastore, 1) := by decide +kernel
theorem dX2_isPlaces_21 : decode cX2_isPlaces 21 = .ok (.iconst 1, 1) := by decide +kernel
theorem dX2_isPlaces_22 : decode cX2_isPlaces 22 = .ok (.istore 4, 2) := by decide +kernel
theorem dX2_isPlaces_24 : decode cX2_isPlaces 24 = .ok (.iconst 0, 1) := by decide +kernel
theorem dX2_isPlaces_25 : decode cX2_isPlaces 25 = .ok (.istore 5, 2) := by decide +kernel
theorem dX2_isPlaces_27 : decode cX2_isPlaces 27 = .ok (.iload 5, 2) := by decide +kernel
theorem dX2_isPlaces_29 : decode cX2_isPlaces 29 = .ok (.aload_n 0, 1) := by decide +kernel
theorem dX2_isPlaces_30 : decode cX2_isPlaces 30 = .ok (.getfield 7, 3) := by decide +kernel
theorem dX2_isPlaces_33 : decode cX2_isPlaces 33 = .ok (.if_icmp .ge 27, 3) := by decide +kernel
theorem dX2_isPlaces_36 : decode cX2_isPlaces 36 = .ok (.iload 4, 2) := by decide +kernel
theorem dX2_isPlaces_38 : decode cX2_isPlaces 38 = .ok (.aload_n 0, 1) := by decide +kernel
theorem dX2_isPlaces_39 : decode cX2_isPlaces 39 = .ok (.iload 5, 2) := by decide +kernel
theorem dX2_isPlaces_41 : decode cX2_isPlaces 41 = .ok (.aload_n 0, 1) := by decide +kernel
theorem dX2_isPlaces_42 : decode cX2_isPlaces 42 = .ok (.getfield 26, 3) := by decide +kernel
theorem dX2_isPlaces_45 : decode cX2_isPlaces 45 = .ok (.iload 5, 2) := by decide +kernel
theorem dX2_isPlaces_47 : decode cX2_isPlaces 47 = .ok (.iaload, 1) := by decide +kernel
theorem dX2_isPlaces_48 : decode cX2_isPlaces 48 = .ok (.invokevirtual 56, 3) := by decide +kernel
theorem dX2_isPlaces_51 : decode cX2_isPlaces 51 = .ok (.iand, 1) := by decide +kernel
theorem dX2_isPlaces_52 : decode cX2_isPlaces 52 = .ok (.istore 4, 2) := by decide +kernel
theorem dX2_isPlaces_54 : decode cX2_isPlaces 54 = .ok (.iinc 5 1, 3) := by decide +kernel
theorem dX2_isPlaces_57 : decode cX2_isPlaces 57 = .ok (.goto (-30), 3) := by decide +kernel
theorem dX2_isPlaces_60 : decode cX2_isPlaces 60 = .ok (.iload 4, 2) := by decide +kernel
theorem dX2_isPlaces_62 : decode cX2_isPlaces 62 = .ok (.ireturn, 1) := by decide +kernel
set_option maxRecDepth 20000 in
theorem ggX2_gets_X2_isPlaces : GoodIn wsX2_gets wsX2_isPlaces := goodIn_r _ [6, 7, 8, 9, 10, 11, 5, 12, 13, 14, 15, 16, 37, 38, 39, 40, 41, 42, 43, 44, 45, 46, 47, 48, 49, 50] (by decide +kernel) (by decide +kernel)
set_option maxRecDepth 20000 in
theorem gX2_gets_X2_isPlaces : GoodIn wsX2_gets (wsV RX2 89 RX2 yX2_isPlaces wsX2_isPlaces) := goodIn_app (goodIn_of _ (by decide +kernel)) ggX2_gets_X2_isPlaces
set_option maxRecDepth 20000 in
theorem ggX2_gets_X2_getter : GoodIn wsX2_gets wsX2_getter := goodIn_r _ [20, 8, 7, 21, 22, 23, 24, 25, 5, 26, 13, 27, 28, 29, 30, 31, 32, 33, 34, 35, 36, 37, 38, 39, 40, 41, 42, 43, 44, 45, 46, 47, 48, 49, 50] (by decide +kernel) (by decide +kernel)
set_option maxRecDepth 20000 in
theorem gX2_gets_X2_getter : GoodIn wsX2_gets (wsV RX2 85 RX2 yX2_getter wsX2_getter) := goodIn_app (goodIn_of _ (by decide +kernel)) ggX2_gets_X2_getter
theorem dX2_gets_0 : decode cX2_gets 0 = .ok (.aload_n 0, 1) := by decide +kernel
theorem dX2_gets_1 : decode cX2_gets 1 = .ok (.iconst 0, 1) := by decide +kernel
theorem dX2_gets_2 : decode cX2_gets 2 = .ok (.putfield 38, 3) := by decide +kernel
theorem dX2_gets_5 : decode cX2_gets 5 = .ok (.aload_n 0, 1) := by decide +kernel
theorem dX2_gets_6 : decode cX2_gets 6 = .ok (.iload_n 1, 1) := by decide +kernel
theorem dX2_gets_7 : decode cX2_gets 7 = .ok (.iload_n 2, 1) := by decide +kernel
theorem dX2_gets_8 : decode cX2_gets 8 = .ok (.iload_n 3, 1) := by decide +kernel
theorem dX2_gets_9 : decode cX2_gets 9 = .ok (.invokevirtual 89, 3) := by decide +kernel
theorem dX2_gets_12 : decode cX2_gets 12 = .ok (.ifCond .eq 10, 3) := by decide +kernel
theorem dX2_gets_15 : decode cX2_gets 15 = .ok (.aload_n 0, 1) := by decide +kernel
theorem dX2_gets_16 : decode cX2_gets 16 = .ok (.invokevirtual 85, 3) := by decide +kernel
theorem dX2_gets_19 : decode cX2_gets 19 = .ok (.goto 4, 3) := by decide +kernel
theorem dX2_gets_22 : decode cX2_gets 22 = .ok (.iconst (-1), 1) := by decide +kernel
theorem dX2_gets_23 : decode cX2_gets 23 = .ok (.ireturn, 1) := by decide +kernel
set_option maxRecDepth 20000 in
theorem ggX2_pays_X2_isPlaces : GoodIn wsX2_pays wsX2_isPlaces := goodIn_r _ [6, 7, 8, 9, 10, 11, 5, 12, 13, 14, 15, 16, 45, 46, 47, 48, 49, 50, 51, 52, 53, 54, 55, 56, 57, 58] (by decide +kernel) (by decide +kernel)
set_option maxRecDepth 20000 in
theorem gX2_pays_X2_isPlaces : GoodIn wsX2_pays (wsV RX2 89 RX2 yX2_isPlaces wsX2_isPlaces) := goodIn_app (goodIn_of _ (by decide +kernel)) ggX2_pays_X2_isPlaces
set_option maxRecDepth 20000 in
theorem ggX2_pays_X2_isBuyer : GoodIn wsX2_pays wsX2_isBuyer := goodIn_r _ [20, 8, 14, 15, 5, 16, 45, 46, 47, 48, 49, 50, 51, 52, 53, 54, 55, 56, 57, 58] (by decide +kernel) (by decide +kernel)
set_option maxRecDepth 20000 in
theorem gX2_pays_X2_isBuyer : GoodIn wsX2_pays (wsV RX2 45 RX2 yX2_isBuyer wsX2_isBuyer) := goodIn_app (goodIn_of _ (by decide +kernel)) ggX2_pays_X2_isBuyer
set_option maxRecDepth 20000 in
theorem ggX2_pays_X2_paid : GoodIn wsX2_pays wsX2_paid := goodIn_r _ [24, 7, 25, 26, 27, 28, 5, 29, 8, 30, 31, 32, 33, 34, 35, 13, 36, 37, 38, 39, 40, 41, 42, 43, 44, 45, 46, 47, 48, 49, 50, 51, 52, 53, 54, 55, 56, 57, 58] (by decide +kernel) (by decide +kernel)
set_option maxRecDepth 20000 in
theorem gX2_pays_X2_paid : GoodIn wsX2_pays (wsV RX2 92 RX2 yX2_paid wsX2_paid) := goodIn_app (goodIn_of _ (by decide +kernel)) ggX2_pays_X2_paid
theorem dX2_pays_0 : decode cX2_pays 0 = .ok (.aload_n 0, 1) := by decide +kernel
theorem dX2_pays_1 : decode cX2_pays 1 = .ok (.iconst 0, 1) := by decide +kernel
theorem dX2_pays_2 : decode cX2_pays 2 = .ok (.putfield 38, 3) := by decide +kernel
theorem dX2_pays_5 : decode cX2_pays 5 = .ok (.aload_n 0, 1) := by decide +kernel
theorem dX2_pays_6 : decode cX2_pays 6 = .ok (.iload_n 1, 1) := by decide +kernel
theorem dX2_pays_7 : decode cX2_pays 7 = .ok (.iload_n 2, 1) := by decide +kernel
theorem dX2_pays_8 : decode cX2_pays 8 = .ok (.iload_n 3, 1) := by decide +kernel
theorem dX2_pays_9 : decode cX2_pays 9 = .ok (.invokevirtual 89, 3) := by decide +kernel
theorem dX2_pays_12 : decode cX2_pays 12 = .ok (.ifCond .eq 21, 3) := by decide +kernel
theorem dX2_pays_15 : decode cX2_pays 15 = .ok (.aload_n 0, 1) := by decide +kernel
theorem dX2_pays_16 : decode cX2_pays 16 = .ok (.iload 4, 2) := by decide +kernel
theorem dX2_pays_18 : decode cX2_pays 18 = .ok (.invokevirtual 45, 3) := by decide +kernel
theorem dX2_pays_21 : decode cX2_pays 21 = .ok (.ifCond .eq 12, 3) := by decide +kernel
theorem dX2_pays_24 : decode cX2_pays 24 = .ok (.aload_n 0, 1) := by decide +kernel
theorem dX2_pays_25 : decode cX2_pays 25 = .ok (.iload 4, 2) := by decide +kernel
theorem dX2_pays_27 : decode cX2_pays 27 = .ok (.invokevirtual 92, 3) := by decide +kernel
theorem dX2_pays_30 : decode cX2_pays 30 = .ok (.goto 4, 3) := by decide +kernel
theorem dX2_pays_33 : decode cX2_pays 33 = .ok (.iconst (-1), 1) := by decide +kernel
theorem dX2_pays_34 : decode cX2_pays 34 = .ok (.ireturn, 1) := by decide +kernel
set_option maxRecDepth 20000 in
theorem ggX2_gain_X2_isPlaces : GoodIn wsX2_gain wsX2_isPlaces := goodIn_r _ [9, 4, 10, 11, 12, 13, 8, 14, 15, 16, 17, 18, 46, 47, 48, 49, 50, 51, 52, 53, 54, 55, 56, 57, 58, 59] (by decide +kernel) (by decide +kernel)
set_option maxRecDepth 20000 in
theorem gX2_gain_X2_isPlaces : GoodIn wsX2_gain (wsV RX2 89 RX2 yX2_isPlaces wsX2_isPlaces) := goodIn_app (goodIn_of _ (by decide +kernel)) ggX2_gain_X2_isPlaces
set_option maxRecDepth 20000 in
theorem ggX2_gain_X2_isBuyer : GoodIn wsX2_gain wsX2_isBuyer := goodIn_r _ [22, 10, 16, 17, 8, 18, 46, 47, 48, 49, 50, 51, 52, 53, 54, 55, 56, 57, 58, 59] (by decide +kernel) (by decide +kernel)
set_option maxRecDepth 20000 in
theorem gX2_gain_X2_isBuyer : GoodIn wsX2_gain (wsV RX2 45 RX2 yX2_isBuyer wsX2_isBuyer) := goodIn_app (goodIn_of _ (by decide +kernel)) ggX2_gain_X2_isBuyer
set_option maxRecDepth 20000 in
theorem ggX2_gain_X2_isPlace : GoodIn wsX2_gain wsX2_isPlace := goodIn_r _ [14, 15, 16, 17, 8, 18, 46, 47, 48, 49, 50, 51, 52, 53, 54, 55, 56, 57, 58, 59] (by decide +kernel) (by decide +kernel)
set_option maxRecDepth 20000 in
theorem gX2_gain_X2_isPlace : GoodIn wsX2_gain (wsV RX2 56 RX2 yX2_isPlace wsX2_isPlace) := goodIn_app (goodIn_of _ (by decide +kernel)) ggX2_gain_X2_isPlace
set_option maxRecDepth 20000 in
theorem ggX2_gain_X2_getter : GoodIn wsX2_gain wsX2_getter := goodIn_r _ [26, 10, 4, 27, 28, 29, 30, 31, 8, 32, 15, 33, 34, 35, 36, 3, 37, 38, 39, 40, 41, 46, 47, 48, 49, 50, 51, 52, 53, 54, 55, 56, 57, 58, 59] (by decide +kernel) (by decide +kernel)
set_option maxRecDepth 20000 in
theorem gX2_gain_X2_getter : GoodIn wsX2_gain (wsV RX2 85 RX2 yX2_getter wsX2_getter) := goodIn_app (goodIn_of _ (by decide +kernel)) ggX2_gain_X2_getter
set_option maxRecDepth 20000 in
theorem ggX2_gain_X2_paid : GoodIn wsX2_gain wsX2_paid := goodIn_r _ [45, 4, 3, 23, 24, 25, 8, 26, 10, 27, 28, 29, 30, 31, 32, 15, 33, 34, 35, 36, 37, 38, 39, 40, 41, 46, 47, 48, 49, 50, 51, 52, 53, 54, 55, 56, 57, 58, 59] (by decide +kernel) (by decide +kernel)
set_option maxRecDepth 20000 in
theorem gX2_gain_X2_paid : GoodIn wsX2_gain (wsV RX2 92 RX2 yX2_paid wsX2_paid) := goodIn_app (goodIn_of _ (by decide +kernel)) ggX2_gain_X2_paid
theorem dX2_gain_0 : decode cX2_gain 0 = .ok (.aload_n 0, 1) := by decide +kernel
theorem dX2_gain_1 : decode cX2_gain 1 = .ok (.iconst 0, 1) := by decide +kernel
theorem dX2_gain_2 : decode cX2_gain 2 = .ok (.putfield 38, 3) := by decide +kernel
theorem dX2_gain_5 : decode cX2_gain 5 = .ok (.aload_n 0, 1) := by decide +kernel
theorem dX2_gain_6 : decode cX2_gain 6 = .ok (.iload_n 1, 1) := by decide +kernel
theorem dX2_gain_7 : decode cX2_gain 7 = .ok (.iload_n 2, 1) := by decide +kernel
theorem dX2_gain_8 : decode cX2_gain 8 = .ok (.iload_n 3, 1) := by decide +kernel
theorem dX2_gain_9 : decode cX2_gain 9 = .ok (.invokevirtual 89, 3) := by decide +kernel
theorem dX2_gain_12 : decode cX2_gain 12 = .ok (.ifCond .eq 23, 3) := by decide +kernel
theorem dX2_gain_15 : decode cX2_gain 15 = .ok (.aload_n 0, 1) := by decide +kernel
theorem dX2_gain_16 : decode cX2_gain 16 = .ok (.iload 4, 2) := by decide +kernel
theorem dX2_gain_18 : decode cX2_gain 18 = .ok (.invokevirtual 45, 3) := by decide +kernel
theorem dX2_gain_21 : decode cX2_gain 21 = .ok (.ifCond .eq 14, 3) := by decide +kernel
theorem dX2_gain_24 : decode cX2_gain 24 = .ok (.aload_n 0, 1) := by decide +kernel
theorem dX2_gain_25 : decode cX2_gain 25 = .ok (.iload 4, 2) := by decide +kernel
theorem dX2_gain_27 : decode cX2_gain 27 = .ok (.iload 5, 2) := by decide +kernel
theorem dX2_gain_29 : decode cX2_gain 29 = .ok (.invokevirtual 56, 3) := by decide +kernel
theorem dX2_gain_32 : decode cX2_gain 32 = .ok (.ifCond .ne 7, 3) := by decide +kernel
theorem dX2_gain_35 : decode cX2_gain 35 = .ok (.ldc2_w 75, 3) := by decide +kernel
theorem dX2_gain_38 : decode cX2_gain 38 = .ok (.lreturn, 1) := by decide +kernel
theorem dX2_gain_39 : decode cX2_gain 39 = .ok (.aload_n 0, 1) := by decide +kernel
theorem dX2_gain_40 : decode cX2_gain 40 = .ok (.getfield 17, 3) := by decide +kernel
theorem dX2_gain_43 : decode cX2_gain 43 = .ok (.iconst 5, 1) := by decide +kernel
theorem dX2_gain_44 : decode cX2_gain 44 = .ok (.iload 4, 2) := by decide +kernel
theorem dX2_gain_46 : decode cX2_gain 46 = .ok (.imul, 1) := by decide +kernel
theorem dX2_gain_47 : decode cX2_gain 47 = .ok (.aload_n 0, 1) := by decide +kernel
theorem dX2_gain_48 : decode cX2_gain 48 = .ok (.getfield 26, 3) := by decide +kernel
theorem dX2_gain_51 : decode cX2_gain 51 = .ok (.iload 4, 2) := by decide +kernel
theorem dX2_gain_53 : decode cX2_gain 53 = .ok (.iaload, 1) := by decide +kernel
theorem dX2_gain_54 : decode cX2_gain 54 = .ok (.iadd, 1) := by decide +kernel
theorem dX2_gain_55 : decode cX2_gain 55 = .ok (.iaload, 1) := by decide +kernel
theorem dX2_gain_56 : decode cX2_gain 56 = .ok (.istore 6, 2) := by decide +kernel
theorem dX2_gain_58 : decode cX2_gain 58 = .ok (.aload_n 0, 1) := by decide +kernel
theorem dX2_gain_59 : decode cX2_gain 59 = .ok (.getfield 26, 3) := by decide +kernel
theorem dX2_gain_62 : decode cX2_gain 62 = .ok (.iload 4, 2) := by decide +kernel
theorem dX2_gain_64 : decode cX2_gain 64 = .ok (.iload 5, 2) := by decide +kernel
theorem dX2_gain_66 : decode cX2_gain 66 = .ok (.iastore, 1) := by decide +kernel
theorem dX2_gain_67 : decode cX2_gain 67 = .ok (.aload_n 0, 1) := by decide +kernel
theorem dX2_gain_68 : decode cX2_gain 68 = .ok (.invokevirtual 85, 3) := by decide +kernel
theorem dX2_gain_71 : decode cX2_gain 71 = .ok (.iload 4, 2) := by decide +kernel
theorem dX2_gain_73 : decode cX2_gain 73 = .ok (.if_icmp .ne 16, 3) := by decide +kernel
theorem dX2_gain_76 : decode cX2_gain 76 = .ok (.iload 6, 2) := by decide +kernel
theorem dX2_gain_78 : decode cX2_gain 78 = .ok (.aload_n 0, 1) := by decide +kernel
theorem dX2_gain_79 : decode cX2_gain 79 = .ok (.iload 4, 2) := by decide +kernel
theorem dX2_gain_81 : decode cX2_gain 81 = .ok (.invokevirtual 92, 3) := by decide +kernel
theorem dX2_gain_84 : decode cX2_gain 84 = .ok (.isub, 1) := by decide +kernel
theorem dX2_gain_85 : decode cX2_gain 85 = .ok (.i2l, 1) := by decide +kernel
theorem dX2_gain_86 : decode cX2_gain 86 = .ok (.goto 4, 3) := by decide +kernel
theorem dX2_gain_89 : decode cX2_gain 89 = .ok (.lconst 0, 1) := by decide +kernel
theorem dX2_gain_90 : decode cX2_gain 90 = .ok (.lreturn, 1) := by decide +kernel
set_option maxRecDepth 20000 in
theorem ggX2_all_X2_share : GoodIn wsX2_all wsX2_share := goodIn_r _ [6, 7, 8, 9, 10, 11, 12, 13, 14, 15, 16, 17, 18, 19, 20, 21, 22] (by decide +kernel) (by decide +kernel)
set_option maxRecDepth 20000 in
theorem gX2_all_X2_share : GoodIn wsX2_all (wsV RX2 49 RX2 yX2_share wsX2_share) := goodIn_app (goodIn_of _ (by decide +kernel)) ggX2_all_X2_share
theorem dX2_all_0 : decode cX2_all 0 = .ok (.iconst 1, 1) := by decide +kernel
theorem dX2_all_1 : decode cX2_all 1 = .ok (.istore_n 1, 1) := by decide +kernel
theorem dX2_all_2 : decode cX2_all 2 = .ok (.iconst 0, 1) := by decide +kernel
theorem dX2_all_3 : decode cX2_all 3 = .ok (.istore_n 2, 1) := by decide +kernel
theorem dX2_all_4 : decode cX2_all 4 = .ok (.iload_n 2, 1) := by decide +kernel
theorem dX2_all_5 : decode cX2_all 5 = .ok (.aload_n 0, 1) := by decide +kernel
theorem dX2_all_6 : decode cX2_all 6 = .ok (.getfield 7, 3) := by decide +kernel
theorem dX2_all_9 : decode cX2_all 9 = .ok (.if_icmp .ge 18, 3) := by decide +kernel
theorem dX2_all_12 : decode cX2_all 12 = .ok (.iload_n 1, 1) := by decide +kernel
theorem dX2_all_13 : decode cX2_all 13 = .ok (.aload_n 0, 1) := by decide +kernel
theorem dX2_all_14 : decode cX2_all 14 = .ok (.iload_n 2, 1) := by decide +kernel
theorem dX2_all_15 : decode cX2_all 15 = .ok (.iconst 0, 1) := by decide +kernel
theorem dX2_all_16 : decode cX2_all 16 = .ok (.invokevirtual 49, 3) := by decide +kernel
theorem dX2_all_19 : decode cX2_all 19 = .ok (.imul, 1) := by decide +kernel
theorem dX2_all_20 : decode cX2_all 20 = .ok (.istore_n 1, 1) := by decide +kernel
theorem dX2_all_21 : decode cX2_all 21 = .ok (.iinc 2 1, 3) := by decide +kernel
theorem dX2_all_24 : decode cX2_all 24 = .ok (.goto (-20), 3) := by decide +kernel
theorem dX2_all_27 : decode cX2_all 27 = .ok (.iload_n 1, 1) := by decide +kernel
theorem dX2_all_28 : decode cX2_all 28 = .ok (.ireturn, 1) := by decide +kernel
end
section
set_option maxRecDepth 20000 in
theorem ggX2_comes_X2_isPlace : GoodIn wsX2_comes wsX2_isPlace := goodIn_r _ [8, 9, 10, 11, 7, 12, 13, 14, 15, 16, 17, 18, 19, 20, 21, 22, 23, 24, 25, 26] (by decide +kernel) (by decide +kernel)
set_option maxRecDepth 20000 in
theorem gX2_comes_X2_isPlace : GoodIn wsX2_comes (wsV RX2 56 RX2 yX2_isPlace wsX2_isPlace) := goodIn_app (goodIn_of _ (by decide +kernel)) ggX2_comes_X2_isPlace
theorem dX2_comes_0 : decode cX2_comes 0 = .ok (.iload_n 1, 1) := by decide +kernel
theorem dX2_comes_1 : decode cX2_comes 1 = .ok (.istore_n 2, 1) := by decide +kernel
theorem dX2_comes_2 : decode cX2_comes 2 = .ok (.iconst 1, 1) := by decide +kernel
theorem dX2_comes_3 : decode cX2_comes 3 = .ok (.istore_n 3, 1) := by decide +kernel
theorem dX2_comes_4 : decode cX2_comes 4 = .ok (.iconst 0, 1) := by decide +kernel
theorem dX2_comes_5 : decode cX2_comes 5 = .ok (.istore 4, 2) := by decide +kernel
theorem dX2_comes_7 : decode cX2_comes 7 = .ok (.iload 4, 2) := by decide +kernel
theorem dX2_comes_9 : decode cX2_comes 9 = .ok (.iconst 3, 1) := by decide +kernel
theorem dX2_comes_10 : decode cX2_comes 10 = .ok (.if_icmp .ge 93, 3) := by decide +kernel
theorem dX2_comes_13 : decode cX2_comes 13 = .ok (.aload_n 0, 1) := by decide +kernel
theorem dX2_comes_14 : decode cX2_comes 14 = .ok (.getfield 26, 3) := by decide +kernel
theorem dX2_comes_17 : decode cX2_comes 17 = .ok (.iload 4, 2) := by decide +kernel
theorem dX2_comes_19 : decode cX2_comes 19 = .ok (.iload_n 2, 1) := by decide +kernel
theorem dX2_comes_20 : decode cX2_comes 20 = .ok (.iconst 5, 1) := by decide +kernel
theorem dX2_comes_21 : decode cX2_comes 21 = .ok (.irem, 1) := by decide +kernel
theorem dX2_comes_22 : decode cX2_comes 22 = .ok (.iastore, 1) := by decide +kernel
theorem dX2_comes_23 : decode cX2_comes 23 = .ok (.iload_n 2, 1) := by decide +kernel
theorem dX2_comes_24 : decode cX2_comes 24 = .ok (.iconst 5, 1) := by decide +kernel
theorem dX2_comes_25 : decode cX2_comes 25 = .ok (.idiv, 1) := by decide +kernel
theorem dX2_comes_26 : decode cX2_comes 26 = .ok (.istore_n 2, 1) := by decide +kernel
theorem dX2_comes_27 : decode cX2_comes 27 = .ok (.iload 4, 2) := by decide +kernel
theorem dX2_comes_29 : decode cX2_comes 29 = .ok (.aload_n 0, 1) := by decide +kernel
theorem dX2_comes_30 : decode cX2_comes 30 = .ok (.getfield 7, 3) := by decide +kernel
theorem dX2_comes_33 : decode cX2_comes 33 = .ok (.if_icmp .ge 46, 3) := by decide +kernel
theorem dX2_comes_36 : decode cX2_comes 36 = .ok (.iload_n 3, 1) := by decide +kernel
theorem dX2_comes_37 : decode cX2_comes 37 = .ok (.aload_n 0, 1) := by decide +kernel
theorem dX2_comes_38 : decode cX2_comes 38 = .ok (.iload 4, 2) := by decide +kernel
theorem dX2_comes_40 : decode cX2_comes 40 = .ok (.aload_n 0, 1) := by decide +kernel
theorem dX2_comes_41 : decode cX2_comes 41 = .ok (.getfield 26, 3) := by decide +kernel
theorem dX2_comes_44 : decode cX2_comes 44 = .ok (.iload 4, 2) := by decide +kernel
theorem dX2_comes_46 : decode cX2_comes 46 = .ok (.iaload, 1) := by decide +kernel
theorem dX2_comes_47 : decode cX2_comes 47 = .ok (.invokevirtual 56, 3) := by decide +kernel
theorem dX2_comes_50 : decode cX2_comes 50 = .ok (.ifCond .eq 23, 3) := by decide +kernel
theorem dX2_comes_53 : decode cX2_comes 53 = .ok (.aload_n 0, 1) := by decide +kernel
theorem dX2_comes_54 : decode cX2_comes 54 = .ok (.getfield 20, 3) := by decide +kernel
theorem dX2_comes_57 : decode cX2_comes 57 = .ok (.iconst 5, 1) := by decide +kernel
theorem dX2_comes_58 : decode cX2_comes 58 = .ok (.iload 4, 2) := by decide +kernel
theorem dX2_comes_60 : decode cX2_comes 60 = .ok (.imul, 1) := by decide +kernel
theorem dX2_comes_61 : decode cX2_comes 61 = .ok (.aload_n 0, 1) := by decide +kernel
theorem dX2_comes_62 : decode cX2_comes 62 = .ok (.getfield 26, 3) := by decide +kernel
theorem dX2_comes_65 : decode cX2_comes 65 = .ok (.iload 4, 2) := by decide +kernel
theorem dX2_comes_67 : decode cX2_comes 67 = .ok (.iaload, 1) := by decide +kernel
theorem dX2_comes_68 : decode cX2_comes 68 = .ok (.iadd, 1) := by decide +kernel
theorem dX2_comes_69 : decode cX2_comes 69 = .ok (.iaload, 1) := by decide +kernel
theorem dX2_comes_70 : decode cX2_comes 70 = .ok (.goto 4, 3) := by decide +kernel
theorem dX2_comes_73 : decode cX2_comes 73 = .ok (.iconst 0, 1) := by decide +kernel
theorem dX2_comes_74 : decode cX2_comes 74 = .ok (.imul, 1) := by decide +kernel
theorem dX2_comes_75 : decode cX2_comes 75 = .ok (.istore_n 3, 1) := by decide +kernel
theorem dX2_comes_76 : decode cX2_comes 76 = .ok (.goto 21, 3) := by decide +kernel
theorem dX2_comes_79 : decode cX2_comes 79 = .ok (.iload_n 3, 1) := by decide +kernel
theorem dX2_comes_80 : decode cX2_comes 80 = .ok (.aload_n 0, 1) := by decide +kernel
theorem dX2_comes_81 : decode cX2_comes 81 = .ok (.getfield 26, 3) := by decide +kernel
theorem dX2_comes_84 : decode cX2_comes 84 = .ok (.iload 4, 2) := by decide +kernel
theorem dX2_comes_86 : decode cX2_comes 86 = .ok (.iaload, 1) := by decide +kernel
theorem dX2_comes_87 : decode cX2_comes 87 = .ok (.ifCond .ne 7, 3) := by decide +kernel
theorem dX2_comes_90 : decode cX2_comes 90 = .ok (.iconst 1, 1) := by decide +kernel
theorem dX2_comes_91 : decode cX2_comes 91 = .ok (.goto 4, 3) := by decide +kernel
theorem dX2_comes_94 : decode cX2_comes 94 = .ok (.iconst 0, 1) := by decide +kernel
theorem dX2_comes_95 : decode cX2_comes 95 = .ok (.imul, 1) := by decide +kernel
theorem dX2_comes_96 : decode cX2_comes 96 = .ok (.istore_n 3, 1) := by decide +kernel
theorem dX2_comes_97 : decode cX2_comes 97 = .ok (.iinc 4 1, 3) := by decide +kernel
theorem dX2_comes_100 : decode cX2_comes 100 = .ok (.goto (-93), 3) := by decide +kernel
theorem dX2_comes_103 : decode cX2_comes 103 = .ok (.iload_n 3, 1) := by decide +kernel
theorem dX2_comes_104 : decode cX2_comes 104 = .ok (.ireturn, 1) := by decide +kernel
set_option maxRecDepth 20000 in
theorem ggX2_brings_X2_in : GoodIn wsX2_brings wsX2_in := goodIn_r _ [7] (by decide +kernel) (by decide +kernel)
set_option maxRecDepth 20000 in
theorem gX2_brings_X2_in : GoodIn wsX2_brings (va_wsS RX2 41 yX2_in wsX2_in) := goodIn_app (goodIn_of _ (by decide +kernel)) ggX2_brings_X2_in
set_option maxRecDepth 20000 in
theorem ggX2_brings_X2_comes : GoodIn wsX2_brings wsX2_comes := goodIn_r _ [11, 12, 3, 13, 14, 15, 16, 6, 17, 18, 4, 5, 7, 53, 54, 55, 56, 57, 58, 59, 60, 61, 62, 63, 64, 65, 66] (by decide +kernel) (by decide +kernel)
set_option maxRecDepth 20000 in
theorem gX2_brings_X2_comes : GoodIn wsX2_brings (wsV RX2 95 RX2 yX2_comes wsX2_comes) := goodIn_app (goodIn_of _ (by decide +kernel)) ggX2_brings_X2_comes
set_option maxRecDepth 20000 in
theorem ggX2_brings_X2_paid : GoodIn wsX2_brings wsX2_paid := goodIn_r _ [22, 12, 23, 24, 25, 26, 6, 27, 3, 28, 29, 30, 31, 32, 33, 18, 34, 35, 36, 37, 38, 39, 40, 41, 13, 53, 54, 55, 56, 57, 58, 59, 60, 61, 62, 63, 64, 65, 66] (by decide +kernel) (by decide +kernel)
set_option maxRecDepth 20000 in
theorem gX2_brings_X2_paid : GoodIn wsX2_brings (wsV RX2 92 RX2 yX2_paid wsX2_paid) := goodIn_app (goodIn_of _ (by decide +kernel)) ggX2_brings_X2_paid
set_option maxRecDepth 20000 in
theorem ggX2_brings_X2_all : GoodIn wsX2_brings wsX2_all := goodIn_r _ [45, 3, 38, 39, 40, 6, 41, 18, 13, 53, 54, 55, 56, 57, 58, 59, 60, 61, 62, 63, 64, 65, 66] (by decide +kernel) (by decide +kernel)
set_option maxRecDepth 20000 in
theorem gX2_brings_X2_all : GoodIn wsX2_brings (wsV RX2 98 RX2 yX2_all wsX2_all) := goodIn_app (goodIn_of _ (by decide +kernel)) ggX2_brings_X2_all
set_option maxRecDepth 20000 in
theorem ggX2_brings_X2_part : GoodIn wsX2_brings wsX2_part := goodIn_r _ [49, 50, 51, 6, 52] (by decide +kernel) (by decide +kernel)
set_option maxRecDepth 20000 in
theorem gX2_brings_X2_part : GoodIn wsX2_brings (wsV RX2 81 RX2 yX2_part wsX2_part) := goodIn_app (goodIn_of _ (by decide +kernel)) ggX2_brings_X2_part
theorem dX2_brings_0 : decode cX2_brings 0 = .ok (.aload_n 0, 1) := by decide +kernel
theorem dX2_brings_1 : decode cX2_brings 1 = .ok (.iconst 0, 1) := by decide +kernel
theorem dX2_brings_2 : decode cX2_brings 2 = .ok (.putfield 38, 3) := by decide +kernel
theorem dX2_brings_5 : decode cX2_brings 5 = .ok (.iload_n 1, 1) := by decide +kernel
theorem dX2_brings_6 : decode cX2_brings 6 = .ok (.iconst 0, 1) := by decide +kernel
theorem dX2_brings_7 : decode cX2_brings 7 = .ok (.iconst 1, 1) := by decide +kernel
theorem dX2_brings_8 : decode cX2_brings 8 = .ok (.invokestatic 41, 3) := by decide +kernel
theorem dX2_brings_11 : decode cX2_brings 11 = .ok (.ifCond .ne 7, 3) := by decide +kernel
theorem dX2_brings_14 : decode cX2_brings 14 = .ok (.ldc2_w 75, 3) := by decide +kernel
theorem dX2_brings_17 : decode cX2_brings 17 = .ok (.lreturn, 1) := by decide +kernel
theorem dX2_brings_18 : decode cX2_brings 18 = .ok (.lconst 0, 1) := by decide +kernel
theorem dX2_brings_19 : decode cX2_brings 19 = .ok (.lstore_n 2, 1) := by decide +kernel
theorem dX2_brings_20 : decode cX2_brings 20 = .ok (.iconst 0, 1) := by decide +kernel
theorem dX2_brings_21 : decode cX2_brings 21 = .ok (.istore 4, 2) := by decide +kernel
theorem dX2_brings_23 : decode cX2_brings 23 = .ok (.iload 4, 2) := by decide +kernel
theorem dX2_brings_25 : decode cX2_brings 25 = .ok (.bipush 125, 2) := by decide +kernel
theorem dX2_brings_27 : decode cX2_brings 27 = .ok (.if_icmp .ge 54, 3) := by decide +kernel
theorem dX2_brings_30 : decode cX2_brings 30 = .ok (.aload_n 0, 1) := by decide +kernel
theorem dX2_brings_31 : decode cX2_brings 31 = .ok (.iload 4, 2) := by decide +kernel
theorem dX2_brings_33 : decode cX2_brings 33 = .ok (.invokevirtual 95, 3) := by decide +kernel
theorem dX2_brings_36 : decode cX2_brings 36 = .ok (.istore 5, 2) := by decide +kernel
theorem dX2_brings_38 : decode cX2_brings 38 = .ok (.iconst 0, 1) := by decide +kernel
theorem dX2_brings_39 : decode cX2_brings 39 = .ok (.istore 6, 2) := by decide +kernel
theorem dX2_brings_41 : decode cX2_brings 41 = .ok (.iload 6, 2) := by decide +kernel
theorem dX2_brings_43 : decode cX2_brings 43 = .ok (.aload_n 0, 1) := by decide +kernel
theorem dX2_brings_44 : decode cX2_brings 44 = .ok (.getfield 7, 3) := by decide +kernel
theorem dX2_brings_47 : decode cX2_brings 47 = .ok (.if_icmp .ge 28, 3) := by decide +kernel
theorem dX2_brings_50 : decode cX2_brings 50 = .ok (.iload 5, 2) := by decide +kernel
theorem dX2_brings_52 : decode cX2_brings 52 = .ok (.ifCond .le 23, 3) := by decide +kernel
theorem dX2_brings_55 : decode cX2_brings 55 = .ok (.lload_n 2, 1) := by decide +kernel
theorem dX2_brings_56 : decode cX2_brings 56 = .ok (.iload 5, 2) := by decide +kernel
theorem dX2_brings_58 : decode cX2_brings 58 = .ok (.i2l, 1) := by decide +kernel
theorem dX2_brings_59 : decode cX2_brings 59 = .ok (.aload_n 0, 1) := by decide +kernel
theorem dX2_brings_60 : decode cX2_brings 60 = .ok (.iload 6, 2) := by decide +kernel
theorem dX2_brings_62 : decode cX2_brings 62 = .ok (.invokevirtual 92, 3) := by decide +kernel
theorem dX2_brings_65 : decode cX2_brings 65 = .ok (.i2l, 1) := by decide +kernel
theorem dX2_brings_66 : decode cX2_brings 66 = .ok (.lmul, 1) := by decide +kernel
theorem dX2_brings_67 : decode cX2_brings 67 = .ok (.ladd, 1) := by decide +kernel
theorem dX2_brings_68 : decode cX2_brings 68 = .ok (.lstore_n 2, 1) := by decide +kernel
theorem dX2_brings_69 : decode cX2_brings 69 = .ok (.iinc 6 1, 3) := by decide +kernel
theorem dX2_brings_72 : decode cX2_brings 72 = .ok (.goto (-31), 3) := by decide +kernel
theorem dX2_brings_75 : decode cX2_brings 75 = .ok (.iinc 4 1, 3) := by decide +kernel
theorem dX2_brings_78 : decode cX2_brings 78 = .ok (.goto (-55), 3) := by decide +kernel
theorem dX2_brings_81 : decode cX2_brings 81 = .ok (.aload_n 0, 1) := by decide +kernel
theorem dX2_brings_82 : decode cX2_brings 82 = .ok (.lload_n 2, 1) := by decide +kernel
theorem dX2_brings_83 : decode cX2_brings 83 = .ok (.aload_n 0, 1) := by decide +kernel
theorem dX2_brings_84 : decode cX2_brings 84 = .ok (.invokevirtual 98, 3) := by decide +kernel
theorem dX2_brings_87 : decode cX2_brings 87 = .ok (.i2l, 1) := by decide +kernel
theorem dX2_brings_88 : decode cX2_brings 88 = .ok (.iload_n 1, 1) := by decide +kernel
theorem dX2_brings_89 : decode cX2_brings 89 = .ok (.invokevirtual 81, 3) := by decide +kernel
theorem dX2_brings_92 : decode cX2_brings 92 = .ok (.lreturn, 1) := by decide +kernel
set_option maxRecDepth 20000 in
theorem ggX2_reserve_X2_in : GoodIn wsX2_reserve wsX2_in := goodIn_r _ [6] (by decide +kernel) (by decide +kernel)
set_option maxRecDepth 20000 in
theorem gX2_reserve_X2_in : GoodIn wsX2_reserve (va_wsS RX2 41 yX2_in wsX2_in) := goodIn_app (goodIn_of _ (by decide +kernel)) ggX2_reserve_X2_in
theorem dX2_reserve_0 : decode cX2_reserve 0 = .ok (.aload_n 0, 1) := by decide +kernel
theorem dX2_reserve_1 : decode cX2_reserve 1 = .ok (.iconst 0, 1) := by decide +kernel
theorem dX2_reserve_2 : decode cX2_reserve 2 = .ok (.putfield 38, 3) := by decide +kernel
theorem dX2_reserve_5 : decode cX2_reserve 5 = .ok (.iload_n 1, 1) := by decide +kernel
theorem dX2_reserve_6 : decode cX2_reserve 6 = .ok (.iconst 0, 1) := by decide +kernel
theorem dX2_reserve_7 : decode cX2_reserve 7 = .ok (.sipush 1000, 3) := by decide +kernel
theorem dX2_reserve_10 : decode cX2_reserve 10 = .ok (.invokestatic 41, 3) := by decide +kernel
theorem dX2_reserve_13 : decode cX2_reserve 13 = .ok (.ifCond .ne 5, 3) := by decide +kernel
theorem dX2_reserve_16 : decode cX2_reserve 16 = .ok (.iconst (-1), 1) := by decide +kernel
theorem dX2_reserve_17 : decode cX2_reserve 17 = .ok (.ireturn, 1) := by decide +kernel
theorem dX2_reserve_18 : decode cX2_reserve 18 = .ok (.aload_n 0, 1) := by decide +kernel
theorem dX2_reserve_19 : decode cX2_reserve 19 = .ok (.getfield 101, 3) := by decide +kernel
theorem dX2_reserve_22 : decode cX2_reserve 22 = .ok (.istore_n 2, 1) := by decide +kernel
theorem dX2_reserve_23 : decode cX2_reserve 23 = .ok (.aload_n 0, 1) := by decide +kernel
theorem dX2_reserve_24 : decode cX2_reserve 24 = .ok (.iload_n 1, 1) := by decide +kernel
theorem dX2_reserve_25 : decode cX2_reserve 25 = .ok (.putfield 101, 3) := by decide +kernel
theorem dX2_reserve_28 : decode cX2_reserve 28 = .ok (.iload_n 2, 1) := by decide +kernel
theorem dX2_reserve_29 : decode cX2_reserve 29 = .ok (.ireturn, 1) := by decide +kernel
theorem dX2_payOf_0 : decode cX2_payOf 0 = .ok (.iconst 0, 1) := by decide +kernel
theorem dX2_payOf_1 : decode cX2_payOf 1 = .ok (.istore_n 2, 1) := by decide +kernel
theorem dX2_payOf_2 : decode cX2_payOf 2 = .ok (.iconst 1, 1) := by decide +kernel
theorem dX2_payOf_3 : decode cX2_payOf 3 = .ok (.istore_n 3, 1) := by decide +kernel
theorem dX2_payOf_4 : decode cX2_payOf 4 = .ok (.iload_n 3, 1) := by decide +kernel
theorem dX2_payOf_5 : decode cX2_payOf 5 = .ok (.aload_n 0, 1) := by decide +kernel
theorem dX2_payOf_6 : decode cX2_payOf 6 = .ok (.getfield 7, 3) := by decide +kernel
theorem dX2_payOf_9 : decode cX2_payOf 9 = .ok (.if_icmp .ge 30, 3) := by decide +kernel
theorem dX2_payOf_12 : decode cX2_payOf 12 = .ok (.aload_n 0, 1) := by decide +kernel
theorem dX2_payOf_13 : decode cX2_payOf 13 = .ok (.getfield 29, 3) := by decide +kernel
theorem dX2_payOf_16 : decode cX2_payOf 16 = .ok (.iload_n 3, 1) := by decide +kernel
theorem dX2_payOf_17 : decode cX2_payOf 17 = .ok (.iaload, 1) := by decide +kernel
theorem dX2_payOf_18 : decode cX2_payOf 18 = .ok (.aload_n 0, 1) := by decide +kernel
theorem dX2_payOf_19 : decode cX2_payOf 19 = .ok (.getfield 29, 3) := by decide +kernel
theorem dX2_payOf_22 : decode cX2_payOf 22 = .ok (.iload_n 2, 1) := by decide +kernel
theorem dX2_payOf_23 : decode cX2_payOf 23 = .ok (.iaload, 1) := by decide +kernel
theorem dX2_payOf_24 : decode cX2_payOf 24 = .ok (.if_icmp .le 7, 3) := by decide +kernel
theorem dX2_payOf_27 : decode cX2_payOf 27 = .ok (.iload_n 3, 1) := by decide +kernel
theorem dX2_payOf_28 : decode cX2_payOf 28 = .ok (.goto 4, 3) := by decide +kernel
theorem dX2_payOf_31 : decode cX2_payOf 31 = .ok (.iload_n 2, 1) := by decide +kernel
theorem dX2_payOf_32 : decode cX2_payOf 32 = .ok (.istore_n 2, 1) := by decide +kernel
theorem dX2_payOf_33 : decode cX2_payOf 33 = .ok (.iinc 3 1, 3) := by decide +kernel
theorem dX2_payOf_36 : decode cX2_payOf 36 = .ok (.goto (-32), 3) := by decide +kernel
theorem dX2_payOf_39 : decode cX2_payOf 39 = .ok (.iload_n 1, 1) := by decide +kernel
theorem dX2_payOf_40 : decode cX2_payOf 40 = .ok (.ifCond .le 19, 3) := by decide +kernel
theorem dX2_payOf_43 : decode cX2_payOf 43 = .ok (.aload_n 0, 1) := by decide +kernel
theorem dX2_payOf_44 : decode cX2_payOf 44 = .ok (.getfield 29, 3) := by decide +kernel
theorem dX2_payOf_47 : decode cX2_payOf 47 = .ok (.iload_n 2, 1) := by decide +kernel
theorem dX2_payOf_48 : decode cX2_payOf 48 = .ok (.iaload, 1) := by decide +kernel
theorem dX2_payOf_49 : decode cX2_payOf 49 = .ok (.aload_n 0, 1) := by decide +kernel
theorem dX2_payOf_50 : decode cX2_payOf 50 = .ok (.getfield 101, 3) := by decide +kernel
theorem dX2_payOf_53 : decode cX2_payOf 53 = .ok (.if_icmp .ge 6, 3) := by decide +kernel
theorem dX2_payOf_56 : decode cX2_payOf 56 = .ok (.bipush (-9), 2) := by decide +kernel
theorem dX2_payOf_58 : decode cX2_payOf 58 = .ok (.ireturn, 1) := by decide +kernel
theorem dX2_payOf_59 : decode cX2_payOf 59 = .ok (.iconst 0, 1) := by decide +kernel
theorem dX2_payOf_60 : decode cX2_payOf 60 = .ok (.istore_n 3, 1) := by decide +kernel
theorem dX2_payOf_61 : decode cX2_payOf 61 = .ok (.iconst 0, 1) := by decide +kernel
theorem dX2_payOf_62 : decode cX2_payOf 62 = .ok (.istore 4, 2) := by decide +kernel
theorem dX2_payOf_64 : decode cX2_payOf 64 = .ok (.iload 4, 2) := by decide +kernel
theorem dX2_payOf_66 : decode cX2_payOf 66 = .ok (.aload_n 0, 1) := by decide +kernel
theorem dX2_payOf_67 : decode cX2_payOf 67 = .ok (.getfield 7, 3) := by decide +kernel
theorem dX2_payOf_70 : decode cX2_payOf 70 = .ok (.if_icmp .ge 38, 3) := by decide +kernel
theorem dX2_payOf_73 : decode cX2_payOf 73 = .ok (.iload 4, 2) := by decide +kernel
theorem dX2_payOf_75 : decode cX2_payOf 75 = .ok (.iload_n 2, 1) := by decide +kernel
theorem dX2_payOf_76 : decode cX2_payOf 76 = .ok (.if_icmp .eq 24, 3) := by decide +kernel
theorem dX2_payOf_79 : decode cX2_payOf 79 = .ok (.aload_n 0, 1) := by decide +kernel
theorem dX2_payOf_80 : decode cX2_payOf 80 = .ok (.getfield 29, 3) := by decide +kernel
theorem dX2_payOf_83 : decode cX2_payOf 83 = .ok (.iload 4, 2) := by decide +kernel
theorem dX2_payOf_85 : decode cX2_payOf 85 = .ok (.iaload, 1) := by decide +kernel
theorem dX2_payOf_86 : decode cX2_payOf 86 = .ok (.iload_n 3, 1) := by decide +kernel
theorem dX2_payOf_87 : decode cX2_payOf 87 = .ok (.if_icmp .le 13, 3) := by decide +kernel
theorem dX2_payOf_90 : decode cX2_payOf 90 = .ok (.aload_n 0, 1) := by decide +kernel
theorem dX2_payOf_91 : decode cX2_payOf 91 = .ok (.getfield 29, 3) := by decide +kernel
theorem dX2_payOf_94 : decode cX2_payOf 94 = .ok (.iload 4, 2) := by decide +kernel
theorem dX2_payOf_96 : decode cX2_payOf 96 = .ok (.iaload, 1) := by decide +kernel
theorem dX2_payOf_97 : decode cX2_payOf 97 = .ok (.goto 4, 3) := by decide +kernel
theorem dX2_payOf_100 : decode cX2_payOf 100 = .ok (.iload_n 3, 1) := by decide +kernel
theorem dX2_payOf_101 : decode cX2_payOf 101 = .ok (.istore_n 3, 1) := by decide +kernel
theorem dX2_payOf_102 : decode cX2_payOf 102 = .ok (.iinc 4 1, 3) := by decide +kernel
theorem dX2_payOf_105 : decode cX2_payOf 105 = .ok (.goto (-41), 3) := by decide +kernel
theorem dX2_payOf_108 : decode cX2_payOf 108 = .ok (.iload_n 1, 1) := by decide +kernel
theorem dX2_payOf_109 : decode cX2_payOf 109 = .ok (.ifCond .le 18, 3) := by decide +kernel
theorem dX2_payOf_112 : decode cX2_payOf 112 = .ok (.iload_n 3, 1) := by decide +kernel
theorem dX2_payOf_113 : decode cX2_payOf 113 = .ok (.aload_n 0, 1) := by decide +kernel
theorem dX2_payOf_114 : decode cX2_payOf 114 = .ok (.getfield 101, 3) := by decide +kernel
theorem dX2_payOf_117 : decode cX2_payOf 117 = .ok (.if_icmp .ge 10, 3) := by decide +kernel
theorem dX2_payOf_120 : decode cX2_payOf 120 = .ok (.aload_n 0, 1) := by decide +kernel
theorem dX2_payOf_121 : decode cX2_payOf 121 = .ok (.getfield 101, 3) := by decide +kernel
theorem dX2_payOf_124 : decode cX2_payOf 124 = .ok (.goto 4, 3) := by decide +kernel
theorem dX2_payOf_127 : decode cX2_payOf 127 = .ok (.iload_n 3, 1) := by decide +kernel
theorem dX2_payOf_128 : decode cX2_payOf 128 = .ok (.istore_n 3, 1) := by decide +kernel
theorem dX2_payOf_129 : decode cX2_payOf 129 = .ok (.iload_n 1, 1) := by decide +kernel
theorem dX2_payOf_130 : decode cX2_payOf 130 = .ok (.iconst 1, 1) := by decide +kernel
theorem dX2_payOf_131 : decode cX2_payOf 131 = .ok (.if_icmp .le 12, 3) := by decide +kernel
theorem dX2_payOf_134 : decode cX2_payOf 134 = .ok (.iload_n 3, 1) := by decide +kernel
theorem dX2_payOf_135 : decode cX2_payOf 135 = .ok (.iload_n 3, 1) := by decide +kernel
theorem dX2_payOf_136 : decode cX2_payOf 136 = .ok (.bipush 10, 2) := by decide +kernel
theorem dX2_payOf_138 : decode cX2_payOf 138 = .ok (.idiv, 1) := by decide +kernel
theorem dX2_payOf_139 : decode cX2_payOf 139 = .ok (.iadd, 1) := by decide +kernel
theorem dX2_payOf_140 : decode cX2_payOf 140 = .ok (.goto 4, 3) := by decide +kernel
theorem dX2_payOf_143 : decode cX2_payOf 143 = .ok (.iload_n 3, 1) := by decide +kernel
theorem dX2_payOf_144 : decode cX2_payOf 144 = .ok (.ireturn, 1) := by decide +kernel
set_option maxRecDepth 20000 in
theorem ggX2_pay_X2_in : GoodIn wsX2_pay wsX2_in := goodIn_r _ [10] (by decide +kernel) (by decide +kernel)
set_option maxRecDepth 20000 in
theorem gX2_pay_X2_in : GoodIn wsX2_pay (va_wsS RX2 41 yX2_in wsX2_in) := goodIn_app (goodIn_of _ (by decide +kernel)) ggX2_pay_X2_in
set_option maxRecDepth 20000 in
theorem ggX2_pay_X2_payOf : GoodIn wsX2_pay wsX2_payOf := goodIn_r _ [14, 3, 2, 15, 16, 17, 18, 19, 20, 21, 22, 23, 24, 25, 26, 27, 28, 29] (by decide +kernel) (by decide +kernel)
set_option maxRecDepth 20000 in
theorem gX2_pay_X2_payOf : GoodIn wsX2_pay (wsV RX2 104 RX2 yX2_payOf wsX2_payOf) := goodIn_app (goodIn_of _ (by decide +kernel)) ggX2_pay_X2_payOf
theorem dX2_pay_0 : decode cX2_pay 0 = .ok (.aload_n 0, 1) := by decide +kernel
theorem dX2_pay_1 : decode cX2_pay 1 = .ok (.iconst 0, 1) := by decide +kernel
theorem dX2_pay_2 : decode cX2_pay 2 = .ok (.putfield 38, 3) := by decide +kernel
theorem dX2_pay_5 : decode cX2_pay 5 = .ok (.aload_n 0, 1) := by decide +kernel
theorem dX2_pay_6 : decode cX2_pay 6 = .ok (.getfield 29, 3) := by decide +kernel
theorem dX2_pay_9 : decode cX2_pay 9 = .ok (.iconst 0, 1) := by decide +kernel
theorem dX2_pay_10 : decode cX2_pay 10 = .ok (.iload_n 2, 1) := by decide +kernel
theorem dX2_pay_11 : decode cX2_pay 11 = .ok (.iastore, 1) := by decide +kernel
theorem dX2_pay_12 : decode cX2_pay 12 = .ok (.aload_n 0, 1) := by decide +kernel
theorem dX2_pay_13 : decode cX2_pay 13 = .ok (.getfield 29, 3) := by decide +kernel
theorem dX2_pay_16 : decode cX2_pay 16 = .ok (.iconst 1, 1) := by decide +kernel
theorem dX2_pay_17 : decode cX2_pay 17 = .ok (.iload_n 3, 1) := by decide +kernel
theorem dX2_pay_18 : decode cX2_pay 18 = .ok (.iastore, 1) := by decide +kernel
theorem dX2_pay_19 : decode cX2_pay 19 = .ok (.aload_n 0, 1) := by decide +kernel
theorem dX2_pay_20 : decode cX2_pay 20 = .ok (.getfield 29, 3) := by decide +kernel
theorem dX2_pay_23 : decode cX2_pay 23 = .ok (.iconst 2, 1) := by decide +kernel
theorem dX2_pay_24 : decode cX2_pay 24 = .ok (.iload 4, 2) := by decide +kernel
theorem dX2_pay_26 : decode cX2_pay 26 = .ok (.iastore, 1) := by decide +kernel
theorem dX2_pay_27 : decode cX2_pay 27 = .ok (.iload_n 1, 1) := by decide +kernel
theorem dX2_pay_28 : decode cX2_pay 28 = .ok (.iconst 0, 1) := by decide +kernel
theorem dX2_pay_29 : decode cX2_pay 29 = .ok (.iconst 2, 1) := by decide +kernel
theorem dX2_pay_30 : decode cX2_pay 30 = .ok (.invokestatic 41, 3) := by decide +kernel
theorem dX2_pay_33 : decode cX2_pay 33 = .ok (.istore 5, 2) := by decide +kernel
theorem dX2_pay_35 : decode cX2_pay 35 = .ok (.iconst 0, 1) := by decide +kernel
theorem dX2_pay_36 : decode cX2_pay 36 = .ok (.istore 6, 2) := by decide +kernel
theorem dX2_pay_38 : decode cX2_pay 38 = .ok (.iload 6, 2) := by decide +kernel
theorem dX2_pay_40 : decode cX2_pay 40 = .ok (.aload_n 0, 1) := by decide +kernel
theorem dX2_pay_41 : decode cX2_pay 41 = .ok (.getfield 7, 3) := by decide +kernel
theorem dX2_pay_44 : decode cX2_pay 44 = .ok (.if_icmp .ge 28, 3) := by decide +kernel
theorem dX2_pay_47 : decode cX2_pay 47 = .ok (.iload 5, 2) := by decide +kernel
theorem dX2_pay_49 : decode cX2_pay 49 = .ok (.aload_n 0, 1) := by decide +kernel
theorem dX2_pay_50 : decode cX2_pay 50 = .ok (.getfield 29, 3) := by decide +kernel
theorem dX2_pay_53 : decode cX2_pay 53 = .ok (.iload 6, 2) := by decide +kernel
theorem dX2_pay_55 : decode cX2_pay 55 = .ok (.iaload, 1) := by decide +kernel
theorem dX2_pay_56 : decode cX2_pay 56 = .ok (.iconst 0, 1) := by decide +kernel
theorem dX2_pay_57 : decode cX2_pay 57 = .ok (.sipush 1000, 3) := by decide +kernel
theorem dX2_pay_60 : decode cX2_pay 60 = .ok (.invokestatic 41, 3) := by decide +kernel
theorem dX2_pay_63 : decode cX2_pay 63 = .ok (.iand, 1) := by decide +kernel
theorem dX2_pay_64 : decode cX2_pay 64 = .ok (.istore 5, 2) := by decide +kernel
theorem dX2_pay_66 : decode cX2_pay 66 = .ok (.iinc 6 1, 3) := by decide +kernel
theorem dX2_pay_69 : decode cX2_pay 69 = .ok (.goto (-31), 3) := by decide +kernel
theorem dX2_pay_72 : decode cX2_pay 72 = .ok (.iload 5, 2) := by decide +kernel
theorem dX2_pay_74 : decode cX2_pay 74 = .ok (.ifCond .ne 5, 3) := by decide +kernel
theorem dX2_pay_77 : decode cX2_pay 77 = .ok (.iconst (-1), 1) := by decide +kernel
theorem dX2_pay_78 : decode cX2_pay 78 = .ok (.ireturn, 1) := by decide +kernel
theorem dX2_pay_79 : decode cX2_pay 79 = .ok (.aload_n 0, 1) := by decide +kernel
theorem dX2_pay_80 : decode cX2_pay 80 = .ok (.iload_n 1, 1) := by decide +kernel
theorem dX2_pay_81 : decode cX2_pay 81 = .ok (.invokevirtual 104, 3) := by decide +kernel
theorem dX2_pay_84 : decode cX2_pay 84 = .ok (.istore 6, 2) := by decide +kernel
theorem dX2_pay_86 : decode cX2_pay 86 = .ok (.iload 6, 2) := by decide +kernel
theorem dX2_pay_88 : decode cX2_pay 88 = .ok (.bipush (-9), 2) := by decide +kernel
theorem dX2_pay_90 : decode cX2_pay 90 = .ok (.if_icmp .eq 34, 3) := by decide +kernel
theorem dX2_pay_93 : decode cX2_pay 93 = .ok (.aload_n 0, 1) := by decide +kernel
theorem dX2_pay_94 : decode cX2_pay 94 = .ok (.dup, 1) := by decide +kernel
theorem dX2_pay_95 : decode cX2_pay 95 = .ok (.getfield 107, 3) := by decide +kernel
theorem dX2_pay_98 : decode cX2_pay 98 = .ok (.iload_n 1, 1) := by decide +kernel
theorem dX2_pay_99 : decode cX2_pay 99 = .ok (.ifCond .ne 7, 3) := by decide +kernel
theorem dX2_pay_102 : decode cX2_pay 102 = .ok (.lconst 1, 1) := by decide +kernel
theorem dX2_pay_103 : decode cX2_pay 103 = .ok (.goto 17, 3) := by decide +kernel
theorem dX2_pay_106 : decode cX2_pay 106 = .ok (.iload_n 1, 1) := by decide +kernel
theorem dX2_pay_107 : decode cX2_pay 107 = .ok (.iconst 1, 1) := by decide +kernel
theorem dX2_pay_108 : decode cX2_pay 108 = .ok (.if_icmp .ne 9, 3) := by decide +kernel
theorem dX2_pay_111 : decode cX2_pay 111 = .ok (.ldc2_w 110, 3) := by decide +kernel
theorem dX2_pay_114 : decode cX2_pay 114 = .ok (.goto 6, 3) := by decide +kernel
theorem dX2_pay_117 : decode cX2_pay 117 = .ok (.ldc2_w 112, 3) := by decide +kernel
theorem dX2_pay_120 : decode cX2_pay 120 = .ok (.ladd, 1) := by decide +kernel
theorem dX2_pay_121 : decode cX2_pay 121 = .ok (.putfield 107, 3) := by decide +kernel
theorem dX2_pay_124 : decode cX2_pay 124 = .ok (.iload 6, 2) := by decide +kernel
theorem dX2_pay_126 : decode cX2_pay 126 = .ok (.ireturn, 1) := by decide +kernel
set_option maxRecDepth 20000 in
theorem ggX2_average_X2_in : GoodIn wsX2_average wsX2_in := goodIn_r _ [10] (by decide +kernel) (by decide +kernel)
set_option maxRecDepth 20000 in
theorem gX2_average_X2_in : GoodIn wsX2_average (va_wsS RX2 41 yX2_in wsX2_in) := goodIn_app (goodIn_of _ (by decide +kernel)) ggX2_average_X2_in
set_option maxRecDepth 20000 in
theorem ggX2_average_X2_comes : GoodIn wsX2_average wsX2_comes := goodIn_r _ [14, 6, 3, 15, 16, 17, 18, 9, 19, 20, 7, 8, 10, 41, 42, 43, 44, 45, 46, 47, 48, 49, 50, 51, 52, 53, 54] (by decide +kernel) (by decide +kernel)
set_option maxRecDepth 20000 in
theorem gX2_average_X2_comes : GoodIn wsX2_average (wsV RX2 95 RX2 yX2_comes wsX2_comes) := goodIn_app (goodIn_of _ (by decide +kernel)) ggX2_average_X2_comes
set_option maxRecDepth 20000 in
theorem ggX2_average_X2_payOf : GoodIn wsX2_average wsX2_payOf := goodIn_r _ [24, 3, 4, 25, 41, 42, 43, 44, 45, 46, 47, 48, 49, 50, 51, 52, 53, 54] (by decide +kernel) (by decide +kernel)
set_option maxRecDepth 20000 in
theorem gX2_average_X2_payOf : GoodIn wsX2_average (wsV RX2 104 RX2 yX2_payOf wsX2_payOf) := goodIn_app (goodIn_of _ (by decide +kernel)) ggX2_average_X2_payOf
set_option maxRecDepth 20000 in
theorem ggX2_average_X2_all : GoodIn wsX2_average wsX2_all := goodIn_r _ [29, 3, 30, 31, 32, 9, 33, 20, 15, 41, 42, 43, 44, 45, 46, 47, 48, 49, 50, 51, 52, 53, 54] (by decide +kernel) (by decide +kernel)
set_option maxRecDepth 20000 in
theorem gX2_average_X2_all : GoodIn wsX2_average (wsV RX2 98 RX2 yX2_all wsX2_all) := goodIn_app (goodIn_of _ (by decide +kernel)) ggX2_average_X2_all
set_option maxRecDepth 20000 in
theorem ggX2_average_X2_part : GoodIn wsX2_average wsX2_part := goodIn_r _ [37, 38, 39, 9, 40] (by decide +kernel) (by decide +kernel)
set_option maxRecDepth 20000 in
theorem gX2_average_X2_part : GoodIn wsX2_average (wsV RX2 81 RX2 yX2_part wsX2_part) := goodIn_app (goodIn_of _ (by decide +kernel)) ggX2_average_X2_part
theorem dX2_average_0 : decode cX2_average 0 = .ok (.aload_n 0, 1) := by decide +kernel
theorem dX2_average_1 : decode cX2_average 1 = .ok (.iconst 0, 1) := by decide +kernel
theorem dX2_average_2 : decode cX2_average 2 = .ok (.putfield 38, 3) := by decide +kernel
theorem dX2_average_5 : decode cX2_average 5 = .ok (.iload_n 1, 1) := by decide +kernel
theorem dX2_average_6 : decode cX2_average 6 = .ok (.iconst 0, 1) := by decide +kernel
theorem dX2_average_7 : decode cX2_average 7 = .ok (.iconst 2, 1) := by decide +kernel
theorem dX2_average_8 : decode cX2_average 8 = .ok (.invokestatic 41, 3) := by decide +kernel
theorem dX2_average_11 : decode cX2_average 11 = .ok (.ifCond .eq 12, 3) := by decide +kernel
theorem dX2_average_14 : decode cX2_average 14 = .ok (.iload_n 2, 1) := by decide +kernel
theorem dX2_average_15 : decode cX2_average 15 = .ok (.iconst 0, 1) := by decide +kernel
theorem dX2_average_16 : decode cX2_average 16 = .ok (.iconst 1, 1) := by decide +kernel
theorem dX2_average_17 : decode cX2_average 17 = .ok (.invokestatic 41, 3) := by decide +kernel
theorem dX2_average_20 : decode cX2_average 20 = .ok (.ifCond .ne 7, 3) := by decide +kernel
theorem dX2_average_23 : decode cX2_average 23 = .ok (.ldc2_w 75, 3) := by decide +kernel
theorem dX2_average_26 : decode cX2_average 26 = .ok (.lreturn, 1) := by decide +kernel
theorem dX2_average_27 : decode cX2_average 27 = .ok (.lconst 0, 1) := by decide +kernel
theorem dX2_average_28 : decode cX2_average 28 = .ok (.lstore_n 3, 1) := by decide +kernel
theorem dX2_average_29 : decode cX2_average 29 = .ok (.iconst 0, 1) := by decide +kernel
theorem dX2_average_30 : decode cX2_average 30 = .ok (.istore 5, 2) := by decide +kernel
theorem dX2_average_32 : decode cX2_average 32 = .ok (.iload 5, 2) := by decide +kernel
theorem dX2_average_34 : decode cX2_average 34 = .ok (.bipush 125, 2) := by decide +kernel
theorem dX2_average_36 : decode cX2_average 36 = .ok (.if_icmp .ge 92, 3) := by decide +kernel
theorem dX2_average_39 : decode cX2_average 39 = .ok (.aload_n 0, 1) := by decide +kernel
theorem dX2_average_40 : decode cX2_average 40 = .ok (.iload 5, 2) := by decide +kernel
theorem dX2_average_42 : decode cX2_average 42 = .ok (.invokevirtual 95, 3) := by decide +kernel
theorem dX2_average_45 : decode cX2_average 45 = .ok (.istore 6, 2) := by decide +kernel
theorem dX2_average_47 : decode cX2_average 47 = .ok (.iload 6, 2) := by decide +kernel
theorem dX2_average_49 : decode cX2_average 49 = .ok (.ifCond .le 73, 3) := by decide +kernel
theorem dX2_average_52 : decode cX2_average 52 = .ok (.iconst 0, 1) := by decide +kernel
theorem dX2_average_53 : decode cX2_average 53 = .ok (.istore 7, 2) := by decide +kernel
theorem dX2_average_55 : decode cX2_average 55 = .ok (.iload 7, 2) := by decide +kernel
theorem dX2_average_57 : decode cX2_average 57 = .ok (.aload_n 0, 1) := by decide +kernel
theorem dX2_average_58 : decode cX2_average 58 = .ok (.getfield 7, 3) := by decide +kernel
theorem dX2_average_61 : decode cX2_average 61 = .ok (.if_icmp .ge 33, 3) := by decide +kernel
theorem dX2_average_64 : decode cX2_average 64 = .ok (.aload_n 0, 1) := by decide +kernel
theorem dX2_average_65 : decode cX2_average 65 = .ok (.getfield 29, 3) := by decide +kernel
theorem dX2_average_68 : decode cX2_average 68 = .ok (.iload 7, 2) := by decide +kernel
theorem dX2_average_70 : decode cX2_average 70 = .ok (.aload_n 0, 1) := by decide +kernel
theorem dX2_average_71 : decode cX2_average 71 = .ok (.getfield 17, 3) := by decide +kernel
theorem dX2_average_74 : decode cX2_average 74 = .ok (.iconst 5, 1) := by decide +kernel
theorem dX2_average_75 : decode cX2_average 75 = .ok (.iload 7, 2) := by decide +kernel
theorem dX2_average_77 : decode cX2_average 77 = .ok (.imul, 1) := by decide +kernel
theorem dX2_average_78 : decode cX2_average 78 = .ok (.aload_n 0, 1) := by decide +kernel
theorem dX2_average_79 : decode cX2_average 79 = .ok (.getfield 26, 3) := by decide +kernel
theorem dX2_average_82 : decode cX2_average 82 = .ok (.iload 7, 2) := by decide +kernel
theorem dX2_average_84 : decode cX2_average 84 = .ok (.iaload, 1) := by decide +kernel
theorem dX2_average_85 : decode cX2_average 85 = .ok (.iadd, 1) := by decide +kernel
theorem dX2_average_86 : decode cX2_average 86 = .ok (.iaload, 1) := by decide +kernel
theorem dX2_average_87 : decode cX2_average 87 = .ok (.iastore, 1) := by decide +kernel
theorem dX2_average_88 : decode cX2_average 88 = .ok (.iinc 7 1, 3) := by decide +kernel
theorem dX2_average_91 : decode cX2_average 91 = .ok (.goto (-36), 3) := by decide +kernel
theorem dX2_average_94 : decode cX2_average 94 = .ok (.aload_n 0, 1) := by decide +kernel
theorem dX2_average_95 : decode cX2_average 95 = .ok (.iload_n 1, 1) := by decide +kernel
theorem dX2_average_96 : decode cX2_average 96 = .ok (.invokevirtual 104, 3) := by decide +kernel
theorem dX2_average_99 : decode cX2_average 99 = .ok (.istore 7, 2) := by decide +kernel
theorem dX2_average_101 : decode cX2_average 101 = .ok (.lload_n 3, 1) := by decide +kernel
theorem dX2_average_102 : decode cX2_average 102 = .ok (.iload 7, 2) := by decide +kernel
theorem dX2_average_104 : decode cX2_average 104 = .ok (.bipush (-9), 2) := by decide +kernel
theorem dX2_average_106 : decode cX2_average 106 = .ok (.if_icmp .ne 7, 3) := by decide +kernel
theorem dX2_average_109 : decode cX2_average 109 = .ok (.lconst 0, 1) := by decide +kernel
theorem dX2_average_110 : decode cX2_average 110 = .ok (.goto 10, 3) := by decide +kernel
theorem dX2_average_113 : decode cX2_average 113 = .ok (.iload 6, 2) := by decide +kernel
theorem dX2_average_115 : decode cX2_average 115 = .ok (.i2l, 1) := by decide +kernel
theorem dX2_average_116 : decode cX2_average 116 = .ok (.iload 7, 2) := by decide +kernel
theorem dX2_average_118 : decode cX2_average 118 = .ok (.i2l, 1) := by decide +kernel
theorem dX2_average_119 : decode cX2_average 119 = .ok (.lmul, 1) := by decide +kernel
theorem dX2_average_120 : decode cX2_average 120 = .ok (.ladd, 1) := by decide +kernel
theorem dX2_average_121 : decode cX2_average 121 = .ok (.lstore_n 3, 1) := by decide +kernel
theorem dX2_average_122 : decode cX2_average 122 = .ok (.iinc 5 1, 3) := by decide +kernel
theorem dX2_average_125 : decode cX2_average 125 = .ok (.goto (-93), 3) := by decide +kernel
theorem dX2_average_128 : decode cX2_average 128 = .ok (.aload_n 0, 1) := by decide +kernel
theorem dX2_average_129 : decode cX2_average 129 = .ok (.lload_n 3, 1) := by decide +kernel
theorem dX2_average_130 : decode cX2_average 130 = .ok (.aload_n 0, 1) := by decide +kernel
theorem dX2_average_131 : decode cX2_average 131 = .ok (.invokevirtual 98, 3) := by decide +kernel
theorem dX2_average_134 : decode cX2_average 134 = .ok (.i2l, 1) := by decide +kernel
theorem dX2_average_135 : decode cX2_average 135 = .ok (.iload_n 2, 1) := by decide +kernel
theorem dX2_average_136 : decode cX2_average 136 = .ok (.invokevirtual 81, 3) := by decide +kernel
theorem dX2_average_139 : decode cX2_average 139 = .ok (.lreturn, 1) := by decide +kernel
set_option maxRecDepth 20000 in
theorem ggX2_offers_X2_in : GoodIn wsX2_offers wsX2_in := goodIn_r _ [10] (by decide +kernel) (by decide +kernel)
set_option maxRecDepth 20000 in
theorem gX2_offers_X2_in : GoodIn wsX2_offers (va_wsS RX2 41 yX2_in wsX2_in) := goodIn_app (goodIn_of _ (by decide +kernel)) ggX2_offers_X2_in
set_option maxRecDepth 20000 in
theorem ggX2_offers_X2_isBuyer : GoodIn wsX2_offers wsX2_isBuyer := goodIn_r _ [14, 3, 7, 8, 9, 10, 27, 28, 29, 30, 31, 32, 33, 34, 35, 36, 37, 38, 39, 40] (by decide +kernel) (by decide +kernel)
set_option maxRecDepth 20000 in
theorem gX2_offers_X2_isBuyer : GoodIn wsX2_offers (wsV RX2 45 RX2 yX2_isBuyer wsX2_isBuyer) := goodIn_app (goodIn_of _ (by decide +kernel)) ggX2_offers_X2_isBuyer
set_option maxRecDepth 20000 in
theorem ggX2_offers_X2_share : GoodIn wsX2_offers wsX2_share := goodIn_r _ [18, 5, 19, 27, 28, 29, 30, 31, 32, 33, 34, 35, 36, 37, 38, 39, 40] (by decide +kernel) (by decide +kernel)
set_option maxRecDepth 20000 in
theorem gX2_offers_X2_share : GoodIn wsX2_offers (wsV RX2 49 RX2 yX2_share wsX2_share) := goodIn_app (goodIn_of _ (by decide +kernel)) ggX2_offers_X2_share
set_option maxRecDepth 20000 in
theorem ggX2_offers_X2_part : GoodIn wsX2_offers wsX2_part := goodIn_r _ [23, 24, 25, 9, 26] (by decide +kernel) (by decide +kernel)
set_option maxRecDepth 20000 in
theorem gX2_offers_X2_part : GoodIn wsX2_offers (wsV RX2 81 RX2 yX2_part wsX2_part) := goodIn_app (goodIn_of _ (by decide +kernel)) ggX2_offers_X2_part
theorem dX2_offers_0 : decode cX2_offers 0 = .ok (.aload_n 0, 1) := by decide +kernel
theorem dX2_offers_1 : decode cX2_offers 1 = .ok (.iconst 0, 1) := by decide +kernel
theorem dX2_offers_2 : decode cX2_offers 2 = .ok (.putfield 38, 3) := by decide +kernel
theorem dX2_offers_5 : decode cX2_offers 5 = .ok (.iload_n 1, 1) := by decide +kernel
theorem dX2_offers_6 : decode cX2_offers 6 = .ok (.ifCond .lt 27, 3) := by decide +kernel
theorem dX2_offers_9 : decode cX2_offers 9 = .ok (.iload_n 2, 1) := by decide +kernel
theorem dX2_offers_10 : decode cX2_offers 10 = .ok (.iconst 0, 1) := by decide +kernel
theorem dX2_offers_11 : decode cX2_offers 11 = .ok (.iconst 4, 1) := by decide +kernel
theorem dX2_offers_12 : decode cX2_offers 12 = .ok (.invokestatic 41, 3) := by decide +kernel
theorem dX2_offers_15 : decode cX2_offers 15 = .ok (.ifCond .eq 18, 3) := by decide +kernel
theorem dX2_offers_18 : decode cX2_offers 18 = .ok (.iload_n 2, 1) := by decide +kernel
theorem dX2_offers_19 : decode cX2_offers 19 = .ok (.iconst 1, 1) := by decide +kernel
theorem dX2_offers_20 : decode cX2_offers 20 = .ok (.if_icmp .le 17, 3) := by decide +kernel
theorem dX2_offers_23 : decode cX2_offers 23 = .ok (.aload_n 0, 1) := by decide +kernel
theorem dX2_offers_24 : decode cX2_offers 24 = .ok (.iload_n 2, 1) := by decide +kernel
theorem dX2_offers_25 : decode cX2_offers 25 = .ok (.iconst 2, 1) := by decide +kernel
theorem dX2_offers_26 : decode cX2_offers 26 = .ok (.isub, 1) := by decide +kernel
theorem dX2_offers_27 : decode cX2_offers 27 = .ok (.invokevirtual 45, 3) := by decide +kernel
theorem dX2_offers_30 : decode cX2_offers 30 = .ok (.ifCond .ne 7, 3) := by decide +kernel
theorem dX2_offers_33 : decode cX2_offers 33 = .ok (.ldc2_w 75, 3) := by decide +kernel
theorem dX2_offers_36 : decode cX2_offers 36 = .ok (.lreturn, 1) := by decide +kernel
theorem dX2_offers_37 : decode cX2_offers 37 = .ok (.iload_n 1, 1) := by decide +kernel
theorem dX2_offers_38 : decode cX2_offers 38 = .ok (.istore_n 3, 1) := by decide +kernel
theorem dX2_offers_39 : decode cX2_offers 39 = .ok (.iconst 0, 1) := by decide +kernel
theorem dX2_offers_40 : decode cX2_offers 40 = .ok (.istore 4, 2) := by decide +kernel
theorem dX2_offers_42 : decode cX2_offers 42 = .ok (.lconst 0, 1) := by decide +kernel
theorem dX2_offers_43 : decode cX2_offers 43 = .ok (.lstore 5, 2) := by decide +kernel
theorem dX2_offers_45 : decode cX2_offers 45 = .ok (.lconst 1, 1) := by decide +kernel
theorem dX2_offers_46 : decode cX2_offers 46 = .ok (.lstore 7, 2) := by decide +kernel
theorem dX2_offers_48 : decode cX2_offers 48 = .ok (.iconst 0, 1) := by decide +kernel
theorem dX2_offers_49 : decode cX2_offers 49 = .ok (.istore 9, 2) := by decide +kernel
theorem dX2_offers_51 : decode cX2_offers 51 = .ok (.iload 9, 2) := by decide +kernel
theorem dX2_offers_53 : decode cX2_offers 53 = .ok (.aload_n 0, 1) := by decide +kernel
theorem dX2_offers_54 : decode cX2_offers 54 = .ok (.getfield 7, 3) := by decide +kernel
theorem dX2_offers_57 : decode cX2_offers 57 = .ok (.if_icmp .ge 183, 3) := by decide +kernel
theorem dX2_offers_60 : decode cX2_offers 60 = .ok (.iload_n 3, 1) := by decide +kernel
theorem dX2_offers_61 : decode cX2_offers 61 = .ok (.iconst 3, 1) := by decide +kernel
theorem dX2_offers_62 : decode cX2_offers 62 = .ok (.irem, 1) := by decide +kernel
theorem dX2_offers_63 : decode cX2_offers 63 = .ok (.istore 10, 2) := by decide +kernel
theorem dX2_offers_65 : decode cX2_offers 65 = .ok (.iload_n 3, 1) := by decide +kernel
theorem dX2_offers_66 : decode cX2_offers 66 = .ok (.iconst 3, 1) := by decide +kernel
theorem dX2_offers_67 : decode cX2_offers 67 = .ok (.idiv, 1) := by decide +kernel
theorem dX2_offers_68 : decode cX2_offers 68 = .ok (.istore_n 3, 1) := by decide +kernel
theorem dX2_offers_69 : decode cX2_offers 69 = .ok (.aload_n 0, 1) := by decide +kernel
theorem dX2_offers_70 : decode cX2_offers 70 = .ok (.iload 10, 2) := by decide +kernel
theorem dX2_offers_72 : decode cX2_offers 72 = .ok (.invokevirtual 45, 3) := by decide +kernel
theorem dX2_offers_75 : decode cX2_offers 75 = .ok (.ifCond .eq 14, 3) := by decide +kernel
theorem dX2_offers_78 : decode cX2_offers 78 = .ok (.iload 4, 2) := by decide +kernel
theorem dX2_offers_80 : decode cX2_offers 80 = .ok (.iload 10, 2) := by decide +kernel
theorem dX2_offers_82 : decode cX2_offers 82 = .ok (.ishr, 1) := by decide +kernel
theorem dX2_offers_83 : decode cX2_offers 83 = .ok (.iconst 1, 1) := by decide +kernel
theorem dX2_offers_84 : decode cX2_offers 84 = .ok (.iand, 1) := by decide +kernel
theorem dX2_offers_85 : decode cX2_offers 85 = .ok (.iconst 1, 1) := by decide +kernel
theorem dX2_offers_86 : decode cX2_offers 86 = .ok (.if_icmp .ne 7, 3) := by decide +kernel
theorem dX2_offers_89 : decode cX2_offers 89 = .ok (.ldc2_w 75, 3) := by decide +kernel
theorem dX2_offers_92 : decode cX2_offers 92 = .ok (.lreturn, 1) := by decide +kernel
theorem dX2_offers_93 : decode cX2_offers 93 = .ok (.iload 4, 2) := by decide +kernel
theorem dX2_offers_95 : decode cX2_offers 95 = .ok (.iconst 1, 1) := by decide +kernel
theorem dX2_offers_96 : decode cX2_offers 96 = .ok (.iload 10, 2) := by decide +kernel
theorem dX2_offers_98 : decode cX2_offers 98 = .ok (.ishl, 1) := by decide +kernel
theorem dX2_offers_99 : decode cX2_offers 99 = .ok (.ior, 1) := by decide +kernel
theorem dX2_offers_100 : decode cX2_offers 100 = .ok (.istore 4, 2) := by decide +kernel
theorem dX2_offers_102 : decode cX2_offers 102 = .ok (.aload_n 0, 1) := by decide +kernel
theorem dX2_offers_103 : decode cX2_offers 103 = .ok (.iload 10, 2) := by decide +kernel
theorem dX2_offers_105 : decode cX2_offers 105 = .ok (.iconst 0, 1) := by decide +kernel
theorem dX2_offers_106 : decode cX2_offers 106 = .ok (.invokevirtual 49, 3) := by decide +kernel
theorem dX2_offers_109 : decode cX2_offers 109 = .ok (.i2l, 1) := by decide +kernel
theorem dX2_offers_110 : decode cX2_offers 110 = .ok (.lstore 11, 2) := by decide +kernel
theorem dX2_offers_112 : decode cX2_offers 112 = .ok (.lload 5, 2) := by decide +kernel
theorem dX2_offers_114 : decode cX2_offers 114 = .ok (.lload 11, 2) := by decide +kernel
theorem dX2_offers_116 : decode cX2_offers 116 = .ok (.lmul, 1) := by decide +kernel
theorem dX2_offers_117 : decode cX2_offers 117 = .ok (.lstore 13, 2) := by decide +kernel
theorem dX2_offers_119 : decode cX2_offers 119 = .ok (.aload_n 0, 1) := by decide +kernel
theorem dX2_offers_120 : decode cX2_offers 120 = .ok (.getfield 32, 3) := by decide +kernel
theorem dX2_offers_123 : decode cX2_offers 123 = .ok (.iload 10, 2) := by decide +kernel
theorem dX2_offers_125 : decode cX2_offers 125 = .ok (.sipush 1001, 3) := by decide +kernel
theorem dX2_offers_128 : decode cX2_offers 128 = .ok (.iastore, 1) := by decide +kernel
theorem dX2_offers_129 : decode cX2_offers 129 = .ok (.aload_n 0, 1) := by decide +kernel
theorem dX2_offers_130 : decode cX2_offers 130 = .ok (.getfield 13, 3) := by decide +kernel
theorem dX2_offers_133 : decode cX2_offers 133 = .ok (.iload 10, 2) := by decide +kernel
theorem dX2_offers_135 : decode cX2_offers 135 = .ok (.iaload, 1) := by decide +kernel
theorem dX2_offers_136 : decode cX2_offers 136 = .ok (.iconst 1, 1) := by decide +kernel
theorem dX2_offers_137 : decode cX2_offers 137 = .ok (.isub, 1) := by decide +kernel
theorem dX2_offers_138 : decode cX2_offers 138 = .ok (.istore 15, 2) := by decide +kernel
theorem dX2_offers_140 : decode cX2_offers 140 = .ok (.iload 15, 2) := by decide +kernel
theorem dX2_offers_142 : decode cX2_offers 142 = .ok (.ifCond .lt 81, 3) := by decide +kernel
theorem dX2_offers_145 : decode cX2_offers 145 = .ok (.aload_n 0, 1) := by decide +kernel
theorem dX2_offers_146 : decode cX2_offers 146 = .ok (.iload 10, 2) := by decide +kernel
theorem dX2_offers_148 : decode cX2_offers 148 = .ok (.iload 15, 2) := by decide +kernel
theorem dX2_offers_150 : decode cX2_offers 150 = .ok (.invokevirtual 49, 3) := by decide +kernel
theorem dX2_offers_153 : decode cX2_offers 153 = .ok (.i2l, 1) := by decide +kernel
theorem dX2_offers_154 : decode cX2_offers 154 = .ok (.lstore 16, 2) := by decide +kernel
theorem dX2_offers_156 : decode cX2_offers 156 = .ok (.aload_n 0, 1) := by decide +kernel
theorem dX2_offers_157 : decode cX2_offers 157 = .ok (.getfield 17, 3) := by decide +kernel
theorem dX2_offers_160 : decode cX2_offers 160 = .ok (.iconst 5, 1) := by decide +kernel
theorem dX2_offers_161 : decode cX2_offers 161 = .ok (.iload 10, 2) := by decide +kernel
theorem dX2_offers_163 : decode cX2_offers 163 = .ok (.imul, 1) := by decide +kernel
theorem dX2_offers_164 : decode cX2_offers 164 = .ok (.iload 15, 2) := by decide +kernel
theorem dX2_offers_166 : decode cX2_offers 166 = .ok (.iadd, 1) := by decide +kernel
theorem dX2_offers_167 : decode cX2_offers 167 = .ok (.iaload, 1) := by decide +kernel
theorem dX2_offers_168 : decode cX2_offers 168 = .ok (.i2l, 1) := by decide +kernel
theorem dX2_offers_169 : decode cX2_offers 169 = .ok (.lload 16, 2) := by decide +kernel
theorem dX2_offers_171 : decode cX2_offers 171 = .ok (.lmul, 1) := by decide +kernel
theorem dX2_offers_172 : decode cX2_offers 172 = .ok (.lload 7, 2) := by decide +kernel
theorem dX2_offers_174 : decode cX2_offers 174 = .ok (.lmul, 1) := by decide +kernel
theorem dX2_offers_175 : decode cX2_offers 175 = .ok (.lload 11, 2) := by decide +kernel
theorem dX2_offers_177 : decode cX2_offers 177 = .ok (.lload 16, 2) := by decide +kernel
theorem dX2_offers_179 : decode cX2_offers 179 = .ok (.lsub, 1) := by decide +kernel
theorem dX2_offers_180 : decode cX2_offers 180 = .ok (.lload 5, 2) := by decide +kernel
theorem dX2_offers_182 : decode cX2_offers 182 = .ok (.lmul, 1) := by decide +kernel
theorem dX2_offers_183 : decode cX2_offers 183 = .ok (.ladd, 1) := by decide +kernel
theorem dX2_offers_184 : decode cX2_offers 184 = .ok (.lstore 18, 2) := by decide +kernel
theorem dX2_offers_186 : decode cX2_offers 186 = .ok (.lload 18, 2) := by decide +kernel
theorem dX2_offers_188 : decode cX2_offers 188 = .ok (.lload 13, 2) := by decide +kernel
theorem dX2_offers_190 : decode cX2_offers 190 = .ok (.lcmp, 1) := by decide +kernel
theorem dX2_offers_191 : decode cX2_offers 191 = .ok (.ifCond .lt 26, 3) := by decide +kernel
theorem dX2_offers_194 : decode cX2_offers 194 = .ok (.lload 18, 2) := by decide +kernel
theorem dX2_offers_196 : decode cX2_offers 196 = .ok (.lstore 13, 2) := by decide +kernel
theorem dX2_offers_198 : decode cX2_offers 198 = .ok (.aload_n 0, 1) := by decide +kernel
theorem dX2_offers_199 : decode cX2_offers 199 = .ok (.getfield 32, 3) := by decide +kernel
theorem dX2_offers_202 : decode cX2_offers 202 = .ok (.iload 10, 2) := by decide +kernel
theorem dX2_offers_204 : decode cX2_offers 204 = .ok (.aload_n 0, 1) := by decide +kernel
theorem dX2_offers_205 : decode cX2_offers 205 = .ok (.getfield 17, 3) := by decide +kernel
theorem dX2_offers_208 : decode cX2_offers 208 = .ok (.iconst 5, 1) := by decide +kernel
theorem dX2_offers_209 : decode cX2_offers 209 = .ok (.iload 10, 2) := by decide +kernel
theorem dX2_offers_211 : decode cX2_offers 211 = .ok (.imul, 1) := by decide +kernel
theorem dX2_offers_212 : decode cX2_offers 212 = .ok (.iload 15, 2) := by decide +kernel
theorem dX2_offers_214 : decode cX2_offers 214 = .ok (.iadd, 1) := by decide +kernel
theorem dX2_offers_215 : decode cX2_offers 215 = .ok (.iaload, 1) := by decide +kernel
theorem dX2_offers_216 : decode cX2_offers 216 = .ok (.iastore, 1) := by decide +kernel
theorem dX2_offers_217 : decode cX2_offers 217 = .ok (.iinc 15 (-1), 3) := by decide +kernel
theorem dX2_offers_220 : decode cX2_offers 220 = .ok (.goto (-80), 3) := by decide +kernel
theorem dX2_offers_223 : decode cX2_offers 223 = .ok (.lload 13, 2) := by decide +kernel
theorem dX2_offers_225 : decode cX2_offers 225 = .ok (.lstore 5, 2) := by decide +kernel
theorem dX2_offers_227 : decode cX2_offers 227 = .ok (.lload 7, 2) := by decide +kernel
theorem dX2_offers_229 : decode cX2_offers 229 = .ok (.lload 11, 2) := by decide +kernel
theorem dX2_offers_231 : decode cX2_offers 231 = .ok (.lmul, 1) := by decide +kernel
theorem dX2_offers_232 : decode cX2_offers 232 = .ok (.lstore 7, 2) := by decide +kernel
theorem dX2_offers_234 : decode cX2_offers 234 = .ok (.iinc 9 1, 3) := by decide +kernel
theorem dX2_offers_237 : decode cX2_offers 237 = .ok (.goto (-186), 3) := by decide +kernel
theorem dX2_offers_240 : decode cX2_offers 240 = .ok (.iload_n 3, 1) := by decide +kernel
theorem dX2_offers_241 : decode cX2_offers 241 = .ok (.ifCond .eq 7, 3) := by decide +kernel
theorem dX2_offers_244 : decode cX2_offers 244 = .ok (.ldc2_w 75, 3) := by decide +kernel
theorem dX2_offers_247 : decode cX2_offers 247 = .ok (.lreturn, 1) := by decide +kernel
theorem dX2_offers_248 : decode cX2_offers 248 = .ok (.iload_n 2, 1) := by decide +kernel
theorem dX2_offers_249 : decode cX2_offers 249 = .ok (.iconst 1, 1) := by decide +kernel
theorem dX2_offers_250 : decode cX2_offers 250 = .ok (.if_icmp .le 15, 3) := by decide +kernel
theorem dX2_offers_253 : decode cX2_offers 253 = .ok (.aload_n 0, 1) := by decide +kernel
theorem dX2_offers_254 : decode cX2_offers 254 = .ok (.getfield 32, 3) := by decide +kernel
theorem dX2_offers_257 : decode cX2_offers 257 = .ok (.iload_n 2, 1) := by decide +kernel
theorem dX2_offers_258 : decode cX2_offers 258 = .ok (.iconst 2, 1) := by decide +kernel
theorem dX2_offers_259 : decode cX2_offers 259 = .ok (.isub, 1) := by decide +kernel
theorem dX2_offers_260 : decode cX2_offers 260 = .ok (.iaload, 1) := by decide +kernel
theorem dX2_offers_261 : decode cX2_offers 261 = .ok (.i2l, 1) := by decide +kernel
theorem dX2_offers_262 : decode cX2_offers 262 = .ok (.goto 12, 3) := by decide +kernel
theorem dX2_offers_265 : decode cX2_offers 265 = .ok (.aload_n 0, 1) := by decide +kernel
theorem dX2_offers_266 : decode cX2_offers 266 = .ok (.lload 5, 2) := by decide +kernel
theorem dX2_offers_268 : decode cX2_offers 268 = .ok (.lload 7, 2) := by decide +kernel
theorem dX2_offers_270 : decode cX2_offers 270 = .ok (.iload_n 2, 1) := by decide +kernel
theorem dX2_offers_271 : decode cX2_offers 271 = .ok (.invokevirtual 81, 3) := by decide +kernel
theorem dX2_offers_274 : decode cX2_offers 274 = .ok (.lreturn, 1) := by decide +kernel
theorem dX2_pairs_0 : decode cX2_pairs 0 = .ok (.iconst 0, 1) := by decide +kernel
theorem dX2_pairs_1 : decode cX2_pairs 1 = .ok (.istore 4, 2) := by decide +kernel
theorem dX2_pairs_3 : decode cX2_pairs 3 = .ok (.iconst 0, 1) := by decide +kernel
theorem dX2_pairs_4 : decode cX2_pairs 4 = .ok (.istore 5, 2) := by decide +kernel
theorem dX2_pairs_6 : decode cX2_pairs 6 = .ok (.iload 5, 2) := by decide +kernel
theorem dX2_pairs_8 : decode cX2_pairs 8 = .ok (.aload_n 0, 1) := by decide +kernel
theorem dX2_pairs_9 : decode cX2_pairs 9 = .ok (.getfield 13, 3) := by decide +kernel
theorem dX2_pairs_12 : decode cX2_pairs 12 = .ok (.iload_n 1, 1) := by decide +kernel
theorem dX2_pairs_13 : decode cX2_pairs 13 = .ok (.iaload, 1) := by decide +kernel
theorem dX2_pairs_14 : decode cX2_pairs 14 = .ok (.if_icmp .ge 88, 3) := by decide +kernel
theorem dX2_pairs_17 : decode cX2_pairs 17 = .ok (.iconst 0, 1) := by decide +kernel
theorem dX2_pairs_18 : decode cX2_pairs 18 = .ok (.istore 6, 2) := by decide +kernel
theorem dX2_pairs_20 : decode cX2_pairs 20 = .ok (.iload 6, 2) := by decide +kernel
theorem dX2_pairs_22 : decode cX2_pairs 22 = .ok (.aload_n 0, 1) := by decide +kernel
theorem dX2_pairs_23 : decode cX2_pairs 23 = .ok (.getfield 13, 3) := by decide +kernel
theorem dX2_pairs_26 : decode cX2_pairs 26 = .ok (.iload_n 2, 1) := by decide +kernel
theorem dX2_pairs_27 : decode cX2_pairs 27 = .ok (.iaload, 1) := by decide +kernel
theorem dX2_pairs_28 : decode cX2_pairs 28 = .ok (.if_icmp .ge 68, 3) := by decide +kernel
theorem dX2_pairs_31 : decode cX2_pairs 31 = .ok (.iload 4, 2) := by decide +kernel
theorem dX2_pairs_33 : decode cX2_pairs 33 = .ok (.aload_n 0, 1) := by decide +kernel
theorem dX2_pairs_34 : decode cX2_pairs 34 = .ok (.getfield 17, 3) := by decide +kernel
theorem dX2_pairs_37 : decode cX2_pairs 37 = .ok (.iconst 5, 1) := by decide +kernel
theorem dX2_pairs_38 : decode cX2_pairs 38 = .ok (.iload_n 1, 1) := by decide +kernel
theorem dX2_pairs_39 : decode cX2_pairs 39 = .ok (.imul, 1) := by decide +kernel
theorem dX2_pairs_40 : decode cX2_pairs 40 = .ok (.iload 5, 2) := by decide +kernel
theorem dX2_pairs_42 : decode cX2_pairs 42 = .ok (.iadd, 1) := by decide +kernel
theorem dX2_pairs_43 : decode cX2_pairs 43 = .ok (.iaload, 1) := by decide +kernel
theorem dX2_pairs_44 : decode cX2_pairs 44 = .ok (.aload_n 0, 1) := by decide +kernel
theorem dX2_pairs_45 : decode cX2_pairs 45 = .ok (.getfield 17, 3) := by decide +kernel
theorem dX2_pairs_48 : decode cX2_pairs 48 = .ok (.iconst 5, 1) := by decide +kernel
theorem dX2_pairs_49 : decode cX2_pairs 49 = .ok (.iload_n 2, 1) := by decide +kernel
theorem dX2_pairs_50 : decode cX2_pairs 50 = .ok (.imul, 1) := by decide +kernel
theorem dX2_pairs_51 : decode cX2_pairs 51 = .ok (.iload 6, 2) := by decide +kernel
theorem dX2_pairs_53 : decode cX2_pairs 53 = .ok (.iadd, 1) := by decide +kernel
theorem dX2_pairs_54 : decode cX2_pairs 54 = .ok (.iaload, 1) := by decide +kernel
theorem dX2_pairs_55 : decode cX2_pairs 55 = .ok (.iadd, 1) := by decide +kernel
theorem dX2_pairs_56 : decode cX2_pairs 56 = .ok (.iload_n 3, 1) := by decide +kernel
theorem dX2_pairs_57 : decode cX2_pairs 57 = .ok (.if_icmp .lt 29, 3) := by decide +kernel
theorem dX2_pairs_60 : decode cX2_pairs 60 = .ok (.aload_n 0, 1) := by decide +kernel
theorem dX2_pairs_61 : decode cX2_pairs 61 = .ok (.getfield 20, 3) := by decide +kernel
theorem dX2_pairs_64 : decode cX2_pairs 64 = .ok (.iconst 5, 1) := by decide +kernel
theorem dX2_pairs_65 : decode cX2_pairs 65 = .ok (.iload_n 1, 1) := by decide +kernel
theorem dX2_pairs_66 : decode cX2_pairs 66 = .ok (.imul, 1) := by decide +kernel
theorem dX2_pairs_67 : decode cX2_pairs 67 = .ok (.iload 5, 2) := by decide +kernel
theorem dX2_pairs_69 : decode cX2_pairs 69 = .ok (.iadd, 1) := by decide +kernel
theorem dX2_pairs_70 : decode cX2_pairs 70 = .ok (.iaload, 1) := by decide +kernel
theorem dX2_pairs_71 : decode cX2_pairs 71 = .ok (.aload_n 0, 1) := by decide +kernel
theorem dX2_pairs_72 : decode cX2_pairs 72 = .ok (.getfield 20, 3) := by decide +kernel
theorem dX2_pairs_75 : decode cX2_pairs 75 = .ok (.iconst 5, 1) := by decide +kernel
theorem dX2_pairs_76 : decode cX2_pairs 76 = .ok (.iload_n 2, 1) := by decide +kernel
theorem dX2_pairs_77 : decode cX2_pairs 77 = .ok (.imul, 1) := by decide +kernel
theorem dX2_pairs_78 : decode cX2_pairs 78 = .ok (.iload 6, 2) := by decide +kernel
theorem dX2_pairs_80 : decode cX2_pairs 80 = .ok (.iadd, 1) := by decide +kernel
theorem dX2_pairs_81 : decode cX2_pairs 81 = .ok (.iaload, 1) := by decide +kernel
theorem dX2_pairs_82 : decode cX2_pairs 82 = .ok (.imul, 1) := by decide +kernel
theorem dX2_pairs_83 : decode cX2_pairs 83 = .ok (.goto 4, 3) := by decide +kernel
theorem dX2_pairs_86 : decode cX2_pairs 86 = .ok (.iconst 0, 1) := by decide +kernel
theorem dX2_pairs_87 : decode cX2_pairs 87 = .ok (.iadd, 1) := by decide +kernel
theorem dX2_pairs_88 : decode cX2_pairs 88 = .ok (.istore 4, 2) := by decide +kernel
theorem dX2_pairs_90 : decode cX2_pairs 90 = .ok (.iinc 6 1, 3) := by decide +kernel
theorem dX2_pairs_93 : decode cX2_pairs 93 = .ok (.goto (-73), 3) := by decide +kernel
theorem dX2_pairs_96 : decode cX2_pairs 96 = .ok (.iinc 5 1, 3) := by decide +kernel
theorem dX2_pairs_99 : decode cX2_pairs 99 = .ok (.goto (-93), 3) := by decide +kernel
theorem dX2_pairs_102 : decode cX2_pairs 102 = .ok (.iload 4, 2) := by decide +kernel
theorem dX2_pairs_104 : decode cX2_pairs 104 = .ok (.ireturn, 1) := by decide +kernel
set_option maxRecDepth 20000 in
theorem ggX2_bundle_X2_isBuyer : GoodIn wsX2_bundle wsX2_isBuyer := goodIn_r _ [9, 10, 11, 12, 8, 13, 31, 32, 33, 34, 35, 36, 37, 38, 39, 40, 41, 42, 43, 44] (by decide +kernel) (by decide +kernel)
set_option maxRecDepth 20000 in
theorem gX2_bundle_X2_isBuyer : GoodIn wsX2_bundle (wsV RX2 45 RX2 yX2_isBuyer wsX2_isBuyer) := goodIn_app (goodIn_of _ (by decide +kernel)) ggX2_bundle_X2_isBuyer
set_option maxRecDepth 20000 in
theorem ggX2_bundle_X2_in : GoodIn wsX2_bundle wsX2_in := goodIn_r _ [13] (by decide +kernel) (by decide +kernel)
set_option maxRecDepth 20000 in
theorem gX2_bundle_X2_in : GoodIn wsX2_bundle (va_wsS RX2 41 yX2_in wsX2_in) := goodIn_app (goodIn_of _ (by decide +kernel)) ggX2_bundle_X2_in
set_option maxRecDepth 20000 in
theorem ggX2_bundle_X2_pairs : GoodIn wsX2_bundle wsX2_pairs := goodIn_r _ [17, 3, 4, 18, 31, 32, 33, 34, 35, 36, 37, 38, 39, 40, 41, 42, 43, 44] (by decide +kernel) (by decide +kernel)
set_option maxRecDepth 20000 in
theorem gX2_bundle_X2_pairs : GoodIn wsX2_bundle (wsV RX2 116 RX2 yX2_pairs wsX2_pairs) := goodIn_app (goodIn_of _ (by decide +kernel)) ggX2_bundle_X2_pairs
set_option maxRecDepth 20000 in
theorem ggX2_bundle_X2_bestOf : GoodIn wsX2_bundle wsX2_bestOf := goodIn_r _ [22, 3, 23, 24, 25, 8, 26, 4, 27, 28, 29, 30, 18, 31, 32, 33, 34, 35, 36, 37, 38, 39, 40, 41, 42, 43, 44] (by decide +kernel) (by decide +kernel)
set_option maxRecDepth 20000 in
theorem gX2_bundle_X2_bestOf : GoodIn wsX2_bundle (wsV RX2 60 RX2 yX2_bestOf wsX2_bestOf) := goodIn_app (goodIn_of _ (by decide +kernel)) ggX2_bundle_X2_bestOf
set_option maxRecDepth 20000 in
theorem ggX2_bundle_X2_take : GoodIn wsX2_bundle wsX2_take := goodIn_r _ [26, 3, 4, 27, 28, 29, 8, 30, 18, 31, 32, 33, 34, 35, 36, 37, 38, 39, 40, 41, 42, 43, 44] (by decide +kernel) (by decide +kernel)
set_option maxRecDepth 20000 in
theorem gX2_bundle_X2_take : GoodIn wsX2_bundle (wsV RX2 53 RX2 yX2_take wsX2_take) := goodIn_app (goodIn_of _ (by decide +kernel)) ggX2_bundle_X2_take
set_option maxRecDepth 20000 in
theorem ggX2_bundle_X2_share : GoodIn wsX2_bundle wsX2_share := goodIn_r _ [30, 3, 18, 31, 32, 33, 34, 35, 36, 37, 38, 39, 40, 41, 42, 43, 44] (by decide +kernel) (by decide +kernel)
set_option maxRecDepth 20000 in
theorem gX2_bundle_X2_share : GoodIn wsX2_bundle (wsV RX2 49 RX2 yX2_share wsX2_share) := goodIn_app (goodIn_of _ (by decide +kernel)) ggX2_bundle_X2_share
theorem dX2_bundle_0 : decode cX2_bundle 0 = .ok (.aload_n 0, 1) := by decide +kernel
theorem dX2_bundle_1 : decode cX2_bundle 1 = .ok (.iconst 0, 1) := by decide +kernel
theorem dX2_bundle_2 : decode cX2_bundle 2 = .ok (.putfield 38, 3) := by decide +kernel
theorem dX2_bundle_5 : decode cX2_bundle 5 = .ok (.aload_n 0, 1) := by decide +kernel
theorem dX2_bundle_6 : decode cX2_bundle 6 = .ok (.iload_n 1, 1) := by decide +kernel
theorem dX2_bundle_7 : decode cX2_bundle 7 = .ok (.invokevirtual 45, 3) := by decide +kernel
theorem dX2_bundle_10 : decode cX2_bundle 10 = .ok (.ifCond .eq 25, 3) := by decide +kernel
theorem dX2_bundle_13 : decode cX2_bundle 13 = .ok (.aload_n 0, 1) := by decide +kernel
theorem dX2_bundle_14 : decode cX2_bundle 14 = .ok (.iload_n 2, 1) := by decide +kernel
theorem dX2_bundle_15 : decode cX2_bundle 15 = .ok (.invokevirtual 45, 3) := by decide +kernel
theorem dX2_bundle_18 : decode cX2_bundle 18 = .ok (.ifCond .eq 17, 3) := by decide +kernel
theorem dX2_bundle_21 : decode cX2_bundle 21 = .ok (.iload_n 1, 1) := by decide +kernel
theorem dX2_bundle_22 : decode cX2_bundle 22 = .ok (.iload_n 2, 1) := by decide +kernel
theorem dX2_bundle_23 : decode cX2_bundle 23 = .ok (.if_icmp .eq 12, 3) := by decide +kernel
theorem dX2_bundle_26 : decode cX2_bundle 26 = .ok (.iload_n 3, 1) := by decide +kernel
theorem dX2_bundle_27 : decode cX2_bundle 27 = .ok (.iconst 0, 1) := by decide +kernel
theorem dX2_bundle_28 : decode cX2_bundle 28 = .ok (.iconst 2, 1) := by decide +kernel
theorem dX2_bundle_29 : decode cX2_bundle 29 = .ok (.invokestatic 41, 3) := by decide +kernel
theorem dX2_bundle_32 : decode cX2_bundle 32 = .ok (.ifCond .ne 6, 3) := by decide +kernel
theorem dX2_bundle_35 : decode cX2_bundle 35 = .ok (.bipush (-5), 2) := by decide +kernel
theorem dX2_bundle_37 : decode cX2_bundle 37 = .ok (.ireturn, 1) := by decide +kernel
theorem dX2_bundle_38 : decode cX2_bundle 38 = .ok (.bipush (-9), 2) := by decide +kernel
theorem dX2_bundle_40 : decode cX2_bundle 40 = .ok (.istore 4, 2) := by decide +kernel
theorem dX2_bundle_42 : decode cX2_bundle 42 = .ok (.ldc2_w 114, 3) := by decide +kernel
theorem dX2_bundle_45 : decode cX2_bundle 45 = .ok (.lstore 5, 2) := by decide +kernel
theorem dX2_bundle_47 : decode cX2_bundle 47 = .ok (.iconst 0, 1) := by decide +kernel
theorem dX2_bundle_48 : decode cX2_bundle 48 = .ok (.istore 7, 2) := by decide +kernel
theorem dX2_bundle_50 : decode cX2_bundle 50 = .ok (.iload 7, 2) := by decide +kernel
theorem dX2_bundle_52 : decode cX2_bundle 52 = .ok (.aload_n 0, 1) := by decide +kernel
theorem dX2_bundle_53 : decode cX2_bundle 53 = .ok (.getfield 13, 3) := by decide +kernel
theorem dX2_bundle_56 : decode cX2_bundle 56 = .ok (.iload_n 1, 1) := by decide +kernel
theorem dX2_bundle_57 : decode cX2_bundle 57 = .ok (.iaload, 1) := by decide +kernel
theorem dX2_bundle_58 : decode cX2_bundle 58 = .ok (.if_icmp .ge 100, 3) := by decide +kernel
theorem dX2_bundle_61 : decode cX2_bundle 61 = .ok (.iconst 0, 1) := by decide +kernel
theorem dX2_bundle_62 : decode cX2_bundle 62 = .ok (.istore 8, 2) := by decide +kernel
theorem dX2_bundle_64 : decode cX2_bundle 64 = .ok (.iload 8, 2) := by decide +kernel
theorem dX2_bundle_66 : decode cX2_bundle 66 = .ok (.aload_n 0, 1) := by decide +kernel
theorem dX2_bundle_67 : decode cX2_bundle 67 = .ok (.getfield 13, 3) := by decide +kernel
theorem dX2_bundle_70 : decode cX2_bundle 70 = .ok (.iload_n 2, 1) := by decide +kernel
theorem dX2_bundle_71 : decode cX2_bundle 71 = .ok (.iaload, 1) := by decide +kernel
theorem dX2_bundle_72 : decode cX2_bundle 72 = .ok (.if_icmp .ge 80, 3) := by decide +kernel
theorem dX2_bundle_75 : decode cX2_bundle 75 = .ok (.aload_n 0, 1) := by decide +kernel
theorem dX2_bundle_76 : decode cX2_bundle 76 = .ok (.getfield 17, 3) := by decide +kernel
theorem dX2_bundle_79 : decode cX2_bundle 79 = .ok (.iconst 5, 1) := by decide +kernel
theorem dX2_bundle_80 : decode cX2_bundle 80 = .ok (.iload_n 1, 1) := by decide +kernel
theorem dX2_bundle_81 : decode cX2_bundle 81 = .ok (.imul, 1) := by decide +kernel
theorem dX2_bundle_82 : decode cX2_bundle 82 = .ok (.iload 7, 2) := by decide +kernel
theorem dX2_bundle_84 : decode cX2_bundle 84 = .ok (.iadd, 1) := by decide +kernel
theorem dX2_bundle_85 : decode cX2_bundle 85 = .ok (.iaload, 1) := by decide +kernel
theorem dX2_bundle_86 : decode cX2_bundle 86 = .ok (.aload_n 0, 1) := by decide +kernel
theorem dX2_bundle_87 : decode cX2_bundle 87 = .ok (.getfield 17, 3) := by decide +kernel
theorem dX2_bundle_90 : decode cX2_bundle 90 = .ok (.iconst 5, 1) := by decide +kernel
theorem dX2_bundle_91 : decode cX2_bundle 91 = .ok (.iload_n 2, 1) := by decide +kernel
theorem dX2_bundle_92 : decode cX2_bundle 92 = .ok (.imul, 1) := by decide +kernel
theorem dX2_bundle_93 : decode cX2_bundle 93 = .ok (.iload 8, 2) := by decide +kernel
theorem dX2_bundle_95 : decode cX2_bundle 95 = .ok (.iadd, 1) := by decide +kernel
theorem dX2_bundle_96 : decode cX2_bundle 96 = .ok (.iaload, 1) := by decide +kernel
theorem dX2_bundle_97 : decode cX2_bundle 97 = .ok (.iadd, 1) := by decide +kernel
theorem dX2_bundle_98 : decode cX2_bundle 98 = .ok (.istore 9, 2) := by decide +kernel
theorem dX2_bundle_100 : decode cX2_bundle 100 = .ok (.iload 9, 2) := by decide +kernel
theorem dX2_bundle_102 : decode cX2_bundle 102 = .ok (.i2l, 1) := by decide +kernel
theorem dX2_bundle_103 : decode cX2_bundle 103 = .ok (.aload_n 0, 1) := by decide +kernel
theorem dX2_bundle_104 : decode cX2_bundle 104 = .ok (.iload_n 1, 1) := by decide +kernel
theorem dX2_bundle_105 : decode cX2_bundle 105 = .ok (.iload_n 2, 1) := by decide +kernel
theorem dX2_bundle_106 : decode cX2_bundle 106 = .ok (.iload 9, 2) := by decide +kernel
theorem dX2_bundle_108 : decode cX2_bundle 108 = .ok (.invokevirtual 116, 3) := by decide +kernel
theorem dX2_bundle_111 : decode cX2_bundle 111 = .ok (.i2l, 1) := by decide +kernel
theorem dX2_bundle_112 : decode cX2_bundle 112 = .ok (.lmul, 1) := by decide +kernel
theorem dX2_bundle_113 : decode cX2_bundle 113 = .ok (.lstore 10, 2) := by decide +kernel
theorem dX2_bundle_115 : decode cX2_bundle 115 = .ok (.lload 10, 2) := by decide +kernel
theorem dX2_bundle_117 : decode cX2_bundle 117 = .ok (.lload 5, 2) := by decide +kernel
theorem dX2_bundle_119 : decode cX2_bundle 119 = .ok (.lcmp, 1) := by decide +kernel
theorem dX2_bundle_120 : decode cX2_bundle 120 = .ok (.ifCond .gt 18, 3) := by decide +kernel
theorem dX2_bundle_123 : decode cX2_bundle 123 = .ok (.lload 10, 2) := by decide +kernel
theorem dX2_bundle_125 : decode cX2_bundle 125 = .ok (.lload 5, 2) := by decide +kernel
theorem dX2_bundle_127 : decode cX2_bundle 127 = .ok (.lcmp, 1) := by decide +kernel
theorem dX2_bundle_128 : decode cX2_bundle 128 = .ok (.ifCond .ne 18, 3) := by decide +kernel
theorem dX2_bundle_131 : decode cX2_bundle 131 = .ok (.iload 9, 2) := by decide +kernel
theorem dX2_bundle_133 : decode cX2_bundle 133 = .ok (.iload 4, 2) := by decide +kernel
theorem dX2_bundle_135 : decode cX2_bundle 135 = .ok (.if_icmp .ge 11, 3) := by decide +kernel
theorem dX2_bundle_138 : decode cX2_bundle 138 = .ok (.lload 10, 2) := by decide +kernel
theorem dX2_bundle_140 : decode cX2_bundle 140 = .ok (.lstore 5, 2) := by decide +kernel
theorem dX2_bundle_142 : decode cX2_bundle 142 = .ok (.iload 9, 2) := by decide +kernel
theorem dX2_bundle_144 : decode cX2_bundle 144 = .ok (.istore 4, 2) := by decide +kernel
theorem dX2_bundle_146 : decode cX2_bundle 146 = .ok (.iinc 8 1, 3) := by decide +kernel
theorem dX2_bundle_149 : decode cX2_bundle 149 = .ok (.goto (-85), 3) := by decide +kernel
theorem dX2_bundle_152 : decode cX2_bundle 152 = .ok (.iinc 7 1, 3) := by decide +kernel
theorem dX2_bundle_155 : decode cX2_bundle 155 = .ok (.goto (-105), 3) := by decide +kernel
theorem dX2_bundle_158 : decode cX2_bundle 158 = .ok (.iload_n 3, 1) := by decide +kernel
theorem dX2_bundle_159 : decode cX2_bundle 159 = .ok (.iconst 2, 1) := by decide +kernel
theorem dX2_bundle_160 : decode cX2_bundle 160 = .ok (.if_icmp .ge 21, 3) := by decide +kernel
theorem dX2_bundle_163 : decode cX2_bundle 163 = .ok (.iload_n 3, 1) := by decide +kernel
theorem dX2_bundle_164 : decode cX2_bundle 164 = .ok (.ifCond .ne 8, 3) := by decide +kernel
theorem dX2_bundle_167 : decode cX2_bundle 167 = .ok (.iload 4, 2) := by decide +kernel
theorem dX2_bundle_169 : decode cX2_bundle 169 = .ok (.goto 11, 3) := by decide +kernel
theorem dX2_bundle_172 : decode cX2_bundle 172 = .ok (.aload_n 0, 1) := by decide +kernel
theorem dX2_bundle_173 : decode cX2_bundle 173 = .ok (.iload_n 1, 1) := by decide +kernel
theorem dX2_bundle_174 : decode cX2_bundle 174 = .ok (.iload_n 2, 1) := by decide +kernel
theorem dX2_bundle_175 : decode cX2_bundle 175 = .ok (.iload 4, 2) := by decide +kernel
theorem dX2_bundle_177 : decode cX2_bundle 177 = .ok (.invokevirtual 116, 3) := by decide +kernel
theorem dX2_bundle_180 : decode cX2_bundle 180 = .ok (.ireturn, 1) := by decide +kernel
theorem dX2_bundle_181 : decode cX2_bundle 181 = .ok (.aload_n 0, 1) := by decide +kernel
theorem dX2_bundle_182 : decode cX2_bundle 182 = .ok (.iload_n 1, 1) := by decide +kernel
theorem dX2_bundle_183 : decode cX2_bundle 183 = .ok (.aload_n 0, 1) := by decide +kernel
theorem dX2_bundle_184 : decode cX2_bundle 184 = .ok (.iload_n 1, 1) := by decide +kernel
theorem dX2_bundle_185 : decode cX2_bundle 185 = .ok (.invokevirtual 60, 3) := by decide +kernel
theorem dX2_bundle_188 : decode cX2_bundle 188 = .ok (.invokevirtual 53, 3) := by decide +kernel
theorem dX2_bundle_191 : decode cX2_bundle 191 = .ok (.i2l, 1) := by decide +kernel
theorem dX2_bundle_192 : decode cX2_bundle 192 = .ok (.aload_n 0, 1) := by decide +kernel
theorem dX2_bundle_193 : decode cX2_bundle 193 = .ok (.iload_n 2, 1) := by decide +kernel
theorem dX2_bundle_194 : decode cX2_bundle 194 = .ok (.iconst 0, 1) := by decide +kernel
theorem dX2_bundle_195 : decode cX2_bundle 195 = .ok (.invokevirtual 49, 3) := by decide +kernel
theorem dX2_bundle_198 : decode cX2_bundle 198 = .ok (.i2l, 1) := by decide +kernel
theorem dX2_bundle_199 : decode cX2_bundle 199 = .ok (.lmul, 1) := by decide +kernel
theorem dX2_bundle_200 : decode cX2_bundle 200 = .ok (.aload_n 0, 1) := by decide +kernel
theorem dX2_bundle_201 : decode cX2_bundle 201 = .ok (.iload_n 2, 1) := by decide +kernel
theorem dX2_bundle_202 : decode cX2_bundle 202 = .ok (.aload_n 0, 1) := by decide +kernel
theorem dX2_bundle_203 : decode cX2_bundle 203 = .ok (.iload_n 2, 1) := by decide +kernel
theorem dX2_bundle_204 : decode cX2_bundle 204 = .ok (.invokevirtual 60, 3) := by decide +kernel
theorem dX2_bundle_207 : decode cX2_bundle 207 = .ok (.invokevirtual 53, 3) := by decide +kernel
theorem dX2_bundle_210 : decode cX2_bundle 210 = .ok (.i2l, 1) := by decide +kernel
theorem dX2_bundle_211 : decode cX2_bundle 211 = .ok (.aload_n 0, 1) := by decide +kernel
theorem dX2_bundle_212 : decode cX2_bundle 212 = .ok (.iload_n 1, 1) := by decide +kernel
theorem dX2_bundle_213 : decode cX2_bundle 213 = .ok (.iconst 0, 1) := by decide +kernel
theorem dX2_bundle_214 : decode cX2_bundle 214 = .ok (.invokevirtual 49, 3) := by decide +kernel
theorem dX2_bundle_217 : decode cX2_bundle 217 = .ok (.i2l, 1) := by decide +kernel
theorem dX2_bundle_218 : decode cX2_bundle 218 = .ok (.lmul, 1) := by decide +kernel
theorem dX2_bundle_219 : decode cX2_bundle 219 = .ok (.ladd, 1) := by decide +kernel
theorem dX2_bundle_220 : decode cX2_bundle 220 = .ok (.lstore 7, 2) := by decide +kernel
theorem dX2_bundle_222 : decode cX2_bundle 222 = .ok (.lload 5, 2) := by decide +kernel
theorem dX2_bundle_224 : decode cX2_bundle 224 = .ok (.lload 7, 2) := by decide +kernel
theorem dX2_bundle_226 : decode cX2_bundle 226 = .ok (.lcmp, 1) := by decide +kernel
theorem dX2_bundle_227 : decode cX2_bundle 227 = .ok (.ifCond .le 7, 3) := by decide +kernel
theorem dX2_bundle_230 : decode cX2_bundle 230 = .ok (.iconst 1, 1) := by decide +kernel
theorem dX2_bundle_231 : decode cX2_bundle 231 = .ok (.goto 16, 3) := by decide +kernel
theorem dX2_bundle_234 : decode cX2_bundle 234 = .ok (.lload 5, 2) := by decide +kernel
theorem dX2_bundle_236 : decode cX2_bundle 236 = .ok (.lload 7, 2) := by decide +kernel
theorem dX2_bundle_238 : decode cX2_bundle 238 = .ok (.lcmp, 1) := by decide +kernel
theorem dX2_bundle_239 : decode cX2_bundle 239 = .ok (.ifCond .ge 7, 3) := by decide +kernel
theorem dX2_bundle_242 : decode cX2_bundle 242 = .ok (.iconst (-1), 1) := by decide +kernel
theorem dX2_bundle_243 : decode cX2_bundle 243 = .ok (.goto 4, 3) := by decide +kernel
theorem dX2_bundle_246 : decode cX2_bundle 246 = .ok (.iconst 0, 1) := by decide +kernel
theorem dX2_bundle_247 : decode cX2_bundle 247 = .ok (.ireturn, 1) := by decide +kernel
set_option maxRecDepth 20000 in
theorem ggX2_sample_X2_in : GoodIn wsX2_sample wsX2_in := goodIn_r _ [7] (by decide +kernel) (by decide +kernel)
set_option maxRecDepth 20000 in
theorem gX2_sample_X2_in : GoodIn wsX2_sample (va_wsS RX2 41 yX2_in wsX2_in) := goodIn_app (goodIn_of _ (by decide +kernel)) ggX2_sample_X2_in
theorem dX2_sample_0 : decode cX2_sample 0 = .ok (.aload_n 0, 1) := by decide +kernel
theorem dX2_sample_1 : decode cX2_sample 1 = .ok (.iconst 0, 1) := by decide +kernel
theorem dX2_sample_2 : decode cX2_sample 2 = .ok (.putfield 38, 3) := by decide +kernel
theorem dX2_sample_5 : decode cX2_sample 5 = .ok (.iload_n 1, 1) := by decide +kernel
theorem dX2_sample_6 : decode cX2_sample 6 = .ok (.iconst 0, 1) := by decide +kernel
theorem dX2_sample_7 : decode cX2_sample 7 = .ok (.sipush 1000, 3) := by decide +kernel
theorem dX2_sample_10 : decode cX2_sample 10 = .ok (.invokestatic 41, 3) := by decide +kernel
theorem dX2_sample_13 : decode cX2_sample 13 = .ok (.ifCond .ne 5, 3) := by decide +kernel
theorem dX2_sample_16 : decode cX2_sample 16 = .ok (.iconst (-1), 1) := by decide +kernel
theorem dX2_sample_17 : decode cX2_sample 17 = .ok (.ireturn, 1) := by decide +kernel
theorem dX2_sample_18 : decode cX2_sample 18 = .ok (.aload_n 0, 1) := by decide +kernel
theorem dX2_sample_19 : decode cX2_sample 19 = .ok (.getfield 120, 3) := by decide +kernel
theorem dX2_sample_22 : decode cX2_sample 22 = .ok (.bipush 12, 2) := by decide +kernel
theorem dX2_sample_24 : decode cX2_sample 24 = .ok (.if_icmp .ne 6, 3) := by decide +kernel
theorem dX2_sample_27 : decode cX2_sample 27 = .ok (.bipush (-3), 2) := by decide +kernel
theorem dX2_sample_29 : decode cX2_sample 29 = .ok (.ireturn, 1) := by decide +kernel
theorem dX2_sample_30 : decode cX2_sample 30 = .ok (.aload_n 0, 1) := by decide +kernel
theorem dX2_sample_31 : decode cX2_sample 31 = .ok (.getfield 23, 3) := by decide +kernel
theorem dX2_sample_34 : decode cX2_sample 34 = .ok (.aload_n 0, 1) := by decide +kernel
theorem dX2_sample_35 : decode cX2_sample 35 = .ok (.getfield 120, 3) := by decide +kernel
theorem dX2_sample_38 : decode cX2_sample 38 = .ok (.iload_n 1, 1) := by decide +kernel
theorem dX2_sample_39 : decode cX2_sample 39 = .ok (.iastore, 1) := by decide +kernel
theorem dX2_sample_40 : decode cX2_sample 40 = .ok (.aload_n 0, 1) := by decide +kernel
theorem dX2_sample_41 : decode cX2_sample 41 = .ok (.dup, 1) := by decide +kernel
theorem dX2_sample_42 : decode cX2_sample 42 = .ok (.getfield 120, 3) := by decide +kernel
theorem dX2_sample_45 : decode cX2_sample 45 = .ok (.iconst 1, 1) := by decide +kernel
theorem dX2_sample_46 : decode cX2_sample 46 = .ok (.iadd, 1) := by decide +kernel
theorem dX2_sample_47 : decode cX2_sample 47 = .ok (.putfield 120, 3) := by decide +kernel
theorem dX2_sample_50 : decode cX2_sample 50 = .ok (.aload_n 0, 1) := by decide +kernel
theorem dX2_sample_51 : decode cX2_sample 51 = .ok (.getfield 120, 3) := by decide +kernel
theorem dX2_sample_54 : decode cX2_sample 54 = .ok (.ireturn, 1) := by decide +kernel
theorem dX2_clear_0 : decode cX2_clear 0 = .ok (.aload_n 0, 1) := by decide +kernel
theorem dX2_clear_1 : decode cX2_clear 1 = .ok (.iconst 0, 1) := by decide +kernel
theorem dX2_clear_2 : decode cX2_clear 2 = .ok (.putfield 38, 3) := by decide +kernel
theorem dX2_clear_5 : decode cX2_clear 5 = .ok (.aload_n 0, 1) := by decide +kernel
theorem dX2_clear_6 : decode cX2_clear 6 = .ok (.getfield 120, 3) := by decide +kernel
theorem dX2_clear_9 : decode cX2_clear 9 = .ok (.istore_n 1, 1) := by decide +kernel
theorem dX2_clear_10 : decode cX2_clear 10 = .ok (.aload_n 0, 1) := by decide +kernel
theorem dX2_clear_11 : decode cX2_clear 11 = .ok (.iconst 0, 1) := by decide +kernel
theorem dX2_clear_12 : decode cX2_clear 12 = .ok (.putfield 120, 3) := by decide +kernel
theorem dX2_clear_15 : decode cX2_clear 15 = .ok (.iload_n 1, 1) := by decide +kernel
theorem dX2_clear_16 : decode cX2_clear 16 = .ok (.ireturn, 1) := by decide +kernel
theorem dX2_learnt_0 : decode cX2_learnt 0 = .ok (.aload_n 0, 1) := by decide +kernel
theorem dX2_learnt_1 : decode cX2_learnt 1 = .ok (.iconst 0, 1) := by decide +kernel
theorem dX2_learnt_2 : decode cX2_learnt 2 = .ok (.putfield 38, 3) := by decide +kernel
theorem dX2_learnt_5 : decode cX2_learnt 5 = .ok (.bipush (-9), 2) := by decide +kernel
theorem dX2_learnt_7 : decode cX2_learnt 7 = .ok (.istore_n 1, 1) := by decide +kernel
theorem dX2_learnt_8 : decode cX2_learnt 8 = .ok (.iconst (-1), 1) := by decide +kernel
theorem dX2_learnt_9 : decode cX2_learnt 9 = .ok (.istore_n 2, 1) := by decide +kernel
theorem dX2_learnt_10 : decode cX2_learnt 10 = .ok (.iconst 0, 1) := by decide +kernel
theorem dX2_learnt_11 : decode cX2_learnt 11 = .ok (.istore_n 3, 1) := by decide +kernel
theorem dX2_learnt_12 : decode cX2_learnt 12 = .ok (.iload_n 3, 1) := by decide +kernel
theorem dX2_learnt_13 : decode cX2_learnt 13 = .ok (.aload_n 0, 1) := by decide +kernel
theorem dX2_learnt_14 : decode cX2_learnt 14 = .ok (.getfield 120, 3) := by decide +kernel
theorem dX2_learnt_17 : decode cX2_learnt 17 = .ok (.if_icmp .ge 99, 3) := by decide +kernel
theorem dX2_learnt_20 : decode cX2_learnt 20 = .ok (.iconst 0, 1) := by decide +kernel
theorem dX2_learnt_21 : decode cX2_learnt 21 = .ok (.istore 4, 2) := by decide +kernel
theorem dX2_learnt_23 : decode cX2_learnt 23 = .ok (.iconst 0, 1) := by decide +kernel
theorem dX2_learnt_24 : decode cX2_learnt 24 = .ok (.istore 5, 2) := by decide +kernel
theorem dX2_learnt_26 : decode cX2_learnt 26 = .ok (.iload 5, 2) := by decide +kernel
theorem dX2_learnt_28 : decode cX2_learnt 28 = .ok (.aload_n 0, 1) := by decide +kernel
theorem dX2_learnt_29 : decode cX2_learnt 29 = .ok (.getfield 120, 3) := by decide +kernel
theorem dX2_learnt_32 : decode cX2_learnt 32 = .ok (.if_icmp .ge 35, 3) := by decide +kernel
theorem dX2_learnt_35 : decode cX2_learnt 35 = .ok (.iload 4, 2) := by decide +kernel
theorem dX2_learnt_37 : decode cX2_learnt 37 = .ok (.aload_n 0, 1) := by decide +kernel
theorem dX2_learnt_38 : decode cX2_learnt 38 = .ok (.getfield 23, 3) := by decide +kernel
theorem dX2_learnt_41 : decode cX2_learnt 41 = .ok (.iload 5, 2) := by decide +kernel
theorem dX2_learnt_43 : decode cX2_learnt 43 = .ok (.iaload, 1) := by decide +kernel
theorem dX2_learnt_44 : decode cX2_learnt 44 = .ok (.aload_n 0, 1) := by decide +kernel
theorem dX2_learnt_45 : decode cX2_learnt 45 = .ok (.getfield 23, 3) := by decide +kernel
theorem dX2_learnt_48 : decode cX2_learnt 48 = .ok (.iload_n 3, 1) := by decide +kernel
theorem dX2_learnt_49 : decode cX2_learnt 49 = .ok (.iaload, 1) := by decide +kernel
theorem dX2_learnt_50 : decode cX2_learnt 50 = .ok (.if_icmp .lt 7, 3) := by decide +kernel
theorem dX2_learnt_53 : decode cX2_learnt 53 = .ok (.iconst 1, 1) := by decide +kernel
theorem dX2_learnt_54 : decode cX2_learnt 54 = .ok (.goto 4, 3) := by decide +kernel
theorem dX2_learnt_57 : decode cX2_learnt 57 = .ok (.iconst 0, 1) := by decide +kernel
theorem dX2_learnt_58 : decode cX2_learnt 58 = .ok (.iadd, 1) := by decide +kernel
theorem dX2_learnt_59 : decode cX2_learnt 59 = .ok (.istore 4, 2) := by decide +kernel
theorem dX2_learnt_61 : decode cX2_learnt 61 = .ok (.iinc 5 1, 3) := by decide +kernel
theorem dX2_learnt_64 : decode cX2_learnt 64 = .ok (.goto (-38), 3) := by decide +kernel
theorem dX2_learnt_67 : decode cX2_learnt 67 = .ok (.aload_n 0, 1) := by decide +kernel
theorem dX2_learnt_68 : decode cX2_learnt 68 = .ok (.getfield 23, 3) := by decide +kernel
theorem dX2_learnt_71 : decode cX2_learnt 71 = .ok (.iload_n 3, 1) := by decide +kernel
theorem dX2_learnt_72 : decode cX2_learnt 72 = .ok (.iaload, 1) := by decide +kernel
theorem dX2_learnt_73 : decode cX2_learnt 73 = .ok (.iload 4, 2) := by decide +kernel
theorem dX2_learnt_75 : decode cX2_learnt 75 = .ok (.imul, 1) := by decide +kernel
theorem dX2_learnt_76 : decode cX2_learnt 76 = .ok (.istore 5, 2) := by decide +kernel
theorem dX2_learnt_78 : decode cX2_learnt 78 = .ok (.iload 5, 2) := by decide +kernel
theorem dX2_learnt_80 : decode cX2_learnt 80 = .ok (.iload_n 2, 1) := by decide +kernel
theorem dX2_learnt_81 : decode cX2_learnt 81 = .ok (.if_icmp .gt 19, 3) := by decide +kernel
theorem dX2_learnt_84 : decode cX2_learnt 84 = .ok (.iload 5, 2) := by decide +kernel
theorem dX2_learnt_86 : decode cX2_learnt 86 = .ok (.iload_n 2, 1) := by decide +kernel
theorem dX2_learnt_87 : decode cX2_learnt 87 = .ok (.if_icmp .ne 23, 3) := by decide +kernel
theorem dX2_learnt_90 : decode cX2_learnt 90 = .ok (.aload_n 0, 1) := by decide +kernel
theorem dX2_learnt_91 : decode cX2_learnt 91 = .ok (.getfield 23, 3) := by decide +kernel
theorem dX2_learnt_94 : decode cX2_learnt 94 = .ok (.iload_n 3, 1) := by decide +kernel
theorem dX2_learnt_95 : decode cX2_learnt 95 = .ok (.iaload, 1) := by decide +kernel
theorem dX2_learnt_96 : decode cX2_learnt 96 = .ok (.iload_n 1, 1) := by decide +kernel
theorem dX2_learnt_97 : decode cX2_learnt 97 = .ok (.if_icmp .ge 13, 3) := by decide +kernel
theorem dX2_learnt_100 : decode cX2_learnt 100 = .ok (.iload 5, 2) := by decide +kernel
theorem dX2_learnt_102 : decode cX2_learnt 102 = .ok (.istore_n 2, 1) := by decide +kernel
theorem dX2_learnt_103 : decode cX2_learnt 103 = .ok (.aload_n 0, 1) := by decide +kernel
theorem dX2_learnt_104 : decode cX2_learnt 104 = .ok (.getfield 23, 3) := by decide +kernel
theorem dX2_learnt_107 : decode cX2_learnt 107 = .ok (.iload_n 3, 1) := by decide +kernel
theorem dX2_learnt_108 : decode cX2_learnt 108 = .ok (.iaload, 1) := by decide +kernel
theorem dX2_learnt_109 : decode cX2_learnt 109 = .ok (.istore_n 1, 1) := by decide +kernel
theorem dX2_learnt_110 : decode cX2_learnt 110 = .ok (.iinc 3 1, 3) := by decide +kernel
theorem dX2_learnt_113 : decode cX2_learnt 113 = .ok (.goto (-101), 3) := by decide +kernel
theorem dX2_learnt_116 : decode cX2_learnt 116 = .ok (.iload_n 1, 1) := by decide +kernel
theorem dX2_learnt_117 : decode cX2_learnt 117 = .ok (.ireturn, 1) := by decide +kernel
theorem dX2_count_0 : decode cX2_count 0 = .ok (.aload_n 0, 1) := by decide +kernel
theorem dX2_count_1 : decode cX2_count 1 = .ok (.iconst 0, 1) := by decide +kernel
theorem dX2_count_2 : decode cX2_count 2 = .ok (.putfield 38, 3) := by decide +kernel
theorem dX2_count_5 : decode cX2_count 5 = .ok (.iload_n 1, 1) := by decide +kernel
theorem dX2_count_6 : decode cX2_count 6 = .ok (.ifCond .ne 10, 3) := by decide +kernel
theorem dX2_count_9 : decode cX2_count 9 = .ok (.aload_n 0, 1) := by decide +kernel
theorem dX2_count_10 : decode cX2_count 10 = .ok (.getfield 7, 3) := by decide +kernel
theorem dX2_count_13 : decode cX2_count 13 = .ok (.goto 28, 3) := by decide +kernel
theorem dX2_count_16 : decode cX2_count 16 = .ok (.iload_n 1, 1) := by decide +kernel
theorem dX2_count_17 : decode cX2_count 17 = .ok (.iconst 1, 1) := by decide +kernel
theorem dX2_count_18 : decode cX2_count 18 = .ok (.if_icmp .ne 10, 3) := by decide +kernel
theorem dX2_count_21 : decode cX2_count 21 = .ok (.aload_n 0, 1) := by decide +kernel
theorem dX2_count_22 : decode cX2_count 22 = .ok (.getfield 101, 3) := by decide +kernel
theorem dX2_count_25 : decode cX2_count 25 = .ok (.goto 16, 3) := by decide +kernel
theorem dX2_count_28 : decode cX2_count 28 = .ok (.iload_n 1, 1) := by decide +kernel
theorem dX2_count_29 : decode cX2_count 29 = .ok (.iconst 2, 1) := by decide +kernel
theorem dX2_count_30 : decode cX2_count 30 = .ok (.if_icmp .ne 10, 3) := by decide +kernel
theorem dX2_count_33 : decode cX2_count 33 = .ok (.aload_n 0, 1) := by decide +kernel
theorem dX2_count_34 : decode cX2_count 34 = .ok (.getfield 120, 3) := by decide +kernel
theorem dX2_count_37 : decode cX2_count 37 = .ok (.goto 4, 3) := by decide +kernel
theorem dX2_count_40 : decode cX2_count 40 = .ok (.iconst (-1), 1) := by decide +kernel
theorem dX2_count_41 : decode cX2_count 41 = .ok (.ireturn, 1) := by decide +kernel
theorem dX2_trace_0 : decode cX2_trace 0 = .ok (.aload_n 0, 1) := by decide +kernel
theorem dX2_trace_1 : decode cX2_trace 1 = .ok (.iconst 0, 1) := by decide +kernel
theorem dX2_trace_2 : decode cX2_trace 2 = .ok (.putfield 38, 3) := by decide +kernel
theorem dX2_trace_5 : decode cX2_trace 5 = .ok (.aload_n 0, 1) := by decide +kernel
theorem dX2_trace_6 : decode cX2_trace 6 = .ok (.getfield 107, 3) := by decide +kernel
theorem dX2_trace_9 : decode cX2_trace 9 = .ok (.lreturn, 1) := by decide +kernel
theorem dJ6_signum_0f7a4_0 : decode cJ6_signum_0f7a4 0 = .ok (.iload_n 0, 1) := by decide +kernel
theorem dJ6_signum_0f7a4_1 : decode cJ6_signum_0f7a4 1 = .ok (.bipush 31, 2) := by decide +kernel
theorem dJ6_signum_0f7a4_3 : decode cJ6_signum_0f7a4 3 = .ok (.ishr, 1) := by decide +kernel
theorem dJ6_signum_0f7a4_4 : decode cJ6_signum_0f7a4 4 = .ok (.iload_n 0, 1) := by decide +kernel
theorem dJ6_signum_0f7a4_5 : decode cJ6_signum_0f7a4 5 = .ok (.ineg, 1) := by decide +kernel
theorem dJ6_signum_0f7a4_6 : decode cJ6_signum_0f7a4 6 = .ok (.bipush 31, 2) := by decide +kernel
theorem dJ6_signum_0f7a4_8 : decode cJ6_signum_0f7a4 8 = .ok (.iushr, 1) := by decide +kernel
theorem dJ6_signum_0f7a4_9 : decode cJ6_signum_0f7a4 9 = .ok (.ior, 1) := by decide +kernel
theorem dJ6_signum_0f7a4_10 : decode cJ6_signum_0f7a4 10 = .ok (.ireturn, 1) := by decide +kernel
theorem dJ9_abs_067f4_0 : decode cJ9_abs_067f4 0 = .ok (.lload_n 0, 1) := by decide +kernel
theorem dJ9_abs_067f4_1 : decode cJ9_abs_067f4 1 = .ok (.lconst 0, 1) := by decide +kernel
theorem dJ9_abs_067f4_2 : decode cJ9_abs_067f4 2 = .ok (.lcmp, 1) := by decide +kernel
theorem dJ9_abs_067f4_3 : decode cJ9_abs_067f4 3 = .ok (.ifCond .ge 8, 3) := by decide +kernel
theorem dJ9_abs_067f4_6 : decode cJ9_abs_067f4 6 = .ok (.lload_n 0, 1) := by decide +kernel
theorem dJ9_abs_067f4_7 : decode cJ9_abs_067f4 7 = .ok (.lneg, 1) := by decide +kernel
theorem dJ9_abs_067f4_8 : decode cJ9_abs_067f4 8 = .ok (.goto 4, 3) := by decide +kernel
theorem dJ9_abs_067f4_11 : decode cJ9_abs_067f4 11 = .ok (.lload_n 0, 1) := by decide +kernel
theorem dJ9_abs_067f4_12 : decode cJ9_abs_067f4 12 = .ok (.lreturn, 1) := by decide +kernel
theorem dJ9_max_7cf53_0 : decode cJ9_max_7cf53 0 = .ok (.iload_n 0, 1) := by decide +kernel
theorem dJ9_max_7cf53_1 : decode cJ9_max_7cf53 1 = .ok (.iload_n 1, 1) := by decide +kernel
theorem dJ9_max_7cf53_2 : decode cJ9_max_7cf53 2 = .ok (.if_icmp .lt 7, 3) := by decide +kernel
theorem dJ9_max_7cf53_5 : decode cJ9_max_7cf53 5 = .ok (.iload_n 0, 1) := by decide +kernel
theorem dJ9_max_7cf53_6 : decode cJ9_max_7cf53 6 = .ok (.goto 4, 3) := by decide +kernel
theorem dJ9_max_7cf53_9 : decode cJ9_max_7cf53 9 = .ok (.iload_n 1, 1) := by decide +kernel
theorem dJ9_max_7cf53_10 : decode cJ9_max_7cf53 10 = .ok (.ireturn, 1) := by decide +kernel
theorem dJ9_min_7cf53_0 : decode cJ9_min_7cf53 0 = .ok (.iload_n 0, 1) := by decide +kernel
theorem dJ9_min_7cf53_1 : decode cJ9_min_7cf53 1 = .ok (.iload_n 1, 1) := by decide +kernel
theorem dJ9_min_7cf53_2 : decode cJ9_min_7cf53 2 = .ok (.if_icmp .gt 7, 3) := by decide +kernel
theorem dJ9_min_7cf53_5 : decode cJ9_min_7cf53 5 = .ok (.iload_n 0, 1) := by decide +kernel
theorem dJ9_min_7cf53_6 : decode cJ9_min_7cf53 6 = .ok (.goto 4, 3) := by decide +kernel
theorem dJ9_min_7cf53_9 : decode cJ9_min_7cf53 9 = .ok (.iload_n 1, 1) := by decide +kernel
theorem dJ9_min_7cf53_10 : decode cJ9_min_7cf53 10 = .ok (.ireturn, 1) := by decide +kernel
end
section
set_option maxRecDepth 20000 in
theorem ggL_law_X1_init : GoodIn wsL_law wsX1_init := goodIn_r _ [8, 9, 10, 11, 12, 13, 14, 15, 16, 17, 18, 19, 20, 21, 22, 23, 24, 25, 26, 27, 28, 29, 30, 31, 32, 33, 34, 35, 36, 37, 38, 39, 40, 41, 42, 43, 44, 45, 46, 47, 48, 49, 50, 51, 52, 53, 54, 55, 56, 57, 58, 59, 60, 467, 468, 469, 470, 471, 445, 446, 447, 448, 449, 450, 451, 452] (by decide +kernel) (by decide +kernel)
set_option maxRecDepth 20000 in
theorem gL_law_X1_init : GoodIn wsL_law (wsX1_init) := ggL_law_X1_init
set_option maxRecDepth 20000 in
theorem ggL_law_X2_init : GoodIn wsL_law wsX2_init := goodIn_r _ [63, 64, 10, 11, 65, 18, 66, 67, 68, 69, 70, 71, 72, 73, 74, 75, 5, 76, 453, 454, 455, 456, 457, 458, 459, 460, 461, 462, 463, 464, 465, 466] (by decide +kernel) (by decide +kernel)
set_option maxRecDepth 20000 in
theorem gL_law_X2_init : GoodIn wsL_law (wsX2_init) := ggL_law_X2_init
set_option maxRecDepth 20000 in
theorem ggL_law_X1_buyers : GoodIn wsL_law wsX1_buyers := goodIn_r _ [80, 20, 15, 16, 17, 81, 34, 35, 14, 36, 28, 29, 32, 37, 38, 39, 40, 30, 31, 41, 42, 43, 44, 45, 46, 47, 48, 49, 50, 51, 52, 53, 54, 55, 56, 57, 58, 59, 60, 445, 446, 447, 448, 449, 450, 451, 452, 467, 468, 469, 470, 471] (by decide +kernel) (by decide +kernel)
set_option maxRecDepth 20000 in
theorem gL_law_X1_buyers : GoodIn wsL_law (wsV RL 13 RX1 yX1_buyers wsX1_buyers) := goodIn_app (goodIn_of _ (by decide +kernel)) ggL_law_X1_buyers
set_option maxRecDepth 20000 in
theorem ggL_law_X2_buyers : GoodIn wsL_law wsX2_buyers := goodIn_r _ [85, 86, 65, 87, 88, 5, 89, 73, 74, 75, 76, 66, 67, 68, 453, 454, 455, 456, 457, 458, 459, 460, 461, 462, 463, 464, 465, 466] (by decide +kernel) (by decide +kernel)
set_option maxRecDepth 20000 in
theorem gL_law_X2_buyers : GoodIn wsL_law (wsV RL 17 RX2 yX2_buyers wsX2_buyers) := goodIn_app (goodIn_of _ (by decide +kernel)) ggL_law_X2_buyers
set_option maxRecDepth 20000 in
theorem ggL_law_X1_book : GoodIn wsL_law wsX1_book := goodIn_r _ [93, 94, 95, 96, 2, 97, 20, 98, 99, 100, 101, 102, 103, 104, 105, 106, 107, 15, 16, 17, 81, 34, 35, 14, 36, 28, 29, 32, 37, 38, 39, 40, 30, 31, 41, 42, 43, 44, 45, 46, 47, 48, 49, 50, 51, 52, 53, 54, 55, 56, 57, 58, 59, 60, 467, 468, 469, 470, 471, 445, 446, 447, 448, 449, 450, 451, 452] (by decide +kernel) (by decide +kernel)
set_option maxRecDepth 20000 in
theorem gL_law_X1_book : GoodIn wsL_law (wsV RL 18 RX1 yX1_book wsX1_book) := goodIn_app (goodIn_of _ (by decide +kernel)) ggL_law_X1_book
set_option maxRecDepth 20000 in
theorem ggL_law_X2_book : GoodIn wsL_law wsX2_book := goodIn_r _ [111, 86, 66, 67, 68, 112, 113, 114, 5, 115, 65, 87, 88, 89, 453, 454, 455, 456, 457, 458, 459, 460, 461, 462, 463, 464, 465, 466] (by decide +kernel) (by decide +kernel)
set_option maxRecDepth 20000 in
theorem gL_law_X2_book : GoodIn wsL_law (wsV RL 22 RX2 yX2_book wsX2_book) := goodIn_app (goodIn_of _ (by decide +kernel)) ggL_law_X2_book
set_option maxRecDepth 20000 in
theorem ggL_law_X1_more : GoodIn wsL_law wsX1_more := goodIn_r _ [119, 94, 95, 96, 2, 97, 20, 98, 99, 100, 101, 102, 103, 104, 105, 106, 107, 15, 16, 17, 120, 50, 51, 14, 52, 32, 28, 121, 122, 123, 124, 29, 37, 38, 39, 40, 30, 31, 41, 42, 43, 44, 45, 46, 47, 48, 49, 53, 54, 55, 56, 57, 58, 59, 60, 467, 468, 469, 470, 471, 445, 446, 447, 448, 449, 450, 451, 452] (by decide +kernel) (by decide +kernel)
set_option maxRecDepth 20000 in
theorem gL_law_X1_more : GoodIn wsL_law (wsV RL 23 RX1 yX1_more wsX1_more) := goodIn_app (goodIn_of _ (by decide +kernel)) ggL_law_X1_more
set_option maxRecDepth 20000 in
theorem ggL_law_X2_more : GoodIn wsL_law wsX2_more := goodIn_r _ [128, 86, 67, 66, 68, 112, 113, 114, 5, 115, 65, 87, 88, 89, 453, 454, 455, 456, 457, 458, 459, 460, 461, 462, 463, 464, 465, 466] (by decide +kernel) (by decide +kernel)
set_option maxRecDepth 20000 in
theorem gL_law_X2_more : GoodIn wsL_law (wsV RL 26 RX2 yX2_more wsX2_more) := goodIn_app (goodIn_of _ (by decide +kernel)) ggL_law_X2_more
set_option maxRecDepth 20000 in
theorem ggL_law_X1_about : GoodIn wsL_law wsX1_about := goodIn_r _ [132, 94, 95, 96, 2, 97, 20, 104, 105, 106, 107, 15, 16, 17, 133, 134, 135, 14, 136, 32, 120, 50, 51, 52, 28, 137, 138, 139, 140, 29, 141, 54, 55, 56, 57, 58, 59, 60, 142, 46, 47, 48, 49, 53, 445, 446, 447, 448, 449, 450, 451, 452, 467, 468, 469, 470, 471] (by decide +kernel) (by decide +kernel)
set_option maxRecDepth 20000 in
theorem gL_law_X1_about : GoodIn wsL_law (wsV RL 27 RX1 yX1_about wsX1_about) := goodIn_app (goodIn_of _ (by decide +kernel)) ggL_law_X1_about
set_option maxRecDepth 20000 in
theorem ggL_law_X2_about : GoodIn wsL_law wsX2_about := goodIn_r _ [146, 86, 67, 68, 112, 113, 114, 5, 115, 65, 87, 88, 89, 147, 148, 149, 150, 66, 151, 152, 153, 154, 155, 156, 157, 158, 453, 454, 455, 456, 457, 458, 459, 460, 461, 462, 463, 464, 465, 466] (by decide +kernel) (by decide +kernel)
set_option maxRecDepth 20000 in
theorem gL_law_X2_about : GoodIn wsL_law (wsV RL 30 RX2 yX2_about wsX2_about) := goodIn_app (goodIn_of _ (by decide +kernel)) ggL_law_X2_about
set_option maxRecDepth 20000 in
theorem ggL_law_X1_whole : GoodIn wsL_law wsX1_whole := goodIn_r _ [162, 94, 95, 96, 2, 97, 20, 104, 105, 106, 107, 15, 16, 17, 163, 164, 165, 14, 166, 53, 54, 55, 56, 57, 58, 59, 60, 32, 29, 167, 168, 169, 170, 45, 46, 47, 48, 49, 50, 51, 52, 28, 467, 468, 469, 470, 471, 445, 446, 447, 448, 449, 450, 451, 452] (by decide +kernel) (by decide +kernel)
set_option maxRecDepth 20000 in
theorem gL_law_X1_whole : GoodIn wsL_law (wsV RL 31 RX1 yX1_whole wsX1_whole) := goodIn_app (goodIn_of _ (by decide +kernel)) ggL_law_X1_whole
set_option maxRecDepth 20000 in
theorem ggL_law_X2_whole : GoodIn wsL_law wsX2_whole := goodIn_r _ [174, 86, 66, 112, 113, 114, 5, 115, 65, 87, 88, 89, 151, 152, 153, 154, 68, 175, 176, 177, 178, 155, 156, 157, 158, 67, 453, 454, 455, 456, 457, 458, 459, 460, 461, 462, 463, 464, 465, 466] (by decide +kernel) (by decide +kernel)
set_option maxRecDepth 20000 in
theorem gL_law_X2_whole : GoodIn wsL_law (wsV RL 35 RX2 yX2_whole wsX2_whole) := goodIn_app (goodIn_of _ (by decide +kernel)) ggL_law_X2_whole
set_option maxRecDepth 20000 in
theorem ggL_law_X1_slope : GoodIn wsL_law wsX1_slope := goodIn_r _ [182, 183, 94, 95, 96, 2, 97, 20, 104, 105, 106, 107, 15, 16, 17, 133, 134, 135, 14, 136, 32, 184, 185, 186, 187, 188, 189, 190, 30, 191, 192, 193, 194, 31, 195, 196, 197, 198, 199, 59, 200, 201, 202, 203, 142, 46, 47, 48, 49, 50, 51, 52, 28, 53, 54, 55, 56, 57, 58, 60, 29, 137, 138, 139, 140, 445, 446, 447, 448, 449, 450, 451, 452, 467, 468, 469, 470, 471] (by decide +kernel) (by decide +kernel)
set_option maxRecDepth 20000 in
theorem gL_law_X1_slope : GoodIn wsL_law (wsV RL 36 RX1 yX1_slope wsX1_slope) := goodIn_app (goodIn_of _ (by decide +kernel)) ggL_law_X1_slope
set_option maxRecDepth 20000 in
theorem ggL_law_X2_slope : GoodIn wsL_law wsX2_slope := goodIn_r _ [207, 86, 208, 209, 68, 210, 112, 113, 114, 5, 115, 65, 87, 88, 89, 147, 148, 149, 150, 66, 211, 212, 213, 214, 155, 156, 157, 158, 67, 151, 152, 153, 154, 215, 216, 217, 218, 219, 220, 221, 453, 454, 455, 456, 457, 458, 459, 460, 461, 462, 463, 464, 465, 466] (by decide +kernel) (by decide +kernel)
set_option maxRecDepth 20000 in
theorem gL_law_X2_slope : GoodIn wsL_law (wsV RL 40 RX2 yX2_slope wsX2_slope) := goodIn_app (goodIn_of _ (by decide +kernel)) ggL_law_X2_slope
set_option maxRecDepth 20000 in
theorem ggL_law_X1_gets : GoodIn wsL_law wsX1_gets := goodIn_r _ [225, 226, 227, 228, 2, 229, 20, 104, 105, 106, 107, 15, 16, 17, 230, 231, 232, 133, 134, 135, 14, 136, 32, 233, 234, 235, 236, 187, 188, 189, 190, 30, 191, 192, 193, 194, 31, 445, 446, 447, 448, 449, 450, 451, 452, 467, 468, 469, 470, 471] (by decide +kernel) (by decide +kernel)
set_option maxRecDepth 20000 in
theorem gL_law_X1_gets : GoodIn wsL_law (wsV RL 41 RX1 yX1_gets wsX1_gets) := goodIn_app (goodIn_of _ (by decide +kernel)) ggL_law_X1_gets
set_option maxRecDepth 20000 in
theorem ggL_law_X2_gets : GoodIn wsL_law wsX2_gets := goodIn_r _ [240, 86, 241, 242, 243, 5, 244, 70, 65, 147, 148, 149, 150, 66, 87, 88, 89, 245, 246, 247, 248, 209, 210, 211, 212, 213, 214, 155, 156, 157, 158, 67, 151, 152, 153, 154, 68, 453, 454, 455, 456, 457, 458, 459, 460, 461, 462, 463, 464, 465, 466] (by decide +kernel) (by decide +kernel)
set_option maxRecDepth 20000 in
theorem gL_law_X2_gets : GoodIn wsL_law (wsV RL 44 RX2 yX2_gets wsX2_gets) := goodIn_app (goodIn_of _ (by decide +kernel)) ggL_law_X2_gets
set_option maxRecDepth 20000 in
theorem ggL_law_X1_pays : GoodIn wsL_law wsX1_pays := goodIn_r _ [252, 226, 227, 228, 2, 229, 20, 104, 105, 106, 107, 15, 16, 17, 230, 231, 232, 133, 134, 135, 14, 136, 32, 94, 95, 96, 97, 233, 234, 235, 236, 187, 188, 189, 190, 30, 191, 192, 193, 194, 31, 253, 254, 255, 256, 257, 258, 259, 260, 120, 50, 51, 52, 28, 445, 446, 447, 448, 449, 450, 451, 452, 467, 468, 469, 470, 471] (by decide +kernel) (by decide +kernel)
set_option maxRecDepth 20000 in
theorem gL_law_X1_pays : GoodIn wsL_law (wsV RL 45 RX1 yX1_pays wsX1_pays) := goodIn_app (goodIn_of _ (by decide +kernel)) ggL_law_X1_pays
set_option maxRecDepth 20000 in
theorem ggL_law_X2_pays : GoodIn wsL_law wsX2_pays := goodIn_r _ [264, 86, 241, 242, 243, 5, 244, 70, 65, 147, 148, 149, 150, 66, 87, 88, 89, 112, 113, 114, 115, 265, 266, 267, 268, 67, 245, 246, 247, 248, 209, 210, 211, 212, 213, 214, 155, 156, 157, 158, 151, 152, 153, 154, 68, 453, 454, 455, 456, 457, 458, 459, 460, 461, 462, 463, 464, 465, 466] (by decide +kernel) (by decide +kernel)
set_option maxRecDepth 20000 in
theorem gL_law_X2_pays : GoodIn wsL_law (wsV RL 49 RX2 yX2_pays wsX2_pays) := goodIn_app (goodIn_of _ (by decide +kernel)) ggL_law_X2_pays
set_option maxRecDepth 20000 in
theorem ggL_law_X1_gain : GoodIn wsL_law wsX1_gain := goodIn_r _ [272, 183, 226, 227, 228, 2, 229, 20, 104, 105, 106, 107, 15, 16, 17, 230, 231, 232, 133, 134, 135, 14, 136, 32, 94, 95, 96, 97, 257, 258, 259, 260, 233, 234, 235, 236, 187, 188, 189, 190, 30, 191, 192, 193, 194, 31, 120, 50, 51, 52, 28, 253, 254, 255, 256, 445, 446, 447, 448, 449, 450, 451, 452, 467, 468, 469, 470, 471] (by decide +kernel) (by decide +kernel)
set_option maxRecDepth 20000 in
theorem gL_law_X1_gain : GoodIn wsL_law (wsV RL 50 RX1 yX1_gain wsX1_gain) := goodIn_app (goodIn_of _ (by decide +kernel)) ggL_law_X1_gain
set_option maxRecDepth 20000 in
theorem ggL_law_X2_gain : GoodIn wsL_law wsX2_gain := goodIn_r _ [276, 86, 208, 67, 70, 241, 242, 243, 5, 244, 65, 147, 148, 149, 150, 66, 87, 88, 89, 112, 113, 114, 115, 245, 246, 247, 248, 209, 210, 211, 212, 213, 214, 155, 156, 157, 158, 151, 152, 153, 154, 68, 265, 266, 267, 268, 453, 454, 455, 456, 457, 458, 459, 460, 461, 462, 463, 464, 465, 466] (by decide +kernel) (by decide +kernel)
set_option maxRecDepth 20000 in
theorem gL_law_X2_gain : GoodIn wsL_law (wsV RL 54 RX2 yX2_gain wsX2_gain) := goodIn_app (goodIn_of _ (by decide +kernel)) ggL_law_X2_gain
set_option maxRecDepth 20000 in
theorem ggL_law_X1_brings : GoodIn wsL_law wsX1_brings := goodIn_r _ [280, 183, 184, 185, 2, 186, 281, 282, 283, 284, 15, 16, 17, 137, 138, 139, 14, 140, 32, 29, 285, 286, 287, 288, 233, 234, 235, 236, 20, 230, 231, 232, 104, 105, 106, 107, 187, 188, 189, 190, 30, 191, 192, 193, 194, 31, 253, 254, 255, 256, 257, 258, 259, 260, 120, 50, 51, 52, 28, 289, 290, 291, 292, 293, 294, 59, 295, 296, 58, 60, 22, 297, 298, 299, 300, 163, 164, 165, 166, 53, 54, 55, 56, 57, 195, 196, 197, 198, 199, 200, 201, 202, 203, 445, 446, 447, 448, 449, 450, 451, 452, 467, 468, 469, 470, 471] (by decide +kernel) (by decide +kernel)
set_option maxRecDepth 20000 in
theorem gL_law_X1_brings : GoodIn wsL_law (wsV RL 55 RX1 yX1_brings wsX1_brings) := goodIn_app (goodIn_of _ (by decide +kernel)) ggL_law_X1_brings
set_option maxRecDepth 20000 in
theorem ggL_law_X2_brings : GoodIn wsL_law wsX2_brings := goodIn_r _ [304, 86, 208, 65, 87, 88, 5, 89, 305, 306, 307, 308, 70, 68, 147, 148, 149, 150, 66, 265, 266, 267, 268, 67, 245, 246, 247, 248, 209, 210, 211, 212, 213, 214, 155, 156, 157, 158, 151, 152, 153, 154, 309, 310, 311, 312, 215, 216, 217, 218, 219, 220, 221, 453, 454, 455, 456, 457, 458, 459, 460, 461, 462, 463, 464, 465, 466] (by decide +kernel) (by decide +kernel)
set_option maxRecDepth 20000 in
theorem gL_law_X2_brings : GoodIn wsL_law (wsV RL 59 RX2 yX2_brings wsX2_brings) := goodIn_app (goodIn_of _ (by decide +kernel)) ggL_law_X2_brings
set_option maxRecDepth 20000 in
theorem ggL_law_X1_reserve : GoodIn wsL_law wsX1_reserve := goodIn_r _ [316, 22, 98, 99, 2, 100, 445, 446, 447, 448, 449, 450, 451, 452] (by decide +kernel) (by decide +kernel)
set_option maxRecDepth 20000 in
theorem gL_law_X1_reserve : GoodIn wsL_law (wsV RL 60 RX1 yX1_reserve wsX1_reserve) := goodIn_app (goodIn_of _ (by decide +kernel)) ggL_law_X1_reserve
set_option maxRecDepth 20000 in
theorem ggL_law_X2_reserve : GoodIn wsL_law wsX2_reserve := goodIn_r _ [320, 86, 321, 87, 88, 5, 89, 453, 454, 455, 456, 457, 458, 459, 460, 461, 462, 463, 464, 465, 466] (by decide +kernel) (by decide +kernel)
set_option maxRecDepth 20000 in
theorem gL_law_X2_reserve : GoodIn wsL_law (wsV RL 63 RX2 yX2_reserve wsX2_reserve) := goodIn_app (goodIn_of _ (by decide +kernel)) ggL_law_X2_reserve
set_option maxRecDepth 20000 in
theorem ggL_law_X1_pay : GoodIn wsL_law wsX1_pay := goodIn_r _ [325, 23, 326, 327, 2, 328, 329, 330, 331, 332, 20, 230, 231, 232, 98, 99, 100, 289, 290, 291, 292, 293, 294, 59, 295, 296, 58, 60, 22, 297, 298, 299, 300, 333, 334, 335, 445, 446, 447, 448, 449, 450, 451, 452] (by decide +kernel) (by decide +kernel)
set_option maxRecDepth 20000 in
theorem gL_law_X1_pay : GoodIn wsL_law (wsV RL 64 RX1 yX1_pay wsX1_pay) := goodIn_app (goodIn_of _ (by decide +kernel)) ggL_law_X1_pay
set_option maxRecDepth 20000 in
theorem ggL_law_X2_pay : GoodIn wsL_law wsX2_pay := goodIn_r _ [339, 86, 71, 65, 340, 341, 342, 87, 88, 5, 89, 343, 344, 345, 346, 321, 453, 454, 455, 456, 457, 458, 459, 460, 461, 462, 463, 464, 465, 466] (by decide +kernel) (by decide +kernel)
set_option maxRecDepth 20000 in
theorem gL_law_X2_pay : GoodIn wsL_law (wsV RL 67 RX2 yX2_pay wsX2_pay) := goodIn_app (goodIn_of _ (by decide +kernel)) ggL_law_X2_pay
set_option maxRecDepth 20000 in
theorem ggL_law_X1_average : GoodIn wsL_law wsX1_average := goodIn_r _ [350, 183, 326, 327, 2, 328, 184, 185, 186, 281, 282, 283, 284, 15, 16, 17, 137, 138, 139, 14, 140, 32, 29, 285, 286, 287, 288, 233, 234, 235, 236, 20, 230, 231, 232, 104, 105, 106, 107, 187, 188, 189, 190, 30, 191, 192, 193, 194, 31, 253, 254, 255, 256, 257, 258, 259, 260, 120, 50, 51, 52, 28, 289, 290, 291, 292, 293, 294, 59, 295, 296, 58, 60, 22, 297, 298, 299, 300, 163, 164, 165, 166, 53, 54, 55, 56, 57, 195, 196, 197, 198, 199, 200, 201, 202, 203, 445, 446, 447, 448, 449, 450, 451, 452, 467, 468, 469, 470, 471] (by decide +kernel) (by decide +kernel)
set_option maxRecDepth 20000 in
theorem gL_law_X1_average : GoodIn wsL_law (wsV RL 68 RX1 yX1_average wsX1_average) := goodIn_app (goodIn_of _ (by decide +kernel)) ggL_law_X1_average
set_option maxRecDepth 20000 in
theorem ggL_law_X2_average : GoodIn wsL_law wsX2_average := goodIn_r _ [354, 86, 208, 65, 71, 67, 70, 87, 88, 5, 89, 305, 306, 307, 308, 68, 147, 148, 149, 150, 66, 343, 344, 345, 346, 321, 309, 310, 311, 312, 151, 152, 153, 154, 215, 216, 217, 218, 219, 220, 221, 453, 454, 455, 456, 457, 458, 459, 460, 461, 462, 463, 464, 465, 466] (by decide +kernel) (by decide +kernel)
set_option maxRecDepth 20000 in
theorem gL_law_X2_average : GoodIn wsL_law (wsV RL 72 RX2 yX2_average wsX2_average) := goodIn_app (goodIn_of _ (by decide +kernel)) ggL_law_X2_average
set_option maxRecDepth 20000 in
theorem ggL_law_X1_offers : GoodIn wsL_law wsX1_offers := goodIn_r _ [358, 183, 20, 359, 360, 361, 362, 2, 363, 94, 95, 96, 97, 184, 185, 186, 104, 105, 106, 107, 15, 16, 17, 364, 365, 366, 367, 368, 369, 142, 46, 47, 14, 48, 49, 50, 51, 52, 32, 28, 53, 54, 55, 56, 57, 58, 59, 60, 29, 163, 164, 165, 166, 141, 133, 134, 135, 136, 120, 195, 196, 197, 198, 199, 200, 201, 202, 203, 445, 446, 447, 448, 449, 450, 451, 452, 467, 468, 469, 470, 471] (by decide +kernel) (by decide +kernel)
set_option maxRecDepth 20000 in
theorem gL_law_X1_offers : GoodIn wsL_law (wsV RL 73 RX1 yX1_offers wsX1_offers) := goodIn_app (goodIn_of _ (by decide +kernel)) ggL_law_X1_offers
set_option maxRecDepth 20000 in
theorem ggL_law_X2_offers : GoodIn wsL_law wsX2_offers := goodIn_r _ [373, 86, 208, 65, 72, 66, 67, 87, 88, 5, 89, 112, 113, 114, 115, 151, 152, 153, 154, 68, 215, 216, 217, 218, 219, 220, 221, 453, 454, 455, 456, 457, 458, 459, 460, 461, 462, 463, 464, 465, 466] (by decide +kernel) (by decide +kernel)
set_option maxRecDepth 20000 in
theorem gL_law_X2_offers : GoodIn wsL_law (wsV RL 76 RX2 yX2_offers wsX2_offers) := goodIn_app (goodIn_of _ (by decide +kernel)) ggL_law_X2_offers
set_option maxRecDepth 20000 in
theorem ggL_law_X1_bundle : GoodIn wsL_law wsX1_bundle := goodIn_r _ [377, 94, 95, 96, 2, 97, 20, 104, 105, 106, 107, 15, 16, 17, 378, 379, 380, 120, 50, 51, 14, 52, 32, 28, 381, 382, 383, 137, 138, 139, 140, 29, 384, 385, 386, 167, 168, 169, 170, 45, 46, 47, 48, 49, 53, 54, 55, 56, 57, 58, 59, 60, 142, 163, 164, 165, 166, 387, 388, 389, 390, 445, 446, 447, 448, 449, 450, 451, 452, 467, 468, 469, 470, 471] (by decide +kernel) (by decide +kernel)
set_option maxRecDepth 20000 in
theorem gL_law_X1_bundle : GoodIn wsL_law (wsV RL 77 RX1 yX1_bundle wsX1_bundle) := goodIn_app (goodIn_of _ (by decide +kernel)) ggL_law_X1_bundle
set_option maxRecDepth 20000 in
theorem ggL_law_X2_bundle : GoodIn wsL_law wsX2_bundle := goodIn_r _ [394, 86, 395, 66, 67, 112, 113, 114, 5, 115, 65, 87, 88, 89, 396, 397, 398, 399, 68, 175, 176, 177, 178, 155, 156, 157, 158, 151, 152, 153, 154, 453, 454, 455, 456, 457, 458, 459, 460, 461, 462, 463, 464, 465, 466] (by decide +kernel) (by decide +kernel)
set_option maxRecDepth 20000 in
theorem gL_law_X2_bundle : GoodIn wsL_law (wsV RL 80 RX2 yX2_bundle wsX2_bundle) := goodIn_app (goodIn_of _ (by decide +kernel)) ggL_law_X2_bundle
set_option maxRecDepth 20000 in
theorem ggL_law_X1_sample : GoodIn wsL_law wsX1_sample := goodIn_r _ [403, 21, 19, 98, 99, 2, 100, 445, 446, 447, 448, 449, 450, 451, 452] (by decide +kernel) (by decide +kernel)
set_option maxRecDepth 20000 in
theorem gL_law_X1_sample : GoodIn wsL_law (wsV RL 81 RX1 yX1_sample wsX1_sample) := goodIn_app (goodIn_of _ (by decide +kernel)) ggL_law_X1_sample
set_option maxRecDepth 20000 in
theorem ggL_law_X2_sample : GoodIn wsL_law wsX2_sample := goodIn_r _ [407, 86, 408, 69, 87, 88, 5, 89, 453, 454, 455, 456, 457, 458, 459, 460, 461, 462, 463, 464, 465, 466] (by decide +kernel) (by decide +kernel)
set_option maxRecDepth 20000 in
theorem gL_law_X2_sample : GoodIn wsL_law (wsV RL 84 RX2 yX2_sample wsX2_sample) := goodIn_app (goodIn_of _ (by decide +kernel)) ggL_law_X2_sample
set_option maxRecDepth 20000 in
theorem ggL_law_X1_clear : GoodIn wsL_law wsX1_clear := goodIn_r _ [412, 21, 445, 446, 447, 448, 449, 450, 451, 452] (by decide +kernel) (by decide +kernel)
set_option maxRecDepth 20000 in
theorem gL_law_X1_clear : GoodIn wsL_law (wsV RL 85 RX1 yX1_clear wsX1_clear) := goodIn_app (goodIn_of _ (by decide +kernel)) ggL_law_X1_clear
set_option maxRecDepth 20000 in
theorem ggL_law_X2_clear : GoodIn wsL_law wsX2_clear := goodIn_r _ [416, 86, 408, 453, 454, 455, 456, 457, 458, 459, 460, 461, 462, 463, 464, 465, 466] (by decide +kernel) (by decide +kernel)
set_option maxRecDepth 20000 in
theorem gL_law_X2_clear : GoodIn wsL_law (wsV RL 89 RX2 yX2_clear wsX2_clear) := goodIn_app (goodIn_of _ (by decide +kernel)) ggL_law_X2_clear
set_option maxRecDepth 20000 in
theorem ggL_law_X1_learnt : GoodIn wsL_law wsX1_learnt := goodIn_r _ [420, 21, 19, 421, 422, 423, 2, 424, 445, 446, 447, 448, 449, 450, 451, 452] (by decide +kernel) (by decide +kernel)
set_option maxRecDepth 20000 in
theorem gL_law_X1_learnt : GoodIn wsL_law (wsV RL 90 RX1 yX1_learnt wsX1_learnt) := goodIn_app (goodIn_of _ (by decide +kernel)) ggL_law_X1_learnt
set_option maxRecDepth 20000 in
theorem ggL_law_X2_learnt : GoodIn wsL_law wsX2_learnt := goodIn_r _ [428, 86, 408, 69, 453, 454, 455, 456, 457, 458, 459, 460, 461, 462, 463, 464, 465, 466] (by decide +kernel) (by decide +kernel)
set_option maxRecDepth 20000 in
theorem gL_law_X2_learnt : GoodIn wsL_law (wsV RL 93 RX2 yX2_learnt wsX2_learnt) := goodIn_app (goodIn_of _ (by decide +kernel)) ggL_law_X2_learnt
set_option maxRecDepth 20000 in
theorem ggL_law_X1_count : GoodIn wsL_law wsX1_count := goodIn_r _ [432, 20, 22, 21, 445, 446, 447, 448, 449, 450, 451, 452] (by decide +kernel) (by decide +kernel)
set_option maxRecDepth 20000 in
theorem gL_law_X1_count : GoodIn wsL_law (wsV RL 94 RX1 yX1_count wsX1_count) := goodIn_app (goodIn_of _ (by decide +kernel)) ggL_law_X1_count
set_option maxRecDepth 20000 in
theorem ggL_law_X2_count : GoodIn wsL_law wsX2_count := goodIn_r _ [436, 86, 65, 321, 408, 453, 454, 455, 456, 457, 458, 459, 460, 461, 462, 463, 464, 465, 466] (by decide +kernel) (by decide +kernel)
set_option maxRecDepth 20000 in
theorem gL_law_X2_count : GoodIn wsL_law (wsV RL 97 RX2 yX2_count wsX2_count) := goodIn_app (goodIn_of _ (by decide +kernel)) ggL_law_X2_count
set_option maxRecDepth 20000 in
theorem ggL_law_X1_trace : GoodIn wsL_law wsX1_trace := goodIn_r _ [440, 23, 445, 446, 447, 448, 449, 450, 451, 452] (by decide +kernel) (by decide +kernel)
set_option maxRecDepth 20000 in
theorem gL_law_X1_trace : GoodIn wsL_law (wsV RL 98 RX1 yX1_trace wsX1_trace) := goodIn_app (goodIn_of _ (by decide +kernel)) ggL_law_X1_trace
set_option maxRecDepth 20000 in
theorem ggL_law_X2_trace : GoodIn wsL_law wsX2_trace := goodIn_r _ [444, 86, 340, 453, 454, 455, 456, 457, 458, 459, 460, 461, 462, 463, 464, 465, 466] (by decide +kernel) (by decide +kernel)
set_option maxRecDepth 20000 in
theorem gL_law_X2_trace : GoodIn wsL_law (wsV RL 102 RX2 yX2_trace wsX2_trace) := goodIn_app (goodIn_of _ (by decide +kernel)) ggL_law_X2_trace
theorem dL_law_0 : decode cL_law 0 = .ok (.new 7, 3) := by decide +kernel
theorem dL_law_3 : decode cL_law 3 = .ok (.dup, 1) := by decide +kernel
theorem dL_law_4 : decode cL_law 4 = .ok (.invokespecial 9, 3) := by decide +kernel
theorem dL_law_7 : decode cL_law 7 = .ok (.astore_n 1, 1) := by decide +kernel
theorem dL_law_8 : decode cL_law 8 = .ok (.new 10, 3) := by decide +kernel
theorem dL_law_11 : decode cL_law 11 = .ok (.dup, 1) := by decide +kernel
theorem dL_law_12 : decode cL_law 12 = .ok (.invokespecial 12, 3) := by decide +kernel
theorem dL_law_15 : decode cL_law 15 = .ok (.astore_n 2, 1) := by decide +kernel
theorem dL_law_16 : decode cL_law 16 = .ok (.iconst 0, 1) := by decide +kernel
theorem dL_law_17 : decode cL_law 17 = .ok (.istore_n 3, 1) := by decide +kernel
theorem dL_law_18 : decode cL_law 18 = .ok (.iload_n 3, 1) := by decide +kernel
theorem dL_law_19 : decode cL_law 19 = .ok (.aload_n 0, 1) := by decide +kernel
theorem dL_law_20 : decode cL_law 20 = .ok (.arraylength, 1) := by decide +kernel
theorem dL_law_21 : decode cL_law 21 = .ok (.bipush 6, 2) := by decide +kernel
theorem dL_law_23 : decode cL_law 23 = .ok (.isub, 1) := by decide +kernel
theorem dL_law_24 : decode cL_law 24 = .ok (.if_icmp .gt 822, 3) := by decide +kernel
theorem dL_law_27 : decode cL_law 27 = .ok (.aload_n 0, 1) := by decide +kernel
theorem dL_law_28 : decode cL_law 28 = .ok (.iload_n 3, 1) := by decide +kernel
theorem dL_law_29 : decode cL_law 29 = .ok (.iaload, 1) := by decide +kernel
theorem dL_law_30 : decode cL_law 30 = .ok (.bipush 31, 2) := by decide +kernel
theorem dL_law_32 : decode cL_law 32 = .ok (.iand, 1) := by decide +kernel
theorem dL_law_33 : decode cL_law 33 = .ok (.tableswitch 807 0 19 #[95, 118, 161, 204, 247, 280, 350, 393, 446, 510, 534, 557, 610, 644, 678, 721, 744, 757, 770, 793], 95) := by decide +kernel
theorem dL_law_128 : decode cL_law 128 = .ok (.aload_n 1, 1) := by decide +kernel
theorem dL_law_129 : decode cL_law 129 = .ok (.aload_n 0, 1) := by decide +kernel
theorem dL_law_130 : decode cL_law 130 = .ok (.iload_n 3, 1) := by decide +kernel
theorem dL_law_131 : decode cL_law 131 = .ok (.iconst 1, 1) := by decide +kernel
theorem dL_law_132 : decode cL_law 132 = .ok (.iadd, 1) := by decide +kernel
theorem dL_law_133 : decode cL_law 133 = .ok (.iaload, 1) := by decide +kernel
theorem dL_law_134 : decode cL_law 134 = .ok (.invokevirtual 13, 3) := by decide +kernel
theorem dL_law_137 : decode cL_law 137 = .ok (.aload_n 2, 1) := by decide +kernel
theorem dL_law_138 : decode cL_law 138 = .ok (.aload_n 0, 1) := by decide +kernel
theorem dL_law_139 : decode cL_law 139 = .ok (.iload_n 3, 1) := by decide +kernel
theorem dL_law_140 : decode cL_law 140 = .ok (.iconst 1, 1) := by decide +kernel
theorem dL_law_141 : decode cL_law 141 = .ok (.iadd, 1) := by decide +kernel
theorem dL_law_142 : decode cL_law 142 = .ok (.iaload, 1) := by decide +kernel
theorem dL_law_143 : decode cL_law 143 = .ok (.invokevirtual 17, 3) := by decide +kernel
theorem dL_law_146 : decode cL_law 146 = .ok (.if_icmp .eq 694, 3) := by decide +kernel
theorem dL_law_149 : decode cL_law 149 = .ok (.iconst 0, 1) := by decide +kernel
theorem dL_law_150 : decode cL_law 150 = .ok (.ireturn, 1) := by decide +kernel
theorem dL_law_151 : decode cL_law 151 = .ok (.aload_n 1, 1) := by decide +kernel
theorem dL_law_152 : decode cL_law 152 = .ok (.aload_n 0, 1) := by decide +kernel
theorem dL_law_153 : decode cL_law 153 = .ok (.iload_n 3, 1) := by decide +kernel
theorem dL_law_154 : decode cL_law 154 = .ok (.iconst 1, 1) := by decide +kernel
theorem dL_law_155 : decode cL_law 155 = .ok (.iadd, 1) := by decide +kernel
theorem dL_law_156 : decode cL_law 156 = .ok (.iaload, 1) := by decide +kernel
theorem dL_law_157 : decode cL_law 157 = .ok (.aload_n 0, 1) := by decide +kernel
theorem dL_law_158 : decode cL_law 158 = .ok (.iload_n 3, 1) := by decide +kernel
theorem dL_law_159 : decode cL_law 159 = .ok (.iconst 2, 1) := by decide +kernel
theorem dL_law_160 : decode cL_law 160 = .ok (.iadd, 1) := by decide +kernel
theorem dL_law_161 : decode cL_law 161 = .ok (.iaload, 1) := by decide +kernel
theorem dL_law_162 : decode cL_law 162 = .ok (.aload_n 0, 1) := by decide +kernel
theorem dL_law_163 : decode cL_law 163 = .ok (.iload_n 3, 1) := by decide +kernel
theorem dL_law_164 : decode cL_law 164 = .ok (.iconst 3, 1) := by decide +kernel
theorem dL_law_165 : decode cL_law 165 = .ok (.iadd, 1) := by decide +kernel
theorem dL_law_166 : decode cL_law 166 = .ok (.iaload, 1) := by decide +kernel
theorem dL_law_167 : decode cL_law 167 = .ok (.invokevirtual 18, 3) := by decide +kernel
theorem dL_law_170 : decode cL_law 170 = .ok (.aload_n 2, 1) := by decide +kernel
theorem dL_law_171 : decode cL_law 171 = .ok (.aload_n 0, 1) := by decide +kernel
theorem dL_law_172 : decode cL_law 172 = .ok (.iload_n 3, 1) := by decide +kernel
theorem dL_law_173 : decode cL_law 173 = .ok (.iconst 1, 1) := by decide +kernel
theorem dL_law_174 : decode cL_law 174 = .ok (.iadd, 1) := by decide +kernel
theorem dL_law_175 : decode cL_law 175 = .ok (.iaload, 1) := by decide +kernel
theorem dL_law_176 : decode cL_law 176 = .ok (.aload_n 0, 1) := by decide +kernel
theorem dL_law_177 : decode cL_law 177 = .ok (.iload_n 3, 1) := by decide +kernel
theorem dL_law_178 : decode cL_law 178 = .ok (.iconst 2, 1) := by decide +kernel
theorem dL_law_179 : decode cL_law 179 = .ok (.iadd, 1) := by decide +kernel
theorem dL_law_180 : decode cL_law 180 = .ok (.iaload, 1) := by decide +kernel
theorem dL_law_181 : decode cL_law 181 = .ok (.aload_n 0, 1) := by decide +kernel
theorem dL_law_182 : decode cL_law 182 = .ok (.iload_n 3, 1) := by decide +kernel
theorem dL_law_183 : decode cL_law 183 = .ok (.iconst 3, 1) := by decide +kernel
theorem dL_law_184 : decode cL_law 184 = .ok (.iadd, 1) := by decide +kernel
theorem dL_law_185 : decode cL_law 185 = .ok (.iaload, 1) := by decide +kernel
theorem dL_law_186 : decode cL_law 186 = .ok (.invokevirtual 22, 3) := by decide +kernel
theorem dL_law_189 : decode cL_law 189 = .ok (.if_icmp .eq 651, 3) := by decide +kernel
theorem dL_law_192 : decode cL_law 192 = .ok (.iconst 0, 1) := by decide +kernel
theorem dL_law_193 : decode cL_law 193 = .ok (.ireturn, 1) := by decide +kernel
theorem dL_law_194 : decode cL_law 194 = .ok (.aload_n 1, 1) := by decide +kernel
theorem dL_law_195 : decode cL_law 195 = .ok (.aload_n 0, 1) := by decide +kernel
theorem dL_law_196 : decode cL_law 196 = .ok (.iload_n 3, 1) := by decide +kernel
theorem dL_law_197 : decode cL_law 197 = .ok (.iconst 1, 1) := by decide +kernel
theorem dL_law_198 : decode cL_law 198 = .ok (.iadd, 1) := by decide +kernel
theorem dL_law_199 : decode cL_law 199 = .ok (.iaload, 1) := by decide +kernel
theorem dL_law_200 : decode cL_law 200 = .ok (.aload_n 0, 1) := by decide +kernel
theorem dL_law_201 : decode cL_law 201 = .ok (.iload_n 3, 1) := by decide +kernel
theorem dL_law_202 : decode cL_law 202 = .ok (.iconst 2, 1) := by decide +kernel
theorem dL_law_203 : decode cL_law 203 = .ok (.iadd, 1) := by decide +kernel
theorem dL_law_204 : decode cL_law 204 = .ok (.iaload, 1) := by decide +kernel
theorem dL_law_205 : decode cL_law 205 = .ok (.aload_n 0, 1) := by decide +kernel
theorem dL_law_206 : decode cL_law 206 = .ok (.iload_n 3, 1) := by decide +kernel
theorem dL_law_207 : decode cL_law 207 = .ok (.iconst 3, 1) := by decide +kernel
theorem dL_law_208 : decode cL_law 208 = .ok (.iadd, 1) := by decide +kernel
theorem dL_law_209 : decode cL_law 209 = .ok (.iaload, 1) := by decide +kernel
theorem dL_law_210 : decode cL_law 210 = .ok (.invokevirtual 23, 3) := by decide +kernel
theorem dL_law_213 : decode cL_law 213 = .ok (.aload_n 2, 1) := by decide +kernel
theorem dL_law_214 : decode cL_law 214 = .ok (.aload_n 0, 1) := by decide +kernel
theorem dL_law_215 : decode cL_law 215 = .ok (.iload_n 3, 1) := by decide +kernel
theorem dL_law_216 : decode cL_law 216 = .ok (.iconst 1, 1) := by decide +kernel
theorem dL_law_217 : decode cL_law 217 = .ok (.iadd, 1) := by decide +kernel
theorem dL_law_218 : decode cL_law 218 = .ok (.iaload, 1) := by decide +kernel
theorem dL_law_219 : decode cL_law 219 = .ok (.aload_n 0, 1) := by decide +kernel
theorem dL_law_220 : decode cL_law 220 = .ok (.iload_n 3, 1) := by decide +kernel
theorem dL_law_221 : decode cL_law 221 = .ok (.iconst 2, 1) := by decide +kernel
theorem dL_law_222 : decode cL_law 222 = .ok (.iadd, 1) := by decide +kernel
theorem dL_law_223 : decode cL_law 223 = .ok (.iaload, 1) := by decide +kernel
theorem dL_law_224 : decode cL_law 224 = .ok (.aload_n 0, 1) := by decide +kernel
theorem dL_law_225 : decode cL_law 225 = .ok (.iload_n 3, 1) := by decide +kernel
theorem dL_law_226 : decode cL_law 226 = .ok (.iconst 3, 1) := by decide +kernel
theorem dL_law_227 : decode cL_law 227 = .ok (.iadd, 1) := by decide +kernel
theorem dL_law_228 : decode cL_law 228 = .ok (.iaload, 1) := by decide +kernel
theorem dL_law_229 : decode cL_law 229 = .ok (.invokevirtual 26, 3) := by decide +kernel
theorem dL_law_232 : decode cL_law 232 = .ok (.if_icmp .eq 608, 3) := by decide +kernel
theorem dL_law_235 : decode cL_law 235 = .ok (.iconst 0, 1) := by decide +kernel
theorem dL_law_236 : decode cL_law 236 = .ok (.ireturn, 1) := by decide +kernel
theorem dL_law_237 : decode cL_law 237 = .ok (.aload_n 1, 1) := by decide +kernel
theorem dL_law_238 : decode cL_law 238 = .ok (.aload_n 0, 1) := by decide +kernel
theorem dL_law_239 : decode cL_law 239 = .ok (.iload_n 3, 1) := by decide +kernel
theorem dL_law_240 : decode cL_law 240 = .ok (.iconst 1, 1) := by decide +kernel
theorem dL_law_241 : decode cL_law 241 = .ok (.iadd, 1) := by decide +kernel
theorem dL_law_242 : decode cL_law 242 = .ok (.iaload, 1) := by decide +kernel
theorem dL_law_243 : decode cL_law 243 = .ok (.aload_n 0, 1) := by decide +kernel
theorem dL_law_244 : decode cL_law 244 = .ok (.iload_n 3, 1) := by decide +kernel
theorem dL_law_245 : decode cL_law 245 = .ok (.iconst 2, 1) := by decide +kernel
theorem dL_law_246 : decode cL_law 246 = .ok (.iadd, 1) := by decide +kernel
theorem dL_law_247 : decode cL_law 247 = .ok (.iaload, 1) := by decide +kernel
theorem dL_law_248 : decode cL_law 248 = .ok (.aload_n 0, 1) := by decide +kernel
theorem dL_law_249 : decode cL_law 249 = .ok (.iload_n 3, 1) := by decide +kernel
theorem dL_law_250 : decode cL_law 250 = .ok (.iconst 3, 1) := by decide +kernel
theorem dL_law_251 : decode cL_law 251 = .ok (.iadd, 1) := by decide +kernel
theorem dL_law_252 : decode cL_law 252 = .ok (.iaload, 1) := by decide +kernel
theorem dL_law_253 : decode cL_law 253 = .ok (.invokevirtual 27, 3) := by decide +kernel
theorem dL_law_256 : decode cL_law 256 = .ok (.aload_n 2, 1) := by decide +kernel
theorem dL_law_257 : decode cL_law 257 = .ok (.aload_n 0, 1) := by decide +kernel
theorem dL_law_258 : decode cL_law 258 = .ok (.iload_n 3, 1) := by decide +kernel
theorem dL_law_259 : decode cL_law 259 = .ok (.iconst 1, 1) := by decide +kernel
theorem dL_law_260 : decode cL_law 260 = .ok (.iadd, 1) := by decide +kernel
theorem dL_law_261 : decode cL_law 261 = .ok (.iaload, 1) := by decide +kernel
theorem dL_law_262 : decode cL_law 262 = .ok (.aload_n 0, 1) := by decide +kernel
theorem dL_law_263 : decode cL_law 263 = .ok (.iload_n 3, 1) := by decide +kernel
theorem dL_law_264 : decode cL_law 264 = .ok (.iconst 2, 1) := by decide +kernel
theorem dL_law_265 : decode cL_law 265 = .ok (.iadd, 1) := by decide +kernel
theorem dL_law_266 : decode cL_law 266 = .ok (.iaload, 1) := by decide +kernel
theorem dL_law_267 : decode cL_law 267 = .ok (.aload_n 0, 1) := by decide +kernel
theorem dL_law_268 : decode cL_law 268 = .ok (.iload_n 3, 1) := by decide +kernel
theorem dL_law_269 : decode cL_law 269 = .ok (.iconst 3, 1) := by decide +kernel
theorem dL_law_270 : decode cL_law 270 = .ok (.iadd, 1) := by decide +kernel
theorem dL_law_271 : decode cL_law 271 = .ok (.iaload, 1) := by decide +kernel
theorem dL_law_272 : decode cL_law 272 = .ok (.invokevirtual 30, 3) := by decide +kernel
theorem dL_law_275 : decode cL_law 275 = .ok (.if_icmp .eq 565, 3) := by decide +kernel
theorem dL_law_278 : decode cL_law 278 = .ok (.iconst 0, 1) := by decide +kernel
theorem dL_law_279 : decode cL_law 279 = .ok (.ireturn, 1) := by decide +kernel
theorem dL_law_280 : decode cL_law 280 = .ok (.aload_n 1, 1) := by decide +kernel
theorem dL_law_281 : decode cL_law 281 = .ok (.aload_n 0, 1) := by decide +kernel
theorem dL_law_282 : decode cL_law 282 = .ok (.iload_n 3, 1) := by decide +kernel
theorem dL_law_283 : decode cL_law 283 = .ok (.iconst 1, 1) := by decide +kernel
theorem dL_law_284 : decode cL_law 284 = .ok (.iadd, 1) := by decide +kernel
theorem dL_law_285 : decode cL_law 285 = .ok (.iaload, 1) := by decide +kernel
theorem dL_law_286 : decode cL_law 286 = .ok (.aload_n 0, 1) := by decide +kernel
theorem dL_law_287 : decode cL_law 287 = .ok (.iload_n 3, 1) := by decide +kernel
theorem dL_law_288 : decode cL_law 288 = .ok (.iconst 2, 1) := by decide +kernel
theorem dL_law_289 : decode cL_law 289 = .ok (.iadd, 1) := by decide +kernel
theorem dL_law_290 : decode cL_law 290 = .ok (.iaload, 1) := by decide +kernel
theorem dL_law_291 : decode cL_law 291 = .ok (.invokevirtual 31, 3) := by decide +kernel
theorem dL_law_294 : decode cL_law 294 = .ok (.aload_n 2, 1) := by decide +kernel
theorem dL_law_295 : decode cL_law 295 = .ok (.aload_n 0, 1) := by decide +kernel
theorem dL_law_296 : decode cL_law 296 = .ok (.iload_n 3, 1) := by decide +kernel
theorem dL_law_297 : decode cL_law 297 = .ok (.iconst 1, 1) := by decide +kernel
theorem dL_law_298 : decode cL_law 298 = .ok (.iadd, 1) := by decide +kernel
theorem dL_law_299 : decode cL_law 299 = .ok (.iaload, 1) := by decide +kernel
theorem dL_law_300 : decode cL_law 300 = .ok (.aload_n 0, 1) := by decide +kernel
theorem dL_law_301 : decode cL_law 301 = .ok (.iload_n 3, 1) := by decide +kernel
theorem dL_law_302 : decode cL_law 302 = .ok (.iconst 2, 1) := by decide +kernel
theorem dL_law_303 : decode cL_law 303 = .ok (.iadd, 1) := by decide +kernel
theorem dL_law_304 : decode cL_law 304 = .ok (.iaload, 1) := by decide +kernel
theorem dL_law_305 : decode cL_law 305 = .ok (.invokevirtual 35, 3) := by decide +kernel
theorem dL_law_308 : decode cL_law 308 = .ok (.if_icmp .eq 532, 3) := by decide +kernel
theorem dL_law_311 : decode cL_law 311 = .ok (.iconst 0, 1) := by decide +kernel
theorem dL_law_312 : decode cL_law 312 = .ok (.ireturn, 1) := by decide +kernel
theorem dL_law_313 : decode cL_law 313 = .ok (.aload_n 1, 1) := by decide +kernel
theorem dL_law_314 : decode cL_law 314 = .ok (.aload_n 0, 1) := by decide +kernel
theorem dL_law_315 : decode cL_law 315 = .ok (.iload_n 3, 1) := by decide +kernel
theorem dL_law_316 : decode cL_law 316 = .ok (.iconst 1, 1) := by decide +kernel
theorem dL_law_317 : decode cL_law 317 = .ok (.iadd, 1) := by decide +kernel
theorem dL_law_318 : decode cL_law 318 = .ok (.iaload, 1) := by decide +kernel
theorem dL_law_319 : decode cL_law 319 = .ok (.aload_n 0, 1) := by decide +kernel
theorem dL_law_320 : decode cL_law 320 = .ok (.iload_n 3, 1) := by decide +kernel
theorem dL_law_321 : decode cL_law 321 = .ok (.iconst 2, 1) := by decide +kernel
theorem dL_law_322 : decode cL_law 322 = .ok (.iadd, 1) := by decide +kernel
theorem dL_law_323 : decode cL_law 323 = .ok (.iaload, 1) := by decide +kernel
theorem dL_law_324 : decode cL_law 324 = .ok (.aload_n 0, 1) := by decide +kernel
theorem dL_law_325 : decode cL_law 325 = .ok (.iload_n 3, 1) := by decide +kernel
theorem dL_law_326 : decode cL_law 326 = .ok (.iconst 3, 1) := by decide +kernel
theorem dL_law_327 : decode cL_law 327 = .ok (.iadd, 1) := by decide +kernel
theorem dL_law_328 : decode cL_law 328 = .ok (.iaload, 1) := by decide +kernel
theorem dL_law_329 : decode cL_law 329 = .ok (.ifCond .eq 7, 3) := by decide +kernel
theorem dL_law_332 : decode cL_law 332 = .ok (.iconst 1, 1) := by decide +kernel
theorem dL_law_333 : decode cL_law 333 = .ok (.goto 4, 3) := by decide +kernel
theorem dL_law_336 : decode cL_law 336 = .ok (.iconst 0, 1) := by decide +kernel
theorem dL_law_337 : decode cL_law 337 = .ok (.aload_n 0, 1) := by decide +kernel
theorem dL_law_338 : decode cL_law 338 = .ok (.iload_n 3, 1) := by decide +kernel
theorem dL_law_339 : decode cL_law 339 = .ok (.iconst 4, 1) := by decide +kernel
theorem dL_law_340 : decode cL_law 340 = .ok (.iadd, 1) := by decide +kernel
theorem dL_law_341 : decode cL_law 341 = .ok (.iaload, 1) := by decide +kernel
theorem dL_law_342 : decode cL_law 342 = .ok (.invokevirtual 36, 3) := by decide +kernel
theorem dL_law_345 : decode cL_law 345 = .ok (.aload_n 2, 1) := by decide +kernel
theorem dL_law_346 : decode cL_law 346 = .ok (.aload_n 0, 1) := by decide +kernel
theorem dL_law_347 : decode cL_law 347 = .ok (.iload_n 3, 1) := by decide +kernel
theorem dL_law_348 : decode cL_law 348 = .ok (.iconst 1, 1) := by decide +kernel
theorem dL_law_349 : decode cL_law 349 = .ok (.iadd, 1) := by decide +kernel
theorem dL_law_350 : decode cL_law 350 = .ok (.iaload, 1) := by decide +kernel
theorem dL_law_351 : decode cL_law 351 = .ok (.aload_n 0, 1) := by decide +kernel
theorem dL_law_352 : decode cL_law 352 = .ok (.iload_n 3, 1) := by decide +kernel
theorem dL_law_353 : decode cL_law 353 = .ok (.iconst 2, 1) := by decide +kernel
theorem dL_law_354 : decode cL_law 354 = .ok (.iadd, 1) := by decide +kernel
theorem dL_law_355 : decode cL_law 355 = .ok (.iaload, 1) := by decide +kernel
theorem dL_law_356 : decode cL_law 356 = .ok (.aload_n 0, 1) := by decide +kernel
theorem dL_law_357 : decode cL_law 357 = .ok (.iload_n 3, 1) := by decide +kernel
theorem dL_law_358 : decode cL_law 358 = .ok (.iconst 3, 1) := by decide +kernel
theorem dL_law_359 : decode cL_law 359 = .ok (.iadd, 1) := by decide +kernel
theorem dL_law_360 : decode cL_law 360 = .ok (.iaload, 1) := by decide +kernel
theorem dL_law_361 : decode cL_law 361 = .ok (.ifCond .eq 7, 3) := by decide +kernel
theorem dL_law_364 : decode cL_law 364 = .ok (.iconst 1, 1) := by decide +kernel
theorem dL_law_365 : decode cL_law 365 = .ok (.goto 4, 3) := by decide +kernel
theorem dL_law_368 : decode cL_law 368 = .ok (.iconst 0, 1) := by decide +kernel
theorem dL_law_369 : decode cL_law 369 = .ok (.aload_n 0, 1) := by decide +kernel
theorem dL_law_370 : decode cL_law 370 = .ok (.iload_n 3, 1) := by decide +kernel
theorem dL_law_371 : decode cL_law 371 = .ok (.iconst 4, 1) := by decide +kernel
theorem dL_law_372 : decode cL_law 372 = .ok (.iadd, 1) := by decide +kernel
theorem dL_law_373 : decode cL_law 373 = .ok (.iaload, 1) := by decide +kernel
theorem dL_law_374 : decode cL_law 374 = .ok (.invokevirtual 40, 3) := by decide +kernel
theorem dL_law_377 : decode cL_law 377 = .ok (.lcmp, 1) := by decide +kernel
theorem dL_law_378 : decode cL_law 378 = .ok (.ifCond .eq 462, 3) := by decide +kernel
theorem dL_law_381 : decode cL_law 381 = .ok (.iconst 0, 1) := by decide +kernel
theorem dL_law_382 : decode cL_law 382 = .ok (.ireturn, 1) := by decide +kernel
theorem dL_law_383 : decode cL_law 383 = .ok (.aload_n 1, 1) := by decide +kernel
theorem dL_law_384 : decode cL_law 384 = .ok (.aload_n 0, 1) := by decide +kernel
theorem dL_law_385 : decode cL_law 385 = .ok (.iload_n 3, 1) := by decide +kernel
theorem dL_law_386 : decode cL_law 386 = .ok (.iconst 1, 1) := by decide +kernel
theorem dL_law_387 : decode cL_law 387 = .ok (.iadd, 1) := by decide +kernel
theorem dL_law_388 : decode cL_law 388 = .ok (.iaload, 1) := by decide +kernel
theorem dL_law_389 : decode cL_law 389 = .ok (.aload_n 0, 1) := by decide +kernel
theorem dL_law_390 : decode cL_law 390 = .ok (.iload_n 3, 1) := by decide +kernel
theorem dL_law_391 : decode cL_law 391 = .ok (.iconst 2, 1) := by decide +kernel
theorem dL_law_392 : decode cL_law 392 = .ok (.iadd, 1) := by decide +kernel
theorem dL_law_393 : decode cL_law 393 = .ok (.iaload, 1) := by decide +kernel
theorem dL_law_394 : decode cL_law 394 = .ok (.aload_n 0, 1) := by decide +kernel
theorem dL_law_395 : decode cL_law 395 = .ok (.iload_n 3, 1) := by decide +kernel
theorem dL_law_396 : decode cL_law 396 = .ok (.iconst 3, 1) := by decide +kernel
theorem dL_law_397 : decode cL_law 397 = .ok (.iadd, 1) := by decide +kernel
theorem dL_law_398 : decode cL_law 398 = .ok (.iaload, 1) := by decide +kernel
theorem dL_law_399 : decode cL_law 399 = .ok (.invokevirtual 41, 3) := by decide +kernel
theorem dL_law_402 : decode cL_law 402 = .ok (.aload_n 2, 1) := by decide +kernel
theorem dL_law_403 : decode cL_law 403 = .ok (.aload_n 0, 1) := by decide +kernel
theorem dL_law_404 : decode cL_law 404 = .ok (.iload_n 3, 1) := by decide +kernel
theorem dL_law_405 : decode cL_law 405 = .ok (.iconst 1, 1) := by decide +kernel
theorem dL_law_406 : decode cL_law 406 = .ok (.iadd, 1) := by decide +kernel
theorem dL_law_407 : decode cL_law 407 = .ok (.iaload, 1) := by decide +kernel
theorem dL_law_408 : decode cL_law 408 = .ok (.aload_n 0, 1) := by decide +kernel
theorem dL_law_409 : decode cL_law 409 = .ok (.iload_n 3, 1) := by decide +kernel
theorem dL_law_410 : decode cL_law 410 = .ok (.iconst 2, 1) := by decide +kernel
theorem dL_law_411 : decode cL_law 411 = .ok (.iadd, 1) := by decide +kernel
theorem dL_law_412 : decode cL_law 412 = .ok (.iaload, 1) := by decide +kernel
theorem dL_law_413 : decode cL_law 413 = .ok (.aload_n 0, 1) := by decide +kernel
theorem dL_law_414 : decode cL_law 414 = .ok (.iload_n 3, 1) := by decide +kernel
theorem dL_law_415 : decode cL_law 415 = .ok (.iconst 3, 1) := by decide +kernel
theorem dL_law_416 : decode cL_law 416 = .ok (.iadd, 1) := by decide +kernel
theorem dL_law_417 : decode cL_law 417 = .ok (.iaload, 1) := by decide +kernel
theorem dL_law_418 : decode cL_law 418 = .ok (.invokevirtual 44, 3) := by decide +kernel
theorem dL_law_421 : decode cL_law 421 = .ok (.if_icmp .eq 419, 3) := by decide +kernel
theorem dL_law_424 : decode cL_law 424 = .ok (.iconst 0, 1) := by decide +kernel
theorem dL_law_425 : decode cL_law 425 = .ok (.ireturn, 1) := by decide +kernel
theorem dL_law_426 : decode cL_law 426 = .ok (.aload_n 1, 1) := by decide +kernel
theorem dL_law_427 : decode cL_law 427 = .ok (.aload_n 0, 1) := by decide +kernel
theorem dL_law_428 : decode cL_law 428 = .ok (.iload_n 3, 1) := by decide +kernel
theorem dL_law_429 : decode cL_law 429 = .ok (.iconst 1, 1) := by decide +kernel
theorem dL_law_430 : decode cL_law 430 = .ok (.iadd, 1) := by decide +kernel
theorem dL_law_431 : decode cL_law 431 = .ok (.iaload, 1) := by decide +kernel
theorem dL_law_432 : decode cL_law 432 = .ok (.aload_n 0, 1) := by decide +kernel
theorem dL_law_433 : decode cL_law 433 = .ok (.iload_n 3, 1) := by decide +kernel
theorem dL_law_434 : decode cL_law 434 = .ok (.iconst 2, 1) := by decide +kernel
theorem dL_law_435 : decode cL_law 435 = .ok (.iadd, 1) := by decide +kernel
theorem dL_law_436 : decode cL_law 436 = .ok (.iaload, 1) := by decide +kernel
theorem dL_law_437 : decode cL_law 437 = .ok (.aload_n 0, 1) := by decide +kernel
theorem dL_law_438 : decode cL_law 438 = .ok (.iload_n 3, 1) := by decide +kernel
theorem dL_law_439 : decode cL_law 439 = .ok (.iconst 3, 1) := by decide +kernel
theorem dL_law_440 : decode cL_law 440 = .ok (.iadd, 1) := by decide +kernel
theorem dL_law_441 : decode cL_law 441 = .ok (.iaload, 1) := by decide +kernel
theorem dL_law_442 : decode cL_law 442 = .ok (.aload_n 0, 1) := by decide +kernel
theorem dL_law_443 : decode cL_law 443 = .ok (.iload_n 3, 1) := by decide +kernel
theorem dL_law_444 : decode cL_law 444 = .ok (.iconst 4, 1) := by decide +kernel
theorem dL_law_445 : decode cL_law 445 = .ok (.iadd, 1) := by decide +kernel
theorem dL_law_446 : decode cL_law 446 = .ok (.iaload, 1) := by decide +kernel
theorem dL_law_447 : decode cL_law 447 = .ok (.invokevirtual 45, 3) := by decide +kernel
theorem dL_law_450 : decode cL_law 450 = .ok (.aload_n 2, 1) := by decide +kernel
theorem dL_law_451 : decode cL_law 451 = .ok (.aload_n 0, 1) := by decide +kernel
theorem dL_law_452 : decode cL_law 452 = .ok (.iload_n 3, 1) := by decide +kernel
theorem dL_law_453 : decode cL_law 453 = .ok (.iconst 1, 1) := by decide +kernel
theorem dL_law_454 : decode cL_law 454 = .ok (.iadd, 1) := by decide +kernel
theorem dL_law_455 : decode cL_law 455 = .ok (.iaload, 1) := by decide +kernel
theorem dL_law_456 : decode cL_law 456 = .ok (.aload_n 0, 1) := by decide +kernel
theorem dL_law_457 : decode cL_law 457 = .ok (.iload_n 3, 1) := by decide +kernel
theorem dL_law_458 : decode cL_law 458 = .ok (.iconst 2, 1) := by decide +kernel
theorem dL_law_459 : decode cL_law 459 = .ok (.iadd, 1) := by decide +kernel
theorem dL_law_460 : decode cL_law 460 = .ok (.iaload, 1) := by decide +kernel
theorem dL_law_461 : decode cL_law 461 = .ok (.aload_n 0, 1) := by decide +kernel
theorem dL_law_462 : decode cL_law 462 = .ok (.iload_n 3, 1) := by decide +kernel
theorem dL_law_463 : decode cL_law 463 = .ok (.iconst 3, 1) := by decide +kernel
theorem dL_law_464 : decode cL_law 464 = .ok (.iadd, 1) := by decide +kernel
theorem dL_law_465 : decode cL_law 465 = .ok (.iaload, 1) := by decide +kernel
theorem dL_law_466 : decode cL_law 466 = .ok (.aload_n 0, 1) := by decide +kernel
theorem dL_law_467 : decode cL_law 467 = .ok (.iload_n 3, 1) := by decide +kernel
theorem dL_law_468 : decode cL_law 468 = .ok (.iconst 4, 1) := by decide +kernel
theorem dL_law_469 : decode cL_law 469 = .ok (.iadd, 1) := by decide +kernel
theorem dL_law_470 : decode cL_law 470 = .ok (.iaload, 1) := by decide +kernel
theorem dL_law_471 : decode cL_law 471 = .ok (.invokevirtual 49, 3) := by decide +kernel
theorem dL_law_474 : decode cL_law 474 = .ok (.if_icmp .eq 366, 3) := by decide +kernel
theorem dL_law_477 : decode cL_law 477 = .ok (.iconst 0, 1) := by decide +kernel
theorem dL_law_478 : decode cL_law 478 = .ok (.ireturn, 1) := by decide +kernel
theorem dL_law_479 : decode cL_law 479 = .ok (.aload_n 1, 1) := by decide +kernel
theorem dL_law_480 : decode cL_law 480 = .ok (.aload_n 0, 1) := by decide +kernel
theorem dL_law_481 : decode cL_law 481 = .ok (.iload_n 3, 1) := by decide +kernel
theorem dL_law_482 : decode cL_law 482 = .ok (.iconst 1, 1) := by decide +kernel
theorem dL_law_483 : decode cL_law 483 = .ok (.iadd, 1) := by decide +kernel
theorem dL_law_484 : decode cL_law 484 = .ok (.iaload, 1) := by decide +kernel
theorem dL_law_485 : decode cL_law 485 = .ok (.aload_n 0, 1) := by decide +kernel
theorem dL_law_486 : decode cL_law 486 = .ok (.iload_n 3, 1) := by decide +kernel
theorem dL_law_487 : decode cL_law 487 = .ok (.iconst 2, 1) := by decide +kernel
theorem dL_law_488 : decode cL_law 488 = .ok (.iadd, 1) := by decide +kernel
theorem dL_law_489 : decode cL_law 489 = .ok (.iaload, 1) := by decide +kernel
theorem dL_law_490 : decode cL_law 490 = .ok (.aload_n 0, 1) := by decide +kernel
theorem dL_law_491 : decode cL_law 491 = .ok (.iload_n 3, 1) := by decide +kernel
theorem dL_law_492 : decode cL_law 492 = .ok (.iconst 3, 1) := by decide +kernel
theorem dL_law_493 : decode cL_law 493 = .ok (.iadd, 1) := by decide +kernel
theorem dL_law_494 : decode cL_law 494 = .ok (.iaload, 1) := by decide +kernel
theorem dL_law_495 : decode cL_law 495 = .ok (.aload_n 0, 1) := by decide +kernel
theorem dL_law_496 : decode cL_law 496 = .ok (.iload_n 3, 1) := by decide +kernel
theorem dL_law_497 : decode cL_law 497 = .ok (.iconst 4, 1) := by decide +kernel
theorem dL_law_498 : decode cL_law 498 = .ok (.iadd, 1) := by decide +kernel
theorem dL_law_499 : decode cL_law 499 = .ok (.iaload, 1) := by decide +kernel
theorem dL_law_500 : decode cL_law 500 = .ok (.aload_n 0, 1) := by decide +kernel
theorem dL_law_501 : decode cL_law 501 = .ok (.iload_n 3, 1) := by decide +kernel
theorem dL_law_502 : decode cL_law 502 = .ok (.iconst 5, 1) := by decide +kernel
theorem dL_law_503 : decode cL_law 503 = .ok (.iadd, 1) := by decide +kernel
theorem dL_law_504 : decode cL_law 504 = .ok (.iaload, 1) := by decide +kernel
theorem dL_law_505 : decode cL_law 505 = .ok (.invokevirtual 50, 3) := by decide +kernel
theorem dL_law_508 : decode cL_law 508 = .ok (.aload_n 2, 1) := by decide +kernel
theorem dL_law_509 : decode cL_law 509 = .ok (.aload_n 0, 1) := by decide +kernel
theorem dL_law_510 : decode cL_law 510 = .ok (.iload_n 3, 1) := by decide +kernel
theorem dL_law_511 : decode cL_law 511 = .ok (.iconst 1, 1) := by decide +kernel
theorem dL_law_512 : decode cL_law 512 = .ok (.iadd, 1) := by decide +kernel
theorem dL_law_513 : decode cL_law 513 = .ok (.iaload, 1) := by decide +kernel
theorem dL_law_514 : decode cL_law 514 = .ok (.aload_n 0, 1) := by decide +kernel
theorem dL_law_515 : decode cL_law 515 = .ok (.iload_n 3, 1) := by decide +kernel
theorem dL_law_516 : decode cL_law 516 = .ok (.iconst 2, 1) := by decide +kernel
theorem dL_law_517 : decode cL_law 517 = .ok (.iadd, 1) := by decide +kernel
theorem dL_law_518 : decode cL_law 518 = .ok (.iaload, 1) := by decide +kernel
theorem dL_law_519 : decode cL_law 519 = .ok (.aload_n 0, 1) := by decide +kernel
theorem dL_law_520 : decode cL_law 520 = .ok (.iload_n 3, 1) := by decide +kernel
theorem dL_law_521 : decode cL_law 521 = .ok (.iconst 3, 1) := by decide +kernel
theorem dL_law_522 : decode cL_law 522 = .ok (.iadd, 1) := by decide +kernel
theorem dL_law_523 : decode cL_law 523 = .ok (.iaload, 1) := by decide +kernel
theorem dL_law_524 : decode cL_law 524 = .ok (.aload_n 0, 1) := by decide +kernel
theorem dL_law_525 : decode cL_law 525 = .ok (.iload_n 3, 1) := by decide +kernel
theorem dL_law_526 : decode cL_law 526 = .ok (.iconst 4, 1) := by decide +kernel
theorem dL_law_527 : decode cL_law 527 = .ok (.iadd, 1) := by decide +kernel
theorem dL_law_528 : decode cL_law 528 = .ok (.iaload, 1) := by decide +kernel
theorem dL_law_529 : decode cL_law 529 = .ok (.aload_n 0, 1) := by decide +kernel
theorem dL_law_530 : decode cL_law 530 = .ok (.iload_n 3, 1) := by decide +kernel
theorem dL_law_531 : decode cL_law 531 = .ok (.iconst 5, 1) := by decide +kernel
theorem dL_law_532 : decode cL_law 532 = .ok (.iadd, 1) := by decide +kernel
theorem dL_law_533 : decode cL_law 533 = .ok (.iaload, 1) := by decide +kernel
theorem dL_law_534 : decode cL_law 534 = .ok (.invokevirtual 54, 3) := by decide +kernel
theorem dL_law_537 : decode cL_law 537 = .ok (.lcmp, 1) := by decide +kernel
theorem dL_law_538 : decode cL_law 538 = .ok (.ifCond .eq 302, 3) := by decide +kernel
theorem dL_law_541 : decode cL_law 541 = .ok (.iconst 0, 1) := by decide +kernel
theorem dL_law_542 : decode cL_law 542 = .ok (.ireturn, 1) := by decide +kernel
theorem dL_law_543 : decode cL_law 543 = .ok (.aload_n 1, 1) := by decide +kernel
theorem dL_law_544 : decode cL_law 544 = .ok (.aload_n 0, 1) := by decide +kernel
theorem dL_law_545 : decode cL_law 545 = .ok (.iload_n 3, 1) := by decide +kernel
theorem dL_law_546 : decode cL_law 546 = .ok (.iconst 1, 1) := by decide +kernel
theorem dL_law_547 : decode cL_law 547 = .ok (.iadd, 1) := by decide +kernel
theorem dL_law_548 : decode cL_law 548 = .ok (.iaload, 1) := by decide +kernel
theorem dL_law_549 : decode cL_law 549 = .ok (.invokevirtual 55, 3) := by decide +kernel
theorem dL_law_552 : decode cL_law 552 = .ok (.aload_n 2, 1) := by decide +kernel
theorem dL_law_553 : decode cL_law 553 = .ok (.aload_n 0, 1) := by decide +kernel
theorem dL_law_554 : decode cL_law 554 = .ok (.iload_n 3, 1) := by decide +kernel
theorem dL_law_555 : decode cL_law 555 = .ok (.iconst 1, 1) := by decide +kernel
theorem dL_law_556 : decode cL_law 556 = .ok (.iadd, 1) := by decide +kernel
theorem dL_law_557 : decode cL_law 557 = .ok (.iaload, 1) := by decide +kernel
theorem dL_law_558 : decode cL_law 558 = .ok (.invokevirtual 59, 3) := by decide +kernel
theorem dL_law_561 : decode cL_law 561 = .ok (.lcmp, 1) := by decide +kernel
theorem dL_law_562 : decode cL_law 562 = .ok (.ifCond .eq 278, 3) := by decide +kernel
theorem dL_law_565 : decode cL_law 565 = .ok (.iconst 0, 1) := by decide +kernel
theorem dL_law_566 : decode cL_law 566 = .ok (.ireturn, 1) := by decide +kernel
theorem dL_law_567 : decode cL_law 567 = .ok (.aload_n 1, 1) := by decide +kernel
theorem dL_law_568 : decode cL_law 568 = .ok (.aload_n 0, 1) := by decide +kernel
theorem dL_law_569 : decode cL_law 569 = .ok (.iload_n 3, 1) := by decide +kernel
theorem dL_law_570 : decode cL_law 570 = .ok (.iconst 1, 1) := by decide +kernel
theorem dL_law_571 : decode cL_law 571 = .ok (.iadd, 1) := by decide +kernel
theorem dL_law_572 : decode cL_law 572 = .ok (.iaload, 1) := by decide +kernel
theorem dL_law_573 : decode cL_law 573 = .ok (.invokevirtual 60, 3) := by decide +kernel
theorem dL_law_576 : decode cL_law 576 = .ok (.aload_n 2, 1) := by decide +kernel
theorem dL_law_577 : decode cL_law 577 = .ok (.aload_n 0, 1) := by decide +kernel
theorem dL_law_578 : decode cL_law 578 = .ok (.iload_n 3, 1) := by decide +kernel
theorem dL_law_579 : decode cL_law 579 = .ok (.iconst 1, 1) := by decide +kernel
theorem dL_law_580 : decode cL_law 580 = .ok (.iadd, 1) := by decide +kernel
theorem dL_law_581 : decode cL_law 581 = .ok (.iaload, 1) := by decide +kernel
theorem dL_law_582 : decode cL_law 582 = .ok (.invokevirtual 63, 3) := by decide +kernel
theorem dL_law_585 : decode cL_law 585 = .ok (.if_icmp .eq 255, 3) := by decide +kernel
theorem dL_law_588 : decode cL_law 588 = .ok (.iconst 0, 1) := by decide +kernel
theorem dL_law_589 : decode cL_law 589 = .ok (.ireturn, 1) := by decide +kernel
theorem dL_law_590 : decode cL_law 590 = .ok (.aload_n 1, 1) := by decide +kernel
theorem dL_law_591 : decode cL_law 591 = .ok (.aload_n 0, 1) := by decide +kernel
theorem dL_law_592 : decode cL_law 592 = .ok (.iload_n 3, 1) := by decide +kernel
theorem dL_law_593 : decode cL_law 593 = .ok (.iconst 1, 1) := by decide +kernel
theorem dL_law_594 : decode cL_law 594 = .ok (.iadd, 1) := by decide +kernel
theorem dL_law_595 : decode cL_law 595 = .ok (.iaload, 1) := by decide +kernel
theorem dL_law_596 : decode cL_law 596 = .ok (.aload_n 0, 1) := by decide +kernel
theorem dL_law_597 : decode cL_law 597 = .ok (.iload_n 3, 1) := by decide +kernel
theorem dL_law_598 : decode cL_law 598 = .ok (.iconst 2, 1) := by decide +kernel
theorem dL_law_599 : decode cL_law 599 = .ok (.iadd, 1) := by decide +kernel
theorem dL_law_600 : decode cL_law 600 = .ok (.iaload, 1) := by decide +kernel
theorem dL_law_601 : decode cL_law 601 = .ok (.aload_n 0, 1) := by decide +kernel
theorem dL_law_602 : decode cL_law 602 = .ok (.iload_n 3, 1) := by decide +kernel
theorem dL_law_603 : decode cL_law 603 = .ok (.iconst 3, 1) := by decide +kernel
theorem dL_law_604 : decode cL_law 604 = .ok (.iadd, 1) := by decide +kernel
theorem dL_law_605 : decode cL_law 605 = .ok (.iaload, 1) := by decide +kernel
theorem dL_law_606 : decode cL_law 606 = .ok (.aload_n 0, 1) := by decide +kernel
theorem dL_law_607 : decode cL_law 607 = .ok (.iload_n 3, 1) := by decide +kernel
theorem dL_law_608 : decode cL_law 608 = .ok (.iconst 4, 1) := by decide +kernel
theorem dL_law_609 : decode cL_law 609 = .ok (.iadd, 1) := by decide +kernel
theorem dL_law_610 : decode cL_law 610 = .ok (.iaload, 1) := by decide +kernel
theorem dL_law_611 : decode cL_law 611 = .ok (.invokevirtual 64, 3) := by decide +kernel
theorem dL_law_614 : decode cL_law 614 = .ok (.aload_n 2, 1) := by decide +kernel
theorem dL_law_615 : decode cL_law 615 = .ok (.aload_n 0, 1) := by decide +kernel
theorem dL_law_616 : decode cL_law 616 = .ok (.iload_n 3, 1) := by decide +kernel
theorem dL_law_617 : decode cL_law 617 = .ok (.iconst 1, 1) := by decide +kernel
theorem dL_law_618 : decode cL_law 618 = .ok (.iadd, 1) := by decide +kernel
theorem dL_law_619 : decode cL_law 619 = .ok (.iaload, 1) := by decide +kernel
theorem dL_law_620 : decode cL_law 620 = .ok (.aload_n 0, 1) := by decide +kernel
theorem dL_law_621 : decode cL_law 621 = .ok (.iload_n 3, 1) := by decide +kernel
theorem dL_law_622 : decode cL_law 622 = .ok (.iconst 2, 1) := by decide +kernel
theorem dL_law_623 : decode cL_law 623 = .ok (.iadd, 1) := by decide +kernel
theorem dL_law_624 : decode cL_law 624 = .ok (.iaload, 1) := by decide +kernel
theorem dL_law_625 : decode cL_law 625 = .ok (.aload_n 0, 1) := by decide +kernel
theorem dL_law_626 : decode cL_law 626 = .ok (.iload_n 3, 1) := by decide +kernel
theorem dL_law_627 : decode cL_law 627 = .ok (.iconst 3, 1) := by decide +kernel
theorem dL_law_628 : decode cL_law 628 = .ok (.iadd, 1) := by decide +kernel
theorem dL_law_629 : decode cL_law 629 = .ok (.iaload, 1) := by decide +kernel
theorem dL_law_630 : decode cL_law 630 = .ok (.aload_n 0, 1) := by decide +kernel
theorem dL_law_631 : decode cL_law 631 = .ok (.iload_n 3, 1) := by decide +kernel
theorem dL_law_632 : decode cL_law 632 = .ok (.iconst 4, 1) := by decide +kernel
theorem dL_law_633 : decode cL_law 633 = .ok (.iadd, 1) := by decide +kernel
theorem dL_law_634 : decode cL_law 634 = .ok (.iaload, 1) := by decide +kernel
theorem dL_law_635 : decode cL_law 635 = .ok (.invokevirtual 67, 3) := by decide +kernel
theorem dL_law_638 : decode cL_law 638 = .ok (.if_icmp .eq 202, 3) := by decide +kernel
theorem dL_law_641 : decode cL_law 641 = .ok (.iconst 0, 1) := by decide +kernel
theorem dL_law_642 : decode cL_law 642 = .ok (.ireturn, 1) := by decide +kernel
theorem dL_law_643 : decode cL_law 643 = .ok (.aload_n 1, 1) := by decide +kernel
theorem dL_law_644 : decode cL_law 644 = .ok (.aload_n 0, 1) := by decide +kernel
theorem dL_law_645 : decode cL_law 645 = .ok (.iload_n 3, 1) := by decide +kernel
theorem dL_law_646 : decode cL_law 646 = .ok (.iconst 1, 1) := by decide +kernel
theorem dL_law_647 : decode cL_law 647 = .ok (.iadd, 1) := by decide +kernel
theorem dL_law_648 : decode cL_law 648 = .ok (.iaload, 1) := by decide +kernel
theorem dL_law_649 : decode cL_law 649 = .ok (.aload_n 0, 1) := by decide +kernel
theorem dL_law_650 : decode cL_law 650 = .ok (.iload_n 3, 1) := by decide +kernel
theorem dL_law_651 : decode cL_law 651 = .ok (.iconst 2, 1) := by decide +kernel
theorem dL_law_652 : decode cL_law 652 = .ok (.iadd, 1) := by decide +kernel
theorem dL_law_653 : decode cL_law 653 = .ok (.iaload, 1) := by decide +kernel
theorem dL_law_654 : decode cL_law 654 = .ok (.invokevirtual 68, 3) := by decide +kernel
theorem dL_law_657 : decode cL_law 657 = .ok (.aload_n 2, 1) := by decide +kernel
theorem dL_law_658 : decode cL_law 658 = .ok (.aload_n 0, 1) := by decide +kernel
theorem dL_law_659 : decode cL_law 659 = .ok (.iload_n 3, 1) := by decide +kernel
theorem dL_law_660 : decode cL_law 660 = .ok (.iconst 1, 1) := by decide +kernel
theorem dL_law_661 : decode cL_law 661 = .ok (.iadd, 1) := by decide +kernel
theorem dL_law_662 : decode cL_law 662 = .ok (.iaload, 1) := by decide +kernel
theorem dL_law_663 : decode cL_law 663 = .ok (.aload_n 0, 1) := by decide +kernel
theorem dL_law_664 : decode cL_law 664 = .ok (.iload_n 3, 1) := by decide +kernel
theorem dL_law_665 : decode cL_law 665 = .ok (.iconst 2, 1) := by decide +kernel
theorem dL_law_666 : decode cL_law 666 = .ok (.iadd, 1) := by decide +kernel
theorem dL_law_667 : decode cL_law 667 = .ok (.iaload, 1) := by decide +kernel
theorem dL_law_668 : decode cL_law 668 = .ok (.invokevirtual 72, 3) := by decide +kernel
theorem dL_law_671 : decode cL_law 671 = .ok (.lcmp, 1) := by decide +kernel
theorem dL_law_672 : decode cL_law 672 = .ok (.ifCond .eq 168, 3) := by decide +kernel
theorem dL_law_675 : decode cL_law 675 = .ok (.iconst 0, 1) := by decide +kernel
theorem dL_law_676 : decode cL_law 676 = .ok (.ireturn, 1) := by decide +kernel
theorem dL_law_677 : decode cL_law 677 = .ok (.aload_n 1, 1) := by decide +kernel
theorem dL_law_678 : decode cL_law 678 = .ok (.aload_n 0, 1) := by decide +kernel
theorem dL_law_679 : decode cL_law 679 = .ok (.iload_n 3, 1) := by decide +kernel
theorem dL_law_680 : decode cL_law 680 = .ok (.iconst 1, 1) := by decide +kernel
theorem dL_law_681 : decode cL_law 681 = .ok (.iadd, 1) := by decide +kernel
theorem dL_law_682 : decode cL_law 682 = .ok (.iaload, 1) := by decide +kernel
theorem dL_law_683 : decode cL_law 683 = .ok (.aload_n 0, 1) := by decide +kernel
theorem dL_law_684 : decode cL_law 684 = .ok (.iload_n 3, 1) := by decide +kernel
theorem dL_law_685 : decode cL_law 685 = .ok (.iconst 2, 1) := by decide +kernel
theorem dL_law_686 : decode cL_law 686 = .ok (.iadd, 1) := by decide +kernel
theorem dL_law_687 : decode cL_law 687 = .ok (.iaload, 1) := by decide +kernel
theorem dL_law_688 : decode cL_law 688 = .ok (.invokevirtual 73, 3) := by decide +kernel
theorem dL_law_691 : decode cL_law 691 = .ok (.aload_n 2, 1) := by decide +kernel
theorem dL_law_692 : decode cL_law 692 = .ok (.aload_n 0, 1) := by decide +kernel
theorem dL_law_693 : decode cL_law 693 = .ok (.iload_n 3, 1) := by decide +kernel
theorem dL_law_694 : decode cL_law 694 = .ok (.iconst 1, 1) := by decide +kernel
theorem dL_law_695 : decode cL_law 695 = .ok (.iadd, 1) := by decide +kernel
theorem dL_law_696 : decode cL_law 696 = .ok (.iaload, 1) := by decide +kernel
theorem dL_law_697 : decode cL_law 697 = .ok (.aload_n 0, 1) := by decide +kernel
theorem dL_law_698 : decode cL_law 698 = .ok (.iload_n 3, 1) := by decide +kernel
theorem dL_law_699 : decode cL_law 699 = .ok (.iconst 2, 1) := by decide +kernel
theorem dL_law_700 : decode cL_law 700 = .ok (.iadd, 1) := by decide +kernel
theorem dL_law_701 : decode cL_law 701 = .ok (.iaload, 1) := by decide +kernel
theorem dL_law_702 : decode cL_law 702 = .ok (.invokevirtual 76, 3) := by decide +kernel
theorem dL_law_705 : decode cL_law 705 = .ok (.lcmp, 1) := by decide +kernel
theorem dL_law_706 : decode cL_law 706 = .ok (.ifCond .eq 134, 3) := by decide +kernel
theorem dL_law_709 : decode cL_law 709 = .ok (.iconst 0, 1) := by decide +kernel
theorem dL_law_710 : decode cL_law 710 = .ok (.ireturn, 1) := by decide +kernel
theorem dL_law_711 : decode cL_law 711 = .ok (.aload_n 1, 1) := by decide +kernel
theorem dL_law_712 : decode cL_law 712 = .ok (.aload_n 0, 1) := by decide +kernel
theorem dL_law_713 : decode cL_law 713 = .ok (.iload_n 3, 1) := by decide +kernel
theorem dL_law_714 : decode cL_law 714 = .ok (.iconst 1, 1) := by decide +kernel
theorem dL_law_715 : decode cL_law 715 = .ok (.iadd, 1) := by decide +kernel
theorem dL_law_716 : decode cL_law 716 = .ok (.iaload, 1) := by decide +kernel
theorem dL_law_717 : decode cL_law 717 = .ok (.aload_n 0, 1) := by decide +kernel
theorem dL_law_718 : decode cL_law 718 = .ok (.iload_n 3, 1) := by decide +kernel
theorem dL_law_719 : decode cL_law 719 = .ok (.iconst 2, 1) := by decide +kernel
theorem dL_law_720 : decode cL_law 720 = .ok (.iadd, 1) := by decide +kernel
theorem dL_law_721 : decode cL_law 721 = .ok (.iaload, 1) := by decide +kernel
theorem dL_law_722 : decode cL_law 722 = .ok (.aload_n 0, 1) := by decide +kernel
theorem dL_law_723 : decode cL_law 723 = .ok (.iload_n 3, 1) := by decide +kernel
theorem dL_law_724 : decode cL_law 724 = .ok (.iconst 3, 1) := by decide +kernel
theorem dL_law_725 : decode cL_law 725 = .ok (.iadd, 1) := by decide +kernel
theorem dL_law_726 : decode cL_law 726 = .ok (.iaload, 1) := by decide +kernel
theorem dL_law_727 : decode cL_law 727 = .ok (.invokevirtual 77, 3) := by decide +kernel
theorem dL_law_730 : decode cL_law 730 = .ok (.aload_n 2, 1) := by decide +kernel
theorem dL_law_731 : decode cL_law 731 = .ok (.aload_n 0, 1) := by decide +kernel
theorem dL_law_732 : decode cL_law 732 = .ok (.iload_n 3, 1) := by decide +kernel
theorem dL_law_733 : decode cL_law 733 = .ok (.iconst 1, 1) := by decide +kernel
theorem dL_law_734 : decode cL_law 734 = .ok (.iadd, 1) := by decide +kernel
theorem dL_law_735 : decode cL_law 735 = .ok (.iaload, 1) := by decide +kernel
theorem dL_law_736 : decode cL_law 736 = .ok (.aload_n 0, 1) := by decide +kernel
theorem dL_law_737 : decode cL_law 737 = .ok (.iload_n 3, 1) := by decide +kernel
theorem dL_law_738 : decode cL_law 738 = .ok (.iconst 2, 1) := by decide +kernel
theorem dL_law_739 : decode cL_law 739 = .ok (.iadd, 1) := by decide +kernel
theorem dL_law_740 : decode cL_law 740 = .ok (.iaload, 1) := by decide +kernel
theorem dL_law_741 : decode cL_law 741 = .ok (.aload_n 0, 1) := by decide +kernel
theorem dL_law_742 : decode cL_law 742 = .ok (.iload_n 3, 1) := by decide +kernel
theorem dL_law_743 : decode cL_law 743 = .ok (.iconst 3, 1) := by decide +kernel
theorem dL_law_744 : decode cL_law 744 = .ok (.iadd, 1) := by decide +kernel
theorem dL_law_745 : decode cL_law 745 = .ok (.iaload, 1) := by decide +kernel
theorem dL_law_746 : decode cL_law 746 = .ok (.invokevirtual 80, 3) := by decide +kernel
theorem dL_law_749 : decode cL_law 749 = .ok (.if_icmp .eq 91, 3) := by decide +kernel
theorem dL_law_752 : decode cL_law 752 = .ok (.iconst 0, 1) := by decide +kernel
theorem dL_law_753 : decode cL_law 753 = .ok (.ireturn, 1) := by decide +kernel
theorem dL_law_754 : decode cL_law 754 = .ok (.aload_n 1, 1) := by decide +kernel
theorem dL_law_755 : decode cL_law 755 = .ok (.aload_n 0, 1) := by decide +kernel
theorem dL_law_756 : decode cL_law 756 = .ok (.iload_n 3, 1) := by decide +kernel
theorem dL_law_757 : decode cL_law 757 = .ok (.iconst 1, 1) := by decide +kernel
theorem dL_law_758 : decode cL_law 758 = .ok (.iadd, 1) := by decide +kernel
theorem dL_law_759 : decode cL_law 759 = .ok (.iaload, 1) := by decide +kernel
theorem dL_law_760 : decode cL_law 760 = .ok (.invokevirtual 81, 3) := by decide +kernel
theorem dL_law_763 : decode cL_law 763 = .ok (.aload_n 2, 1) := by decide +kernel
theorem dL_law_764 : decode cL_law 764 = .ok (.aload_n 0, 1) := by decide +kernel
theorem dL_law_765 : decode cL_law 765 = .ok (.iload_n 3, 1) := by decide +kernel
theorem dL_law_766 : decode cL_law 766 = .ok (.iconst 1, 1) := by decide +kernel
theorem dL_law_767 : decode cL_law 767 = .ok (.iadd, 1) := by decide +kernel
theorem dL_law_768 : decode cL_law 768 = .ok (.iaload, 1) := by decide +kernel
theorem dL_law_769 : decode cL_law 769 = .ok (.invokevirtual 84, 3) := by decide +kernel
theorem dL_law_772 : decode cL_law 772 = .ok (.if_icmp .eq 68, 3) := by decide +kernel
theorem dL_law_775 : decode cL_law 775 = .ok (.iconst 0, 1) := by decide +kernel
theorem dL_law_776 : decode cL_law 776 = .ok (.ireturn, 1) := by decide +kernel
theorem dL_law_777 : decode cL_law 777 = .ok (.aload_n 1, 1) := by decide +kernel
theorem dL_law_778 : decode cL_law 778 = .ok (.invokevirtual 85, 3) := by decide +kernel
theorem dL_law_781 : decode cL_law 781 = .ok (.aload_n 2, 1) := by decide +kernel
theorem dL_law_782 : decode cL_law 782 = .ok (.invokevirtual 89, 3) := by decide +kernel
theorem dL_law_785 : decode cL_law 785 = .ok (.if_icmp .eq 55, 3) := by decide +kernel
theorem dL_law_788 : decode cL_law 788 = .ok (.iconst 0, 1) := by decide +kernel
theorem dL_law_789 : decode cL_law 789 = .ok (.ireturn, 1) := by decide +kernel
theorem dL_law_790 : decode cL_law 790 = .ok (.aload_n 1, 1) := by decide +kernel
theorem dL_law_791 : decode cL_law 791 = .ok (.invokevirtual 90, 3) := by decide +kernel
theorem dL_law_794 : decode cL_law 794 = .ok (.aload_n 2, 1) := by decide +kernel
theorem dL_law_795 : decode cL_law 795 = .ok (.invokevirtual 93, 3) := by decide +kernel
theorem dL_law_798 : decode cL_law 798 = .ok (.if_icmp .eq 42, 3) := by decide +kernel
theorem dL_law_801 : decode cL_law 801 = .ok (.iconst 0, 1) := by decide +kernel
theorem dL_law_802 : decode cL_law 802 = .ok (.ireturn, 1) := by decide +kernel
theorem dL_law_803 : decode cL_law 803 = .ok (.aload_n 1, 1) := by decide +kernel
theorem dL_law_804 : decode cL_law 804 = .ok (.aload_n 0, 1) := by decide +kernel
theorem dL_law_805 : decode cL_law 805 = .ok (.iload_n 3, 1) := by decide +kernel
theorem dL_law_806 : decode cL_law 806 = .ok (.iconst 1, 1) := by decide +kernel
theorem dL_law_807 : decode cL_law 807 = .ok (.iadd, 1) := by decide +kernel
theorem dL_law_808 : decode cL_law 808 = .ok (.iaload, 1) := by decide +kernel
theorem dL_law_809 : decode cL_law 809 = .ok (.invokevirtual 94, 3) := by decide +kernel
theorem dL_law_812 : decode cL_law 812 = .ok (.aload_n 2, 1) := by decide +kernel
theorem dL_law_813 : decode cL_law 813 = .ok (.aload_n 0, 1) := by decide +kernel
theorem dL_law_814 : decode cL_law 814 = .ok (.iload_n 3, 1) := by decide +kernel
theorem dL_law_815 : decode cL_law 815 = .ok (.iconst 1, 1) := by decide +kernel
theorem dL_law_816 : decode cL_law 816 = .ok (.iadd, 1) := by decide +kernel
theorem dL_law_817 : decode cL_law 817 = .ok (.iaload, 1) := by decide +kernel
theorem dL_law_818 : decode cL_law 818 = .ok (.invokevirtual 97, 3) := by decide +kernel
theorem dL_law_821 : decode cL_law 821 = .ok (.if_icmp .eq 19, 3) := by decide +kernel
theorem dL_law_824 : decode cL_law 824 = .ok (.iconst 0, 1) := by decide +kernel
theorem dL_law_825 : decode cL_law 825 = .ok (.ireturn, 1) := by decide +kernel
theorem dL_law_826 : decode cL_law 826 = .ok (.aload_n 1, 1) := by decide +kernel
theorem dL_law_827 : decode cL_law 827 = .ok (.invokevirtual 98, 3) := by decide +kernel
theorem dL_law_830 : decode cL_law 830 = .ok (.aload_n 2, 1) := by decide +kernel
theorem dL_law_831 : decode cL_law 831 = .ok (.invokevirtual 102, 3) := by decide +kernel
theorem dL_law_834 : decode cL_law 834 = .ok (.lcmp, 1) := by decide +kernel
theorem dL_law_835 : decode cL_law 835 = .ok (.ifCond .eq 5, 3) := by decide +kernel
theorem dL_law_838 : decode cL_law 838 = .ok (.iconst 0, 1) := by decide +kernel
theorem dL_law_839 : decode cL_law 839 = .ok (.ireturn, 1) := by decide +kernel
theorem dL_law_840 : decode cL_law 840 = .ok (.iinc 3 6, 3) := by decide +kernel
theorem dL_law_843 : decode cL_law 843 = .ok (.goto (-825), 3) := by decide +kernel
theorem dL_law_846 : decode cL_law 846 = .ok (.iconst 1, 1) := by decide +kernel
theorem dL_law_847 : decode cL_law 847 = .ok (.ireturn, 1) := by decide +kernel
abbrev vwCl : List vw_C := [(RX0, TX0, 5), (RX1, TX1, 8), (RX2, TX2, 14)]
end
section
theorem mem_p {big : List Cond} (ws : List Cond) (ps : List Nat) (hp : ws = ps.filterMap (fun i => big[i]?)) : ∀ w ∈ ws, w ∈ big := by
  intro w hw
  rw [hp] at hw
  obtain ⟨i, -, hi⟩ := List.mem_filterMap.mp hw
  exact List.mem_of_getElem? hi
set_option maxRecDepth 20000 in
theorem lwi_wsL_law_r1 : ∀ w ∈ wsL_law_r1, w ∈ lw_tbl := mem_p _ [36, 37, 31, 335, 336, 34, 38, 39, 40, 41, 42, 43, 44, 45, 32, 95, 96, 97, 94, 98, 99, 100, 101, 102] (by decide +kernel)
set_option maxRecDepth 20000 in
theorem lwi_wsL_law_r2 : ∀ w ∈ wsL_law_r2, w ∈ lw_tbl := mem_p _ [46, 47, 48, 49, 77, 78, 79, 80, 81, 50, 51, 52, 53, 54, 56, 0, 57, 58, 60, 1, 61, 62, 63, 64] (by decide +kernel)
set_option maxRecDepth 20000 in
theorem lwi_wsL_law_r3 : ∀ w ∈ wsL_law_r3, w ∈ lw_tbl := mem_p _ [65, 66, 67, 68, 69, 70, 71, 72, 73, 74, 75, 33, 76, 337, 338, 339, 340, 347, 348, 349, 350, 353, 356, 357] (by decide +kernel)
set_option maxRecDepth 20000 in
theorem lwi_wsL_law_r4 : ∀ w ∈ wsL_law_r4, w ∈ lw_tbl := mem_p _ [358, 341, 343, 15, 344, 120, 121, 122, 123, 124, 388, 389, 390, 391, 345, 392, 393, 394, 125, 126, 127, 128, 129, 131] (by decide +kernel)
set_option maxRecDepth 20000 in
theorem lwi_wsL_law_r5 : ∀ w ∈ wsL_law_r5, w ∈ lw_tbl := mem_p _ [2, 132, 133, 134, 135, 136, 137, 138, 139, 141, 3, 142, 395, 396, 397, 398, 399, 401, 16, 402, 143, 144, 145, 146] (by decide +kernel)
set_option maxRecDepth 20000 in
theorem lwi_wsL_law_r6 : ∀ w ∈ wsL_law_r6, w ∈ lw_tbl := mem_p _ [147, 148, 149, 150, 151, 403, 404, 405, 406, 152, 153, 154, 155, 156, 157, 158, 159, 160, 161, 162, 163, 164, 165, 407] (by decide +kernel)
set_option maxRecDepth 20000 in
theorem lwi_wsL_law_r7 : ∀ w ∈ wsL_law_r7, w ∈ lw_tbl := mem_p _ [408, 409, 410, 411, 413, 17, 414, 415, 417, 18, 418, 419, 421, 19, 422, 166, 167, 168, 169, 170, 171, 172, 173, 174] (by decide +kernel)
set_option maxRecDepth 20000 in
theorem lwi_wsL_law_r8 : ∀ w ∈ wsL_law_r8, w ∈ lw_tbl := mem_p _ [175, 176, 177, 423, 424, 425, 426, 427, 429, 20, 430, 178, 179, 180, 181, 185, 182, 183, 184, 186, 187, 188, 189, 190] (by decide +kernel)
set_option maxRecDepth 20000 in
theorem lwi_wsL_law_r9 : ∀ w ∈ wsL_law_r9, w ∈ lw_tbl := mem_p _ [191, 192, 193, 194, 195, 196, 197, 198, 199, 200, 201, 202, 431, 432, 433, 434, 435, 354, 355, 436, 438, 21, 439, 440] (by decide +kernel)
set_option maxRecDepth 20000 in
theorem lwi_wsL_law_r10 : ∀ w ∈ wsL_law_r10, w ∈ lw_tbl := mem_p _ [442, 22, 443, 444, 445, 446, 203, 204, 205, 206, 207, 209, 4, 210, 211, 212, 213, 214, 216, 5, 217, 447, 448, 449] (by decide +kernel)
set_option maxRecDepth 20000 in
theorem lwi_wsL_law_r11 : ∀ w ∈ wsL_law_r11, w ∈ lw_tbl := mem_p _ [450, 451, 453, 23, 454, 455, 457, 24, 458, 218, 219, 220, 221, 222, 224, 6, 225, 226, 228, 7, 229, 459, 460, 461] (by decide +kernel)
set_option maxRecDepth 20000 in
theorem lwi_wsL_law_r12 : ∀ w ∈ wsL_law_r12, w ∈ lw_tbl := mem_p _ [462, 463, 465, 25, 466, 230, 231, 232, 233, 467, 468, 469, 470, 234, 235, 236, 237, 238, 240, 8, 241, 242, 244, 9] (by decide +kernel)
set_option maxRecDepth 20000 in
theorem lwi_wsL_law_r13 : ∀ w ∈ wsL_law_r13, w ∈ lw_tbl := mem_p _ [245, 246, 248, 10, 249, 250, 251, 252, 253, 254, 256, 11, 257, 471, 472, 473, 474, 475, 477, 26, 478, 479, 481, 27] (by decide +kernel)
set_option maxRecDepth 20000 in
theorem lwi_wsL_law_r14 : ∀ w ∈ wsL_law_r14, w ∈ lw_tbl := mem_p _ [482, 258, 259, 260, 261, 483, 484, 485, 486, 351, 262, 263, 264, 265, 266, 267, 268, 269, 271, 12, 272, 273, 274, 275] (by decide +kernel)
set_option maxRecDepth 20000 in
theorem lwi_wsL_law_r15 : ∀ w ∈ wsL_law_r15, w ∈ lw_tbl := mem_p _ [487, 488, 489, 490, 346, 495, 496, 491, 493, 28, 494, 276, 277, 278, 279, 497, 498, 499, 500, 280, 281, 282, 283, 294] (by decide +kernel)
set_option maxRecDepth 20000 in
theorem lwi_wsL_law_r16 : ∀ w ∈ wsL_law_r16, w ∈ lw_tbl := mem_p _ [284, 286, 13, 287, 288, 289, 290, 291, 292, 293, 501, 502, 503, 504, 295, 296, 297, 298, 299, 300, 301, 302, 303, 304] (by decide +kernel)
set_option maxRecDepth 20000 in
theorem lwi_wsL_law_r17 : ∀ w ∈ wsL_law_r17, w ∈ lw_tbl := mem_p _ [305, 306, 307, 308, 309, 35, 310, 505, 506, 507, 508, 509, 510, 512, 29, 513, 311, 312, 313, 314, 514, 515, 516, 517] (by decide +kernel)
set_option maxRecDepth 20000 in
theorem lwi_wsL_law_r18 : ∀ w ∈ wsL_law_r18, w ∈ lw_tbl := mem_p _ [352, 315, 316, 317, 318, 518, 519, 520, 521, 319, 320, 321, 322, 323, 325, 14, 326, 522, 523, 524, 525, 327, 328, 329] (by decide +kernel)
set_option maxRecDepth 20000 in
theorem lwi_wsL_law_r19 : ∀ w ∈ wsL_law_r19, w ∈ lw_tbl := mem_p _ [330, 526, 527, 528, 529, 331, 332, 333, 334, 530, 531, 532, 533] (by decide +kernel)
set_option maxRecDepth 20000 in
theorem inX0 : ∀ w ∈ wsX00, w ∈ lw_tbl := mem_p _ [83, 85, 87, 89, 91] (by decide +kernel)
set_option maxRecDepth 20000 in
theorem inX1 : ∀ w ∈ wsX10, w ∈ lw_tbl := mem_p _ [103, 105, 107, 109, 111, 113, 115, 117] (by decide +kernel)
set_option maxRecDepth 20000 in
theorem inX2 : ∀ w ∈ wsX20, w ∈ lw_tbl := mem_p _ [359, 361, 363, 365, 367, 369, 371, 373, 375, 377, 379, 381, 383, 385] (by decide +kernel)
theorem mem_ap {big a b : List Cond} (ha : ∀ w ∈ a, w ∈ big) (hb : ∀ w ∈ b, w ∈ big) : ∀ w ∈ a ++ b, w ∈ big := fun w h => (List.mem_append.mp h).elim (ha w) (hb w)
theorem wsL_law_in : ∀ w ∈ wsL_law, w ∈ lw_tbl := mem_ap (mem_ap (mem_ap (mem_ap (mem_ap lwi_wsL_law_r1 (mem_ap lwi_wsL_law_r2 (mem_ap lwi_wsL_law_r3 (mem_ap lwi_wsL_law_r4 (mem_ap lwi_wsL_law_r5 (mem_ap lwi_wsL_law_r6 (mem_ap lwi_wsL_law_r7 (mem_ap lwi_wsL_law_r8 (mem_ap lwi_wsL_law_r9 (mem_ap lwi_wsL_law_r10 (mem_ap lwi_wsL_law_r11 (mem_ap lwi_wsL_law_r12 (mem_ap lwi_wsL_law_r13 (mem_ap lwi_wsL_law_r14 (mem_ap lwi_wsL_law_r15 (mem_ap lwi_wsL_law_r16 (mem_ap lwi_wsL_law_r17 (mem_ap lwi_wsL_law_r18 lwi_wsL_law_r19)))))))))))))))))) inX1) inX2) inX0) (fun _ h => absurd h List.not_mem_nil)
end
section
theorem o_pos {α : Type} {c : Prop} {dc : Decidable c} {a b x : α} (h : (@ite α c dc a b) = x) (hc : c) : a = x := by rw [if_pos hc] at h; exact h
theorem o_neg {α : Type} {c : Prop} {dc : Decidable c} {a b x : α} (h : (@ite α c dc a b) = x) (hc : ¬ c) : b = x := by rw [if_neg hc] at h; exact h
theorem o_ite {α : Type} {c : Prop} {dc : Decidable c} {a b x : α} (h : (@ite α c dc a b) = x) : (c ∧ a = x) ∨ (¬ c ∧ b = x) := by
  by_cases hc : c
  · exact Or.inl ⟨hc, o_pos h hc⟩
  · exact Or.inr ⟨hc, o_neg h hc⟩
theorem o_grd {α : Type} {c : Prop} {dc : Decidable c} {b : Option α} {v : α} (h : (@ite (Option α) c dc none b) = some v) : ¬ c ∧ b = some v := by
  by_cases hc : c
  · rw [if_pos hc] at h; cases h
  · exact ⟨hc, o_neg h hc⟩
theorem o_grp {α : Type} {c : Prop} {dc : Decidable c} {b : Option α} {v : α} (h : (@ite (Option α) c dc b none) = some v) : c ∧ b = some v := by
  by_cases hc : c
  · exact ⟨hc, o_pos h hc⟩
  · rw [if_neg hc] at h; cases h
theorem o_bind {α β : Type} {x : Option α} {f : α → Option β} {v : β} (h : x.bind f = some v) : ∃ r, x = some r ∧ f r = some v := by
  cases x with
  | none => cases h
  | some r => exact ⟨r, rfl, h⟩
theorem sw3 {x : Int32} (h0 : ¬ x = 0) (h1 : ¬ x = 1) (h2 : ¬ x = 2) : x.toInt < 0 ∨ 2 < x.toInt := by
  have e0 : ¬ x.toInt = 0 := lv_neT h0 (by decide)
  have e1 : ¬ x.toInt = 1 := lv_neT h1 (by decide)
  have e2 : ¬ x.toInt = 2 := lv_neT h2 (by decide)
  omega
theorem sw4 {x : Int32} (h0 : ¬ x = 0) (h1 : ¬ x = 1) (h2 : ¬ x = 2) (h3 : ¬ x = 3) : x.toInt < 0 ∨ 3 < x.toInt := by
  have e0 : ¬ x.toInt = 0 := lv_neT h0 (by decide)
  have e1 : ¬ x.toInt = 1 := lv_neT h1 (by decide)
  have e2 : ¬ x.toInt = 2 := lv_neT h2 (by decide)
  have e3 : ¬ x.toInt = 3 := lv_neT h3 (by decide)
  omega
abbrev StB : Type := (Nat → Int32) × (Nat → Int32) × (Nat → Int32) × (Nat → Int32) × Int32
def b_worths (u : StB) : Nat → Int32 := u.1
def b_weights (u : StB) : Nat → Int32 := u.2.1
def b_uppers (u : StB) : Nat → Int32 := u.2.2.1
def b_lowers (u : StB) : Nat → Int32 := u.2.2.2.1
def b_size (u : StB) : Int32 := u.2.2.2.2
def b_set_worths (u : StB) (x : Nat → Int32) : StB := (x, u.2.1, u.2.2.1, u.2.2.2.1, u.2.2.2.2)
def b_set_weights (u : StB) (x : Nat → Int32) : StB := (u.1, x, u.2.2.1, u.2.2.2.1, u.2.2.2.2)
def b_set_uppers (u : StB) (x : Nat → Int32) : StB := (u.1, u.2.1, x, u.2.2.2.1, u.2.2.2.2)
def b_set_lowers (u : StB) (x : Nat → Int32) : StB := (u.1, u.2.1, u.2.2.1, x, u.2.2.2.2)
def b_set_size (u : StB) (x : Int32) : StB := (u.1, u.2.1, u.2.2.1, u.2.2.2.1, x)
abbrev StS : Type := StB × StB × StB × (Nat → Int32) × Int32 × Int32 × Int32 × Int64
def s_book0 (u : StS) : StB := u.1
def s_book1 (u : StS) : StB := u.2.1
def s_book2 (u : StS) : StB := u.2.2.1
def s_samples (u : StS) : Nat → Int32 := u.2.2.2.1
def s_buyerCount (u : StS) : Int32 := u.2.2.2.2.1
def s_sampleCount (u : StS) : Int32 := u.2.2.2.2.2.1
def s_reservePrice (u : StS) : Int32 := u.2.2.2.2.2.2.1
def s_traced (u : StS) : Int64 := u.2.2.2.2.2.2.2
def s_set_book0 (u : StS) (x : StB) : StS := (x, u.2.1, u.2.2.1, u.2.2.2.1, u.2.2.2.2.1, u.2.2.2.2.2.1, u.2.2.2.2.2.2.1, u.2.2.2.2.2.2.2)
def s_set_book1 (u : StS) (x : StB) : StS := (u.1, x, u.2.2.1, u.2.2.2.1, u.2.2.2.2.1, u.2.2.2.2.2.1, u.2.2.2.2.2.2.1, u.2.2.2.2.2.2.2)
def s_set_book2 (u : StS) (x : StB) : StS := (u.1, u.2.1, x, u.2.2.2.1, u.2.2.2.2.1, u.2.2.2.2.2.1, u.2.2.2.2.2.2.1, u.2.2.2.2.2.2.2)
def s_set_samples (u : StS) (x : Nat → Int32) : StS := (u.1, u.2.1, u.2.2.1, x, u.2.2.2.2.1, u.2.2.2.2.2.1, u.2.2.2.2.2.2.1, u.2.2.2.2.2.2.2)
def s_set_buyerCount (u : StS) (x : Int32) : StS := (u.1, u.2.1, u.2.2.1, u.2.2.2.1, x, u.2.2.2.2.2.1, u.2.2.2.2.2.2.1, u.2.2.2.2.2.2.2)
def s_set_sampleCount (u : StS) (x : Int32) : StS := (u.1, u.2.1, u.2.2.1, u.2.2.2.1, u.2.2.2.2.1, x, u.2.2.2.2.2.2.1, u.2.2.2.2.2.2.2)
def s_set_reservePrice (u : StS) (x : Int32) : StS := (u.1, u.2.1, u.2.2.1, u.2.2.2.1, u.2.2.2.2.1, u.2.2.2.2.2.1, x, u.2.2.2.2.2.2.2)
def s_set_traced (u : StS) (x : Int64) : StS := (u.1, u.2.1, u.2.2.1, u.2.2.2.1, u.2.2.2.2.1, u.2.2.2.2.2.1, u.2.2.2.2.2.2.1, x)
abbrev StM : Type := Int32 × Int64 × Int32 × (Nat → Int32) × (Nat → Int32) × (Nat → Int32) × Int32 × Int32 × (Nat → Int32) × Int64 × Int64 × (Nat → Int32) × (Nat → Int32) × (Nat → Int32)
def m_thrown (u : StM) : Int32 := u.1
def m_trace (u : StM) : Int64 := u.2.1
def m_n (u : StM) : Int32 := u.2.2.1
def m_many (u : StM) : Nat → Int32 := u.2.2.2.1
def m_worth (u : StM) : Nat → Int32 := u.2.2.2.2.1
def m_weight (u : StM) : Nat → Int32 := u.2.2.2.2.2.1
def m_reserve (u : StM) : Int32 := u.2.2.2.2.2.2.1
def m_samples (u : StM) : Int32 := u.2.2.2.2.2.2.2.1
def m_sample (u : StM) : Nat → Int32 := u.2.2.2.2.2.2.2.2.1
def m_upper (u : StM) : Int64 := u.2.2.2.2.2.2.2.2.2.1
def m_lower (u : StM) : Int64 := u.2.2.2.2.2.2.2.2.2.2.1
def m_place (u : StM) : Nat → Int32 := u.2.2.2.2.2.2.2.2.2.2.2.1
def m_told (u : StM) : Nat → Int32 := u.2.2.2.2.2.2.2.2.2.2.2.2.1
def m_price (u : StM) : Nat → Int32 := u.2.2.2.2.2.2.2.2.2.2.2.2.2
def m_set_thrown (u : StM) (x : Int32) : StM := (x, u.2.1, u.2.2.1, u.2.2.2.1, u.2.2.2.2.1, u.2.2.2.2.2.1, u.2.2.2.2.2.2.1, u.2.2.2.2.2.2.2.1, u.2.2.2.2.2.2.2.2.1, u.2.2.2.2.2.2.2.2.2.1, u.2.2.2.2.2.2.2.2.2.2.1, u.2.2.2.2.2.2.2.2.2.2.2.1, u.2.2.2.2.2.2.2.2.2.2.2.2.1, u.2.2.2.2.2.2.2.2.2.2.2.2.2)
def m_set_trace (u : StM) (x : Int64) : StM := (u.1, x, u.2.2.1, u.2.2.2.1, u.2.2.2.2.1, u.2.2.2.2.2.1, u.2.2.2.2.2.2.1, u.2.2.2.2.2.2.2.1, u.2.2.2.2.2.2.2.2.1, u.2.2.2.2.2.2.2.2.2.1, u.2.2.2.2.2.2.2.2.2.2.1, u.2.2.2.2.2.2.2.2.2.2.2.1, u.2.2.2.2.2.2.2.2.2.2.2.2.1, u.2.2.2.2.2.2.2.2.2.2.2.2.2)
def m_set_n (u : StM) (x : Int32) : StM := (u.1, u.2.1, x, u.2.2.2.1, u.2.2.2.2.1, u.2.2.2.2.2.1, u.2.2.2.2.2.2.1, u.2.2.2.2.2.2.2.1, u.2.2.2.2.2.2.2.2.1, u.2.2.2.2.2.2.2.2.2.1, u.2.2.2.2.2.2.2.2.2.2.1, u.2.2.2.2.2.2.2.2.2.2.2.1, u.2.2.2.2.2.2.2.2.2.2.2.2.1, u.2.2.2.2.2.2.2.2.2.2.2.2.2)
def m_set_many (u : StM) (x : Nat → Int32) : StM := (u.1, u.2.1, u.2.2.1, x, u.2.2.2.2.1, u.2.2.2.2.2.1, u.2.2.2.2.2.2.1, u.2.2.2.2.2.2.2.1, u.2.2.2.2.2.2.2.2.1, u.2.2.2.2.2.2.2.2.2.1, u.2.2.2.2.2.2.2.2.2.2.1, u.2.2.2.2.2.2.2.2.2.2.2.1, u.2.2.2.2.2.2.2.2.2.2.2.2.1, u.2.2.2.2.2.2.2.2.2.2.2.2.2)
def m_set_worth (u : StM) (x : Nat → Int32) : StM := (u.1, u.2.1, u.2.2.1, u.2.2.2.1, x, u.2.2.2.2.2.1, u.2.2.2.2.2.2.1, u.2.2.2.2.2.2.2.1, u.2.2.2.2.2.2.2.2.1, u.2.2.2.2.2.2.2.2.2.1, u.2.2.2.2.2.2.2.2.2.2.1, u.2.2.2.2.2.2.2.2.2.2.2.1, u.2.2.2.2.2.2.2.2.2.2.2.2.1, u.2.2.2.2.2.2.2.2.2.2.2.2.2)
def m_set_weight (u : StM) (x : Nat → Int32) : StM := (u.1, u.2.1, u.2.2.1, u.2.2.2.1, u.2.2.2.2.1, x, u.2.2.2.2.2.2.1, u.2.2.2.2.2.2.2.1, u.2.2.2.2.2.2.2.2.1, u.2.2.2.2.2.2.2.2.2.1, u.2.2.2.2.2.2.2.2.2.2.1, u.2.2.2.2.2.2.2.2.2.2.2.1, u.2.2.2.2.2.2.2.2.2.2.2.2.1, u.2.2.2.2.2.2.2.2.2.2.2.2.2)
def m_set_reserve (u : StM) (x : Int32) : StM := (u.1, u.2.1, u.2.2.1, u.2.2.2.1, u.2.2.2.2.1, u.2.2.2.2.2.1, x, u.2.2.2.2.2.2.2.1, u.2.2.2.2.2.2.2.2.1, u.2.2.2.2.2.2.2.2.2.1, u.2.2.2.2.2.2.2.2.2.2.1, u.2.2.2.2.2.2.2.2.2.2.2.1, u.2.2.2.2.2.2.2.2.2.2.2.2.1, u.2.2.2.2.2.2.2.2.2.2.2.2.2)
def m_set_samples (u : StM) (x : Int32) : StM := (u.1, u.2.1, u.2.2.1, u.2.2.2.1, u.2.2.2.2.1, u.2.2.2.2.2.1, u.2.2.2.2.2.2.1, x, u.2.2.2.2.2.2.2.2.1, u.2.2.2.2.2.2.2.2.2.1, u.2.2.2.2.2.2.2.2.2.2.1, u.2.2.2.2.2.2.2.2.2.2.2.1, u.2.2.2.2.2.2.2.2.2.2.2.2.1, u.2.2.2.2.2.2.2.2.2.2.2.2.2)
def m_set_sample (u : StM) (x : Nat → Int32) : StM := (u.1, u.2.1, u.2.2.1, u.2.2.2.1, u.2.2.2.2.1, u.2.2.2.2.2.1, u.2.2.2.2.2.2.1, u.2.2.2.2.2.2.2.1, x, u.2.2.2.2.2.2.2.2.2.1, u.2.2.2.2.2.2.2.2.2.2.1, u.2.2.2.2.2.2.2.2.2.2.2.1, u.2.2.2.2.2.2.2.2.2.2.2.2.1, u.2.2.2.2.2.2.2.2.2.2.2.2.2)
def m_set_upper (u : StM) (x : Int64) : StM := (u.1, u.2.1, u.2.2.1, u.2.2.2.1, u.2.2.2.2.1, u.2.2.2.2.2.1, u.2.2.2.2.2.2.1, u.2.2.2.2.2.2.2.1, u.2.2.2.2.2.2.2.2.1, x, u.2.2.2.2.2.2.2.2.2.2.1, u.2.2.2.2.2.2.2.2.2.2.2.1, u.2.2.2.2.2.2.2.2.2.2.2.2.1, u.2.2.2.2.2.2.2.2.2.2.2.2.2)
def m_set_lower (u : StM) (x : Int64) : StM := (u.1, u.2.1, u.2.2.1, u.2.2.2.1, u.2.2.2.2.1, u.2.2.2.2.2.1, u.2.2.2.2.2.2.1, u.2.2.2.2.2.2.2.1, u.2.2.2.2.2.2.2.2.1, u.2.2.2.2.2.2.2.2.2.1, x, u.2.2.2.2.2.2.2.2.2.2.2.1, u.2.2.2.2.2.2.2.2.2.2.2.2.1, u.2.2.2.2.2.2.2.2.2.2.2.2.2)
def m_set_place (u : StM) (x : Nat → Int32) : StM := (u.1, u.2.1, u.2.2.1, u.2.2.2.1, u.2.2.2.2.1, u.2.2.2.2.2.1, u.2.2.2.2.2.2.1, u.2.2.2.2.2.2.2.1, u.2.2.2.2.2.2.2.2.1, u.2.2.2.2.2.2.2.2.2.1, u.2.2.2.2.2.2.2.2.2.2.1, x, u.2.2.2.2.2.2.2.2.2.2.2.2.1, u.2.2.2.2.2.2.2.2.2.2.2.2.2)
def m_set_told (u : StM) (x : Nat → Int32) : StM := (u.1, u.2.1, u.2.2.1, u.2.2.2.1, u.2.2.2.2.1, u.2.2.2.2.2.1, u.2.2.2.2.2.2.1, u.2.2.2.2.2.2.2.1, u.2.2.2.2.2.2.2.2.1, u.2.2.2.2.2.2.2.2.2.1, u.2.2.2.2.2.2.2.2.2.2.1, u.2.2.2.2.2.2.2.2.2.2.2.1, x, u.2.2.2.2.2.2.2.2.2.2.2.2.2)
def m_set_price (u : StM) (x : Nat → Int32) : StM := (u.1, u.2.1, u.2.2.1, u.2.2.2.1, u.2.2.2.2.1, u.2.2.2.2.2.1, u.2.2.2.2.2.2.1, u.2.2.2.2.2.2.2.1, u.2.2.2.2.2.2.2.2.1, u.2.2.2.2.2.2.2.2.2.1, u.2.2.2.2.2.2.2.2.2.2.1, u.2.2.2.2.2.2.2.2.2.2.2.1, u.2.2.2.2.2.2.2.2.2.2.2.2.1, x)
def bx (a : Nat → Nat) : Nat → Nat → Nat
  | 0, j => a (1 + j)
  | 1, j => a (6 + j)
  | _, j => a (11 + j)
def bk (u : StS) : Nat → StB
  | 0 => s_book0 u
  | 1 => s_book1 u
  | _ => s_book2 u
def setbk (u : StS) : Nat → StB → StS
  | 0, b => s_set_book0 u b
  | 1, b => s_set_book1 u b
  | _, b => s_set_book2 u b
def wB (cA : ClassId) (a : Nat → Nat) (u : StB) : va_W := [(a 0, .inr (0, [.ref (a 1), .ref (a 2), .ref (a 3), .ref (a 4), .int (b_size u)])), (a 1, .inl (cA, 5, .inl (b_worths u))), (a 2, .inl (cA, 5, .inl (b_weights u))), (a 3, .inl (cA, 5, .inl (b_uppers u))), (a 4, .inl (cA, 5, .inl (b_lowers u)))]
def wS (cA : ClassId) (a : Nat → Nat) (u : StS) : va_W := [(a 0, .inr (1, [.ref (a 1), .ref (a 6), .ref (a 11), .ref (a 16), .int (s_buyerCount u), .int (s_sampleCount u), .int (s_reservePrice u), .long (s_traced u)])), (a 1, .inr (0, [.ref (a 2), .ref (a 3), .ref (a 4), .ref (a 5), .int (b_size (s_book0 u))])), (a 2, .inl (cA, 5, .inl (b_worths (s_book0 u)))), (a 3, .inl (cA, 5, .inl (b_weights (s_book0 u)))), (a 4, .inl (cA, 5, .inl (b_uppers (s_book0 u)))), (a 5, .inl (cA, 5, .inl (b_lowers (s_book0 u)))), (a 6, .inr (0, [.ref (a 7), .ref (a 8), .ref (a 9), .ref (a 10), .int (b_size (s_book1 u))])), (a 7, .inl (cA, 5, .inl (b_worths (s_book1 u)))), (a 8, .inl (cA, 5, .inl (b_weights (s_book1 u)))), (a 9, .inl (cA, 5, .inl (b_uppers (s_book1 u)))), (a 10, .inl (cA, 5, .inl (b_lowers (s_book1 u)))), (a 11, .inr (0, [.ref (a 12), .ref (a 13), .ref (a 14), .ref (a 15), .int (b_size (s_book2 u))])), (a 12, .inl (cA, 5, .inl (b_worths (s_book2 u)))), (a 13, .inl (cA, 5, .inl (b_weights (s_book2 u)))), (a 14, .inl (cA, 5, .inl (b_uppers (s_book2 u)))), (a 15, .inl (cA, 5, .inl (b_lowers (s_book2 u)))), (a 16, .inl (cA, 12, .inl (s_samples u)))]
def wM (cA : ClassId) (a : Nat → Nat) (u : StM) : va_W := [(a 0, .inr (2, [.int (m_thrown u), .long (m_trace u), .int (m_n u), .ref (a 1), .ref (a 2), .ref (a 3), .int (m_reserve u), .int (m_samples u), .ref (a 4), .long (m_upper u), .long (m_lower u), .ref (a 5), .ref (a 6), .ref (a 7)])), (a 1, .inl (cA, 3, .inl (m_many u))), (a 2, .inl (cA, 15, .inl (m_worth u))), (a 3, .inl (cA, 15, .inl (m_weight u))), (a 4, .inl (cA, 12, .inl (m_sample u))), (a 5, .inl (cA, 3, .inl (m_place u))), (a 6, .inl (cA, 3, .inl (m_told u))), (a 7, .inl (cA, 3, .inl (m_price u)))]
def inB (a : Nat → Nat) : Nat → Prop := fun q => ∃ k, k < 5 ∧ q = a k
def djB (a : Nat → Nat) : Prop := ∀ i j, i < 5 → j < 5 → a i = a j → i = j
theorem wB_ad (cA : ClassId) (a : Nat → Nat) (u : StB) : ∀ (k : Nat) (q : Nat × va_E), (wB cA a u)[k]? = some q → k < 5 ∧ q.1 = a k := by
  intro k q hk
  have hlt : k < 5 := (List.getElem?_eq_some_iff.mp hk).1
  refine ⟨hlt, ?_⟩
  rcases (show k = 0 ∨ k = 1 ∨ k = 2 ∨ k = 3 ∨ k = 4 by omega) with rfl | rfl | rfl | rfl | rfl <;> (cases hk; rfl)
theorem dB {cA : ClassId} {a : Nat → Nat} (hd : djB a) (u : StB) : va_D (inB a) (wB cA a u) := ⟨fun i j p q hi hj e => by
  obtain ⟨h1, e1⟩ := wB_ad cA a u i p hi
  obtain ⟨h2, e2⟩ := wB_ad cA a u j q hj
  exact hd i j h1 h2 (by rw [← e1, ← e2]; exact e), fun k q hk => ⟨k, (wB_ad cA a u k q hk).1, (wB_ad cA a u k q hk).2⟩⟩
def inS (a : Nat → Nat) : Nat → Prop := fun q => ∃ k, k < 17 ∧ q = a k
def djS (a : Nat → Nat) : Prop := ∀ i j, i < 17 → j < 17 → a i = a j → i = j
theorem wS_ad (cA : ClassId) (a : Nat → Nat) (u : StS) : ∀ (k : Nat) (q : Nat × va_E), (wS cA a u)[k]? = some q → k < 17 ∧ q.1 = a k := by
  intro k q hk
  have hlt : k < 17 := (List.getElem?_eq_some_iff.mp hk).1
  refine ⟨hlt, ?_⟩
  rcases (show k = 0 ∨ k = 1 ∨ k = 2 ∨ k = 3 ∨ k = 4 ∨ k = 5 ∨ k = 6 ∨ k = 7 ∨ k = 8 ∨ k = 9 ∨ k = 10 ∨ k = 11 ∨ k = 12 ∨ k = 13 ∨ k = 14 ∨ k = 15 ∨ k = 16 by omega) with rfl | rfl | rfl | rfl | rfl | rfl | rfl | rfl | rfl | rfl | rfl | rfl | rfl | rfl | rfl | rfl | rfl <;> (cases hk; rfl)
theorem dS {cA : ClassId} {a : Nat → Nat} (hd : djS a) (u : StS) : va_D (inS a) (wS cA a u) := ⟨fun i j p q hi hj e => by
  obtain ⟨h1, e1⟩ := wS_ad cA a u i p hi
  obtain ⟨h2, e2⟩ := wS_ad cA a u j q hj
  exact hd i j h1 h2 (by rw [← e1, ← e2]; exact e), fun k q hk => ⟨k, (wS_ad cA a u k q hk).1, (wS_ad cA a u k q hk).2⟩⟩
def inM (a : Nat → Nat) : Nat → Prop := fun q => ∃ k, k < 8 ∧ q = a k
def djM (a : Nat → Nat) : Prop := ∀ i j, i < 8 → j < 8 → a i = a j → i = j
theorem wM_ad (cA : ClassId) (a : Nat → Nat) (u : StM) : ∀ (k : Nat) (q : Nat × va_E), (wM cA a u)[k]? = some q → k < 8 ∧ q.1 = a k := by
  intro k q hk
  have hlt : k < 8 := (List.getElem?_eq_some_iff.mp hk).1
  refine ⟨hlt, ?_⟩
  rcases (show k = 0 ∨ k = 1 ∨ k = 2 ∨ k = 3 ∨ k = 4 ∨ k = 5 ∨ k = 6 ∨ k = 7 by omega) with rfl | rfl | rfl | rfl | rfl | rfl | rfl | rfl <;> (cases hk; rfl)
theorem dM {cA : ClassId} {a : Nat → Nat} (hd : djM a) (u : StM) : va_D (inM a) (wM cA a u) := ⟨fun i j p q hi hj e => by
  obtain ⟨h1, e1⟩ := wM_ad cA a u i p hi
  obtain ⟨h2, e2⟩ := wM_ad cA a u j q hj
  exact hd i j h1 h2 (by rw [← e1, ← e2]; exact e), fun k q hk => ⟨k, (wM_ad cA a u k q hk).1, (wM_ad cA a u k q hk).2⟩⟩
theorem wS_bk {D : va_G} {cA : ClassId} {a : Nat → Nat} {u : StS} {H : Heap} (hP : va_P D vwCl (wS cA a u) H) (k : Nat) : va_P D vwCl (wB cA (bx a k) (bk u k)) H := by
  match k with
  | 0 => exact hP.sub (ws' := wB cA (bx a 0) (bk u 0)) [1, 2, 3, 4, 5] rfl
  | 1 => exact hP.sub (ws' := wB cA (bx a 1) (bk u 1)) [6, 7, 8, 9, 10] rfl
  | k + 2 => exact hP.sub (ws' := wB cA (bx a (k + 2)) (bk u (k + 2))) [11, 12, 13, 14, 15] rfl
theorem bx_ad (a : Nat → Nat) (k j : Nat) (hj : j < 5) : ∃ i, i < 17 ∧ bx a k j = a i ∧ i = 1 + j + 5 * (if k = 0 then 0 else if k = 1 then 1 else 2) := by
  match k with
  | 0 => exact ⟨1 + j, by omega, rfl, by simp⟩
  | 1 => exact ⟨6 + j, by omega, rfl, by simp; omega⟩
  | k + 2 => exact ⟨11 + j, by omega, rfl, by simp; omega⟩
theorem djS_bk {a : Nat → Nat} (hd : djS a) (k : Nat) : djB (bx a k) := by
  intro i j hi hj e
  obtain ⟨x, hx, ex, ex2⟩ := bx_ad a k i hi
  obtain ⟨y, hy, ey, ey2⟩ := bx_ad a k j hj
  have := hd x y hx hy (by rw [← ex, ← ey]; exact e)
  omega
theorem inB_S {a : Nat → Nat} (k : Nat) : ∀ q, inB (bx a k) q → inS a q := by
  rintro q ⟨j, hj, rfl⟩
  obtain ⟨x, hx, ex, _⟩ := bx_ad a k j hj
  exact ⟨x, hx, ex⟩
theorem wS_back {D : va_G} {cA : ClassId} {a : Nat → Nat} {u : StS} {b1 : StB} {H H1 : Heap} (hd : djS a) (k : Nat) (hP : va_P D vwCl (wS cA a u) H) (hk : ∀ q : Nat, q < H.size → ¬ inB (bx a k) q → H1[q]? = H[q]?) (hB : va_P D vwCl (wB cA (bx a k) b1) H1) : va_P D vwCl (wS cA a (setbk u k b1)) H1 := by
  have other : ∀ (i : Nat), i < 17 → ¬ (1 + 5 * (if k = 0 then 0 else if k = 1 then 1 else 2) ≤ i ∧ i < 6 + 5 * (if k = 0 then 0 else if k = 1 then 1 else 2)) → ∀ q, (wS cA a u)[i]? = some q → va_at D vwCl q H1 := by
    intro i hi ho q hq
    obtain ⟨-, e⟩ := wS_ad cA a u i q hq
    refine (hP i q hq).kept (hk _ (hP i q hq).lt ?_)
    rintro ⟨j, hj, e2⟩
    obtain ⟨x, hx, ex, ex2⟩ := bx_ad a k j hj
    have := hd i x hi hx (by rw [← e, e2, ex])
    omega
  intro i q hq
  obtain ⟨hi, -⟩ := wS_ad cA a _ i q hq
  match k with
  | 0 =>
    have other := fun i hi ho => other i hi ho
    rcases (show i = 0 ∨ i = 1 ∨ i = 2 ∨ i = 3 ∨ i = 4 ∨ i = 5 ∨ i = 6 ∨ i = 7 ∨ i = 8 ∨ i = 9 ∨ i = 10 ∨ i = 11 ∨ i = 12 ∨ i = 13 ∨ i = 14 ∨ i = 15 ∨ i = 16 by omega) with rfl | rfl | rfl | rfl | rfl | rfl | rfl | rfl | rfl | rfl | rfl | rfl | rfl | rfl | rfl | rfl | rfl
    · exact other 0 (by decide) (by simp) q hq
    · exact hB 0 q hq
    · exact hB 1 q hq
    · exact hB 2 q hq
    · exact hB 3 q hq
    · exact hB 4 q hq
    · exact other 6 (by decide) (by simp) q hq
    · exact other 7 (by decide) (by simp) q hq
    · exact other 8 (by decide) (by simp) q hq
    · exact other 9 (by decide) (by simp) q hq
    · exact other 10 (by decide) (by simp) q hq
    · exact other 11 (by decide) (by simp) q hq
    · exact other 12 (by decide) (by simp) q hq
    · exact other 13 (by decide) (by simp) q hq
    · exact other 14 (by decide) (by simp) q hq
    · exact other 15 (by decide) (by simp) q hq
    · exact other 16 (by decide) (by simp) q hq
  | 1 =>
    have other := fun i hi ho => other i hi ho
    rcases (show i = 0 ∨ i = 1 ∨ i = 2 ∨ i = 3 ∨ i = 4 ∨ i = 5 ∨ i = 6 ∨ i = 7 ∨ i = 8 ∨ i = 9 ∨ i = 10 ∨ i = 11 ∨ i = 12 ∨ i = 13 ∨ i = 14 ∨ i = 15 ∨ i = 16 by omega) with rfl | rfl | rfl | rfl | rfl | rfl | rfl | rfl | rfl | rfl | rfl | rfl | rfl | rfl | rfl | rfl | rfl
    · exact other 0 (by decide) (by simp) q hq
    · exact other 1 (by decide) (by simp) q hq
    · exact other 2 (by decide) (by simp) q hq
    · exact other 3 (by decide) (by simp) q hq
    · exact other 4 (by decide) (by simp) q hq
    · exact other 5 (by decide) (by simp) q hq
    · exact hB 0 q hq
    · exact hB 1 q hq
    · exact hB 2 q hq
    · exact hB 3 q hq
    · exact hB 4 q hq
    · exact other 11 (by decide) (by simp) q hq
    · exact other 12 (by decide) (by simp) q hq
    · exact other 13 (by decide) (by simp) q hq
    · exact other 14 (by decide) (by simp) q hq
    · exact other 15 (by decide) (by simp) q hq
    · exact other 16 (by decide) (by simp) q hq
  | k + 2 =>
    have other := fun i hi ho => other i hi ho
    rcases (show i = 0 ∨ i = 1 ∨ i = 2 ∨ i = 3 ∨ i = 4 ∨ i = 5 ∨ i = 6 ∨ i = 7 ∨ i = 8 ∨ i = 9 ∨ i = 10 ∨ i = 11 ∨ i = 12 ∨ i = 13 ∨ i = 14 ∨ i = 15 ∨ i = 16 by omega) with rfl | rfl | rfl | rfl | rfl | rfl | rfl | rfl | rfl | rfl | rfl | rfl | rfl | rfl | rfl | rfl | rfl
    · exact other 0 (by decide) (by simp) q hq
    · exact other 1 (by decide) (by simp) q hq
    · exact other 2 (by decide) (by simp) q hq
    · exact other 3 (by decide) (by simp) q hq
    · exact other 4 (by decide) (by simp) q hq
    · exact other 5 (by decide) (by simp) q hq
    · exact other 6 (by decide) (by simp) q hq
    · exact other 7 (by decide) (by simp) q hq
    · exact other 8 (by decide) (by simp) q hq
    · exact other 9 (by decide) (by simp) q hq
    · exact other 10 (by decide) (by simp) q hq
    · exact hB 0 q hq
    · exact hB 1 q hq
    · exact hB 2 q hq
    · exact hB 3 q hq
    · exact hB 4 q hq
    · exact other 16 (by decide) (by simp) q hq
abbrev nestW : Cond := Cond.fieldLinkNest RX1 58 RX0 "size" "I" RX1
def roB (D : va_G) (cA : ClassId) (wss : List va_W) : State → Prop := fun U => (∀ w ∈ wss, va_P D vwCl w U.heap) ∧ va_K D vwCl [(cA, .int)] U ∧ va_Nw nestW U
theorem roB_blind {D : va_G} {cA : ClassId} {wss : List va_W} {av : List Value} : FrameBlind (va_Pc av (roB D cA wss)) := fun a U g mk q => ⟨q.1, q.2.1, va_K.moved (u := U) (U := U.calling g mk a) (Vm.Alike.refl U.vm) q.2.2.1, va_Nw.same (u := U) (U := U.calling g mk a) rfl rfl q.2.2.2⟩
theorem roB_pre {D : va_G} {cA : ClassId} {wss : List va_W} {av : List Value} {s : State} {H : Heap} (hK : va_K D vwCl [(cA, .int)] s) (hZ : va_Nw nestW s) (hw : ∀ w ∈ wss, va_P D vwCl w H) : ∀ U : State, U.heap = H → s.WarmedH U.vm → va_Pc av (roB D cA wss) av.toArray U := fun U hU hW => ⟨rfl, by rw [hU]; exact hw, va_K.moved hW.alike hK, va_Nw.warmF hW hZ⟩
theorem hws_0 {D : va_G} {H : Heap} : ∀ w ∈ ([] : List va_W), va_P D vwCl w H := fun _ h => absurd h List.not_mem_nil
theorem hws_1 {D : va_G} {H : Heap} {w1 : va_W} (h1 : va_P D vwCl w1 H) : ∀ w ∈ [w1], va_P D vwCl w H := List.forall_mem_cons.mpr ⟨h1, hws_0⟩
theorem hws_2 {D : va_G} {H : Heap} {w1 w2 : va_W} (h1 : va_P D vwCl w1 H) (h2 : va_P D vwCl w2 H) : ∀ w ∈ [w1, w2], va_P D vwCl w H := List.forall_mem_cons.mpr ⟨h1, hws_1 h2⟩
section RW
variable {p : Program} {l : Launch} {e : Env} {R : Room} {s : State} {m : MethodId} {args : Array Value} {below : List Frame} {meth : Method} {c : Code} {H : Heap} {locs : List Loc} {cells slots : Nat} {Q : State → Prop}
variable {cc : ByteArray} {pc : Nat} {ls : Array Slot} {rest : List Value} {D : va_G} {cA : ClassId} {a : Nat → Nat} {H0 : Heap} {Ts : List Cond} {A : Nat → Prop}
theorem gtX0_worths {u : StB} (hx : p.tables.exec = Jvm.exec) (hb : c.code = cc) (hts : ∀ w ∈ Ts, w.before args s = true) (hin : ∀ w ∈ wsX00, w ∈ Ts) (hown : s.vm.findClass RX0 = some m.cls) (hK : va_K D vwCl [(cA, .int)] s) (hP : va_P D vwCl (wB cA a u) H) (hl : Cond.fieldLink RX0 9 "DoubtSale$Book" "worths" "[I" ∈ Ts) (hdg : decode cc pc = .ok (.getfield 9, 3)) (kk : W p l e R s m args below meth c H locs cells slots Q (F0 m (pc + 3) ls (.ref (a 1) :: rest))) : W p l e R s m args below meth c H locs cells slots Q (F0 m pc ls (.ref (a 0) :: rest)) := va_get (D := D) (ci := 0) (v := .ref (a 1)) (C := RX0) (T := TX0) (N := 5) hx hb hts hin hown hK hP 0 rfl rfl 0 (by decide) (hts _ hl) (fun _ h9 => h9) rfl hdg kk
theorem gtX0_weights {u : StB} (hx : p.tables.exec = Jvm.exec) (hb : c.code = cc) (hts : ∀ w ∈ Ts, w.before args s = true) (hin : ∀ w ∈ wsX00, w ∈ Ts) (hown : s.vm.findClass RX0 = some m.cls) (hK : va_K D vwCl [(cA, .int)] s) (hP : va_P D vwCl (wB cA a u) H) (hl : Cond.fieldLink RX0 15 "DoubtSale$Book" "weights" "[I" ∈ Ts) (hdg : decode cc pc = .ok (.getfield 15, 3)) (kk : W p l e R s m args below meth c H locs cells slots Q (F0 m (pc + 3) ls (.ref (a 2) :: rest))) : W p l e R s m args below meth c H locs cells slots Q (F0 m pc ls (.ref (a 0) :: rest)) := va_get (D := D) (ci := 0) (v := .ref (a 2)) (C := RX0) (T := TX0) (N := 5) hx hb hts hin hown hK hP 0 rfl rfl 1 (by decide) (hts _ hl) (fun _ h9 => h9) rfl hdg kk
theorem gtX0_uppers {u : StB} (hx : p.tables.exec = Jvm.exec) (hb : c.code = cc) (hts : ∀ w ∈ Ts, w.before args s = true) (hin : ∀ w ∈ wsX00, w ∈ Ts) (hown : s.vm.findClass RX0 = some m.cls) (hK : va_K D vwCl [(cA, .int)] s) (hP : va_P D vwCl (wB cA a u) H) (hl : Cond.fieldLink RX0 18 "DoubtSale$Book" "uppers" "[I" ∈ Ts) (hdg : decode cc pc = .ok (.getfield 18, 3)) (kk : W p l e R s m args below meth c H locs cells slots Q (F0 m (pc + 3) ls (.ref (a 3) :: rest))) : W p l e R s m args below meth c H locs cells slots Q (F0 m pc ls (.ref (a 0) :: rest)) := va_get (D := D) (ci := 0) (v := .ref (a 3)) (C := RX0) (T := TX0) (N := 5) hx hb hts hin hown hK hP 0 rfl rfl 2 (by decide) (hts _ hl) (fun _ h9 => h9) rfl hdg kk
theorem gtX0_lowers {u : StB} (hx : p.tables.exec = Jvm.exec) (hb : c.code = cc) (hts : ∀ w ∈ Ts, w.before args s = true) (hin : ∀ w ∈ wsX00, w ∈ Ts) (hown : s.vm.findClass RX0 = some m.cls) (hK : va_K D vwCl [(cA, .int)] s) (hP : va_P D vwCl (wB cA a u) H) (hl : Cond.fieldLink RX0 21 "DoubtSale$Book" "lowers" "[I" ∈ Ts) (hdg : decode cc pc = .ok (.getfield 21, 3)) (kk : W p l e R s m args below meth c H locs cells slots Q (F0 m (pc + 3) ls (.ref (a 4) :: rest))) : W p l e R s m args below meth c H locs cells slots Q (F0 m pc ls (.ref (a 0) :: rest)) := va_get (D := D) (ci := 0) (v := .ref (a 4)) (C := RX0) (T := TX0) (N := 5) hx hb hts hin hown hK hP 0 rfl rfl 3 (by decide) (hts _ hl) (fun _ h9 => h9) rfl hdg kk
theorem gtX0_size {u : StB} (hx : p.tables.exec = Jvm.exec) (hb : c.code = cc) (hts : ∀ w ∈ Ts, w.before args s = true) (hin : ∀ w ∈ wsX00, w ∈ Ts) (hown : s.vm.findClass RX0 = some m.cls) (hK : va_K D vwCl [(cA, .int)] s) (hP : va_P D vwCl (wB cA a u) H) (hl : Cond.fieldLink RX0 24 "DoubtSale$Book" "size" "I" ∈ Ts) (hdg : decode cc pc = .ok (.getfield 24, 3)) (kk : W p l e R s m args below meth c H locs cells slots Q (F0 m (pc + 3) ls (.int (b_size u) :: rest))) : W p l e R s m args below meth c H locs cells slots Q (F0 m pc ls (.ref (a 0) :: rest)) := va_get (D := D) (ci := 0) (v := .int (b_size u)) (C := RX0) (T := TX0) (N := 5) hx hb hts hin hown hK hP 0 rfl rfl 4 (by decide) (hts _ hl) (fun _ h9 => h9) rfl hdg kk
theorem ptX0_size {u : StB} {x : Int32} (hx : p.tables.exec = Jvm.exec) (hb : c.code = cc) (hts : ∀ w ∈ Ts, w.before args s = true) (hin : ∀ w ∈ wsX00, w ∈ Ts) (hown : s.vm.findClass RX0 = some m.cls) (hK : va_K D vwCl [(cA, .int)] s) (hP : va_P D vwCl (wB cA a u) H) (hD : va_D A (wB cA a u)) (hS : va_S A H0 H locs) (hl : Cond.fieldLink RX0 24 "DoubtSale$Book" "size" "I" ∈ Ts) (hdg : decode cc pc = .ok (.putfield 24, 3)) (kk : ∀ (H1 : Heap) (locs1 : List Loc), va_P D vwCl (wB cA a (b_set_size u x)) H1 → va_S A H0 H1 locs1 → W p l e R s m args below meth c H1 locs1 cells slots Q (F0 m (pc + 3) ls rest)) : W p l e R s m args below meth c H locs cells slots Q (F0 m pc ls (.int x :: .ref (a 0) :: rest)) := va_put (D := D) (ci := 0) (v := .int x) (ty := .int) (C := RX0) (T := TX0) (N := 5) hx hb hts hin tyX0 tyX0_ok nmX0 hown hK hP hD hS 0 rfl rfl 4 (by decide) (hts _ hl) (fun _ h9 => h9) rfl (by decide +kernel) rfl rfl (Nat.le_of_ble_eq_true rfl) hdg (fun H1 locs1 h1 _ h3 => kk H1 locs1 h1 h3)
theorem alX0_worths {u : StB} {i : Int32} (hx : p.tables.exec = Jvm.exec) (hb : c.code = cc) (hK : va_K D vwCl [(cA, .int)] s) (hP : va_P D vwCl (wB cA a u) H) (hi : ¬ (i < 0 ∨ 5 ≤ i.toNatClampNeg)) (hdg : decode cc pc = .ok (.iaload, 1)) (kk : W p l e R s m args below meth c H locs cells slots Q (F0 m (pc + 1) ls (.int (b_worths u i.toNatClampNeg) :: rest))) : W p l e R s m args below meth c H locs cells slots Q (F0 m pc ls (.int i :: .ref (a 1) :: rest)) := va_iald (D := D) hx hb hK hP 1 0 rfl rfl hi hdg kk
theorem asX0_worths {u : StB} {i x : Int32} (hx : p.tables.exec = Jvm.exec) (hb : c.code = cc) (hK : va_K D vwCl [(cA, .int)] s) (hP : va_P D vwCl (wB cA a u) H) (hD : va_D A (wB cA a u)) (hS : va_S A H0 H locs) (hi : ¬ (i < 0 ∨ 5 ≤ i.toNatClampNeg)) (hdg : decode cc pc = .ok (.iastore, 1)) (kk : ∀ (H1 : Heap) (locs1 : List Loc), va_P D vwCl (wB cA a (b_set_worths u (upd (b_worths u) i.toNatClampNeg x))) H1 → va_S A H0 H1 locs1 → W p l e R s m args below meth c H1 locs1 cells slots Q (F0 m (pc + 1) ls rest)) : W p l e R s m args below meth c H locs cells slots Q (F0 m pc ls (.int x :: .int i :: .ref (a 1) :: rest)) := va_iast (D := D) hx hb hK hP hD hS 1 0 rfl rfl hi hdg (fun H1 locs1 h1 _ h3 => kk H1 locs1 h1 h3)
theorem alX0_weights {u : StB} {i : Int32} (hx : p.tables.exec = Jvm.exec) (hb : c.code = cc) (hK : va_K D vwCl [(cA, .int)] s) (hP : va_P D vwCl (wB cA a u) H) (hi : ¬ (i < 0 ∨ 5 ≤ i.toNatClampNeg)) (hdg : decode cc pc = .ok (.iaload, 1)) (kk : W p l e R s m args below meth c H locs cells slots Q (F0 m (pc + 1) ls (.int (b_weights u i.toNatClampNeg) :: rest))) : W p l e R s m args below meth c H locs cells slots Q (F0 m pc ls (.int i :: .ref (a 2) :: rest)) := va_iald (D := D) hx hb hK hP 2 0 rfl rfl hi hdg kk
theorem asX0_weights {u : StB} {i x : Int32} (hx : p.tables.exec = Jvm.exec) (hb : c.code = cc) (hK : va_K D vwCl [(cA, .int)] s) (hP : va_P D vwCl (wB cA a u) H) (hD : va_D A (wB cA a u)) (hS : va_S A H0 H locs) (hi : ¬ (i < 0 ∨ 5 ≤ i.toNatClampNeg)) (hdg : decode cc pc = .ok (.iastore, 1)) (kk : ∀ (H1 : Heap) (locs1 : List Loc), va_P D vwCl (wB cA a (b_set_weights u (upd (b_weights u) i.toNatClampNeg x))) H1 → va_S A H0 H1 locs1 → W p l e R s m args below meth c H1 locs1 cells slots Q (F0 m (pc + 1) ls rest)) : W p l e R s m args below meth c H locs cells slots Q (F0 m pc ls (.int x :: .int i :: .ref (a 2) :: rest)) := va_iast (D := D) hx hb hK hP hD hS 2 0 rfl rfl hi hdg (fun H1 locs1 h1 _ h3 => kk H1 locs1 h1 h3)
theorem alX0_uppers {u : StB} {i : Int32} (hx : p.tables.exec = Jvm.exec) (hb : c.code = cc) (hK : va_K D vwCl [(cA, .int)] s) (hP : va_P D vwCl (wB cA a u) H) (hi : ¬ (i < 0 ∨ 5 ≤ i.toNatClampNeg)) (hdg : decode cc pc = .ok (.iaload, 1)) (kk : W p l e R s m args below meth c H locs cells slots Q (F0 m (pc + 1) ls (.int (b_uppers u i.toNatClampNeg) :: rest))) : W p l e R s m args below meth c H locs cells slots Q (F0 m pc ls (.int i :: .ref (a 3) :: rest)) := va_iald (D := D) hx hb hK hP 3 0 rfl rfl hi hdg kk
theorem asX0_uppers {u : StB} {i x : Int32} (hx : p.tables.exec = Jvm.exec) (hb : c.code = cc) (hK : va_K D vwCl [(cA, .int)] s) (hP : va_P D vwCl (wB cA a u) H) (hD : va_D A (wB cA a u)) (hS : va_S A H0 H locs) (hi : ¬ (i < 0 ∨ 5 ≤ i.toNatClampNeg)) (hdg : decode cc pc = .ok (.iastore, 1)) (kk : ∀ (H1 : Heap) (locs1 : List Loc), va_P D vwCl (wB cA a (b_set_uppers u (upd (b_uppers u) i.toNatClampNeg x))) H1 → va_S A H0 H1 locs1 → W p l e R s m args below meth c H1 locs1 cells slots Q (F0 m (pc + 1) ls rest)) : W p l e R s m args below meth c H locs cells slots Q (F0 m pc ls (.int x :: .int i :: .ref (a 3) :: rest)) := va_iast (D := D) hx hb hK hP hD hS 3 0 rfl rfl hi hdg (fun H1 locs1 h1 _ h3 => kk H1 locs1 h1 h3)
theorem alX0_lowers {u : StB} {i : Int32} (hx : p.tables.exec = Jvm.exec) (hb : c.code = cc) (hK : va_K D vwCl [(cA, .int)] s) (hP : va_P D vwCl (wB cA a u) H) (hi : ¬ (i < 0 ∨ 5 ≤ i.toNatClampNeg)) (hdg : decode cc pc = .ok (.iaload, 1)) (kk : W p l e R s m args below meth c H locs cells slots Q (F0 m (pc + 1) ls (.int (b_lowers u i.toNatClampNeg) :: rest))) : W p l e R s m args below meth c H locs cells slots Q (F0 m pc ls (.int i :: .ref (a 4) :: rest)) := va_iald (D := D) hx hb hK hP 4 0 rfl rfl hi hdg kk
theorem asX0_lowers {u : StB} {i x : Int32} (hx : p.tables.exec = Jvm.exec) (hb : c.code = cc) (hK : va_K D vwCl [(cA, .int)] s) (hP : va_P D vwCl (wB cA a u) H) (hD : va_D A (wB cA a u)) (hS : va_S A H0 H locs) (hi : ¬ (i < 0 ∨ 5 ≤ i.toNatClampNeg)) (hdg : decode cc pc = .ok (.iastore, 1)) (kk : ∀ (H1 : Heap) (locs1 : List Loc), va_P D vwCl (wB cA a (b_set_lowers u (upd (b_lowers u) i.toNatClampNeg x))) H1 → va_S A H0 H1 locs1 → W p l e R s m args below meth c H1 locs1 cells slots Q (F0 m (pc + 1) ls rest)) : W p l e R s m args below meth c H locs cells slots Q (F0 m pc ls (.int x :: .int i :: .ref (a 4) :: rest)) := va_iast (D := D) hx hb hK hP hD hS 4 0 rfl rfl hi hdg (fun H1 locs1 h1 _ h3 => kk H1 locs1 h1 h3)
theorem gtX1_book0 {u : StS} (hx : p.tables.exec = Jvm.exec) (hb : c.code = cc) (hts : ∀ w ∈ Ts, w.before args s = true) (hin : ∀ w ∈ wsX10, w ∈ Ts) (hown : s.vm.findClass RX1 = some m.cls) (hK : va_K D vwCl [(cA, .int)] s) (hP : va_P D vwCl (wS cA a u) H) (hl : Cond.fieldLink RX1 10 "DoubtSale" "book0" "LDoubtSale$Book;" ∈ Ts) (hdg : decode cc pc = .ok (.getfield 10, 3)) (kk : W p l e R s m args below meth c H locs cells slots Q (F0 m (pc + 3) ls (.ref (bx a 0 0) :: rest))) : W p l e R s m args below meth c H locs cells slots Q (F0 m pc ls (.ref (a 0) :: rest)) := va_get (D := D) (ci := 1) (v := .ref (bx a 0 0)) (C := RX1) (T := TX1) (N := 8) hx hb hts hin hown hK hP 0 rfl rfl 0 (by decide) (hts _ hl) (fun _ h9 => h9) rfl hdg kk
theorem gtX1_book1 {u : StS} (hx : p.tables.exec = Jvm.exec) (hb : c.code = cc) (hts : ∀ w ∈ Ts, w.before args s = true) (hin : ∀ w ∈ wsX10, w ∈ Ts) (hown : s.vm.findClass RX1 = some m.cls) (hK : va_K D vwCl [(cA, .int)] s) (hP : va_P D vwCl (wS cA a u) H) (hl : Cond.fieldLink RX1 16 "DoubtSale" "book1" "LDoubtSale$Book;" ∈ Ts) (hdg : decode cc pc = .ok (.getfield 16, 3)) (kk : W p l e R s m args below meth c H locs cells slots Q (F0 m (pc + 3) ls (.ref (bx a 1 0) :: rest))) : W p l e R s m args below meth c H locs cells slots Q (F0 m pc ls (.ref (a 0) :: rest)) := va_get (D := D) (ci := 1) (v := .ref (bx a 1 0)) (C := RX1) (T := TX1) (N := 8) hx hb hts hin hown hK hP 0 rfl rfl 1 (by decide) (hts _ hl) (fun _ h9 => h9) rfl hdg kk
theorem gtX1_book2 {u : StS} (hx : p.tables.exec = Jvm.exec) (hb : c.code = cc) (hts : ∀ w ∈ Ts, w.before args s = true) (hin : ∀ w ∈ wsX10, w ∈ Ts) (hown : s.vm.findClass RX1 = some m.cls) (hK : va_K D vwCl [(cA, .int)] s) (hP : va_P D vwCl (wS cA a u) H) (hl : Cond.fieldLink RX1 19 "DoubtSale" "book2" "LDoubtSale$Book;" ∈ Ts) (hdg : decode cc pc = .ok (.getfield 19, 3)) (kk : W p l e R s m args below meth c H locs cells slots Q (F0 m (pc + 3) ls (.ref (bx a 2 0) :: rest))) : W p l e R s m args below meth c H locs cells slots Q (F0 m pc ls (.ref (a 0) :: rest)) := va_get (D := D) (ci := 1) (v := .ref (bx a 2 0)) (C := RX1) (T := TX1) (N := 8) hx hb hts hin hown hK hP 0 rfl rfl 2 (by decide) (hts _ hl) (fun _ h9 => h9) rfl hdg kk
theorem gtX1_samples {u : StS} (hx : p.tables.exec = Jvm.exec) (hb : c.code = cc) (hts : ∀ w ∈ Ts, w.before args s = true) (hin : ∀ w ∈ wsX10, w ∈ Ts) (hown : s.vm.findClass RX1 = some m.cls) (hK : va_K D vwCl [(cA, .int)] s) (hP : va_P D vwCl (wS cA a u) H) (hl : Cond.fieldLink RX1 22 "DoubtSale" "samples" "[I" ∈ Ts) (hdg : decode cc pc = .ok (.getfield 22, 3)) (kk : W p l e R s m args below meth c H locs cells slots Q (F0 m (pc + 3) ls (.ref (a 16) :: rest))) : W p l e R s m args below meth c H locs cells slots Q (F0 m pc ls (.ref (a 0) :: rest)) := va_get (D := D) (ci := 1) (v := .ref (a 16)) (C := RX1) (T := TX1) (N := 8) hx hb hts hin hown hK hP 0 rfl rfl 3 (by decide) (hts _ hl) (fun _ h9 => h9) rfl hdg kk
theorem gtX1_buyerCount {u : StS} (hx : p.tables.exec = Jvm.exec) (hb : c.code = cc) (hts : ∀ w ∈ Ts, w.before args s = true) (hin : ∀ w ∈ wsX10, w ∈ Ts) (hown : s.vm.findClass RX1 = some m.cls) (hK : va_K D vwCl [(cA, .int)] s) (hP : va_P D vwCl (wS cA a u) H) (hl : Cond.fieldLink RX1 26 "DoubtSale" "buyerCount" "I" ∈ Ts) (hdg : decode cc pc = .ok (.getfield 26, 3)) (kk : W p l e R s m args below meth c H locs cells slots Q (F0 m (pc + 3) ls (.int (s_buyerCount u) :: rest))) : W p l e R s m args below meth c H locs cells slots Q (F0 m pc ls (.ref (a 0) :: rest)) := va_get (D := D) (ci := 1) (v := .int (s_buyerCount u)) (C := RX1) (T := TX1) (N := 8) hx hb hts hin hown hK hP 0 rfl rfl 4 (by decide) (hts _ hl) (fun _ h9 => h9) rfl hdg kk
theorem ptX1_buyerCount {u : StS} {x : Int32} (hx : p.tables.exec = Jvm.exec) (hb : c.code = cc) (hts : ∀ w ∈ Ts, w.before args s = true) (hin : ∀ w ∈ wsX10, w ∈ Ts) (hown : s.vm.findClass RX1 = some m.cls) (hK : va_K D vwCl [(cA, .int)] s) (hP : va_P D vwCl (wS cA a u) H) (hD : va_D A (wS cA a u)) (hS : va_S A H0 H locs) (hl : Cond.fieldLink RX1 26 "DoubtSale" "buyerCount" "I" ∈ Ts) (hdg : decode cc pc = .ok (.putfield 26, 3)) (kk : ∀ (H1 : Heap) (locs1 : List Loc), va_P D vwCl (wS cA a (s_set_buyerCount u x)) H1 → va_S A H0 H1 locs1 → W p l e R s m args below meth c H1 locs1 cells slots Q (F0 m (pc + 3) ls rest)) : W p l e R s m args below meth c H locs cells slots Q (F0 m pc ls (.int x :: .ref (a 0) :: rest)) := va_put (D := D) (ci := 1) (v := .int x) (ty := .int) (C := RX1) (T := TX1) (N := 8) hx hb hts hin tyX1 tyX1_ok nmX1 hown hK hP hD hS 0 rfl rfl 4 (by decide) (hts _ hl) (fun _ h9 => h9) rfl (by decide +kernel) rfl rfl (Nat.le_of_ble_eq_true rfl) hdg (fun H1 locs1 h1 _ h3 => kk H1 locs1 h1 h3)
theorem gtX1_sampleCount {u : StS} (hx : p.tables.exec = Jvm.exec) (hb : c.code = cc) (hts : ∀ w ∈ Ts, w.before args s = true) (hin : ∀ w ∈ wsX10, w ∈ Ts) (hown : s.vm.findClass RX1 = some m.cls) (hK : va_K D vwCl [(cA, .int)] s) (hP : va_P D vwCl (wS cA a u) H) (hl : Cond.fieldLink RX1 30 "DoubtSale" "sampleCount" "I" ∈ Ts) (hdg : decode cc pc = .ok (.getfield 30, 3)) (kk : W p l e R s m args below meth c H locs cells slots Q (F0 m (pc + 3) ls (.int (s_sampleCount u) :: rest))) : W p l e R s m args below meth c H locs cells slots Q (F0 m pc ls (.ref (a 0) :: rest)) := va_get (D := D) (ci := 1) (v := .int (s_sampleCount u)) (C := RX1) (T := TX1) (N := 8) hx hb hts hin hown hK hP 0 rfl rfl 5 (by decide) (hts _ hl) (fun _ h9 => h9) rfl hdg kk
theorem ptX1_sampleCount {u : StS} {x : Int32} (hx : p.tables.exec = Jvm.exec) (hb : c.code = cc) (hts : ∀ w ∈ Ts, w.before args s = true) (hin : ∀ w ∈ wsX10, w ∈ Ts) (hown : s.vm.findClass RX1 = some m.cls) (hK : va_K D vwCl [(cA, .int)] s) (hP : va_P D vwCl (wS cA a u) H) (hD : va_D A (wS cA a u)) (hS : va_S A H0 H locs) (hl : Cond.fieldLink RX1 30 "DoubtSale" "sampleCount" "I" ∈ Ts) (hdg : decode cc pc = .ok (.putfield 30, 3)) (kk : ∀ (H1 : Heap) (locs1 : List Loc), va_P D vwCl (wS cA a (s_set_sampleCount u x)) H1 → va_S A H0 H1 locs1 → W p l e R s m args below meth c H1 locs1 cells slots Q (F0 m (pc + 3) ls rest)) : W p l e R s m args below meth c H locs cells slots Q (F0 m pc ls (.int x :: .ref (a 0) :: rest)) := va_put (D := D) (ci := 1) (v := .int x) (ty := .int) (C := RX1) (T := TX1) (N := 8) hx hb hts hin tyX1 tyX1_ok nmX1 hown hK hP hD hS 0 rfl rfl 5 (by decide) (hts _ hl) (fun _ h9 => h9) rfl (by decide +kernel) rfl rfl (Nat.le_of_ble_eq_true rfl) hdg (fun H1 locs1 h1 _ h3 => kk H1 locs1 h1 h3)
theorem gtX1_reservePrice {u : StS} (hx : p.tables.exec = Jvm.exec) (hb : c.code = cc) (hts : ∀ w ∈ Ts, w.before args s = true) (hin : ∀ w ∈ wsX10, w ∈ Ts) (hown : s.vm.findClass RX1 = some m.cls) (hK : va_K D vwCl [(cA, .int)] s) (hP : va_P D vwCl (wS cA a u) H) (hl : Cond.fieldLink RX1 33 "DoubtSale" "reservePrice" "I" ∈ Ts) (hdg : decode cc pc = .ok (.getfield 33, 3)) (kk : W p l e R s m args below meth c H locs cells slots Q (F0 m (pc + 3) ls (.int (s_reservePrice u) :: rest))) : W p l e R s m args below meth c H locs cells slots Q (F0 m pc ls (.ref (a 0) :: rest)) := va_get (D := D) (ci := 1) (v := .int (s_reservePrice u)) (C := RX1) (T := TX1) (N := 8) hx hb hts hin hown hK hP 0 rfl rfl 6 (by decide) (hts _ hl) (fun _ h9 => h9) rfl hdg kk
theorem ptX1_reservePrice {u : StS} {x : Int32} (hx : p.tables.exec = Jvm.exec) (hb : c.code = cc) (hts : ∀ w ∈ Ts, w.before args s = true) (hin : ∀ w ∈ wsX10, w ∈ Ts) (hown : s.vm.findClass RX1 = some m.cls) (hK : va_K D vwCl [(cA, .int)] s) (hP : va_P D vwCl (wS cA a u) H) (hD : va_D A (wS cA a u)) (hS : va_S A H0 H locs) (hl : Cond.fieldLink RX1 33 "DoubtSale" "reservePrice" "I" ∈ Ts) (hdg : decode cc pc = .ok (.putfield 33, 3)) (kk : ∀ (H1 : Heap) (locs1 : List Loc), va_P D vwCl (wS cA a (s_set_reservePrice u x)) H1 → va_S A H0 H1 locs1 → W p l e R s m args below meth c H1 locs1 cells slots Q (F0 m (pc + 3) ls rest)) : W p l e R s m args below meth c H locs cells slots Q (F0 m pc ls (.int x :: .ref (a 0) :: rest)) := va_put (D := D) (ci := 1) (v := .int x) (ty := .int) (C := RX1) (T := TX1) (N := 8) hx hb hts hin tyX1 tyX1_ok nmX1 hown hK hP hD hS 0 rfl rfl 6 (by decide) (hts _ hl) (fun _ h9 => h9) rfl (by decide +kernel) rfl rfl (Nat.le_of_ble_eq_true rfl) hdg (fun H1 locs1 h1 _ h3 => kk H1 locs1 h1 h3)
theorem gtX1_traced {u : StS} (hx : p.tables.exec = Jvm.exec) (hb : c.code = cc) (hts : ∀ w ∈ Ts, w.before args s = true) (hin : ∀ w ∈ wsX10, w ∈ Ts) (hown : s.vm.findClass RX1 = some m.cls) (hK : va_K D vwCl [(cA, .int)] s) (hP : va_P D vwCl (wS cA a u) H) (hl : Cond.fieldLink RX1 36 "DoubtSale" "traced" "J" ∈ Ts) (hdg : decode cc pc = .ok (.getfield 36, 3)) (kk : W p l e R s m args below meth c H locs cells slots Q (F0 m (pc + 3) ls (.long (s_traced u) :: rest))) : W p l e R s m args below meth c H locs cells slots Q (F0 m pc ls (.ref (a 0) :: rest)) := va_get (D := D) (ci := 1) (v := .long (s_traced u)) (C := RX1) (T := TX1) (N := 8) hx hb hts hin hown hK hP 0 rfl rfl 7 (by decide) (hts _ hl) (fun _ h9 => h9) rfl hdg kk
theorem ptX1_traced {u : StS} {x : Int64} (hx : p.tables.exec = Jvm.exec) (hb : c.code = cc) (hts : ∀ w ∈ Ts, w.before args s = true) (hin : ∀ w ∈ wsX10, w ∈ Ts) (hown : s.vm.findClass RX1 = some m.cls) (hK : va_K D vwCl [(cA, .int)] s) (hP : va_P D vwCl (wS cA a u) H) (hD : va_D A (wS cA a u)) (hS : va_S A H0 H locs) (hl : Cond.fieldLink RX1 36 "DoubtSale" "traced" "J" ∈ Ts) (hdg : decode cc pc = .ok (.putfield 36, 3)) (kk : ∀ (H1 : Heap) (locs1 : List Loc), va_P D vwCl (wS cA a (s_set_traced u x)) H1 → va_S A H0 H1 locs1 → W p l e R s m args below meth c H1 locs1 cells slots Q (F0 m (pc + 3) ls rest)) : W p l e R s m args below meth c H locs cells slots Q (F0 m pc ls (.long x :: .ref (a 0) :: rest)) := va_put (D := D) (ci := 1) (v := .long x) (ty := .long) (C := RX1) (T := TX1) (N := 8) hx hb hts hin tyX1 tyX1_ok nmX1 hown hK hP hD hS 0 rfl rfl 7 (by decide) (hts _ hl) (fun _ h9 => h9) rfl (by decide +kernel) rfl rfl (Nat.le_of_ble_eq_true rfl) hdg (fun H1 locs1 h1 _ h3 => kk H1 locs1 h1 h3)
theorem alX1_samples {u : StS} {i : Int32} (hx : p.tables.exec = Jvm.exec) (hb : c.code = cc) (hK : va_K D vwCl [(cA, .int)] s) (hP : va_P D vwCl (wS cA a u) H) (hi : ¬ (i < 0 ∨ 12 ≤ i.toNatClampNeg)) (hdg : decode cc pc = .ok (.iaload, 1)) (kk : W p l e R s m args below meth c H locs cells slots Q (F0 m (pc + 1) ls (.int (s_samples u i.toNatClampNeg) :: rest))) : W p l e R s m args below meth c H locs cells slots Q (F0 m pc ls (.int i :: .ref (a 16) :: rest)) := va_iald (D := D) hx hb hK hP 16 0 rfl rfl hi hdg kk
theorem asX1_samples {u : StS} {i x : Int32} (hx : p.tables.exec = Jvm.exec) (hb : c.code = cc) (hK : va_K D vwCl [(cA, .int)] s) (hP : va_P D vwCl (wS cA a u) H) (hD : va_D A (wS cA a u)) (hS : va_S A H0 H locs) (hi : ¬ (i < 0 ∨ 12 ≤ i.toNatClampNeg)) (hdg : decode cc pc = .ok (.iastore, 1)) (kk : ∀ (H1 : Heap) (locs1 : List Loc), va_P D vwCl (wS cA a (s_set_samples u (upd (s_samples u) i.toNatClampNeg x))) H1 → va_S A H0 H1 locs1 → W p l e R s m args below meth c H1 locs1 cells slots Q (F0 m (pc + 1) ls rest)) : W p l e R s m args below meth c H locs cells slots Q (F0 m pc ls (.int x :: .int i :: .ref (a 16) :: rest)) := va_iast (D := D) hx hb hK hP hD hS 16 0 rfl rfl hi hdg (fun H1 locs1 h1 _ h3 => kk H1 locs1 h1 h3)
theorem gtX2_thrown {u : StM} (hx : p.tables.exec = Jvm.exec) (hb : c.code = cc) (hts : ∀ w ∈ Ts, w.before args s = true) (hin : ∀ w ∈ wsX20, w ∈ Ts) (hown : s.vm.findClass RX2 = some m.cls) (hK : va_K D vwCl [(cA, .int)] s) (hP : va_P D vwCl (wM cA a u) H) (hl : Cond.fieldLink RX2 38 "DoubtSaleModel" "thrown" "I" ∈ Ts) (hdg : decode cc pc = .ok (.getfield 38, 3)) (kk : W p l e R s m args below meth c H locs cells slots Q (F0 m (pc + 3) ls (.int (m_thrown u) :: rest))) : W p l e R s m args below meth c H locs cells slots Q (F0 m pc ls (.ref (a 0) :: rest)) := va_get (D := D) (ci := 2) (v := .int (m_thrown u)) (C := RX2) (T := TX2) (N := 14) hx hb hts hin hown hK hP 0 rfl rfl 0 (by decide) (hts _ hl) (fun _ h9 => h9) rfl hdg kk
theorem ptX2_thrown {u : StM} {x : Int32} (hx : p.tables.exec = Jvm.exec) (hb : c.code = cc) (hts : ∀ w ∈ Ts, w.before args s = true) (hin : ∀ w ∈ wsX20, w ∈ Ts) (hown : s.vm.findClass RX2 = some m.cls) (hK : va_K D vwCl [(cA, .int)] s) (hP : va_P D vwCl (wM cA a u) H) (hD : va_D A (wM cA a u)) (hS : va_S A H0 H locs) (hl : Cond.fieldLink RX2 38 "DoubtSaleModel" "thrown" "I" ∈ Ts) (hdg : decode cc pc = .ok (.putfield 38, 3)) (kk : ∀ (H1 : Heap) (locs1 : List Loc), va_P D vwCl (wM cA a (m_set_thrown u x)) H1 → va_S A H0 H1 locs1 → W p l e R s m args below meth c H1 locs1 cells slots Q (F0 m (pc + 3) ls rest)) : W p l e R s m args below meth c H locs cells slots Q (F0 m pc ls (.int x :: .ref (a 0) :: rest)) := va_put (D := D) (ci := 2) (v := .int x) (ty := .int) (C := RX2) (T := TX2) (N := 14) hx hb hts hin tyX2 tyX2_ok nmX2 hown hK hP hD hS 0 rfl rfl 0 (by decide) (hts _ hl) (fun _ h9 => h9) rfl (by decide +kernel) rfl rfl (Nat.le_of_ble_eq_true rfl) hdg (fun H1 locs1 h1 _ h3 => kk H1 locs1 h1 h3)
theorem gtX2_trace {u : StM} (hx : p.tables.exec = Jvm.exec) (hb : c.code = cc) (hts : ∀ w ∈ Ts, w.before args s = true) (hin : ∀ w ∈ wsX20, w ∈ Ts) (hown : s.vm.findClass RX2 = some m.cls) (hK : va_K D vwCl [(cA, .int)] s) (hP : va_P D vwCl (wM cA a u) H) (hl : Cond.fieldLink RX2 107 "DoubtSaleModel" "trace" "J" ∈ Ts) (hdg : decode cc pc = .ok (.getfield 107, 3)) (kk : W p l e R s m args below meth c H locs cells slots Q (F0 m (pc + 3) ls (.long (m_trace u) :: rest))) : W p l e R s m args below meth c H locs cells slots Q (F0 m pc ls (.ref (a 0) :: rest)) := va_get (D := D) (ci := 2) (v := .long (m_trace u)) (C := RX2) (T := TX2) (N := 14) hx hb hts hin hown hK hP 0 rfl rfl 1 (by decide) (hts _ hl) (fun _ h9 => h9) rfl hdg kk
theorem ptX2_trace {u : StM} {x : Int64} (hx : p.tables.exec = Jvm.exec) (hb : c.code = cc) (hts : ∀ w ∈ Ts, w.before args s = true) (hin : ∀ w ∈ wsX20, w ∈ Ts) (hown : s.vm.findClass RX2 = some m.cls) (hK : va_K D vwCl [(cA, .int)] s) (hP : va_P D vwCl (wM cA a u) H) (hD : va_D A (wM cA a u)) (hS : va_S A H0 H locs) (hl : Cond.fieldLink RX2 107 "DoubtSaleModel" "trace" "J" ∈ Ts) (hdg : decode cc pc = .ok (.putfield 107, 3)) (kk : ∀ (H1 : Heap) (locs1 : List Loc), va_P D vwCl (wM cA a (m_set_trace u x)) H1 → va_S A H0 H1 locs1 → W p l e R s m args below meth c H1 locs1 cells slots Q (F0 m (pc + 3) ls rest)) : W p l e R s m args below meth c H locs cells slots Q (F0 m pc ls (.long x :: .ref (a 0) :: rest)) := va_put (D := D) (ci := 2) (v := .long x) (ty := .long) (C := RX2) (T := TX2) (N := 14) hx hb hts hin tyX2 tyX2_ok nmX2 hown hK hP hD hS 0 rfl rfl 1 (by decide) (hts _ hl) (fun _ h9 => h9) rfl (by decide +kernel) rfl rfl (Nat.le_of_ble_eq_true rfl) hdg (fun H1 locs1 h1 _ h3 => kk H1 locs1 h1 h3)
theorem gtX2_n {u : StM} (hx : p.tables.exec = Jvm.exec) (hb : c.code = cc) (hts : ∀ w ∈ Ts, w.before args s = true) (hin : ∀ w ∈ wsX20, w ∈ Ts) (hown : s.vm.findClass RX2 = some m.cls) (hK : va_K D vwCl [(cA, .int)] s) (hP : va_P D vwCl (wM cA a u) H) (hl : Cond.fieldLink RX2 7 "DoubtSaleModel" "n" "I" ∈ Ts) (hdg : decode cc pc = .ok (.getfield 7, 3)) (kk : W p l e R s m args below meth c H locs cells slots Q (F0 m (pc + 3) ls (.int (m_n u) :: rest))) : W p l e R s m args below meth c H locs cells slots Q (F0 m pc ls (.ref (a 0) :: rest)) := va_get (D := D) (ci := 2) (v := .int (m_n u)) (C := RX2) (T := TX2) (N := 14) hx hb hts hin hown hK hP 0 rfl rfl 2 (by decide) (hts _ hl) (fun _ h9 => h9) rfl hdg kk
theorem ptX2_n {u : StM} {x : Int32} (hx : p.tables.exec = Jvm.exec) (hb : c.code = cc) (hts : ∀ w ∈ Ts, w.before args s = true) (hin : ∀ w ∈ wsX20, w ∈ Ts) (hown : s.vm.findClass RX2 = some m.cls) (hK : va_K D vwCl [(cA, .int)] s) (hP : va_P D vwCl (wM cA a u) H) (hD : va_D A (wM cA a u)) (hS : va_S A H0 H locs) (hl : Cond.fieldLink RX2 7 "DoubtSaleModel" "n" "I" ∈ Ts) (hdg : decode cc pc = .ok (.putfield 7, 3)) (kk : ∀ (H1 : Heap) (locs1 : List Loc), va_P D vwCl (wM cA a (m_set_n u x)) H1 → va_S A H0 H1 locs1 → W p l e R s m args below meth c H1 locs1 cells slots Q (F0 m (pc + 3) ls rest)) : W p l e R s m args below meth c H locs cells slots Q (F0 m pc ls (.int x :: .ref (a 0) :: rest)) := va_put (D := D) (ci := 2) (v := .int x) (ty := .int) (C := RX2) (T := TX2) (N := 14) hx hb hts hin tyX2 tyX2_ok nmX2 hown hK hP hD hS 0 rfl rfl 2 (by decide) (hts _ hl) (fun _ h9 => h9) rfl (by decide +kernel) rfl rfl (Nat.le_of_ble_eq_true rfl) hdg (fun H1 locs1 h1 _ h3 => kk H1 locs1 h1 h3)
theorem gtX2_many {u : StM} (hx : p.tables.exec = Jvm.exec) (hb : c.code = cc) (hts : ∀ w ∈ Ts, w.before args s = true) (hin : ∀ w ∈ wsX20, w ∈ Ts) (hown : s.vm.findClass RX2 = some m.cls) (hK : va_K D vwCl [(cA, .int)] s) (hP : va_P D vwCl (wM cA a u) H) (hl : Cond.fieldLink RX2 13 "DoubtSaleModel" "many" "[I" ∈ Ts) (hdg : decode cc pc = .ok (.getfield 13, 3)) (kk : W p l e R s m args below meth c H locs cells slots Q (F0 m (pc + 3) ls (.ref (a 1) :: rest))) : W p l e R s m args below meth c H locs cells slots Q (F0 m pc ls (.ref (a 0) :: rest)) := va_get (D := D) (ci := 2) (v := .ref (a 1)) (C := RX2) (T := TX2) (N := 14) hx hb hts hin hown hK hP 0 rfl rfl 3 (by decide) (hts _ hl) (fun _ h9 => h9) rfl hdg kk
theorem gtX2_worth {u : StM} (hx : p.tables.exec = Jvm.exec) (hb : c.code = cc) (hts : ∀ w ∈ Ts, w.before args s = true) (hin : ∀ w ∈ wsX20, w ∈ Ts) (hown : s.vm.findClass RX2 = some m.cls) (hK : va_K D vwCl [(cA, .int)] s) (hP : va_P D vwCl (wM cA a u) H) (hl : Cond.fieldLink RX2 17 "DoubtSaleModel" "worth" "[I" ∈ Ts) (hdg : decode cc pc = .ok (.getfield 17, 3)) (kk : W p l e R s m args below meth c H locs cells slots Q (F0 m (pc + 3) ls (.ref (a 2) :: rest))) : W p l e R s m args below meth c H locs cells slots Q (F0 m pc ls (.ref (a 0) :: rest)) := va_get (D := D) (ci := 2) (v := .ref (a 2)) (C := RX2) (T := TX2) (N := 14) hx hb hts hin hown hK hP 0 rfl rfl 4 (by decide) (hts _ hl) (fun _ h9 => h9) rfl hdg kk
theorem gtX2_weight {u : StM} (hx : p.tables.exec = Jvm.exec) (hb : c.code = cc) (hts : ∀ w ∈ Ts, w.before args s = true) (hin : ∀ w ∈ wsX20, w ∈ Ts) (hown : s.vm.findClass RX2 = some m.cls) (hK : va_K D vwCl [(cA, .int)] s) (hP : va_P D vwCl (wM cA a u) H) (hl : Cond.fieldLink RX2 20 "DoubtSaleModel" "weight" "[I" ∈ Ts) (hdg : decode cc pc = .ok (.getfield 20, 3)) (kk : W p l e R s m args below meth c H locs cells slots Q (F0 m (pc + 3) ls (.ref (a 3) :: rest))) : W p l e R s m args below meth c H locs cells slots Q (F0 m pc ls (.ref (a 0) :: rest)) := va_get (D := D) (ci := 2) (v := .ref (a 3)) (C := RX2) (T := TX2) (N := 14) hx hb hts hin hown hK hP 0 rfl rfl 5 (by decide) (hts _ hl) (fun _ h9 => h9) rfl hdg kk
theorem gtX2_reserve {u : StM} (hx : p.tables.exec = Jvm.exec) (hb : c.code = cc) (hts : ∀ w ∈ Ts, w.before args s = true) (hin : ∀ w ∈ wsX20, w ∈ Ts) (hown : s.vm.findClass RX2 = some m.cls) (hK : va_K D vwCl [(cA, .int)] s) (hP : va_P D vwCl (wM cA a u) H) (hl : Cond.fieldLink RX2 101 "DoubtSaleModel" "reserve" "I" ∈ Ts) (hdg : decode cc pc = .ok (.getfield 101, 3)) (kk : W p l e R s m args below meth c H locs cells slots Q (F0 m (pc + 3) ls (.int (m_reserve u) :: rest))) : W p l e R s m args below meth c H locs cells slots Q (F0 m pc ls (.ref (a 0) :: rest)) := va_get (D := D) (ci := 2) (v := .int (m_reserve u)) (C := RX2) (T := TX2) (N := 14) hx hb hts hin hown hK hP 0 rfl rfl 6 (by decide) (hts _ hl) (fun _ h9 => h9) rfl hdg kk
theorem ptX2_reserve {u : StM} {x : Int32} (hx : p.tables.exec = Jvm.exec) (hb : c.code = cc) (hts : ∀ w ∈ Ts, w.before args s = true) (hin : ∀ w ∈ wsX20, w ∈ Ts) (hown : s.vm.findClass RX2 = some m.cls) (hK : va_K D vwCl [(cA, .int)] s) (hP : va_P D vwCl (wM cA a u) H) (hD : va_D A (wM cA a u)) (hS : va_S A H0 H locs) (hl : Cond.fieldLink RX2 101 "DoubtSaleModel" "reserve" "I" ∈ Ts) (hdg : decode cc pc = .ok (.putfield 101, 3)) (kk : ∀ (H1 : Heap) (locs1 : List Loc), va_P D vwCl (wM cA a (m_set_reserve u x)) H1 → va_S A H0 H1 locs1 → W p l e R s m args below meth c H1 locs1 cells slots Q (F0 m (pc + 3) ls rest)) : W p l e R s m args below meth c H locs cells slots Q (F0 m pc ls (.int x :: .ref (a 0) :: rest)) := va_put (D := D) (ci := 2) (v := .int x) (ty := .int) (C := RX2) (T := TX2) (N := 14) hx hb hts hin tyX2 tyX2_ok nmX2 hown hK hP hD hS 0 rfl rfl 6 (by decide) (hts _ hl) (fun _ h9 => h9) rfl (by decide +kernel) rfl rfl (Nat.le_of_ble_eq_true rfl) hdg (fun H1 locs1 h1 _ h3 => kk H1 locs1 h1 h3)
theorem gtX2_samples {u : StM} (hx : p.tables.exec = Jvm.exec) (hb : c.code = cc) (hts : ∀ w ∈ Ts, w.before args s = true) (hin : ∀ w ∈ wsX20, w ∈ Ts) (hown : s.vm.findClass RX2 = some m.cls) (hK : va_K D vwCl [(cA, .int)] s) (hP : va_P D vwCl (wM cA a u) H) (hl : Cond.fieldLink RX2 120 "DoubtSaleModel" "samples" "I" ∈ Ts) (hdg : decode cc pc = .ok (.getfield 120, 3)) (kk : W p l e R s m args below meth c H locs cells slots Q (F0 m (pc + 3) ls (.int (m_samples u) :: rest))) : W p l e R s m args below meth c H locs cells slots Q (F0 m pc ls (.ref (a 0) :: rest)) := va_get (D := D) (ci := 2) (v := .int (m_samples u)) (C := RX2) (T := TX2) (N := 14) hx hb hts hin hown hK hP 0 rfl rfl 7 (by decide) (hts _ hl) (fun _ h9 => h9) rfl hdg kk
theorem ptX2_samples {u : StM} {x : Int32} (hx : p.tables.exec = Jvm.exec) (hb : c.code = cc) (hts : ∀ w ∈ Ts, w.before args s = true) (hin : ∀ w ∈ wsX20, w ∈ Ts) (hown : s.vm.findClass RX2 = some m.cls) (hK : va_K D vwCl [(cA, .int)] s) (hP : va_P D vwCl (wM cA a u) H) (hD : va_D A (wM cA a u)) (hS : va_S A H0 H locs) (hl : Cond.fieldLink RX2 120 "DoubtSaleModel" "samples" "I" ∈ Ts) (hdg : decode cc pc = .ok (.putfield 120, 3)) (kk : ∀ (H1 : Heap) (locs1 : List Loc), va_P D vwCl (wM cA a (m_set_samples u x)) H1 → va_S A H0 H1 locs1 → W p l e R s m args below meth c H1 locs1 cells slots Q (F0 m (pc + 3) ls rest)) : W p l e R s m args below meth c H locs cells slots Q (F0 m pc ls (.int x :: .ref (a 0) :: rest)) := va_put (D := D) (ci := 2) (v := .int x) (ty := .int) (C := RX2) (T := TX2) (N := 14) hx hb hts hin tyX2 tyX2_ok nmX2 hown hK hP hD hS 0 rfl rfl 7 (by decide) (hts _ hl) (fun _ h9 => h9) rfl (by decide +kernel) rfl rfl (Nat.le_of_ble_eq_true rfl) hdg (fun H1 locs1 h1 _ h3 => kk H1 locs1 h1 h3)
theorem gtX2_sample {u : StM} (hx : p.tables.exec = Jvm.exec) (hb : c.code = cc) (hts : ∀ w ∈ Ts, w.before args s = true) (hin : ∀ w ∈ wsX20, w ∈ Ts) (hown : s.vm.findClass RX2 = some m.cls) (hK : va_K D vwCl [(cA, .int)] s) (hP : va_P D vwCl (wM cA a u) H) (hl : Cond.fieldLink RX2 23 "DoubtSaleModel" "sample" "[I" ∈ Ts) (hdg : decode cc pc = .ok (.getfield 23, 3)) (kk : W p l e R s m args below meth c H locs cells slots Q (F0 m (pc + 3) ls (.ref (a 4) :: rest))) : W p l e R s m args below meth c H locs cells slots Q (F0 m pc ls (.ref (a 0) :: rest)) := va_get (D := D) (ci := 2) (v := .ref (a 4)) (C := RX2) (T := TX2) (N := 14) hx hb hts hin hown hK hP 0 rfl rfl 8 (by decide) (hts _ hl) (fun _ h9 => h9) rfl hdg kk
theorem gtX2_upper {u : StM} (hx : p.tables.exec = Jvm.exec) (hb : c.code = cc) (hts : ∀ w ∈ Ts, w.before args s = true) (hin : ∀ w ∈ wsX20, w ∈ Ts) (hown : s.vm.findClass RX2 = some m.cls) (hK : va_K D vwCl [(cA, .int)] s) (hP : va_P D vwCl (wM cA a u) H) (hl : Cond.fieldLink RX2 64 "DoubtSaleModel" "upper" "J" ∈ Ts) (hdg : decode cc pc = .ok (.getfield 64, 3)) (kk : W p l e R s m args below meth c H locs cells slots Q (F0 m (pc + 3) ls (.long (m_upper u) :: rest))) : W p l e R s m args below meth c H locs cells slots Q (F0 m pc ls (.ref (a 0) :: rest)) := va_get (D := D) (ci := 2) (v := .long (m_upper u)) (C := RX2) (T := TX2) (N := 14) hx hb hts hin hown hK hP 0 rfl rfl 9 (by decide) (hts _ hl) (fun _ h9 => h9) rfl hdg kk
theorem ptX2_upper {u : StM} {x : Int64} (hx : p.tables.exec = Jvm.exec) (hb : c.code = cc) (hts : ∀ w ∈ Ts, w.before args s = true) (hin : ∀ w ∈ wsX20, w ∈ Ts) (hown : s.vm.findClass RX2 = some m.cls) (hK : va_K D vwCl [(cA, .int)] s) (hP : va_P D vwCl (wM cA a u) H) (hD : va_D A (wM cA a u)) (hS : va_S A H0 H locs) (hl : Cond.fieldLink RX2 64 "DoubtSaleModel" "upper" "J" ∈ Ts) (hdg : decode cc pc = .ok (.putfield 64, 3)) (kk : ∀ (H1 : Heap) (locs1 : List Loc), va_P D vwCl (wM cA a (m_set_upper u x)) H1 → va_S A H0 H1 locs1 → W p l e R s m args below meth c H1 locs1 cells slots Q (F0 m (pc + 3) ls rest)) : W p l e R s m args below meth c H locs cells slots Q (F0 m pc ls (.long x :: .ref (a 0) :: rest)) := va_put (D := D) (ci := 2) (v := .long x) (ty := .long) (C := RX2) (T := TX2) (N := 14) hx hb hts hin tyX2 tyX2_ok nmX2 hown hK hP hD hS 0 rfl rfl 9 (by decide) (hts _ hl) (fun _ h9 => h9) rfl (by decide +kernel) rfl rfl (Nat.le_of_ble_eq_true rfl) hdg (fun H1 locs1 h1 _ h3 => kk H1 locs1 h1 h3)
theorem gtX2_lower {u : StM} (hx : p.tables.exec = Jvm.exec) (hb : c.code = cc) (hts : ∀ w ∈ Ts, w.before args s = true) (hin : ∀ w ∈ wsX20, w ∈ Ts) (hown : s.vm.findClass RX2 = some m.cls) (hK : va_K D vwCl [(cA, .int)] s) (hP : va_P D vwCl (wM cA a u) H) (hl : Cond.fieldLink RX2 68 "DoubtSaleModel" "lower" "J" ∈ Ts) (hdg : decode cc pc = .ok (.getfield 68, 3)) (kk : W p l e R s m args below meth c H locs cells slots Q (F0 m (pc + 3) ls (.long (m_lower u) :: rest))) : W p l e R s m args below meth c H locs cells slots Q (F0 m pc ls (.ref (a 0) :: rest)) := va_get (D := D) (ci := 2) (v := .long (m_lower u)) (C := RX2) (T := TX2) (N := 14) hx hb hts hin hown hK hP 0 rfl rfl 10 (by decide) (hts _ hl) (fun _ h9 => h9) rfl hdg kk
theorem ptX2_lower {u : StM} {x : Int64} (hx : p.tables.exec = Jvm.exec) (hb : c.code = cc) (hts : ∀ w ∈ Ts, w.before args s = true) (hin : ∀ w ∈ wsX20, w ∈ Ts) (hown : s.vm.findClass RX2 = some m.cls) (hK : va_K D vwCl [(cA, .int)] s) (hP : va_P D vwCl (wM cA a u) H) (hD : va_D A (wM cA a u)) (hS : va_S A H0 H locs) (hl : Cond.fieldLink RX2 68 "DoubtSaleModel" "lower" "J" ∈ Ts) (hdg : decode cc pc = .ok (.putfield 68, 3)) (kk : ∀ (H1 : Heap) (locs1 : List Loc), va_P D vwCl (wM cA a (m_set_lower u x)) H1 → va_S A H0 H1 locs1 → W p l e R s m args below meth c H1 locs1 cells slots Q (F0 m (pc + 3) ls rest)) : W p l e R s m args below meth c H locs cells slots Q (F0 m pc ls (.long x :: .ref (a 0) :: rest)) := va_put (D := D) (ci := 2) (v := .long x) (ty := .long) (C := RX2) (T := TX2) (N := 14) hx hb hts hin tyX2 tyX2_ok nmX2 hown hK hP hD hS 0 rfl rfl 10 (by decide) (hts _ hl) (fun _ h9 => h9) rfl (by decide +kernel) rfl rfl (Nat.le_of_ble_eq_true rfl) hdg (fun H1 locs1 h1 _ h3 => kk H1 locs1 h1 h3)
theorem gtX2_place {u : StM} (hx : p.tables.exec = Jvm.exec) (hb : c.code = cc) (hts : ∀ w ∈ Ts, w.before args s = true) (hin : ∀ w ∈ wsX20, w ∈ Ts) (hown : s.vm.findClass RX2 = some m.cls) (hK : va_K D vwCl [(cA, .int)] s) (hP : va_P D vwCl (wM cA a u) H) (hl : Cond.fieldLink RX2 26 "DoubtSaleModel" "place" "[I" ∈ Ts) (hdg : decode cc pc = .ok (.getfield 26, 3)) (kk : W p l e R s m args below meth c H locs cells slots Q (F0 m (pc + 3) ls (.ref (a 5) :: rest))) : W p l e R s m args below meth c H locs cells slots Q (F0 m pc ls (.ref (a 0) :: rest)) := va_get (D := D) (ci := 2) (v := .ref (a 5)) (C := RX2) (T := TX2) (N := 14) hx hb hts hin hown hK hP 0 rfl rfl 11 (by decide) (hts _ hl) (fun _ h9 => h9) rfl hdg kk
theorem gtX2_told {u : StM} (hx : p.tables.exec = Jvm.exec) (hb : c.code = cc) (hts : ∀ w ∈ Ts, w.before args s = true) (hin : ∀ w ∈ wsX20, w ∈ Ts) (hown : s.vm.findClass RX2 = some m.cls) (hK : va_K D vwCl [(cA, .int)] s) (hP : va_P D vwCl (wM cA a u) H) (hl : Cond.fieldLink RX2 29 "DoubtSaleModel" "told" "[I" ∈ Ts) (hdg : decode cc pc = .ok (.getfield 29, 3)) (kk : W p l e R s m args below meth c H locs cells slots Q (F0 m (pc + 3) ls (.ref (a 6) :: rest))) : W p l e R s m args below meth c H locs cells slots Q (F0 m pc ls (.ref (a 0) :: rest)) := va_get (D := D) (ci := 2) (v := .ref (a 6)) (C := RX2) (T := TX2) (N := 14) hx hb hts hin hown hK hP 0 rfl rfl 12 (by decide) (hts _ hl) (fun _ h9 => h9) rfl hdg kk
theorem gtX2_price {u : StM} (hx : p.tables.exec = Jvm.exec) (hb : c.code = cc) (hts : ∀ w ∈ Ts, w.before args s = true) (hin : ∀ w ∈ wsX20, w ∈ Ts) (hown : s.vm.findClass RX2 = some m.cls) (hK : va_K D vwCl [(cA, .int)] s) (hP : va_P D vwCl (wM cA a u) H) (hl : Cond.fieldLink RX2 32 "DoubtSaleModel" "price" "[I" ∈ Ts) (hdg : decode cc pc = .ok (.getfield 32, 3)) (kk : W p l e R s m args below meth c H locs cells slots Q (F0 m (pc + 3) ls (.ref (a 7) :: rest))) : W p l e R s m args below meth c H locs cells slots Q (F0 m pc ls (.ref (a 0) :: rest)) := va_get (D := D) (ci := 2) (v := .ref (a 7)) (C := RX2) (T := TX2) (N := 14) hx hb hts hin hown hK hP 0 rfl rfl 13 (by decide) (hts _ hl) (fun _ h9 => h9) rfl hdg kk
theorem alX2_many {u : StM} {i : Int32} (hx : p.tables.exec = Jvm.exec) (hb : c.code = cc) (hK : va_K D vwCl [(cA, .int)] s) (hP : va_P D vwCl (wM cA a u) H) (hi : ¬ (i < 0 ∨ 3 ≤ i.toNatClampNeg)) (hdg : decode cc pc = .ok (.iaload, 1)) (kk : W p l e R s m args below meth c H locs cells slots Q (F0 m (pc + 1) ls (.int (m_many u i.toNatClampNeg) :: rest))) : W p l e R s m args below meth c H locs cells slots Q (F0 m pc ls (.int i :: .ref (a 1) :: rest)) := va_iald (D := D) hx hb hK hP 1 0 rfl rfl hi hdg kk
theorem asX2_many {u : StM} {i x : Int32} (hx : p.tables.exec = Jvm.exec) (hb : c.code = cc) (hK : va_K D vwCl [(cA, .int)] s) (hP : va_P D vwCl (wM cA a u) H) (hD : va_D A (wM cA a u)) (hS : va_S A H0 H locs) (hi : ¬ (i < 0 ∨ 3 ≤ i.toNatClampNeg)) (hdg : decode cc pc = .ok (.iastore, 1)) (kk : ∀ (H1 : Heap) (locs1 : List Loc), va_P D vwCl (wM cA a (m_set_many u (upd (m_many u) i.toNatClampNeg x))) H1 → va_S A H0 H1 locs1 → W p l e R s m args below meth c H1 locs1 cells slots Q (F0 m (pc + 1) ls rest)) : W p l e R s m args below meth c H locs cells slots Q (F0 m pc ls (.int x :: .int i :: .ref (a 1) :: rest)) := va_iast (D := D) hx hb hK hP hD hS 1 0 rfl rfl hi hdg (fun H1 locs1 h1 _ h3 => kk H1 locs1 h1 h3)
theorem alX2_worth {u : StM} {i : Int32} (hx : p.tables.exec = Jvm.exec) (hb : c.code = cc) (hK : va_K D vwCl [(cA, .int)] s) (hP : va_P D vwCl (wM cA a u) H) (hi : ¬ (i < 0 ∨ 15 ≤ i.toNatClampNeg)) (hdg : decode cc pc = .ok (.iaload, 1)) (kk : W p l e R s m args below meth c H locs cells slots Q (F0 m (pc + 1) ls (.int (m_worth u i.toNatClampNeg) :: rest))) : W p l e R s m args below meth c H locs cells slots Q (F0 m pc ls (.int i :: .ref (a 2) :: rest)) := va_iald (D := D) hx hb hK hP 2 0 rfl rfl hi hdg kk
theorem asX2_worth {u : StM} {i x : Int32} (hx : p.tables.exec = Jvm.exec) (hb : c.code = cc) (hK : va_K D vwCl [(cA, .int)] s) (hP : va_P D vwCl (wM cA a u) H) (hD : va_D A (wM cA a u)) (hS : va_S A H0 H locs) (hi : ¬ (i < 0 ∨ 15 ≤ i.toNatClampNeg)) (hdg : decode cc pc = .ok (.iastore, 1)) (kk : ∀ (H1 : Heap) (locs1 : List Loc), va_P D vwCl (wM cA a (m_set_worth u (upd (m_worth u) i.toNatClampNeg x))) H1 → va_S A H0 H1 locs1 → W p l e R s m args below meth c H1 locs1 cells slots Q (F0 m (pc + 1) ls rest)) : W p l e R s m args below meth c H locs cells slots Q (F0 m pc ls (.int x :: .int i :: .ref (a 2) :: rest)) := va_iast (D := D) hx hb hK hP hD hS 2 0 rfl rfl hi hdg (fun H1 locs1 h1 _ h3 => kk H1 locs1 h1 h3)
theorem alX2_weight {u : StM} {i : Int32} (hx : p.tables.exec = Jvm.exec) (hb : c.code = cc) (hK : va_K D vwCl [(cA, .int)] s) (hP : va_P D vwCl (wM cA a u) H) (hi : ¬ (i < 0 ∨ 15 ≤ i.toNatClampNeg)) (hdg : decode cc pc = .ok (.iaload, 1)) (kk : W p l e R s m args below meth c H locs cells slots Q (F0 m (pc + 1) ls (.int (m_weight u i.toNatClampNeg) :: rest))) : W p l e R s m args below meth c H locs cells slots Q (F0 m pc ls (.int i :: .ref (a 3) :: rest)) := va_iald (D := D) hx hb hK hP 3 0 rfl rfl hi hdg kk
theorem asX2_weight {u : StM} {i x : Int32} (hx : p.tables.exec = Jvm.exec) (hb : c.code = cc) (hK : va_K D vwCl [(cA, .int)] s) (hP : va_P D vwCl (wM cA a u) H) (hD : va_D A (wM cA a u)) (hS : va_S A H0 H locs) (hi : ¬ (i < 0 ∨ 15 ≤ i.toNatClampNeg)) (hdg : decode cc pc = .ok (.iastore, 1)) (kk : ∀ (H1 : Heap) (locs1 : List Loc), va_P D vwCl (wM cA a (m_set_weight u (upd (m_weight u) i.toNatClampNeg x))) H1 → va_S A H0 H1 locs1 → W p l e R s m args below meth c H1 locs1 cells slots Q (F0 m (pc + 1) ls rest)) : W p l e R s m args below meth c H locs cells slots Q (F0 m pc ls (.int x :: .int i :: .ref (a 3) :: rest)) := va_iast (D := D) hx hb hK hP hD hS 3 0 rfl rfl hi hdg (fun H1 locs1 h1 _ h3 => kk H1 locs1 h1 h3)
theorem alX2_sample {u : StM} {i : Int32} (hx : p.tables.exec = Jvm.exec) (hb : c.code = cc) (hK : va_K D vwCl [(cA, .int)] s) (hP : va_P D vwCl (wM cA a u) H) (hi : ¬ (i < 0 ∨ 12 ≤ i.toNatClampNeg)) (hdg : decode cc pc = .ok (.iaload, 1)) (kk : W p l e R s m args below meth c H locs cells slots Q (F0 m (pc + 1) ls (.int (m_sample u i.toNatClampNeg) :: rest))) : W p l e R s m args below meth c H locs cells slots Q (F0 m pc ls (.int i :: .ref (a 4) :: rest)) := va_iald (D := D) hx hb hK hP 4 0 rfl rfl hi hdg kk
theorem asX2_sample {u : StM} {i x : Int32} (hx : p.tables.exec = Jvm.exec) (hb : c.code = cc) (hK : va_K D vwCl [(cA, .int)] s) (hP : va_P D vwCl (wM cA a u) H) (hD : va_D A (wM cA a u)) (hS : va_S A H0 H locs) (hi : ¬ (i < 0 ∨ 12 ≤ i.toNatClampNeg)) (hdg : decode cc pc = .ok (.iastore, 1)) (kk : ∀ (H1 : Heap) (locs1 : List Loc), va_P D vwCl (wM cA a (m_set_sample u (upd (m_sample u) i.toNatClampNeg x))) H1 → va_S A H0 H1 locs1 → W p l e R s m args below meth c H1 locs1 cells slots Q (F0 m (pc + 1) ls rest)) : W p l e R s m args below meth c H locs cells slots Q (F0 m pc ls (.int x :: .int i :: .ref (a 4) :: rest)) := va_iast (D := D) hx hb hK hP hD hS 4 0 rfl rfl hi hdg (fun H1 locs1 h1 _ h3 => kk H1 locs1 h1 h3)
theorem alX2_place {u : StM} {i : Int32} (hx : p.tables.exec = Jvm.exec) (hb : c.code = cc) (hK : va_K D vwCl [(cA, .int)] s) (hP : va_P D vwCl (wM cA a u) H) (hi : ¬ (i < 0 ∨ 3 ≤ i.toNatClampNeg)) (hdg : decode cc pc = .ok (.iaload, 1)) (kk : W p l e R s m args below meth c H locs cells slots Q (F0 m (pc + 1) ls (.int (m_place u i.toNatClampNeg) :: rest))) : W p l e R s m args below meth c H locs cells slots Q (F0 m pc ls (.int i :: .ref (a 5) :: rest)) := va_iald (D := D) hx hb hK hP 5 0 rfl rfl hi hdg kk
theorem asX2_place {u : StM} {i x : Int32} (hx : p.tables.exec = Jvm.exec) (hb : c.code = cc) (hK : va_K D vwCl [(cA, .int)] s) (hP : va_P D vwCl (wM cA a u) H) (hD : va_D A (wM cA a u)) (hS : va_S A H0 H locs) (hi : ¬ (i < 0 ∨ 3 ≤ i.toNatClampNeg)) (hdg : decode cc pc = .ok (.iastore, 1)) (kk : ∀ (H1 : Heap) (locs1 : List Loc), va_P D vwCl (wM cA a (m_set_place u (upd (m_place u) i.toNatClampNeg x))) H1 → va_S A H0 H1 locs1 → W p l e R s m args below meth c H1 locs1 cells slots Q (F0 m (pc + 1) ls rest)) : W p l e R s m args below meth c H locs cells slots Q (F0 m pc ls (.int x :: .int i :: .ref (a 5) :: rest)) := va_iast (D := D) hx hb hK hP hD hS 5 0 rfl rfl hi hdg (fun H1 locs1 h1 _ h3 => kk H1 locs1 h1 h3)
theorem alX2_told {u : StM} {i : Int32} (hx : p.tables.exec = Jvm.exec) (hb : c.code = cc) (hK : va_K D vwCl [(cA, .int)] s) (hP : va_P D vwCl (wM cA a u) H) (hi : ¬ (i < 0 ∨ 3 ≤ i.toNatClampNeg)) (hdg : decode cc pc = .ok (.iaload, 1)) (kk : W p l e R s m args below meth c H locs cells slots Q (F0 m (pc + 1) ls (.int (m_told u i.toNatClampNeg) :: rest))) : W p l e R s m args below meth c H locs cells slots Q (F0 m pc ls (.int i :: .ref (a 6) :: rest)) := va_iald (D := D) hx hb hK hP 6 0 rfl rfl hi hdg kk
theorem asX2_told {u : StM} {i x : Int32} (hx : p.tables.exec = Jvm.exec) (hb : c.code = cc) (hK : va_K D vwCl [(cA, .int)] s) (hP : va_P D vwCl (wM cA a u) H) (hD : va_D A (wM cA a u)) (hS : va_S A H0 H locs) (hi : ¬ (i < 0 ∨ 3 ≤ i.toNatClampNeg)) (hdg : decode cc pc = .ok (.iastore, 1)) (kk : ∀ (H1 : Heap) (locs1 : List Loc), va_P D vwCl (wM cA a (m_set_told u (upd (m_told u) i.toNatClampNeg x))) H1 → va_S A H0 H1 locs1 → W p l e R s m args below meth c H1 locs1 cells slots Q (F0 m (pc + 1) ls rest)) : W p l e R s m args below meth c H locs cells slots Q (F0 m pc ls (.int x :: .int i :: .ref (a 6) :: rest)) := va_iast (D := D) hx hb hK hP hD hS 6 0 rfl rfl hi hdg (fun H1 locs1 h1 _ h3 => kk H1 locs1 h1 h3)
theorem alX2_price {u : StM} {i : Int32} (hx : p.tables.exec = Jvm.exec) (hb : c.code = cc) (hK : va_K D vwCl [(cA, .int)] s) (hP : va_P D vwCl (wM cA a u) H) (hi : ¬ (i < 0 ∨ 3 ≤ i.toNatClampNeg)) (hdg : decode cc pc = .ok (.iaload, 1)) (kk : W p l e R s m args below meth c H locs cells slots Q (F0 m (pc + 1) ls (.int (m_price u i.toNatClampNeg) :: rest))) : W p l e R s m args below meth c H locs cells slots Q (F0 m pc ls (.int i :: .ref (a 7) :: rest)) := va_iald (D := D) hx hb hK hP 7 0 rfl rfl hi hdg kk
theorem asX2_price {u : StM} {i x : Int32} (hx : p.tables.exec = Jvm.exec) (hb : c.code = cc) (hK : va_K D vwCl [(cA, .int)] s) (hP : va_P D vwCl (wM cA a u) H) (hD : va_D A (wM cA a u)) (hS : va_S A H0 H locs) (hi : ¬ (i < 0 ∨ 3 ≤ i.toNatClampNeg)) (hdg : decode cc pc = .ok (.iastore, 1)) (kk : ∀ (H1 : Heap) (locs1 : List Loc), va_P D vwCl (wM cA a (m_set_price u (upd (m_price u) i.toNatClampNeg x))) H1 → va_S A H0 H1 locs1 → W p l e R s m args below meth c H1 locs1 cells slots Q (F0 m (pc + 1) ls rest)) : W p l e R s m args below meth c H locs cells slots Q (F0 m pc ls (.int x :: .int i :: .ref (a 7) :: rest)) := va_iast (D := D) hx hb hK hP hD hS 7 0 rfl rfl hi hdg (fun H1 locs1 h1 _ h3 => kk H1 locs1 h1 h3)
theorem gnX0_size {u : StB} (hx : p.tables.exec = Jvm.exec) (hb : c.code = cc) (hts : ∀ w ∈ Ts, w.before args s = true) (hin : ∀ w ∈ wsX00, w ∈ Ts) (hown : s.vm.findClass RX1 = some m.cls) (hK : va_K D vwCl [(cA, .int)] s) (hZ : va_Nw nestW s) (hP : va_P D vwCl (wB cA a u) H) (hdg : decode cc pc = .ok (.getfield 58, 3)) (kk : W p l e R s m args below meth c H locs cells slots Q (F0 m (pc + 3) ls (.int (b_size u) :: rest))) : W p l e R s m args below meth c H locs cells slots Q (F0 m pc ls (.ref (a 0) :: rest)) := va_getN (D := D) (ci := 0) (v := .int (b_size u)) (C := RX0) (T := TX0) (N := 5) (host := RX1) (ref := RX0) hx hb hts hin hown hK hP 0 rfl rfl 4 (by decide) (va_Nw.use rfl hZ) (fun _ h9 => h9) rfl hdg kk
theorem rcall_i {r : Int32} {aa : Array Value} {st0 : List Value} (hr : CallRun p l e R s m args below meth c H locs cells slots 0 0 (F0 m pc ls st0) rest (vp_Si (fun x => x = r) aa) (fun _ => False)) (kk : W p l e R s m args below meth c H locs cells slots Q (F0 m (pc + 3) ls (.int r :: rest))) : W p l e R s m args below meth c H locs cells slots Q (F0 m pc ls st0) := vp_callSi hr (fun x h => by rw [show x = r from h]; exact kk)
theorem rcall_l {r : Int64} {aa : Array Value} {st0 : List Value} (hr : CallRun p l e R s m args below meth c H locs cells slots 0 0 (F0 m pc ls st0) rest (vp_Sl (fun x => x = r) aa) (fun _ => False)) (kk : W p l e R s m args below meth c H locs cells slots Q (F0 m (pc + 3) ls (.long r :: rest))) : W p l e R s m args below meth c H locs cells slots Q (F0 m pc ls st0) := vp_callSl hr (fun x h => by rw [show x = r from h]; exact kk)
theorem rcall_r {r : Nat} {ad : Nat → Value} {aa : Array Value} {st0 : List Value} (hr : CallRun p l e R s m args below meth c H locs cells slots 0 0 (F0 m pc ls st0) rest (va_Sr (fun x => x = r) ad aa) (fun _ => False)) (kk : W p l e R s m args below meth c H locs cells slots Q (F0 m (pc + 3) ls (ad r :: rest))) : W p l e R s m args below meth c H locs cells slots Q (F0 m pc ls st0) := va_csr hr (fun x h => by rw [show x = r from h]; exact kk)
theorem wcall_i {St : Type} {wf : St → va_W} {r : Int32} {u1 : St} {A1 : Nat → Prop} {aa : Array Value} {st0 : List Value} (hr : va_Run p l e R s m args below meth c H locs cells slots 0 0 (F0 m pc ls st0) rest (va_Qi (fun (x : Int32) (u : St) => (x, u) = (r, u1)) (fun u t => va_P D vwCl (wf u) t.heap) A1 aa) A1) (hS : va_S A H0 H locs) (hA : ∀ q, A1 q → A q) (kk : ∀ (H1 : Heap) (locs1 : List Loc), va_P D vwCl (wf u1) H1 → (∀ q : Nat, q < H.size → ¬ A1 q → H1[q]? = H[q]?) → va_S A H0 H1 locs1 → W p l e R s m args below meth c H1 locs1 cells slots Q (F0 m (pc + 3) ls (.int r :: rest))) : W p l e R s m args below meth c H locs cells slots Q (F0 m pc ls st0) := va_calli hr hS (fun q _ h => hA q h) hA (fun x u t H1 locs1 ht _ hp hB _ hk hS1 => by
  cases hp
  exact kk H1 locs1 (by rw [← ht]; exact hB) hk hS1)
theorem wcall_l {St : Type} {wf : St → va_W} {r : Int64} {u1 : St} {A1 : Nat → Prop} {aa : Array Value} {st0 : List Value} (hr : va_Run p l e R s m args below meth c H locs cells slots 0 0 (F0 m pc ls st0) rest (va_Ql (fun (x : Int64) (u : St) => (x, u) = (r, u1)) (fun u t => va_P D vwCl (wf u) t.heap) A1 aa) A1) (hS : va_S A H0 H locs) (hA : ∀ q, A1 q → A q) (kk : ∀ (H1 : Heap) (locs1 : List Loc), va_P D vwCl (wf u1) H1 → (∀ q : Nat, q < H.size → ¬ A1 q → H1[q]? = H[q]?) → va_S A H0 H1 locs1 → W p l e R s m args below meth c H1 locs1 cells slots Q (F0 m (pc + 3) ls (.long r :: rest))) : W p l e R s m args below meth c H locs cells slots Q (F0 m pc ls st0) := va_calll hr hS (fun q _ h => hA q h) hA (fun x u t H1 locs1 ht _ hp hB _ hk hS1 => by
  cases hp
  exact kk H1 locs1 (by rw [← ht]; exact hB) hk hS1)
theorem wcall_v {St : Type} {wf : St → va_W} {u1 : St} {A1 : Nat → Prop} {aa : Array Value} {st0 : List Value} (hr : va_Run p l e R s m args below meth c H locs cells slots 0 0 (F0 m pc ls st0) rest (va_Qv (fun (u : St) => u = u1) (fun u t => va_P D vwCl (wf u) t.heap) A1 aa) A1) (hS : va_S A H0 H locs) (hA : ∀ q, A1 q → A q) (kk : ∀ (H1 : Heap) (locs1 : List Loc), va_P D vwCl (wf u1) H1 → (∀ q : Nat, q < H.size → ¬ A1 q → H1[q]? = H[q]?) → va_S A H0 H1 locs1 → W p l e R s m args below meth c H1 locs1 cells slots Q (F0 m (pc + 3) ls rest)) : W p l e R s m args below meth c H locs cells slots Q (F0 m pc ls st0) := va_callv hr hS (fun q _ h => hA q h) hA (fun u t H1 locs1 ht _ hp hB _ hk hS1 => by
  cases hp
  exact kk H1 locs1 (by rw [← ht]; exact hB) hk hS1)
end RW
section FR
variable {l : Launch} {y : MethodName} {ws ws' : List Cond} {rm : Room} {av : List Value} {D : va_G} {cA : ClassId} {wss : List va_W} {cc : ByteArray} {maxL : Nat} {own : String}
theorem ro_i {v : Int32} (hy : plainName y.cls = true) (hw : ws = Cond.code y cc maxL (some .int) :: ws') (ho : y.cls = own) (hlen : (lg_sl av).length ≤ maxL) (body : ∀ (p : Program) (e : Env) (s : State) (m : MethodId) (args : Array Value) (below : List Frame) (meth : Method) (c : Code) (Q : State → Prop) (ls : Array Slot), CallFix p m c cc maxL s args ws own → va_K D vwCl [(cA, .int)] s → va_Nw nestW s → (∀ w ∈ wss, va_P D vwCl w s.heap) → lv_has ls maxL (lv_args 0 av) → (∀ {pc : Nat} {ls : Array Slot} {r : Int32}, decode cc pc = .ok (.ireturn, 1) → some r = some v → W p l e rm s m args below meth c s.heap [] 0 0 Q (F0 m pc ls [.int r])) → W p l e rm s m args below meth c s.heap [] 0 0 Q (F0 m 0 ls [])) : Met l y ws rm (va_Pc av (roB D cA wss)) (vp_Si (fun r => r = v)) 0 0 (fun _ => False) := by
  refine Met.ofW (cc := cc) (maxL := maxL) (ret := (some .int)) hy hw ?_
  intro p e s m args below meth c s₁ B hml hq
  obtain ⟨rfl, hws, hK, hZ⟩ := hq
  have hx := B.exec
  have hb := B.bytes
  have hr := B.returns
  have hlk := B.notSynchronized
  have hts := atoms_spec (ws := ws) B.pre
  have hown : s.vm.findClass own = some m.cls := by rw [← ho]; exact findClass_of_methodNamed B.named
  have hl := lv_entry av (n := maxL) hlen
  rw [lg_entry_eq]
  exact body p e s m _ below meth c _ _ ⟨hx, hb, hml, hown, hts⟩ hK hZ hws hl (fun {pc ls r} hd h => W.iret hx hb hr (fun t ht _ => ⟨r, rfl, Option.some.inj h, ht⟩) (fun _ h => absurd h List.not_mem_nil) hd hlk)
theorem ro_z {v : Int32} (hy : plainName y.cls = true) (hw : ws = Cond.code y cc maxL (some .boolean) :: ws') (ho : y.cls = own) (hlen : (lg_sl av).length ≤ maxL) (body : ∀ (p : Program) (e : Env) (s : State) (m : MethodId) (args : Array Value) (below : List Frame) (meth : Method) (c : Code) (Q : State → Prop) (ls : Array Slot), CallFix p m c cc maxL s args ws own → va_K D vwCl [(cA, .int)] s → va_Nw nestW s → (∀ w ∈ wss, va_P D vwCl w s.heap) → lv_has ls maxL (lv_args 0 av) → (∀ {pc : Nat} {ls : Array Slot} {r : Int32}, decode cc pc = .ok (.ireturn, 1) → r &&& 1 = r → some r = some v → W p l e rm s m args below meth c s.heap [] 0 0 Q (F0 m pc ls [.int r])) → W p l e rm s m args below meth c s.heap [] 0 0 Q (F0 m 0 ls [])) : Met l y ws rm (va_Pc av (roB D cA wss)) (vp_Si (fun r => r = v)) 0 0 (fun _ => False) := by
  refine Met.ofW (cc := cc) (maxL := maxL) (ret := (some .boolean)) hy hw ?_
  intro p e s m args below meth c s₁ B hml hq
  obtain ⟨rfl, hws, hK, hZ⟩ := hq
  have hx := B.exec
  have hb := B.bytes
  have hr := B.returns
  have hlk := B.notSynchronized
  have hts := atoms_spec (ws := ws) B.pre
  have hown : s.vm.findClass own = some m.cls := by rw [← ho]; exact findClass_of_methodNamed B.named
  have hl := lv_entry av (n := maxL) hlen
  rw [lg_entry_eq]
  exact body p e s m _ below meth c _ _ ⟨hx, hb, hml, hown, hts⟩ hK hZ hws hl (fun {pc ls r} hd h1 h => W.zret hx hb hr (by show Value.int (r &&& 1) = Value.int r; rw [h1]) (fun t ht _ => ⟨r, rfl, Option.some.inj h, ht⟩) (fun _ h => absurd h List.not_mem_nil) hd hlk)
theorem ro_l {v : Int64} (hy : plainName y.cls = true) (hw : ws = Cond.code y cc maxL (some .long) :: ws') (ho : y.cls = own) (hlen : (lg_sl av).length ≤ maxL) (body : ∀ (p : Program) (e : Env) (s : State) (m : MethodId) (args : Array Value) (below : List Frame) (meth : Method) (c : Code) (Q : State → Prop) (ls : Array Slot), CallFix p m c cc maxL s args ws own → va_K D vwCl [(cA, .int)] s → va_Nw nestW s → (∀ w ∈ wss, va_P D vwCl w s.heap) → lv_has ls maxL (lv_args 0 av) → (∀ {pc : Nat} {ls : Array Slot} {r : Int64}, decode cc pc = .ok (.lreturn, 1) → some r = some v → W p l e rm s m args below meth c s.heap [] 0 0 Q (F0 m pc ls [.long r])) → W p l e rm s m args below meth c s.heap [] 0 0 Q (F0 m 0 ls [])) : Met l y ws rm (va_Pc av (roB D cA wss)) (vp_Sl (fun r => r = v)) 0 0 (fun _ => False) := by
  refine Met.ofW (cc := cc) (maxL := maxL) (ret := (some .long)) hy hw ?_
  intro p e s m args below meth c s₁ B hml hq
  obtain ⟨rfl, hws, hK, hZ⟩ := hq
  have hx := B.exec
  have hb := B.bytes
  have hr := B.returns
  have hlk := B.notSynchronized
  have hts := atoms_spec (ws := ws) B.pre
  have hown : s.vm.findClass own = some m.cls := by rw [← ho]; exact findClass_of_methodNamed B.named
  have hl := lv_entry av (n := maxL) hlen
  rw [lg_entry_eq]
  exact body p e s m _ below meth c _ _ ⟨hx, hb, hml, hown, hts⟩ hK hZ hws hl (fun {pc ls r} hd h => W.lret hx hb hr (fun t ht _ => ⟨r, rfl, Option.some.inj h, ht⟩) (fun _ h => absurd h List.not_mem_nil) hd hlk)
theorem ro_r {v : Nat} {cn : String} {ad : Nat → Nat} (hy : plainName y.cls = true) (hw : ws = Cond.code y cc maxL (some (.object cn)) :: ws') (ho : y.cls = own) (hlen : (lg_sl av).length ≤ maxL) (body : ∀ (p : Program) (e : Env) (s : State) (m : MethodId) (args : Array Value) (below : List Frame) (meth : Method) (c : Code) (Q : State → Prop) (ls : Array Slot), CallFix p m c cc maxL s args ws own → va_K D vwCl [(cA, .int)] s → va_Nw nestW s → (∀ w ∈ wss, va_P D vwCl w s.heap) → lv_has ls maxL (lv_args 0 av) → (∀ {pc : Nat} {ls : Array Slot} {r : Nat}, decode cc pc = .ok (.areturn, 1) → some r = some v → W p l e rm s m args below meth c s.heap [] 0 0 Q (F0 m pc ls [.ref (ad r)])) → W p l e rm s m args below meth c s.heap [] 0 0 Q (F0 m 0 ls [])) : Met l y ws rm (va_Pc av (roB D cA wss)) (va_Sr (fun k => k = v) (fun k => .ref (ad k))) 0 0 (fun _ => False) := by
  refine Met.ofW (cc := cc) (maxL := maxL) (ret := (some (.object cn))) hy hw ?_
  intro p e s m args below meth c s₁ B hml hq
  obtain ⟨rfl, hws, hK, hZ⟩ := hq
  have hx := B.exec
  have hb := B.bytes
  have hr := B.returns
  have hlk := B.notSynchronized
  have hts := atoms_spec (ws := ws) B.pre
  have hown : s.vm.findClass own = some m.cls := by rw [← ho]; exact findClass_of_methodNamed B.named
  have hl := lv_entry av (n := maxL) hlen
  rw [lg_entry_eq]
  exact body p e s m _ below meth c _ _ ⟨hx, hb, hml, hown, hts⟩ hK hZ hws hl (fun {pc ls r} hd h => W.aret hx hb hr (Or.inl ⟨cn, rfl⟩) (Or.inr ⟨ad r, rfl⟩) (fun t ht _ => ⟨r, rfl, Option.some.inj h, ht⟩) (fun _ h => absurd h List.not_mem_nil) hd hlk)
theorem wr_i {St : Type} {wf : St → va_W} {u : St} {A : Nat → Prop} {v : Int32 × St} (hy : plainName y.cls = true) (hw : ws = Cond.code y cc maxL (some .int) :: ws') (ho : y.cls = own) (hlen : (lg_sl av).length ≤ maxL) (body : ∀ (p : Program) (e : Env) (s : State) (m : MethodId) (args : Array Value) (below : List Frame) (meth : Method) (c : Code) (Q : State → Prop) (ls : Array Slot), CallFix p m c cc maxL s args ws own → va_K D vwCl [(cA, .int)] s → va_Nw nestW s → (∀ w ∈ [wf u], va_P D vwCl w s.heap) → lv_has ls maxL (lv_args 0 av) → (∀ {pc : Nat} {ls : Array Slot} {r : Int32} {u1 : St} {H : Heap} {locs : List Loc}, va_P D vwCl (wf u1) H → va_S A s.heap H locs → decode cc pc = .ok (.ireturn, 1) → some (r, u1) = some v → W p l e rm s m args below meth c H locs 0 0 Q (F0 m pc ls [.int r])) → W p l e rm s m args below meth c s.heap [] 0 0 Q (F0 m 0 ls [])) : Met l y ws rm (va_Pc av (roB D cA [wf u])) (va_Qi (fun (r : Int32) (u1 : St) => (r, u1) = v) (fun (u1 : St) t => va_P D vwCl (wf u1) t.heap) A) 0 0 A := by
  refine Met.ofW (cc := cc) (maxL := maxL) (ret := (some .int)) hy hw ?_
  intro p e s m args below meth c s₁ B hml hq
  obtain ⟨rfl, hws, hK, hZ⟩ := hq
  have hx := B.exec
  have hb := B.bytes
  have hr := B.returns
  have hlk := B.notSynchronized
  have hts := atoms_spec (ws := ws) B.pre
  have hown : s.vm.findClass own = some m.cls := by rw [← ho]; exact findClass_of_methodNamed B.named
  have hl := lv_entry av (n := maxL) hlen
  rw [lg_entry_eq]
  exact body p e s m _ below meth c _ _ ⟨hx, hb, hml, hown, hts⟩ hK hZ hws hl (fun {pc ls r u1 H locs} hP hS hd h => W.iret hx hb hr (fun t ht _ => ⟨⟨r, u1, rfl, Option.some.inj h, (show va_P D vwCl (wf u1) t.heap by rw [ht]; exact hP)⟩, hS.F ht⟩) hS.2.2 hd hlk)
theorem wr_z {St : Type} {wf : St → va_W} {u : St} {A : Nat → Prop} {v : Int32 × St} (hy : plainName y.cls = true) (hw : ws = Cond.code y cc maxL (some .boolean) :: ws') (ho : y.cls = own) (hlen : (lg_sl av).length ≤ maxL) (body : ∀ (p : Program) (e : Env) (s : State) (m : MethodId) (args : Array Value) (below : List Frame) (meth : Method) (c : Code) (Q : State → Prop) (ls : Array Slot), CallFix p m c cc maxL s args ws own → va_K D vwCl [(cA, .int)] s → va_Nw nestW s → (∀ w ∈ [wf u], va_P D vwCl w s.heap) → lv_has ls maxL (lv_args 0 av) → (∀ {pc : Nat} {ls : Array Slot} {r : Int32} {u1 : St} {H : Heap} {locs : List Loc}, va_P D vwCl (wf u1) H → va_S A s.heap H locs → decode cc pc = .ok (.ireturn, 1) → r &&& 1 = r → some (r, u1) = some v → W p l e rm s m args below meth c H locs 0 0 Q (F0 m pc ls [.int r])) → W p l e rm s m args below meth c s.heap [] 0 0 Q (F0 m 0 ls [])) : Met l y ws rm (va_Pc av (roB D cA [wf u])) (va_Qi (fun (r : Int32) (u1 : St) => (r, u1) = v) (fun (u1 : St) t => va_P D vwCl (wf u1) t.heap) A) 0 0 A := by
  refine Met.ofW (cc := cc) (maxL := maxL) (ret := (some .boolean)) hy hw ?_
  intro p e s m args below meth c s₁ B hml hq
  obtain ⟨rfl, hws, hK, hZ⟩ := hq
  have hx := B.exec
  have hb := B.bytes
  have hr := B.returns
  have hlk := B.notSynchronized
  have hts := atoms_spec (ws := ws) B.pre
  have hown : s.vm.findClass own = some m.cls := by rw [← ho]; exact findClass_of_methodNamed B.named
  have hl := lv_entry av (n := maxL) hlen
  rw [lg_entry_eq]
  exact body p e s m _ below meth c _ _ ⟨hx, hb, hml, hown, hts⟩ hK hZ hws hl (fun {pc ls r u1 H locs} hP hS hd h1 h => W.zret hx hb hr (by show Value.int (r &&& 1) = Value.int r; rw [h1]) (fun t ht _ => ⟨⟨r, u1, rfl, Option.some.inj h, (show va_P D vwCl (wf u1) t.heap by rw [ht]; exact hP)⟩, hS.F ht⟩) hS.2.2 hd hlk)
theorem wr_l {St : Type} {wf : St → va_W} {u : St} {A : Nat → Prop} {v : Int64 × St} (hy : plainName y.cls = true) (hw : ws = Cond.code y cc maxL (some .long) :: ws') (ho : y.cls = own) (hlen : (lg_sl av).length ≤ maxL) (body : ∀ (p : Program) (e : Env) (s : State) (m : MethodId) (args : Array Value) (below : List Frame) (meth : Method) (c : Code) (Q : State → Prop) (ls : Array Slot), CallFix p m c cc maxL s args ws own → va_K D vwCl [(cA, .int)] s → va_Nw nestW s → (∀ w ∈ [wf u], va_P D vwCl w s.heap) → lv_has ls maxL (lv_args 0 av) → (∀ {pc : Nat} {ls : Array Slot} {r : Int64} {u1 : St} {H : Heap} {locs : List Loc}, va_P D vwCl (wf u1) H → va_S A s.heap H locs → decode cc pc = .ok (.lreturn, 1) → some (r, u1) = some v → W p l e rm s m args below meth c H locs 0 0 Q (F0 m pc ls [.long r])) → W p l e rm s m args below meth c s.heap [] 0 0 Q (F0 m 0 ls [])) : Met l y ws rm (va_Pc av (roB D cA [wf u])) (va_Ql (fun (r : Int64) (u1 : St) => (r, u1) = v) (fun (u1 : St) t => va_P D vwCl (wf u1) t.heap) A) 0 0 A := by
  refine Met.ofW (cc := cc) (maxL := maxL) (ret := (some .long)) hy hw ?_
  intro p e s m args below meth c s₁ B hml hq
  obtain ⟨rfl, hws, hK, hZ⟩ := hq
  have hx := B.exec
  have hb := B.bytes
  have hr := B.returns
  have hlk := B.notSynchronized
  have hts := atoms_spec (ws := ws) B.pre
  have hown : s.vm.findClass own = some m.cls := by rw [← ho]; exact findClass_of_methodNamed B.named
  have hl := lv_entry av (n := maxL) hlen
  rw [lg_entry_eq]
  exact body p e s m _ below meth c _ _ ⟨hx, hb, hml, hown, hts⟩ hK hZ hws hl (fun {pc ls r u1 H locs} hP hS hd h => W.lret hx hb hr (fun t ht _ => ⟨⟨r, u1, rfl, Option.some.inj h, (show va_P D vwCl (wf u1) t.heap by rw [ht]; exact hP)⟩, hS.F ht⟩) hS.2.2 hd hlk)
theorem wr_v {St : Type} {wf : St → va_W} {u : St} {A : Nat → Prop} {v : St} (hy : plainName y.cls = true) (hw : ws = Cond.code y cc maxL none :: ws') (ho : y.cls = own) (hlen : (lg_sl av).length ≤ maxL) (body : ∀ (p : Program) (e : Env) (s : State) (m : MethodId) (args : Array Value) (below : List Frame) (meth : Method) (c : Code) (Q : State → Prop) (ls : Array Slot), CallFix p m c cc maxL s args ws own → va_K D vwCl [(cA, .int)] s → va_Nw nestW s → (∀ w ∈ [wf u], va_P D vwCl w s.heap) → lv_has ls maxL (lv_args 0 av) → (∀ {pc : Nat} {ls : Array Slot} {u1 : St} {H : Heap} {locs : List Loc}, va_P D vwCl (wf u1) H → va_S A s.heap H locs → decode cc pc = .ok (.return_, 1) → some u1 = some v → W p l e rm s m args below meth c H locs 0 0 Q (F0 m pc ls [])) → W p l e rm s m args below meth c s.heap [] 0 0 Q (F0 m 0 ls [])) : Met l y ws rm (va_Pc av (roB D cA [wf u])) (va_Qv (fun (u1 : St) => u1 = v) (fun (u1 : St) t => va_P D vwCl (wf u1) t.heap) A) 0 0 A := by
  refine Met.ofW (cc := cc) (maxL := maxL) (ret := none) hy hw ?_
  intro p e s m args below meth c s₁ B hml hq
  obtain ⟨rfl, hws, hK, hZ⟩ := hq
  have hx := B.exec
  have hb := B.bytes
  have hr := B.returns
  have hlk := B.notSynchronized
  have hts := atoms_spec (ws := ws) B.pre
  have hown : s.vm.findClass own = some m.cls := by rw [← ho]; exact findClass_of_methodNamed B.named
  have hl := lv_entry av (n := maxL) hlen
  rw [lg_entry_eq]
  exact body p e s m _ below meth c _ _ ⟨hx, hb, hml, hown, hts⟩ hK hZ hws hl (fun {pc ls u1 H locs} hP hS hd h => W.vret hx hb hr (fun t ht _ => ⟨⟨u1, rfl, Option.some.inj h, (show va_P D vwCl (wf u1) t.heap by rw [ht]; exact hP)⟩, hS.F ht⟩) hS.2.2 hd hlk)
end FR
end
section
def f_X0_worthAt (u : StB) (x1 : Int32) : Option (Int32) := if x1 < 0 then some (0 : Int32) else if (b_size u) ≤ x1 then some (0 : Int32) else if (x1 < 0 ∨ 5 ≤ x1.toNatClampNeg) then none else some (b_worths u x1.toNatClampNeg)
def B_X0_shareAt_8 (u : StB) (k31 : Int32 → Option (Int32)) : Nat → Int32 → Int32 → Option (Int32)
  | 0, _, _ => none
  | n + 1, x2, x3 => if (b_size u) ≤ x3 then k31 x2 else if (x3 < 0 ∨ 5 ≤ x3.toNatClampNeg) then none else (B_X0_shareAt_8 u k31 n) (x2 + (b_weights u x3.toNatClampNeg)) (x3 + 1)
def f_X0_shareAt (u : StB) (x1 : Int32) : Option (Int32) := B_X0_shareAt_8 u (fun z203_2 => some z203_2) 1000 (0 : Int32) (if x1 < (0 : Int32) then (0 : Int32) else x1)
def f_X0_takeAt (u : StB) (x1 : Int32) : Option (Int32) := (f_X0_worthAt u x1).bind fun r101 => (f_X0_shareAt u x1).bind fun r102 => some (r101 * r102)
def B_X0_nextCorner_8 (u : StB) (k90 : Int32 → Option (Int32)) : Nat → Int32 → Int32 → Int32 → Option (Int32)
  | 0, _, _, _ => none
  | n + 1, x1, x2, x3 => if x3 < 0 then k90 x2 else (f_X0_takeAt u x3).bind fun r102 => (f_X0_takeAt u x1).bind fun r103 => (f_X0_shareAt u x3).bind fun r104 => (f_X0_shareAt u x1).bind fun r105 => (f_X0_takeAt u x2).bind fun r106 => (f_X0_takeAt u x1).bind fun r107 => (f_X0_shareAt u x2).bind fun r108 => (f_X0_shareAt u x1).bind fun r109 => if (lg_cmp (((r102 - r103)).toInt64 * ((r108 - r109)).toInt64) (((r106 - r107)).toInt64 * ((r104 - r105)).toInt64)) < 0 then (B_X0_nextCorner_8 u k90 n) x1 x2 (x3 + (-1)) else (B_X0_nextCorner_8 u k90 n) x1 x3 (x3 + (-1))
def f_X0_nextCorner (u : StB) (x1 : Int32) : Option (Int32) := B_X0_nextCorner_8 u (fun z211_2 => some z211_2) 1000 x1 (x1 - (1 : Int32)) (x1 - (2 : Int32))
def B_X0_iron_64  (k17 : StB → Int32 → Int32 → Int32 → Int32 → Option (StB)) (k86 : StB → Option (StB)) (u : StB) (x1 : Int32) (x2 : Int32) (x3 : Int32) (x4 : Int32) : Option (StB) := if (x4 < 0 ∨ 5 ≤ x4.toNatClampNeg) then none else if (x4 < 0 ∨ 5 ≤ x4.toNatClampNeg) then none else k17 (b_set_lowers (b_set_uppers u (upd (b_uppers u) x4.toNatClampNeg x2)) (upd (b_lowers (b_set_uppers u (upd (b_uppers u) x4.toNatClampNeg x2))) x4.toNatClampNeg x3)) x1 x2 x3 (x4 + (-1))
def B_X0_iron_17  (k86 : StB → Option (StB)) : Nat → StB → Int32 → Int32 → Int32 → Int32 → Option (StB)
  | 0, _, _, _, _, _ => none
  | n + 1, u, x1, x2, x3, x4 => if x4 < 0 then k86 u else if x1 ≤ x4 then B_X0_iron_64 (B_X0_iron_17 k86 n) k86 u x1 x2 x3 x4 else (f_X0_nextCorner u x1).bind fun r205 => (f_X0_takeAt u r205).bind fun r206 => (f_X0_takeAt u x1).bind fun r207 => (f_X0_shareAt u r205).bind fun r208 => (f_X0_shareAt u x1).bind fun r209 => B_X0_iron_64 (B_X0_iron_17 k86 n) k86 u r205 (r206 - r207) (r208 - r209) x4
def f_X0_iron (u : StB) : Option (StB) := B_X0_iron_17 (fun z310_u => some z310_u) 1000 u (b_size u) (0 : Int32) (1 : Int32) ((b_size u) - (1 : Int32))
def f_X0_begin (u : StB) (x1 : Int32) (x2 : Int32) : Option (StB) := if ((0 : Int32) < 0 ∨ 5 ≤ (0 : Int32).toNatClampNeg) then none else if ((0 : Int32) < 0 ∨ 5 ≤ (0 : Int32).toNatClampNeg) then none else (f_X0_iron (b_set_size (b_set_weights (b_set_worths u (upd (b_worths u) (0 : Int32).toNatClampNeg x1)) (upd (b_weights (b_set_worths u (upd (b_worths u) (0 : Int32).toNatClampNeg x1))) (0 : Int32).toNatClampNeg x2)) (1 : Int32))).bind fun w103 => some w103
def f_X1_buyers (u : StS) (x1 : Int32) : Option (Int32 × StS) := if x1 < (1 : Int32) then some ((-1 : Int32), u) else if x1 ≤ (3 : Int32) then (f_X0_begin (bk (s_set_buyerCount u x1) 0) (0 : Int32) (1 : Int32)).bind fun w103 => (f_X0_begin (bk (setbk (s_set_buyerCount u x1) 0 w103) 1) (0 : Int32) (1 : Int32)).bind fun w104 => (f_X0_begin (bk (setbk (setbk (s_set_buyerCount u x1) 0 w103) 1 w104) 2) (0 : Int32) (1 : Int32)).bind fun w105 => some ((s_buyerCount u), (setbk (setbk (setbk (s_set_buyerCount u x1) 0 w103) 1 w104) 2 w105)) else some ((-1 : Int32), u)
def f_X1_isBuyer (u : StS) (x1 : Int32) : Option (Int32) := if x1 < 0 then some (0 : Int32) else if (s_buyerCount u) ≤ x1 then some (0 : Int32) else some (1 : Int32)
def f_X1_isWorth (x0 : Int32) : Option (Int32) := if x0 < 0 then some (0 : Int32) else if (1000 : Int32) < x0 then some (0 : Int32) else some (1 : Int32)
def f_X1_isWeight (x0 : Int32) : Option (Int32) := if x0 < (1 : Int32) then some (0 : Int32) else if (9 : Int32) < x0 then some (0 : Int32) else some (1 : Int32)
def f_X1_bookOf (u : StS) (x1 : Int32) : Option (Nat) := if x1 = 0 then some 0 else if x1 = (1 : Int32) then some 1 else some 2
def f_X1_book (u : StS) (x1 : Int32) (x2 : Int32) (x3 : Int32) : Option (Int32 × StS) := (f_X1_isBuyer u x1).bind fun r101 => if r101 = 0 then some ((-1 : Int32), u) else (f_X1_isWorth x2).bind fun r103 => if r103 = 0 then some ((-1 : Int32), u) else (f_X1_isWeight x3).bind fun r105 => if r105 = 0 then some ((-1 : Int32), u) else (f_X1_bookOf u x1).bind fun r107 => (f_X0_begin (bk u r107) x2 x3).bind fun w108 => some ((b_size (bk (setbk u r107 w108) r107)), (setbk u r107 w108))
def f_X0_add (u : StB) (x1 : Int32) (x2 : Int32) : Option (StB) := if (b_size u) < (5 : Int32) then if ((b_size u) < 0 ∨ 5 ≤ (b_size u).toNatClampNeg) then none else if ((b_size (b_set_worths u (upd (b_worths u) (b_size u).toNatClampNeg x1))) < 0 ∨ 5 ≤ (b_size (b_set_worths u (upd (b_worths u) (b_size u).toNatClampNeg x1))).toNatClampNeg) then none else (f_X0_iron (b_set_size (b_set_weights (b_set_worths u (upd (b_worths u) (b_size u).toNatClampNeg x1)) (upd (b_weights (b_set_worths u (upd (b_worths u) (b_size u).toNatClampNeg x1))) (b_size (b_set_worths u (upd (b_worths u) (b_size u).toNatClampNeg x1))).toNatClampNeg x2)) ((b_size (b_set_weights (b_set_worths u (upd (b_worths u) (b_size u).toNatClampNeg x1)) (upd (b_weights (b_set_worths u (upd (b_worths u) (b_size u).toNatClampNeg x1))) (b_size (b_set_worths u (upd (b_worths u) (b_size u).toNatClampNeg x1))).toNatClampNeg x2))) + (1 : Int32)))).bind fun w104 => some w104 else some u
def f_X1_more (u : StS) (x1 : Int32) (x2 : Int32) (x3 : Int32) : Option (Int32 × StS) := (f_X1_isBuyer u x1).bind fun r101 => if r101 = 0 then some ((-1 : Int32), u) else (f_X1_isWorth x2).bind fun r103 => if r103 = 0 then some ((-1 : Int32), u) else (f_X1_isWeight x3).bind fun r105 => if r105 = 0 then some ((-1 : Int32), u) else (f_X1_bookOf u x1).bind fun r107 => (f_X0_worthAt (bk u r107) ((b_size (bk u r107)) - (1 : Int32))).bind fun r108 => if r108 < x2 then if (b_size (bk u r107)) < (5 : Int32) then (f_X0_add (bk u r107) x2 x3).bind fun w111 => some ((b_size (bk (setbk u r107 w111) r107)), (setbk u r107 w111)) else some ((-3 : Int32), u) else some ((-1 : Int32), u)
def f_X0_has (u : StB) (x1 : Int32) : Option (Int32) := if x1 < 0 then some (0 : Int32) else if (b_size u) ≤ x1 then some (0 : Int32) else some (1 : Int32)
def f_X0_weightAt (u : StB) (x1 : Int32) : Option (Int32) := if x1 < 0 then some (0 : Int32) else if (b_size u) ≤ x1 then some (0 : Int32) else if (x1 < 0 ∨ 5 ≤ x1.toNatClampNeg) then none else some (b_weights u x1.toNatClampNeg)
def f_X1_about (u : StS) (x1 : Int32) (x2 : Int32) (x3 : Int32) : Option (Int32) := (f_X1_isBuyer u x1).bind fun r101 => if r101 = 0 then some (-1 : Int32) else (f_X1_bookOf u x1).bind fun r103 => (f_X0_has (bk u r103) x2).bind fun r104 => if r104 = 0 then some (-1 : Int32) else (f_X1_bookOf u x1).bind fun r106 => if x3 = 0 then (f_X0_worthAt (bk u r106) x2).bind fun r108 => some r108 else if x3 = 1 then (f_X0_weightAt (bk u r106) x2).bind fun r110 => some r110 else if x3 = 2 then (f_X0_shareAt (bk u r106) x2).bind fun r112 => some r112 else if x3 = 3 then (f_X0_takeAt (bk u r106) x2).bind fun r114 => some r114 else some (-1 : Int32)
def f_X0_allWeights (u : StB) : Option (Int32) := (f_X0_shareAt u (0 : Int32)).bind fun r101 => some r101
def B_X0_bestPlace_4 (u : StB) (k33 : Int32 → Option (Int32)) : Nat → Int32 → Int32 → Option (Int32)
  | 0, _, _ => none
  | n + 1, x1, x2 => if (b_size u) ≤ x2 then k33 x1 else (f_X0_takeAt u x2).bind fun r102 => (f_X0_takeAt u x1).bind fun r103 => if r102 ≤ r103 then (B_X0_bestPlace_4 u k33 n) x1 (x2 + 1) else (B_X0_bestPlace_4 u k33 n) x2 (x2 + 1)
def f_X0_bestPlace (u : StB) : Option (Int32) := B_X0_bestPlace_4 u (fun z205_1 => some z205_1) 1000 (0 : Int32) (1 : Int32)
def f_X1_whole (u : StS) (x1 : Int32) (x2 : Int32) : Option (Int32) := (f_X1_isBuyer u x1).bind fun r101 => if r101 = 0 then some (-1 : Int32) else (f_X1_bookOf u x1).bind fun r103 => if x2 = 0 then some (b_size (bk u r103)) else if x2 = 1 then (f_X0_allWeights (bk u r103)).bind fun r106 => some r106 else if x2 = 2 then (f_X0_bestPlace (bk u r103)).bind fun r108 => some r108 else some (-1 : Int32)
def f_X1_isPart (x0 : Int32) : Option (Int32) := if x0 = 0 then some (1 : Int32) else if x0 = (1 : Int32) then some (1 : Int32) else some (0 : Int32)
def f_X0_ironedUpper (u : StB) (x1 : Int32) : Option (Int64) := if x1 < 0 then some (0 : Int64) else if (b_size u) ≤ x1 then some (0 : Int64) else if (x1 < 0 ∨ 5 ≤ x1.toNatClampNeg) then none else some (((b_uppers u x1.toNatClampNeg)).toInt64)
def f_X0_ironedLower (u : StB) (x1 : Int32) : Option (Int64) := if x1 < 0 then some (1 : Int64) else if (b_size u) ≤ x1 then some (1 : Int64) else if (x1 < 0 ∨ 5 ≤ x1.toNatClampNeg) then none else some (((b_lowers u x1.toNatClampNeg)).toInt64)
def B_X1_commonDivisor_9  (k44 : Int64 → Option (Int64)) : Nat → Int64 → Int64 → Int32 → Option (Int64)
  | 0, _, _, _ => none
  | n + 1, x4, x6, x8 => if (100 : Int32) ≤ x8 then k44 x4 else if (lg_cmp x6 (0 : Int64)) = 0 then k44 x4 else if x6 = 0 then none else (B_X1_commonDivisor_9 k44 n) x6 (x4 - x4 / x6 * x6) (x8 + 1)
def f_X1_commonDivisor (x0 : Int64) (x2 : Int64) : Option (Int64) := B_X1_commonDivisor_9 (fun z204_4 => some z204_4) 1000 x0 x2 (0 : Int32)
def f_X1_leastPart (x0 : Int64) (x2 : Int64) (x4 : Int32) : Option (Int64) := (f_X1_commonDivisor (if 0 < x0 then x0 else -x0) x2).bind fun r101 => if 0 < (lg_cmp r101 (0 : Int64)) then if x4 = 0 then if r101 = 0 then none else some (x0 / r101) else if r101 = 0 then none else some (x2 / r101) else some (-1000000000000000 : Int64)
def f_X1_slope (u : StS) (x1 : Int32) (x2 : Int32) (x3 : Int32) (x4 : Int32) : Option (Int64) := (f_X1_isBuyer u x1).bind fun r101 => if r101 = 0 then some (-1000000000000000 : Int64) else (f_X1_bookOf u x1).bind fun r103 => (f_X0_has (bk u r103) x2).bind fun r104 => if r104 = 0 then some (-1000000000000000 : Int64) else (f_X1_isPart x4).bind fun r106 => if r106 = 0 then some (-1000000000000000 : Int64) else (f_X1_bookOf u x1).bind fun r108 => if x3 = 0 then (f_X0_takeAt (bk u r108) x2).bind fun r110 => (f_X0_takeAt (bk u r108) (x2 + (1 : Int32))).bind fun r111 => (f_X0_weightAt (bk u r108) x2).bind fun r112 => (f_X1_leastPart (((r110 - r111)).toInt64) ((r112).toInt64) x4).bind fun r113 => some r113 else (f_X0_ironedUpper (bk u r108) x2).bind fun r114 => (f_X0_ironedLower (bk u r108) x2).bind fun r115 => (f_X1_leastPart r114 r115 x4).bind fun r116 => some r116
def f_X1_pick (x0 : Int32) (x1 : Int32) (x2 : Int32) (x3 : Int32) : Option (Int32) := if x0 = 0 then some x1 else if x0 = (1 : Int32) then some x2 else some x3
def B_X1_arePlaces_3 (u : StS) (k32 : Option (Int32)) (k40 : Option (Int32)) : Nat → Int32 → Int32 → Int32 → Int32 → Option (Int32)
  | 0, _, _, _, _ => none
  | n + 1, x1, x2, x3, x4 => if (s_buyerCount u) ≤ x4 then k40 else (f_X1_bookOf u x4).bind fun r102 => (f_X1_pick x4 x1 x2 x3).bind fun r103 => (f_X0_has (bk u r102) r103).bind fun r104 => if r104 = 0 then k32 else (B_X1_arePlaces_3 u k32 k40 n) x1 x2 x3 (x4 + 1)
def f_X1_arePlaces (u : StS) (x1 : Int32) (x2 : Int32) (x3 : Int32) : Option (Int32) := B_X1_arePlaces_3 u (some (0 : Int32)) (some (1 : Int32)) 1000 x1 x2 x3 (0 : Int32)
def B_X1_winner_13 (u : StS) (k90 : Int32 → Option (Int32)) : Nat → Int32 → Int32 → Int32 → Int32 → Int64 → Int64 → Int32 → Option (Int32)
  | 0, _, _, _, _, _, _, _ => none
  | n + 1, x1, x2, x3, x4, x5, x7, x9 => if (s_buyerCount u) ≤ x9 then k90 x4 else (f_X1_pick x9 x1 x2 x3).bind fun r102 => (f_X1_bookOf u x9).bind fun r103 => (f_X0_ironedUpper (bk u r103) r102).bind fun r104 => (f_X1_bookOf u x9).bind fun r105 => (f_X0_ironedLower (bk u r105) r102).bind fun r106 => if (lg_cmp (r104 * x7) (x5 * r106)) ≤ 0 then (B_X1_winner_13 u k90 n) x1 x2 x3 x4 x5 x7 (x9 + 1) else (B_X1_winner_13 u k90 n) x1 x2 x3 x9 r104 r106 (x9 + 1)
def f_X1_winner (u : StS) (x1 : Int32) (x2 : Int32) (x3 : Int32) : Option (Int32) := B_X1_winner_13 u (fun z208_4 => some z208_4) 1000 x1 x2 x3 (-9 : Int32) (0 : Int64) (1 : Int64) (0 : Int32)
def f_X1_gets (u : StS) (x1 : Int32) (x2 : Int32) (x3 : Int32) : Option (Int32) := (f_X1_arePlaces u x1 x2 x3).bind fun r101 => if r101 = 0 then some (-1 : Int32) else (f_X1_winner u x1 x2 x3).bind fun r103 => some r103
def B_X1_getsWith_34 (u : StS)  (x5 : Int32) (xs1 : Int32) (xs2 : Int32) (xs3 : Int32) : Option (Int32) := (f_X1_winner u xs1 xs2 xs3).bind fun r101 => if r101 = x5 then some (1 : Int32) else some (0 : Int32)
def B_X1_getsWith_22 (u : StS)  (x1 : Int32) (x4 : Int32) (x5 : Int32) (xs1 : Int32) (xs2 : Int32) : Option (Int32) := if x5 = (2 : Int32) then B_X1_getsWith_34 u x5 xs1 xs2 x1 else B_X1_getsWith_34 u x5 xs1 xs2 x4
def B_X1_getsWith_11 (u : StS)  (x1 : Int32) (x3 : Int32) (x4 : Int32) (x5 : Int32) (xs1 : Int32) : Option (Int32) := if x5 = (1 : Int32) then B_X1_getsWith_22 u x1 x4 x5 xs1 x1 else B_X1_getsWith_22 u x1 x4 x5 xs1 x3
def f_X1_getsWith (u : StS) (x1 : Int32) (x2 : Int32) (x3 : Int32) (x4 : Int32) (x5 : Int32) : Option (Int32) := if x5 = 0 then B_X1_getsWith_11 u x1 x3 x4 x5 x1 else B_X1_getsWith_11 u x1 x3 x4 x5 x2
def B_X1_leastWinning_11 (u : StS) (k35 : Nat → Int32 → Option (Int32)) (k49 : Option (Int32)) : Nat → Int32 → Int32 → Int32 → Int32 → Nat → Int32 → Option (Int32)
  | 0, _, _, _, _, _, _ => none
  | n + 1, x1, x2, x3, x4, x5, x6 => if (b_size (bk u x5)) ≤ x6 then k49 else (f_X1_getsWith u x6 x1 x2 x3 x4).bind fun r102 => if r102 = 0 then (B_X1_leastWinning_11 u k35 k49 n) x1 x2 x3 x4 x5 (x6 + 1) else k35 x5 x6
def f_X1_leastWinning (u : StS) (x1 : Int32) (x2 : Int32) (x3 : Int32) (x4 : Int32) : Option (Int32) := (f_X1_bookOf u x4).bind fun r204 => B_X1_leastWinning_11 u (fun z205_5 z205_6 => (f_X0_worthAt (bk u z205_5) z205_6).bind fun r206 => some r206) (some (0 : Int32)) 1000 x1 x2 x3 x4 r204 (0 : Int32)
def f_X1_pays (u : StS) (x1 : Int32) (x2 : Int32) (x3 : Int32) (x4 : Int32) : Option (Int32) := (f_X1_arePlaces u x1 x2 x3).bind fun r101 => if r101 = 0 then some (-1 : Int32) else (f_X1_isBuyer u x4).bind fun r103 => if r103 = 0 then some (-1 : Int32) else (f_X1_winner u x1 x2 x3).bind fun r105 => if r105 = x4 then (f_X1_leastWinning u x1 x2 x3 x4).bind fun r107 => some r107 else some (0 : Int32)
def f_X1_gain (u : StS) (x1 : Int32) (x2 : Int32) (x3 : Int32) (x4 : Int32) (x5 : Int32) : Option (Int64) := (f_X1_arePlaces u x1 x2 x3).bind fun r101 => if r101 = 0 then some (-1000000000000000 : Int64) else (f_X1_isBuyer u x4).bind fun r103 => if r103 = 0 then some (-1000000000000000 : Int64) else (f_X1_bookOf u x4).bind fun r105 => (f_X0_has (bk u r105) x5).bind fun r106 => if r106 = 0 then some (-1000000000000000 : Int64) else (f_X1_getsWith u x5 x1 x2 x3 x4).bind fun r108 => if r108 = 0 then some (0 : Int64) else (f_X1_bookOf u x4).bind fun r110 => (f_X1_pick x4 x1 x2 x3).bind fun r111 => (f_X0_worthAt (bk u r110) r111).bind fun r112 => (f_X1_leastWinning u x1 x2 x3 x4).bind fun r113 => some (((r112 - r113)).toInt64)
def B_X1_priceOf_16 (u : StS)  (x1 : Int32) (x3 : Int32) : Option (Int32) := if x1 < (2 : Int32) then some x3 else some (x3 + (x3 / (10 : Int32)))
def f_X1_priceOf (u : StS) (x1 : Int32) (x2 : Int32) : Option (Int32) := if x1 < (1 : Int32) then B_X1_priceOf_16 u x1 x2 else B_X1_priceOf_16 u x1 (if x2 < (s_reservePrice u) then (s_reservePrice u) else x2)
def B_X1_paidByKind_9 (u : StS) (k58 : Int32 → Int32 → Int32 → Option (Int32)) : Nat → Int32 → Int32 → Int32 → Int32 → Int32 → Int32 → Int32 → Option (Int32)
  | 0, _, _, _, _, _, _, _ => none
  | n + 1, x1, x2, x3, x4, x5, x6, x7 => if (s_buyerCount u) ≤ x7 then k58 x1 x5 x6 else (f_X1_pick x7 x2 x3 x4).bind fun r102 => (B_X1_paidByKind_9 u k58 n) x1 x2 x3 x4 (if x5 < r102 then r102 else x5) (if x6 < (if x5 < r102 then x5 else r102) then (if x5 < r102 then x5 else r102) else x6) (x7 + 1)
def B_X1_paidByKind_74 (u : StS)  (x1 : Int32) (x6 : Int32) : Option (Int32) := (f_X1_priceOf u x1 x6).bind fun r203 => some r203
def f_X1_paidByKind (u : StS) (x1 : Int32) (x2 : Int32) (x3 : Int32) (x4 : Int32) : Option (Int32) := B_X1_paidByKind_9 u (fun z304_1 z304_5 z304_6 => if z304_1 = 0 then B_X1_paidByKind_74 u z304_1 z304_6 else if (s_reservePrice u) ≤ z304_5 then B_X1_paidByKind_74 u z304_1 z304_6 else some (-9 : Int32)) 1000 x1 x2 x3 x4 (-1 : Int32) (0 : Int32) (0 : Int32)
def f_X1_paidAt (u : StS) (x1 : Int32) (x2 : Int32) (x3 : Int32) (x4 : Int32) : Option (Int32) := if x1 = (3 : Int32) then (f_X1_winner u x2 x3 x4).bind fun r107 => if r107 = (-9 : Int32) then some (0 : Int32) else (f_X1_leastWinning u x2 x3 x4 r107).bind fun r109 => some r109 else (f_X0_worthAt (bk u 0) x2).bind fun r102 => (f_X0_worthAt (bk u 1) x3).bind fun r103 => (f_X0_worthAt (bk u 2) x4).bind fun r104 => (f_X1_paidByKind u x1 r102 r103 r104).bind fun r105 => if r105 = (-9 : Int32) then some (0 : Int32) else some r105
def B_X1_meanPaid_35 (u : StS) (k105 : Int32 → Int32 → Int64 → Int32 → Int32 → Option (Int64)) : Nat → Int32 → Int32 → Int64 → Int32 → Int32 → Int32 → Option (Int64)
  | 0, _, _, _, _, _, _ => none
  | n + 1, x1, x2, x3, x5, x6, x7 => if (b_size (bk u 2)) ≤ x7 then k105 x1 x2 x3 x5 x6 else (f_X0_weightAt (bk u 0) x5).bind fun r102 => (f_X0_weightAt (bk u 1) x6).bind fun r103 => (f_X0_weightAt (bk u 2) x7).bind fun r104 => (f_X1_paidAt u x1 x5 x6 x7).bind fun r105 => (B_X1_meanPaid_35 u k105 n) x1 x2 (x3 + ((((r102).toInt64 * (r103).toInt64) * (r104).toInt64) * (r105).toInt64)) x5 x6 (x7 + 1)
def B_X1_meanPaid_20 (u : StS) (k111 : Int32 → Int32 → Int64 → Int32 → Option (Int64)) : Nat → Int32 → Int32 → Int64 → Int32 → Int32 → Option (Int64)
  | 0, _, _, _, _, _ => none
  | n + 1, x1, x2, x3, x5, x6 => if (b_size (bk u 1)) ≤ x6 then k111 x1 x2 x3 x5 else B_X1_meanPaid_35 u (fun z207_1 z207_2 z207_3 z207_5 z207_6 => (B_X1_meanPaid_20 u k111 n) z207_1 z207_2 z207_3 z207_5 (z207_6 + 1)) 1000 x1 x2 x3 x5 x6 (0 : Int32)
def B_X1_meanPaid_5 (u : StS) (k117 : Int32 → Int64 → Option (Int64)) : Nat → Int32 → Int32 → Int64 → Int32 → Option (Int64)
  | 0, _, _, _, _ => none
  | n + 1, x1, x2, x3, x5 => if (b_size (bk u 0)) ≤ x5 then k117 x2 x3 else B_X1_meanPaid_20 u (fun z309_1 z309_2 z309_3 z309_5 => (B_X1_meanPaid_5 u k117 n) z309_1 z309_2 z309_3 (z309_5 + 1)) 1000 x1 x2 x3 x5 (0 : Int32)
def f_X1_meanPaid (u : StS) (x1 : Int32) (x2 : Int32) : Option (Int64) := B_X1_meanPaid_5 u (fun z410_2 z410_3 => (f_X0_allWeights (bk u 0)).bind fun r411 => (f_X0_allWeights (bk u 1)).bind fun r412 => (f_X0_allWeights (bk u 2)).bind fun r413 => (f_X1_leastPart z410_3 (((r411).toInt64 * (r412).toInt64) * (r413).toInt64) z410_2).bind fun r414 => some r414) 1000 x1 x2 (0 : Int64) (0 : Int32)
def f_X1_brings (u : StS) (x1 : Int32) : Option (Int64) := (f_X1_isPart x1).bind fun r101 => if r101 = 0 then some (-1000000000000000 : Int64) else (f_X1_meanPaid u (3 : Int32) x1).bind fun r103 => some r103
def f_X1_reserve (u : StS) (x1 : Int32) : Option (Int32 × StS) := (f_X1_isWorth x1).bind fun r101 => if r101 = 0 then some ((-1 : Int32), u) else some ((s_reservePrice u), (s_set_reservePrice u x1))
def f_X1_isKind (x0 : Int32) : Option (Int32) := if x0 < 0 then some (0 : Int32) else if (2 : Int32) < x0 then some (0 : Int32) else some (1 : Int32)
def B_X1_areWorths_3 (u : StS) (k26 : Option (Int32)) (k34 : Option (Int32)) : Nat → Int32 → Int32 → Int32 → Int32 → Option (Int32)
  | 0, _, _, _, _ => none
  | n + 1, x1, x2, x3, x4 => if (s_buyerCount u) ≤ x4 then k34 else (f_X1_pick x4 x1 x2 x3).bind fun r102 => (f_X1_isWorth r102).bind fun r103 => if r103 = 0 then k26 else (B_X1_areWorths_3 u k26 k34 n) x1 x2 x3 (x4 + 1)
def f_X1_areWorths (u : StS) (x1 : Int32) (x2 : Int32) (x3 : Int32) : Option (Int32) := B_X1_areWorths_3 u (some (0 : Int32)) (some (1 : Int32)) 1000 x1 x2 x3 (0 : Int32)
def f_X1_asksOf (x0 : Int32) : Option (Int32) := if x0 = (2 : Int32) then some (111 : Int32) else if x0 = (1 : Int32) then some (11 : Int32) else some (1 : Int32)
def f_X1_pay (u : StS) (x1 : Int32) (x2 : Int32) (x3 : Int32) (x4 : Int32) : Option (Int32 × StS) := (f_X1_isKind x1).bind fun r101 => if r101 = 0 then some ((-1 : Int32), u) else (f_X1_areWorths u x2 x3 x4).bind fun r103 => if r103 = 0 then some ((-1 : Int32), u) else (f_X1_paidByKind u x1 x2 x3 x4).bind fun r105 => if r105 = (-9 : Int32) then some (r105, u) else (f_X1_asksOf x1).bind fun r107 => some (r105, (s_set_traced u ((s_traced u) + (r107).toInt64)))
def f_X1_average (u : StS) (x1 : Int32) (x2 : Int32) : Option (Int64) := (f_X1_isKind x1).bind fun r101 => if r101 = 0 then some (-1000000000000000 : Int64) else (f_X1_isPart x2).bind fun r103 => if r103 = 0 then some (-1000000000000000 : Int64) else (f_X1_meanPaid u x1 x2).bind fun r105 => some r105
def B_X1_isOrder_13 (u : StS) (k50 : Option (Int32)) (k65 : Int32 → Option (Int32)) : Nat → Int32 → Int32 → Int32 → Option (Int32)
  | 0, _, _, _ => none
  | n + 1, x2, x3, x4 => if (s_buyerCount u) ≤ x4 then k65 x3 else (f_X1_isBuyer u (x3 - x3 / (3 : Int32) * (3 : Int32))).bind fun r102 => if r102 = 0 then k50 else if ((x2 >>> ((x3 - x3 / (3 : Int32) * (3 : Int32)) &&& 31)) &&& (1 : Int32)) = (1 : Int32) then k50 else (B_X1_isOrder_13 u k50 k65 n) (x2 ||| ((1 : Int32) <<< ((x3 - x3 / (3 : Int32) * (3 : Int32)) &&& 31))) (x3 / (3 : Int32)) (x4 + 1)
def f_X1_isOrder (u : StS) (x1 : Int32) : Option (Int32) := if 0 ≤ x1 then B_X1_isOrder_13 u (some (0 : Int32)) (fun z207_3 => if z207_3 = 0 then some (1 : Int32) else some (0 : Int32)) 1000 (0 : Int32) x1 (0 : Int32) else some (0 : Int32)
def f_X1_offerBrings (u0 : StB) (x1 : Int32) (x2 : Int64) (x4 : Int64) : Option (Int64) := (f_X0_takeAt u0 x1).bind fun r101 => (f_X0_allWeights u0).bind fun r102 => (f_X0_shareAt u0 x1).bind fun r103 => some (((r101).toInt64 * x4) + (((r102 - r103)).toInt64 * x2))
def B_X1_bestOffer_6 (u0 : StB) (k45 : Int32 → Option (Int32)) : Nat → Int64 → Int64 → Int32 → Int32 → Option (Int32)
  | 0, _, _, _, _ => none
  | n + 1, x1, x3, x5, x6 => if (b_size u0) < x6 then k45 x5 else (f_X1_offerBrings u0 x6 x1 x3).bind fun r102 => (f_X1_offerBrings u0 x5 x1 x3).bind fun r103 => if (lg_cmp r102 r103) ≤ 0 then (B_X1_bestOffer_6 u0 k45 n) x1 x3 x5 (x6 + 1) else (B_X1_bestOffer_6 u0 k45 n) x1 x3 x6 (x6 + 1)
def f_X1_bestOffer (u0 : StB) (x1 : Int64) (x3 : Int64) : Option (Int32) := B_X1_bestOffer_6 u0 (fun z205_5 => some z205_5) 1000 x1 x3 (0 : Int32) (1 : Int32)
def B_X1_offers_40 (u : StS) (k87 : Nat → Int32 → Option (Int64)) (k140 : Int32 → Int64 → Int64 → Option (Int64)) : Nat → Int32 → Int64 → Int64 → Int32 → Int32 → Option (Int64)
  | 0, _, _, _, _, _ => none
  | n + 1, x2, x3, x5, x7, x8 => if (s_buyerCount u) ≤ x8 then k140 x2 x3 x5 else (f_X1_bookOf u (x7 - x7 / (3 : Int32) * (3 : Int32))).bind fun r102 => (f_X1_bestOffer (bk u r102) x3 x5).bind fun r103 => if (x7 - x7 / (3 : Int32) * (3 : Int32)) = (x2 - (2 : Int32)) then k87 r102 r103 else (f_X1_offerBrings (bk u r102) r103 x3 x5).bind fun r105 => (f_X0_allWeights (bk u r102)).bind fun r106 => (B_X1_offers_40 u k87 k140 n) x2 r105 (x5 * (r106).toInt64) (x7 / (3 : Int32)) (x8 + 1)
def f_X1_offers (u : StS) (x1 : Int32) (x2 : Int32) : Option (Int64) := (f_X1_isOrder u x1).bind fun r207 => if r207 = 0 then some (-1000000000000000 : Int64) else (f_X1_isPart x2).bind fun r209 => if r209 = 0 then (f_X1_isBuyer u (x2 - (2 : Int32))).bind fun r217 => if r217 = 0 then some (-1000000000000000 : Int64) else B_X1_offers_40 u (fun z219_10 z219_11 => (f_X0_has (bk u z219_10) z219_11).bind fun r220 => if r220 = 0 then some (1001 : Int64) else (f_X0_worthAt (bk u z219_10) z219_11).bind fun r222 => some ((r222).toInt64)) (fun z223_2 z223_3 z223_5 => (f_X1_leastPart z223_3 z223_5 z223_2).bind fun r224 => some r224) 1000 x2 (0 : Int64) (1 : Int64) x1 (0 : Int32) else B_X1_offers_40 u (fun z211_10 z211_11 => (f_X0_has (bk u z211_10) z211_11).bind fun r212 => if r212 = 0 then some (1001 : Int64) else (f_X0_worthAt (bk u z211_10) z211_11).bind fun r214 => some ((r214).toInt64)) (fun z215_2 z215_3 z215_5 => (f_X1_leastPart z215_3 z215_5 z215_2).bind fun r216 => some r216) 1000 x2 (0 : Int64) (1 : Int64) x1 (0 : Int32)
def B_X1_pairsFrom_17 (u0 : StB) (u1 : StB) (k65 : Int32 → Int32 → Int32 → Option (Int32)) : Nat → Int32 → Int32 → Int32 → Int32 → Option (Int32)
  | 0, _, _, _, _ => none
  | n + 1, x2, x3, x4, x5 => if (b_size u1) ≤ x5 then k65 x2 x3 x4 else (f_X0_worthAt u0 x4).bind fun r102 => (f_X0_worthAt u1 x5).bind fun r103 => if (r102 + r103) < x2 then (B_X1_pairsFrom_17 u0 u1 k65 n) x2 x3 x4 (x5 + 1) else (f_X0_weightAt u0 x4).bind fun r105 => (f_X0_weightAt u1 x5).bind fun r106 => (B_X1_pairsFrom_17 u0 u1 k65 n) x2 (x3 + (r105 * r106)) x4 (x5 + 1)
def B_X1_pairsFrom_5 (u0 : StB) (u1 : StB) (k71 : Int32 → Option (Int32)) : Nat → Int32 → Int32 → Int32 → Option (Int32)
  | 0, _, _, _ => none
  | n + 1, x2, x3, x4 => if (b_size u0) ≤ x4 then k71 x3 else B_X1_pairsFrom_17 u0 u1 (fun z208_2 z208_3 z208_4 => (B_X1_pairsFrom_5 u0 u1 k71 n) z208_2 z208_3 (z208_4 + 1)) 1000 x2 x3 x4 (0 : Int32)
def f_X1_pairsFrom (u0 : StB) (u1 : StB) (x2 : Int32) : Option (Int32) := B_X1_pairsFrom_5 u0 u1 (fun z309_3 => some z309_3) 1000 x2 (0 : Int32) (0 : Int32)
def B_X1_bestSum_19 (u0 : StB) (u1 : StB) (k85 : Int32 → Int32 → Int32 → Option (Int32)) : Nat → Int32 → Int32 → Int32 → Int32 → Option (Int32)
  | 0, _, _, _, _ => none
  | n + 1, x2, x3, x4, x5 => if (b_size u1) ≤ x5 then k85 x2 x3 x4 else (f_X0_worthAt u0 x4).bind fun r102 => (f_X0_worthAt u1 x5).bind fun r103 => (f_X1_pairsFrom u0 u1 (r102 + r103)).bind fun r104 => if x3 < ((r102 + r103) * r104) then (B_X1_bestSum_19 u0 u1 k85 n) (r102 + r103) ((r102 + r103) * r104) x4 (x5 + 1) else if ((r102 + r103) * r104) = x3 then if x2 ≤ (r102 + r103) then (B_X1_bestSum_19 u0 u1 k85 n) x2 x3 x4 (x5 + 1) else (B_X1_bestSum_19 u0 u1 k85 n) (r102 + r103) ((r102 + r103) * r104) x4 (x5 + 1) else (B_X1_bestSum_19 u0 u1 k85 n) x2 x3 x4 (x5 + 1)
def B_X1_bestSum_7 (u0 : StB) (u1 : StB) (k91 : Int32 → Option (Int32)) : Nat → Int32 → Int32 → Int32 → Option (Int32)
  | 0, _, _, _ => none
  | n + 1, x2, x3, x4 => if (b_size u0) ≤ x4 then k91 x2 else B_X1_bestSum_19 u0 u1 (fun z209_2 z209_3 z209_4 => (B_X1_bestSum_7 u0 u1 k91 n) z209_2 z209_3 (z209_4 + 1)) 1000 x2 x3 x4 (0 : Int32)
def f_X1_bestSum (u0 : StB) (u1 : StB) : Option (Int32) := B_X1_bestSum_7 u0 u1 (fun z310_2 => some z310_2) 1000 (0 : Int32) (-1 : Int32) (0 : Int32)
def f_X1_bothAlone (u0 : StB) (u1 : StB) : Option (Int32) := (f_X0_bestPlace u0).bind fun r101 => (f_X0_takeAt u0 r101).bind fun r102 => (f_X0_allWeights u1).bind fun r103 => (f_X0_bestPlace u1).bind fun r104 => (f_X0_takeAt u1 r104).bind fun r105 => (f_X0_allWeights u0).bind fun r106 => some ((r102 * r103) + (r105 * r106))
def f_J6_signum_0f7a4 (x0 : Int32) : Option (Int32) := some ((x0 >>> ((31 : Int32) &&& 31)) ||| (((-x0)).toUInt32 >>> (((31 : Int32)).toUInt32 &&& Int32.toUInt32 31)).toInt32)
def f_X1_bundle (u : StS) (x1 : Int32) (x2 : Int32) (x3 : Int32) : Option (Int32) := (f_X1_isBuyer u x1).bind fun r101 => if r101 = 0 then some (-5 : Int32) else (f_X1_isBuyer u x2).bind fun r103 => if r103 = 0 then some (-5 : Int32) else if x1 = x2 then some (-5 : Int32) else (f_X1_bookOf u x1).bind fun r106 => (f_X1_bookOf u x2).bind fun r107 => (f_X1_bestSum (bk u r106) (bk u r107)).bind fun r108 => (f_X1_pairsFrom (bk u r106) (bk u r107) r108).bind fun r109 => if x3 = 0 then some r108 else if x3 = 1 then some r109 else if x3 = 2 then (f_X1_bothAlone (bk u r106) (bk u r107)).bind fun r113 => (f_J6_signum_0f7a4 ((r108 * r109) - r113)).bind fun r114 => some r114 else some (-5 : Int32)
def f_X1_sample (u : StS) (x1 : Int32) : Option (Int32 × StS) := (f_X1_isWorth x1).bind fun r101 => if r101 = 0 then some ((-1 : Int32), u) else if (s_sampleCount u) < (12 : Int32) then if ((s_sampleCount u) < 0 ∨ 12 ≤ (s_sampleCount u).toNatClampNeg) then none else some ((s_sampleCount (s_set_sampleCount (s_set_samples u (upd (s_samples u) (s_sampleCount u).toNatClampNeg x1)) ((s_sampleCount (s_set_samples u (upd (s_samples u) (s_sampleCount u).toNatClampNeg x1))) + (1 : Int32)))), (s_set_sampleCount (s_set_samples u (upd (s_samples u) (s_sampleCount u).toNatClampNeg x1)) ((s_sampleCount (s_set_samples u (upd (s_samples u) (s_sampleCount u).toNatClampNeg x1))) + (1 : Int32)))) else some ((-3 : Int32), u)
def f_X1_clear (u : StS) : Option (Int32 × StS) := some ((s_sampleCount u), (s_set_sampleCount u (0 : Int32)))
def B_X1_samplesFrom_4 (u : StS) (k31 : Int32 → Option (Int32)) : Nat → Int32 → Int32 → Int32 → Option (Int32)
  | 0, _, _, _ => none
  | n + 1, x1, x2, x3 => if (s_sampleCount u) ≤ x3 then k31 x2 else if (x3 < 0 ∨ 12 ≤ x3.toNatClampNeg) then none else if (s_samples u x3.toNatClampNeg) < x1 then (B_X1_samplesFrom_4 u k31 n) x1 x2 (x3 + 1) else (B_X1_samplesFrom_4 u k31 n) x1 (x2 + 1) (x3 + 1)
def f_X1_samplesFrom (u : StS) (x1 : Int32) : Option (Int32) := B_X1_samplesFrom_4 u (fun z204_2 => some z204_2) 1000 x1 (0 : Int32) (0 : Int32)
def B_X1_learnt_7 (u : StS) (k72 : Int32 → Option (Int32)) : Nat → Int32 → Int32 → Int32 → Option (Int32)
  | 0, _, _, _ => none
  | n + 1, x1, x2, x3 => if (s_sampleCount u) ≤ x3 then k72 x1 else if (x3 < 0 ∨ 12 ≤ x3.toNatClampNeg) then none else if (x3 < 0 ∨ 12 ≤ x3.toNatClampNeg) then none else (f_X1_samplesFrom u (s_samples u x3.toNatClampNeg)).bind fun r104 => if x2 < ((s_samples u x3.toNatClampNeg) * r104) then if (x3 < 0 ∨ 12 ≤ x3.toNatClampNeg) then none else (B_X1_learnt_7 u k72 n) (s_samples u x3.toNatClampNeg) ((s_samples u x3.toNatClampNeg) * r104) (x3 + 1) else if ((s_samples u x3.toNatClampNeg) * r104) = x2 then if (x3 < 0 ∨ 12 ≤ x3.toNatClampNeg) then none else if x1 ≤ (s_samples u x3.toNatClampNeg) then (B_X1_learnt_7 u k72 n) x1 x2 (x3 + 1) else if (x3 < 0 ∨ 12 ≤ x3.toNatClampNeg) then none else (B_X1_learnt_7 u k72 n) (s_samples u x3.toNatClampNeg) ((s_samples u x3.toNatClampNeg) * r104) (x3 + 1) else (B_X1_learnt_7 u k72 n) x1 x2 (x3 + 1)
def f_X1_learnt (u : StS) : Option (Int32) := B_X1_learnt_7 u (fun z211_1 => some z211_1) 1000 (-9 : Int32) (-1 : Int32) (0 : Int32)
def f_X1_count (u : StS) (x1 : Int32) : Option (Int32) := if x1 = 0 then some (s_buyerCount u) else if x1 = 1 then some (s_reservePrice u) else if x1 = 2 then some (s_sampleCount u) else some (-1 : Int32)
def f_X1_trace (u : StS) : Option (Int64) := some (s_traced u)
def B_X2_renews_2  (k38 : StM → Option (StM)) : Nat → StM → Int32 → Option (StM)
  | 0, _, _ => none
  | n + 1, u, x1 => if (3 : Int32) ≤ x1 then k38 u else if (x1 < 0 ∨ 3 ≤ x1.toNatClampNeg) then none else if (((5 : Int32) * x1) < 0 ∨ 15 ≤ ((5 : Int32) * x1).toNatClampNeg) then none else if (((5 : Int32) * x1) < 0 ∨ 15 ≤ ((5 : Int32) * x1).toNatClampNeg) then none else (B_X2_renews_2 k38 n) (m_set_weight (m_set_worth (m_set_many u (upd (m_many u) x1.toNatClampNeg (1 : Int32))) (upd (m_worth (m_set_many u (upd (m_many u) x1.toNatClampNeg (1 : Int32)))) ((5 : Int32) * x1).toNatClampNeg (0 : Int32))) (upd (m_weight (m_set_worth (m_set_many u (upd (m_many u) x1.toNatClampNeg (1 : Int32))) (upd (m_worth (m_set_many u (upd (m_many u) x1.toNatClampNeg (1 : Int32)))) ((5 : Int32) * x1).toNatClampNeg (0 : Int32)))) ((5 : Int32) * x1).toNatClampNeg (1 : Int32))) (x1 + 1)
def f_X2_renews (u : StM) : Option (StM) := B_X2_renews_2 (fun z205_u => some z205_u) 1000 u (0 : Int32)
def f_X2_in (x0 : Int32) (x1 : Int32) (x2 : Int32) : Option (Int32) := if x0 < x1 then some (0 : Int32) else if x2 < x0 then some (0 : Int32) else some (1 : Int32)
def f_X2_isBuyer (u : StM) (x1 : Int32) : Option (Int32) := (f_X2_in x1 (0 : Int32) ((m_n u) - (1 : Int32))).bind fun r101 => if r101 &&& 1 = r101 then some r101 else none
def f_X2_buyers (u : StM) (x1 : Int32) : Option (Int32 × StM) := (f_X2_in x1 (1 : Int32) (3 : Int32)).bind fun r101 => if r101 = 0 then some ((-1 : Int32), (m_set_thrown u (0 : Int32))) else (f_X2_renews (m_set_n (m_set_thrown u (0 : Int32)) x1)).bind fun w103 => some ((m_n (m_set_thrown u (0 : Int32))), w103)
def f_X2_book (u : StM) (x1 : Int32) (x2 : Int32) (x3 : Int32) : Option (Int32 × StM) := (f_X2_isBuyer (m_set_thrown u (0 : Int32)) x1).bind fun r101 => if r101 = 0 then some ((-1 : Int32), (m_set_thrown u (0 : Int32))) else (f_X2_in x2 (0 : Int32) (1000 : Int32)).bind fun r103 => if r103 = 0 then some ((-1 : Int32), (m_set_thrown u (0 : Int32))) else (f_X2_in x3 (1 : Int32) (9 : Int32)).bind fun r105 => if r105 = 0 then some ((-1 : Int32), (m_set_thrown u (0 : Int32))) else if (x1 < 0 ∨ 3 ≤ x1.toNatClampNeg) then none else if (((5 : Int32) * x1) < 0 ∨ 15 ≤ ((5 : Int32) * x1).toNatClampNeg) then none else if (((5 : Int32) * x1) < 0 ∨ 15 ≤ ((5 : Int32) * x1).toNatClampNeg) then none else some ((1 : Int32), (m_set_weight (m_set_worth (m_set_many (m_set_thrown u (0 : Int32)) (upd (m_many (m_set_thrown u (0 : Int32))) x1.toNatClampNeg (1 : Int32))) (upd (m_worth (m_set_many (m_set_thrown u (0 : Int32)) (upd (m_many (m_set_thrown u (0 : Int32))) x1.toNatClampNeg (1 : Int32)))) ((5 : Int32) * x1).toNatClampNeg x2)) (upd (m_weight (m_set_worth (m_set_many (m_set_thrown u (0 : Int32)) (upd (m_many (m_set_thrown u (0 : Int32))) x1.toNatClampNeg (1 : Int32))) (upd (m_worth (m_set_many (m_set_thrown u (0 : Int32)) (upd (m_many (m_set_thrown u (0 : Int32))) x1.toNatClampNeg (1 : Int32)))) ((5 : Int32) * x1).toNatClampNeg x2))) ((5 : Int32) * x1).toNatClampNeg x3)))
def f_X2_more (u : StM) (x1 : Int32) (x2 : Int32) (x3 : Int32) : Option (Int32 × StM) := (f_X2_isBuyer (m_set_thrown u (0 : Int32)) x1).bind fun r101 => if r101 = 0 then some ((-1 : Int32), (m_set_thrown u (0 : Int32))) else (f_X2_in x2 (0 : Int32) (1000 : Int32)).bind fun r103 => if r103 = 0 then some ((-1 : Int32), (m_set_thrown u (0 : Int32))) else (f_X2_in x3 (1 : Int32) (9 : Int32)).bind fun r105 => if r105 = 0 then some ((-1 : Int32), (m_set_thrown u (0 : Int32))) else if (x1 < 0 ∨ 3 ≤ x1.toNatClampNeg) then none else if (((((5 : Int32) * x1) + (m_many (m_set_thrown u (0 : Int32)) x1.toNatClampNeg)) - (1 : Int32)) < 0 ∨ 15 ≤ ((((5 : Int32) * x1) + (m_many (m_set_thrown u (0 : Int32)) x1.toNatClampNeg)) - (1 : Int32)).toNatClampNeg) then none else if (m_worth (m_set_thrown u (0 : Int32)) ((((5 : Int32) * x1) + (m_many (m_set_thrown u (0 : Int32)) x1.toNatClampNeg)) - (1 : Int32)).toNatClampNeg) < x2 then if (x1 < 0 ∨ 3 ≤ x1.toNatClampNeg) then none else if (m_many (m_set_thrown u (0 : Int32)) x1.toNatClampNeg) = (5 : Int32) then some ((-3 : Int32), (m_set_thrown u (0 : Int32))) else if (x1 < 0 ∨ 3 ≤ x1.toNatClampNeg) then none else if ((((5 : Int32) * x1) + (m_many (m_set_thrown u (0 : Int32)) x1.toNatClampNeg)) < 0 ∨ 15 ≤ (((5 : Int32) * x1) + (m_many (m_set_thrown u (0 : Int32)) x1.toNatClampNeg)).toNatClampNeg) then none else if (x1 < 0 ∨ 3 ≤ x1.toNatClampNeg) then none else if ((((5 : Int32) * x1) + (m_many (m_set_worth (m_set_thrown u (0 : Int32)) (upd (m_worth (m_set_thrown u (0 : Int32))) (((5 : Int32) * x1) + (m_many (m_set_thrown u (0 : Int32)) x1.toNatClampNeg)).toNatClampNeg x2)) x1.toNatClampNeg)) < 0 ∨ 15 ≤ (((5 : Int32) * x1) + (m_many (m_set_worth (m_set_thrown u (0 : Int32)) (upd (m_worth (m_set_thrown u (0 : Int32))) (((5 : Int32) * x1) + (m_many (m_set_thrown u (0 : Int32)) x1.toNatClampNeg)).toNatClampNeg x2)) x1.toNatClampNeg)).toNatClampNeg) then none else if (x1 < 0 ∨ 3 ≤ x1.toNatClampNeg) then none else if (x1 < 0 ∨ 3 ≤ x1.toNatClampNeg) then none else if (x1 < 0 ∨ 3 ≤ x1.toNatClampNeg) then none else some ((m_many (m_set_many (m_set_weight (m_set_worth (m_set_thrown u (0 : Int32)) (upd (m_worth (m_set_thrown u (0 : Int32))) (((5 : Int32) * x1) + (m_many (m_set_thrown u (0 : Int32)) x1.toNatClampNeg)).toNatClampNeg x2)) (upd (m_weight (m_set_worth (m_set_thrown u (0 : Int32)) (upd (m_worth (m_set_thrown u (0 : Int32))) (((5 : Int32) * x1) + (m_many (m_set_thrown u (0 : Int32)) x1.toNatClampNeg)).toNatClampNeg x2))) (((5 : Int32) * x1) + (m_many (m_set_worth (m_set_thrown u (0 : Int32)) (upd (m_worth (m_set_thrown u (0 : Int32))) (((5 : Int32) * x1) + (m_many (m_set_thrown u (0 : Int32)) x1.toNatClampNeg)).toNatClampNeg x2)) x1.toNatClampNeg)).toNatClampNeg x3)) (upd (m_many (m_set_weight (m_set_worth (m_set_thrown u (0 : Int32)) (upd (m_worth (m_set_thrown u (0 : Int32))) (((5 : Int32) * x1) + (m_many (m_set_thrown u (0 : Int32)) x1.toNatClampNeg)).toNatClampNeg x2)) (upd (m_weight (m_set_worth (m_set_thrown u (0 : Int32)) (upd (m_worth (m_set_thrown u (0 : Int32))) (((5 : Int32) * x1) + (m_many (m_set_thrown u (0 : Int32)) x1.toNatClampNeg)).toNatClampNeg x2))) (((5 : Int32) * x1) + (m_many (m_set_worth (m_set_thrown u (0 : Int32)) (upd (m_worth (m_set_thrown u (0 : Int32))) (((5 : Int32) * x1) + (m_many (m_set_thrown u (0 : Int32)) x1.toNatClampNeg)).toNatClampNeg x2)) x1.toNatClampNeg)).toNatClampNeg x3))) x1.toNatClampNeg ((m_many (m_set_weight (m_set_worth (m_set_thrown u (0 : Int32)) (upd (m_worth (m_set_thrown u (0 : Int32))) (((5 : Int32) * x1) + (m_many (m_set_thrown u (0 : Int32)) x1.toNatClampNeg)).toNatClampNeg x2)) (upd (m_weight (m_set_worth (m_set_thrown u (0 : Int32)) (upd (m_worth (m_set_thrown u (0 : Int32))) (((5 : Int32) * x1) + (m_many (m_set_thrown u (0 : Int32)) x1.toNatClampNeg)).toNatClampNeg x2))) (((5 : Int32) * x1) + (m_many (m_set_worth (m_set_thrown u (0 : Int32)) (upd (m_worth (m_set_thrown u (0 : Int32))) (((5 : Int32) * x1) + (m_many (m_set_thrown u (0 : Int32)) x1.toNatClampNeg)).toNatClampNeg x2)) x1.toNatClampNeg)).toNatClampNeg x3)) x1.toNatClampNeg) + (1 : Int32)))) x1.toNatClampNeg), (m_set_many (m_set_weight (m_set_worth (m_set_thrown u (0 : Int32)) (upd (m_worth (m_set_thrown u (0 : Int32))) (((5 : Int32) * x1) + (m_many (m_set_thrown u (0 : Int32)) x1.toNatClampNeg)).toNatClampNeg x2)) (upd (m_weight (m_set_worth (m_set_thrown u (0 : Int32)) (upd (m_worth (m_set_thrown u (0 : Int32))) (((5 : Int32) * x1) + (m_many (m_set_thrown u (0 : Int32)) x1.toNatClampNeg)).toNatClampNeg x2))) (((5 : Int32) * x1) + (m_many (m_set_worth (m_set_thrown u (0 : Int32)) (upd (m_worth (m_set_thrown u (0 : Int32))) (((5 : Int32) * x1) + (m_many (m_set_thrown u (0 : Int32)) x1.toNatClampNeg)).toNatClampNeg x2)) x1.toNatClampNeg)).toNatClampNeg x3)) (upd (m_many (m_set_weight (m_set_worth (m_set_thrown u (0 : Int32)) (upd (m_worth (m_set_thrown u (0 : Int32))) (((5 : Int32) * x1) + (m_many (m_set_thrown u (0 : Int32)) x1.toNatClampNeg)).toNatClampNeg x2)) (upd (m_weight (m_set_worth (m_set_thrown u (0 : Int32)) (upd (m_worth (m_set_thrown u (0 : Int32))) (((5 : Int32) * x1) + (m_many (m_set_thrown u (0 : Int32)) x1.toNatClampNeg)).toNatClampNeg x2))) (((5 : Int32) * x1) + (m_many (m_set_worth (m_set_thrown u (0 : Int32)) (upd (m_worth (m_set_thrown u (0 : Int32))) (((5 : Int32) * x1) + (m_many (m_set_thrown u (0 : Int32)) x1.toNatClampNeg)).toNatClampNeg x2)) x1.toNatClampNeg)).toNatClampNeg x3))) x1.toNatClampNeg ((m_many (m_set_weight (m_set_worth (m_set_thrown u (0 : Int32)) (upd (m_worth (m_set_thrown u (0 : Int32))) (((5 : Int32) * x1) + (m_many (m_set_thrown u (0 : Int32)) x1.toNatClampNeg)).toNatClampNeg x2)) (upd (m_weight (m_set_worth (m_set_thrown u (0 : Int32)) (upd (m_worth (m_set_thrown u (0 : Int32))) (((5 : Int32) * x1) + (m_many (m_set_thrown u (0 : Int32)) x1.toNatClampNeg)).toNatClampNeg x2))) (((5 : Int32) * x1) + (m_many (m_set_worth (m_set_thrown u (0 : Int32)) (upd (m_worth (m_set_thrown u (0 : Int32))) (((5 : Int32) * x1) + (m_many (m_set_thrown u (0 : Int32)) x1.toNatClampNeg)).toNatClampNeg x2)) x1.toNatClampNeg)).toNatClampNeg x3)) x1.toNatClampNeg) + (1 : Int32))))) else some ((-1 : Int32), (m_set_thrown u (0 : Int32)))
def B_X2_share_5 (u : StM) (k36 : Int32 → Option (Int32)) : Nat → Int32 → Int32 → Int32 → Option (Int32)
  | 0, _, _, _ => none
  | n + 1, x1, x3, x4 => if (x1 < 0 ∨ 3 ≤ x1.toNatClampNeg) then none else if (m_many u x1.toNatClampNeg) ≤ x4 then k36 x3 else if ((((5 : Int32) * x1) + x4) < 0 ∨ 15 ≤ (((5 : Int32) * x1) + x4).toNatClampNeg) then none else (B_X2_share_5 u k36 n) x1 (x3 + (m_weight u (((5 : Int32) * x1) + x4).toNatClampNeg)) (x4 + 1)
def f_X2_share (u : StM) (x1 : Int32) (x2 : Int32) : Option (Int32) := B_X2_share_5 u (fun z204_3 => some z204_3) 1000 x1 (0 : Int32) x2
def f_X2_take (u : StM) (x1 : Int32) (x2 : Int32) : Option (Int32) := if (x1 < 0 ∨ 3 ≤ x1.toNatClampNeg) then none else if x2 = (m_many u x1.toNatClampNeg) then some (0 : Int32) else if ((((5 : Int32) * x1) + x2) < 0 ∨ 15 ≤ (((5 : Int32) * x1) + x2).toNatClampNeg) then none else (f_X2_share u x1 x2).bind fun r104 => some ((m_worth u (((5 : Int32) * x1) + x2).toNatClampNeg) * r104)
def B_X2_bestOf_4 (u : StM) (k41 : Int32 → Option (Int32)) : Nat → Int32 → Int32 → Int32 → Option (Int32)
  | 0, _, _, _ => none
  | n + 1, x1, x2, x3 => if (x1 < 0 ∨ 3 ≤ x1.toNatClampNeg) then none else if (m_many u x1.toNatClampNeg) ≤ x3 then k41 x2 else (f_X2_take u x1 x3).bind fun r103 => (f_X2_take u x1 x2).bind fun r104 => if r103 ≤ r104 then (B_X2_bestOf_4 u k41 n) x1 x2 (x3 + 1) else (B_X2_bestOf_4 u k41 n) x1 x3 (x3 + 1)
def f_X2_bestOf (u : StM) (x1 : Int32) : Option (Int32) := B_X2_bestOf_4 u (fun z206_2 => some z206_2) 1000 x1 (0 : Int32) (1 : Int32)
def f_X2_isPlace (u : StM) (x1 : Int32) (x2 : Int32) : Option (Int32) := if (x1 < 0 ∨ 3 ≤ x1.toNatClampNeg) then none else (f_X2_in x2 (0 : Int32) ((m_many u x1.toNatClampNeg) - (1 : Int32))).bind fun r102 => if r102 &&& 1 = r102 then some r102 else none
def f_X2_about (u : StM) (x1 : Int32) (x2 : Int32) (x3 : Int32) : Option (Int32 × StM) := (f_X2_isBuyer (m_set_thrown u (0 : Int32)) x1).bind fun r101 => if r101 = 0 then some ((-1 : Int32), (m_set_thrown u (0 : Int32))) else (f_X2_isPlace (m_set_thrown u (0 : Int32)) x1 x2).bind fun r103 => if r103 = 0 then some ((-1 : Int32), (m_set_thrown u (0 : Int32))) else (f_X2_in x3 (0 : Int32) (3 : Int32)).bind fun r105 => if r105 = 0 then some ((-1 : Int32), (m_set_thrown u (0 : Int32))) else if x3 = 0 then if ((((5 : Int32) * x1) + x2) < 0 ∨ 15 ≤ (((5 : Int32) * x1) + x2).toNatClampNeg) then none else some ((m_worth (m_set_thrown u (0 : Int32)) (((5 : Int32) * x1) + x2).toNatClampNeg), (m_set_thrown u (0 : Int32))) else if x3 = (1 : Int32) then if ((((5 : Int32) * x1) + x2) < 0 ∨ 15 ≤ (((5 : Int32) * x1) + x2).toNatClampNeg) then none else some ((m_weight (m_set_thrown u (0 : Int32)) (((5 : Int32) * x1) + x2).toNatClampNeg), (m_set_thrown u (0 : Int32))) else if x3 = (2 : Int32) then (f_X2_share (m_set_thrown u (0 : Int32)) x1 x2).bind fun r111 => some (r111, (m_set_thrown u (0 : Int32))) else (f_X2_take (m_set_thrown u (0 : Int32)) x1 x2).bind fun r110 => some (r110, (m_set_thrown u (0 : Int32)))
def f_X2_whole (u : StM) (x1 : Int32) (x2 : Int32) : Option (Int32 × StM) := (f_X2_isBuyer (m_set_thrown u (0 : Int32)) x1).bind fun r101 => if r101 = 0 then some ((-1 : Int32), (m_set_thrown u (0 : Int32))) else (f_X2_in x2 (0 : Int32) (2 : Int32)).bind fun r103 => if r103 = 0 then some ((-1 : Int32), (m_set_thrown u (0 : Int32))) else if x2 = 0 then if (x1 < 0 ∨ 3 ≤ x1.toNatClampNeg) then none else some ((m_many (m_set_thrown u (0 : Int32)) x1.toNatClampNeg), (m_set_thrown u (0 : Int32))) else if x2 = (1 : Int32) then (f_X2_share (m_set_thrown u (0 : Int32)) x1 (0 : Int32)).bind fun r108 => some (r108, (m_set_thrown u (0 : Int32))) else (f_X2_bestOf (m_set_thrown u (0 : Int32)) x1).bind fun r107 => some (r107, (m_set_thrown u (0 : Int32)))
def B_X2_irons_33  (k108 : StM → Int32 → Int32 → Int32 → Int64 → Int64 → Option (StM)) : Nat → StM → Int32 → Int32 → Int32 → Int64 → Int64 → Int32 → Option (StM)
  | 0, _, _, _, _, _, _, _ => none
  | n + 1, u, x1, x2, x3, x4, x6, x8 => if x2 < x8 then k108 u x1 x2 x3 x4 x6 else (f_X2_take u x1 x8).bind fun r102 => (f_X2_take u x1 x3).bind fun r103 => (f_X2_share u x1 x8).bind fun r104 => (f_X2_share u x1 x3).bind fun r105 => if (lg_cmp x6 (0 : Int64)) = 0 then (B_X2_irons_33 k108 n) u x1 x2 x3 (((r102 - r103)).toInt64) (((r104 - r105)).toInt64) (x8 + 1) else if (lg_cmp (((r102 - r103)).toInt64 * x6) (x4 * ((r104 - r105)).toInt64)) ≤ 0 then (B_X2_irons_33 k108 n) u x1 x2 x3 x4 x6 (x8 + 1) else (B_X2_irons_33 k108 n) u x1 x2 x3 (((r102 - r103)).toInt64) (((r104 - r105)).toInt64) (x8 + 1)
def B_X2_irons_14  (k153 : StM → Option (StM)) : Nat → StM → Int32 → Int32 → Int32 → Option (StM)
  | 0, _, _, _, _ => none
  | n + 1, u, x1, x2, x3 => if (x1 < 0 ∨ 3 ≤ x1.toNatClampNeg) then none else if (m_many u x1.toNatClampNeg) < x3 then k153 u else B_X2_irons_33 (fun z210_u z210_1 z210_2 z210_3 z210_4 z210_6 => if (lg_cmp (m_lower z210_u) (0 : Int64)) = 0 then (B_X2_irons_14 k153 n) (m_set_lower (m_set_upper z210_u z210_4) z210_6) z210_1 z210_2 (z210_3 + 1) else if 0 ≤ (lg_cmp (z210_4 * (m_lower z210_u)) ((m_upper z210_u) * z210_6)) then (B_X2_irons_14 k153 n) z210_u z210_1 z210_2 (z210_3 + 1) else (B_X2_irons_14 k153 n) (m_set_lower (m_set_upper z210_u z210_4) z210_6) z210_1 z210_2 (z210_3 + 1)) 1000 u x1 x2 x3 (0 : Int64) (0 : Int64) (0 : Int32)
def f_X2_irons (u : StM) (x1 : Int32) (x2 : Int32) : Option (StM) := B_X2_irons_14 (fun z313_u => some z313_u) 1000 (m_set_lower (m_set_upper u (0 : Int64)) (0 : Int64)) x1 x2 (x2 + (1 : Int32))
def B_X2_common_17  (k42 : Int64 → Option (Int64)) : Nat → Int64 → Int64 → Option (Int64)
  | 0, _, _ => none
  | n + 1, x4, x6 => if (lg_cmp x6 (0 : Int64)) = 0 then k42 x4 else if x6 = 0 then none else (B_X2_common_17 k42 n) x6 (x4 - x4 / x6 * x6)
def f_X2_common (x0 : Int64) (x2 : Int64) : Option (Int64) := if 0 ≤ (lg_cmp x0 (0 : Int64)) then B_X2_common_17 (fun z204_4 => some z204_4) 1000 x0 x2 else B_X2_common_17 (fun z205_4 => some z205_4) 1000 (-x0) x2
def f_X2_part (u : StM) (x1 : Int64) (x3 : Int64) (x5 : Int32) : Option (Int64) := (f_X2_common x1 x3).bind fun r101 => if x5 = 0 then if r101 = 0 then none else some (x1 / r101) else if r101 = 0 then none else some (x3 / r101)
def B_X2_slope_84   (u : StM) (x4 : Int32) : Option (Int64 × StM) := (f_X2_part u (m_upper u) (m_lower u) x4).bind fun r101 => some (r101, u)
def f_X2_slope (u : StM) (x1 : Int32) (x2 : Int32) (x3 : Int32) (x4 : Int32) : Option (Int64 × StM) := (f_X2_isBuyer (m_set_thrown u (0 : Int32)) x1).bind fun r202 => if r202 = 0 then some ((-1000000000000000 : Int64), (m_set_thrown u (0 : Int32))) else (f_X2_isPlace (m_set_thrown u (0 : Int32)) x1 x2).bind fun r204 => if r204 = 0 then some ((-1000000000000000 : Int64), (m_set_thrown u (0 : Int32))) else (f_X2_in x4 (0 : Int32) (1 : Int32)).bind fun r206 => if r206 = 0 then some ((-1000000000000000 : Int64), (m_set_thrown u (0 : Int32))) else if x3 = 0 then (f_X2_take (m_set_thrown u (0 : Int32)) x1 x2).bind fun r209 => (f_X2_take (m_set_thrown u (0 : Int32)) x1 (x2 + (1 : Int32))).bind fun r210 => if ((((5 : Int32) * x1) + x2) < 0 ∨ 15 ≤ (((5 : Int32) * x1) + x2).toNatClampNeg) then none else B_X2_slope_84 (m_set_lower (m_set_upper (m_set_thrown u (0 : Int32)) (((r209 - r210)).toInt64)) (((m_weight (m_set_upper (m_set_thrown u (0 : Int32)) (((r209 - r210)).toInt64)) (((5 : Int32) * x1) + x2).toNatClampNeg)).toInt64)) x4 else (f_X2_irons (m_set_thrown u (0 : Int32)) x1 x2).bind fun w212 => B_X2_slope_84 w212 x4
def B_X2_getter_11  (k70 : StM → Int32 → Option (Int32 × StM)) : Nat → StM → Int32 → Int64 → Int64 → Int32 → Option (Int32 × StM)
  | 0, _, _, _, _, _ => none
  | n + 1, u, x1, x2, x4, x6 => if (m_n u) ≤ x6 then k70 u x1 else if (x6 < 0 ∨ 3 ≤ x6.toNatClampNeg) then none else (f_X2_irons u x6 (m_place u x6.toNatClampNeg)).bind fun w103 => if (lg_cmp ((m_upper w103) * x4) (x2 * (m_lower w103))) ≤ 0 then (B_X2_getter_11 k70 n) w103 x1 x2 x4 (x6 + 1) else (B_X2_getter_11 k70 n) w103 x6 (m_upper w103) (m_lower w103) (x6 + 1)
def f_X2_getter (u : StM) : Option (Int32 × StM) := B_X2_getter_11 (fun z205_u z205_1 => some (z205_1, z205_u)) 1000 u (-9 : Int32) (0 : Int64) (1 : Int64) (0 : Int32)
def B_X2_paid_22  (k65 : StM → Int32 → Int32 → Int32 → Option (Int32 × StM)) : Nat → StM → Int32 → Int32 → Int32 → Int32 → Option (Int32 × StM)
  | 0, _, _, _, _, _ => none
  | n + 1, u, x1, x2, x3, x4 => if x4 < 0 then k65 u x1 x2 x3 else if (x1 < 0 ∨ 3 ≤ x1.toNatClampNeg) then none else (f_X2_getter (m_set_place u (upd (m_place u) x1.toNatClampNeg x4))).bind fun ⟨r103, w103⟩ => if r103 = x1 then if ((((5 : Int32) * x1) + x4) < 0 ∨ 15 ≤ (((5 : Int32) * x1) + x4).toNatClampNeg) then none else (B_X2_paid_22 k65 n) w103 x1 x2 (m_worth w103 (((5 : Int32) * x1) + x4).toNatClampNeg) (x4 + (-1)) else (B_X2_paid_22 k65 n) w103 x1 x2 x3 (x4 + (-1))
def f_X2_paid (u : StM) (x1 : Int32) : Option (Int32 × StM) := (f_X2_getter u).bind fun ⟨r206, w206⟩ => if r206 = x1 then if (x1 < 0 ∨ 3 ≤ x1.toNatClampNeg) then none else B_X2_paid_22 (fun z209_u z209_1 z209_2 z209_3 => if (z209_1 < 0 ∨ 3 ≤ z209_1.toNatClampNeg) then none else some (z209_3, (m_set_place z209_u (upd (m_place z209_u) z209_1.toNatClampNeg z209_2)))) 1000 w206 x1 (m_place w206 x1.toNatClampNeg) (0 : Int32) (m_place w206 x1.toNatClampNeg) else some ((0 : Int32), w206)
def B_X2_isPlaces_27  (k60 : StM → Int32 → Option (Int32 × StM)) : Nat → StM → Int32 → Int32 → Option (Int32 × StM)
  | 0, _, _, _ => none
  | n + 1, u, x4, x5 => if (m_n u) ≤ x5 then k60 u x4 else if (x5 < 0 ∨ 3 ≤ x5.toNatClampNeg) then none else (f_X2_isPlace u x5 (m_place u x5.toNatClampNeg)).bind fun r103 => (B_X2_isPlaces_27 k60 n) u (x4 &&& r103) (x5 + 1)
def f_X2_isPlaces (u : StM) (x1 : Int32) (x2 : Int32) (x3 : Int32) : Option (Int32 × StM) := if ((0 : Int32) < 0 ∨ 3 ≤ (0 : Int32).toNatClampNeg) then none else if ((1 : Int32) < 0 ∨ 3 ≤ (1 : Int32).toNatClampNeg) then none else if ((2 : Int32) < 0 ∨ 3 ≤ (2 : Int32).toNatClampNeg) then none else B_X2_isPlaces_27 (fun z207_u z207_4 => if z207_4 &&& 1 = z207_4 then some (z207_4, z207_u) else none) 1000 (m_set_place (m_set_place (m_set_place u (upd (m_place u) (0 : Int32).toNatClampNeg x1)) (upd (m_place (m_set_place u (upd (m_place u) (0 : Int32).toNatClampNeg x1))) (1 : Int32).toNatClampNeg x2)) (upd (m_place (m_set_place (m_set_place u (upd (m_place u) (0 : Int32).toNatClampNeg x1)) (upd (m_place (m_set_place u (upd (m_place u) (0 : Int32).toNatClampNeg x1))) (1 : Int32).toNatClampNeg x2))) (2 : Int32).toNatClampNeg x3)) (1 : Int32) (0 : Int32)
def f_X2_gets (u : StM) (x1 : Int32) (x2 : Int32) (x3 : Int32) : Option (Int32 × StM) := (f_X2_isPlaces (m_set_thrown u (0 : Int32)) x1 x2 x3).bind fun ⟨r101, w101⟩ => if r101 = 0 then some ((-1 : Int32), w101) else (f_X2_getter w101).bind fun ⟨r103, w103⟩ => some (r103, w103)
def f_X2_pays (u : StM) (x1 : Int32) (x2 : Int32) (x3 : Int32) (x4 : Int32) : Option (Int32 × StM) := (f_X2_isPlaces (m_set_thrown u (0 : Int32)) x1 x2 x3).bind fun ⟨r101, w101⟩ => if r101 = 0 then some ((-1 : Int32), w101) else (f_X2_isBuyer w101 x4).bind fun r103 => if r103 = 0 then some ((-1 : Int32), w101) else (f_X2_paid w101 x4).bind fun ⟨r105, w105⟩ => some (r105, w105)
def f_X2_gain (u : StM) (x1 : Int32) (x2 : Int32) (x3 : Int32) (x4 : Int32) (x5 : Int32) : Option (Int64 × StM) := (f_X2_isPlaces (m_set_thrown u (0 : Int32)) x1 x2 x3).bind fun ⟨r101, w101⟩ => if r101 = 0 then some ((-1000000000000000 : Int64), w101) else (f_X2_isBuyer w101 x4).bind fun r103 => if r103 = 0 then some ((-1000000000000000 : Int64), w101) else (f_X2_isPlace w101 x4 x5).bind fun r105 => if r105 = 0 then some ((-1000000000000000 : Int64), w101) else if (x4 < 0 ∨ 3 ≤ x4.toNatClampNeg) then none else if ((((5 : Int32) * x4) + (m_place w101 x4.toNatClampNeg)) < 0 ∨ 15 ≤ (((5 : Int32) * x4) + (m_place w101 x4.toNatClampNeg)).toNatClampNeg) then none else if (x4 < 0 ∨ 3 ≤ x4.toNatClampNeg) then none else (f_X2_getter (m_set_place w101 (upd (m_place w101) x4.toNatClampNeg x5))).bind fun ⟨r110, w110⟩ => if r110 = x4 then (f_X2_paid w110 x4).bind fun ⟨r112, w112⟩ => some ((((m_worth w101 (((5 : Int32) * x4) + (m_place w101 x4.toNatClampNeg)).toNatClampNeg) - r112)).toInt64, w112) else some ((0 : Int64), w110)
def B_X2_all_4 (u : StM) (k27 : Int32 → Option (Int32)) : Nat → Int32 → Int32 → Option (Int32)
  | 0, _, _ => none
  | n + 1, x1, x2 => if (m_n u) ≤ x2 then k27 x1 else (f_X2_share u x2 (0 : Int32)).bind fun r102 => (B_X2_all_4 u k27 n) (x1 * r102) (x2 + 1)
def f_X2_all (u : StM) : Option (Int32) := B_X2_all_4 u (fun z203_1 => some z203_1) 1000 (1 : Int32) (0 : Int32)
def B_X2_comes_7  (k103 : StM → Int32 → Option (Int32 × StM)) : Nat → StM → Int32 → Int32 → Int32 → Option (Int32 × StM)
  | 0, _, _, _, _ => none
  | n + 1, u, x2, x3, x4 => if (3 : Int32) ≤ x4 then k103 u x3 else if (x4 < 0 ∨ 3 ≤ x4.toNatClampNeg) then none else if (m_n (m_set_place u (upd (m_place u) x4.toNatClampNeg (x2 - x2 / (5 : Int32) * (5 : Int32))))) ≤ x4 then if (x4 < 0 ∨ 3 ≤ x4.toNatClampNeg) then none else if (m_place (m_set_place u (upd (m_place u) x4.toNatClampNeg (x2 - x2 / (5 : Int32) * (5 : Int32)))) x4.toNatClampNeg) = 0 then (B_X2_comes_7 k103 n) (m_set_place u (upd (m_place u) x4.toNatClampNeg (x2 - x2 / (5 : Int32) * (5 : Int32)))) (x2 / (5 : Int32)) (x3 * (1 : Int32)) (x4 + 1) else (B_X2_comes_7 k103 n) (m_set_place u (upd (m_place u) x4.toNatClampNeg (x2 - x2 / (5 : Int32) * (5 : Int32)))) (x2 / (5 : Int32)) (x3 * (0 : Int32)) (x4 + 1) else if (x4 < 0 ∨ 3 ≤ x4.toNatClampNeg) then none else (f_X2_isPlace (m_set_place u (upd (m_place u) x4.toNatClampNeg (x2 - x2 / (5 : Int32) * (5 : Int32)))) x4 (m_place (m_set_place u (upd (m_place u) x4.toNatClampNeg (x2 - x2 / (5 : Int32) * (5 : Int32)))) x4.toNatClampNeg)).bind fun r107 => if r107 = 0 then (B_X2_comes_7 k103 n) (m_set_place u (upd (m_place u) x4.toNatClampNeg (x2 - x2 / (5 : Int32) * (5 : Int32)))) (x2 / (5 : Int32)) (x3 * (0 : Int32)) (x4 + 1) else if (x4 < 0 ∨ 3 ≤ x4.toNatClampNeg) then none else if ((((5 : Int32) * x4) + (m_place (m_set_place u (upd (m_place u) x4.toNatClampNeg (x2 - x2 / (5 : Int32) * (5 : Int32)))) x4.toNatClampNeg)) < 0 ∨ 15 ≤ (((5 : Int32) * x4) + (m_place (m_set_place u (upd (m_place u) x4.toNatClampNeg (x2 - x2 / (5 : Int32) * (5 : Int32)))) x4.toNatClampNeg)).toNatClampNeg) then none else (B_X2_comes_7 k103 n) (m_set_place u (upd (m_place u) x4.toNatClampNeg (x2 - x2 / (5 : Int32) * (5 : Int32)))) (x2 / (5 : Int32)) (x3 * (m_weight (m_set_place u (upd (m_place u) x4.toNatClampNeg (x2 - x2 / (5 : Int32) * (5 : Int32)))) (((5 : Int32) * x4) + (m_place (m_set_place u (upd (m_place u) x4.toNatClampNeg (x2 - x2 / (5 : Int32) * (5 : Int32)))) x4.toNatClampNeg)).toNatClampNeg)) (x4 + 1)
def f_X2_comes (u : StM) (x1 : Int32) : Option (Int32 × StM) := B_X2_comes_7 (fun z211_u z211_3 => some (z211_3, z211_u)) 1000 u x1 (1 : Int32) (0 : Int32)
def B_X2_brings_41  (k75 : StM → Int32 → Int64 → Int32 → Option (Int64 × StM)) : Nat → StM → Int32 → Int64 → Int32 → Int32 → Int32 → Option (Int64 × StM)
  | 0, _, _, _, _, _, _ => none
  | n + 1, u, x1, x2, x4, x5, x6 => if (m_n u) ≤ x6 then k75 u x1 x2 x4 else if x5 ≤ 0 then k75 u x1 x2 x4 else (f_X2_paid u x6).bind fun ⟨r103, w103⟩ => (B_X2_brings_41 k75 n) w103 x1 (x2 + ((x5).toInt64 * (r103).toInt64)) x4 x5 (x6 + 1)
def B_X2_brings_23  (k81 : StM → Int32 → Int64 → Option (Int64 × StM)) : Nat → StM → Int32 → Int64 → Int32 → Option (Int64 × StM)
  | 0, _, _, _, _ => none
  | n + 1, u, x1, x2, x4 => if (125 : Int32) ≤ x4 then k81 u x1 x2 else (f_X2_comes u x4).bind fun ⟨r205, w205⟩ => B_X2_brings_41 (fun z206_u z206_1 z206_2 z206_4 => (B_X2_brings_23 k81 n) z206_u z206_1 z206_2 (z206_4 + 1)) 1000 w205 x1 x2 x4 r205 (0 : Int32)
def f_X2_brings (u : StM) (x1 : Int32) : Option (Int64 × StM) := (f_X2_in x1 (0 : Int32) (1 : Int32)).bind fun r307 => if r307 = 0 then some ((-1000000000000000 : Int64), (m_set_thrown u (0 : Int32))) else B_X2_brings_23 (fun z309_u z309_1 z309_2 => (f_X2_all z309_u).bind fun r310 => (f_X2_part z309_u z309_2 ((r310).toInt64) z309_1).bind fun r311 => some (r311, z309_u)) 1000 (m_set_thrown u (0 : Int32)) x1 (0 : Int64) (0 : Int32)
def f_X2_reserve (u : StM) (x1 : Int32) : Option (Int32 × StM) := (f_X2_in x1 (0 : Int32) (1000 : Int32)).bind fun r101 => if r101 = 0 then some ((-1 : Int32), (m_set_thrown u (0 : Int32))) else some ((m_reserve (m_set_thrown u (0 : Int32))), (m_set_reserve (m_set_thrown u (0 : Int32)) x1))
def B_X2_payOf_4 (u : StM) (k39 : Int32 → Int32 → Option (Int32)) : Nat → Int32 → Int32 → Int32 → Option (Int32)
  | 0, _, _, _ => none
  | n + 1, x1, x2, x3 => if (m_n u) ≤ x3 then k39 x1 x2 else if (x3 < 0 ∨ 3 ≤ x3.toNatClampNeg) then none else if (x2 < 0 ∨ 3 ≤ x2.toNatClampNeg) then none else if (m_told u x3.toNatClampNeg) ≤ (m_told u x2.toNatClampNeg) then (B_X2_payOf_4 u k39 n) x1 x2 (x3 + 1) else (B_X2_payOf_4 u k39 n) x1 x3 (x3 + 1)
def B_X2_payOf_64 (u : StM) (k108 : Int32 → Int32 → Option (Int32)) : Nat → Int32 → Int32 → Int32 → Int32 → Option (Int32)
  | 0, _, _, _, _ => none
  | n + 1, x1, x2, x3, x4 => if (m_n u) ≤ x4 then k108 x1 x3 else if x4 = x2 then (B_X2_payOf_64 u k108 n) x1 x2 x3 (x4 + 1) else if (x4 < 0 ∨ 3 ≤ x4.toNatClampNeg) then none else if (m_told u x4.toNatClampNeg) ≤ x3 then (B_X2_payOf_64 u k108 n) x1 x2 x3 (x4 + 1) else if (x4 < 0 ∨ 3 ≤ x4.toNatClampNeg) then none else (B_X2_payOf_64 u k108 n) x1 x2 (m_told u x4.toNatClampNeg) (x4 + 1)
def B_X2_payOf_128 (u : StM)  (x1 : Int32) (xs0 : Int32) : Option (Int32) := if x1 ≤ (1 : Int32) then some xs0 else some (xs0 + (xs0 / (10 : Int32)))
def B_X2_payOf_127 (u : StM)  (x1 : Int32) (x3 : Int32) : Option (Int32) := B_X2_payOf_128 u x1 x3
def f_X2_payOf (u : StM) (x1 : Int32) : Option (Int32) := B_X2_payOf_4 u (fun z511_1 z511_2 => if z511_1 ≤ 0 then B_X2_payOf_64 u (fun z513_1 z513_3 => if z513_1 ≤ 0 then B_X2_payOf_127 u z513_1 z513_3 else if (m_reserve u) ≤ z513_3 then B_X2_payOf_127 u z513_1 z513_3 else B_X2_payOf_128 u z513_1 (m_reserve u)) 1000 z511_1 z511_2 (0 : Int32) (0 : Int32) else if (z511_2 < 0 ∨ 3 ≤ z511_2.toNatClampNeg) then none else if (m_reserve u) ≤ (m_told u z511_2.toNatClampNeg) then B_X2_payOf_64 u (fun z518_1 z518_3 => if z518_1 ≤ 0 then B_X2_payOf_127 u z518_1 z518_3 else if (m_reserve u) ≤ z518_3 then B_X2_payOf_127 u z518_1 z518_3 else B_X2_payOf_128 u z518_1 (m_reserve u)) 1000 z511_1 z511_2 (0 : Int32) (0 : Int32) else some (-9 : Int32)) 1000 x1 (0 : Int32) (1 : Int32)
def B_X2_pay_38  (k72 : StM → Int32 → Int32 → Option (Int32 × StM)) : Nat → StM → Int32 → Int32 → Int32 → Option (Int32 × StM)
  | 0, _, _, _, _ => none
  | n + 1, u, x1, x5, x6 => if (m_n u) ≤ x6 then k72 u x1 x5 else if (x6 < 0 ∨ 3 ≤ x6.toNatClampNeg) then none else (f_X2_in (m_told u x6.toNatClampNeg) (0 : Int32) (1000 : Int32)).bind fun r103 => (B_X2_pay_38 k72 n) u x1 (x5 &&& r103) (x6 + 1)
def f_X2_pay (u : StM) (x1 : Int32) (x2 : Int32) (x3 : Int32) (x4 : Int32) : Option (Int32 × StM) := if ((0 : Int32) < 0 ∨ 3 ≤ (0 : Int32).toNatClampNeg) then none else if ((1 : Int32) < 0 ∨ 3 ≤ (1 : Int32).toNatClampNeg) then none else if ((2 : Int32) < 0 ∨ 3 ≤ (2 : Int32).toNatClampNeg) then none else (f_X2_in x1 (0 : Int32) (2 : Int32)).bind fun r207 => B_X2_pay_38 (fun z208_u z208_1 z208_5 => if z208_5 = 0 then some ((-1 : Int32), z208_u) else (f_X2_payOf z208_u z208_1).bind fun r210 => if r210 = (-9 : Int32) then some (r210, z208_u) else if z208_1 = 0 then some (r210, (m_set_trace z208_u ((m_trace z208_u) + (1 : Int64)))) else if z208_1 = (1 : Int32) then some (r210, (m_set_trace z208_u ((m_trace z208_u) + (11 : Int64)))) else some (r210, (m_set_trace z208_u ((m_trace z208_u) + (111 : Int64))))) 1000 (m_set_told (m_set_told (m_set_told (m_set_thrown u (0 : Int32)) (upd (m_told (m_set_thrown u (0 : Int32))) (0 : Int32).toNatClampNeg x2)) (upd (m_told (m_set_told (m_set_thrown u (0 : Int32)) (upd (m_told (m_set_thrown u (0 : Int32))) (0 : Int32).toNatClampNeg x2))) (1 : Int32).toNatClampNeg x3)) (upd (m_told (m_set_told (m_set_told (m_set_thrown u (0 : Int32)) (upd (m_told (m_set_thrown u (0 : Int32))) (0 : Int32).toNatClampNeg x2)) (upd (m_told (m_set_told (m_set_thrown u (0 : Int32)) (upd (m_told (m_set_thrown u (0 : Int32))) (0 : Int32).toNatClampNeg x2))) (1 : Int32).toNatClampNeg x3))) (2 : Int32).toNatClampNeg x4)) x1 r207 (0 : Int32)
def B_X2_average_55  (k94 : StM → Int32 → Int32 → Int64 → Int32 → Int32 → Option (Int64 × StM)) : Nat → StM → Int32 → Int32 → Int64 → Int32 → Int32 → Int32 → Option (Int64 × StM)
  | 0, _, _, _, _, _, _, _ => none
  | n + 1, u, x1, x2, x3, x5, x6, x7 => if (m_n u) ≤ x7 then k94 u x1 x2 x3 x5 x6 else if (x7 < 0 ∨ 3 ≤ x7.toNatClampNeg) then none else if ((((5 : Int32) * x7) + (m_place u x7.toNatClampNeg)) < 0 ∨ 15 ≤ (((5 : Int32) * x7) + (m_place u x7.toNatClampNeg)).toNatClampNeg) then none else if (x7 < 0 ∨ 3 ≤ x7.toNatClampNeg) then none else (B_X2_average_55 k94 n) (m_set_told u (upd (m_told u) x7.toNatClampNeg (m_worth u (((5 : Int32) * x7) + (m_place u x7.toNatClampNeg)).toNatClampNeg))) x1 x2 x3 x5 x6 (x7 + 1)
def B_X2_average_32  (k128 : StM → Int32 → Int64 → Option (Int64 × StM)) : Nat → StM → Int32 → Int32 → Int64 → Int32 → Option (Int64 × StM)
  | 0, _, _, _, _, _ => none
  | n + 1, u, x1, x2, x3, x5 => if (125 : Int32) ≤ x5 then k128 u x2 x3 else (f_X2_comes u x5).bind fun ⟨r206, w206⟩ => if r206 ≤ 0 then (B_X2_average_32 k128 n) w206 x1 x2 x3 (x5 + 1) else B_X2_average_55 (fun z208_u z208_1 z208_2 z208_3 z208_5 z208_6 => (f_X2_payOf z208_u z208_1).bind fun r209 => if r209 = (-9 : Int32) then (B_X2_average_32 k128 n) z208_u z208_1 z208_2 (z208_3 + (0 : Int64)) (z208_5 + 1) else (B_X2_average_32 k128 n) z208_u z208_1 z208_2 (z208_3 + ((z208_6).toInt64 * (r209).toInt64)) (z208_5 + 1)) 1000 w206 x1 x2 x3 x5 r206 (0 : Int32)
def f_X2_average (u : StM) (x1 : Int32) (x2 : Int32) : Option (Int64 × StM) := (f_X2_in x1 (0 : Int32) (2 : Int32)).bind fun r311 => if r311 = 0 then some ((-1000000000000000 : Int64), (m_set_thrown u (0 : Int32))) else (f_X2_in x2 (0 : Int32) (1 : Int32)).bind fun r313 => if r313 = 0 then some ((-1000000000000000 : Int64), (m_set_thrown u (0 : Int32))) else B_X2_average_32 (fun z315_u z315_2 z315_3 => (f_X2_all z315_u).bind fun r316 => (f_X2_part z315_u z315_3 ((r316).toInt64) z315_2).bind fun r317 => some (r317, z315_u)) 1000 (m_set_thrown u (0 : Int32)) x1 x2 (0 : Int64) (0 : Int32)
def B_X2_offers_140  (k223 : StM → Int32 → Int32 → Int32 → Int64 → Int32 → Int64 → Int64 → Option (Int64 × StM)) : Nat → StM → Int32 → Int32 → Int32 → Int64 → Int64 → Int32 → Int32 → Int64 → Int64 → Int32 → Option (Int64 × StM)
  | 0, _, _, _, _, _, _, _, _, _, _, _ => none
  | n + 1, u, x2, x3, x4, x5, x7, x9, x10, x11, x13, x15 => if x15 < 0 then k223 u x2 x3 x4 x7 x9 x11 x13 else (f_X2_share u x10 x15).bind fun r102 => if ((((5 : Int32) * x10) + x15) < 0 ∨ 15 ≤ (((5 : Int32) * x10) + x15).toNatClampNeg) then none else if (lg_cmp (((((m_worth u (((5 : Int32) * x10) + x15).toNatClampNeg)).toInt64 * (r102).toInt64) * x7) + ((x11 - (r102).toInt64) * x5)) x13) < 0 then (B_X2_offers_140 k223 n) u x2 x3 x4 x5 x7 x9 x10 x11 x13 (x15 + (-1)) else if ((((5 : Int32) * x10) + x15) < 0 ∨ 15 ≤ (((5 : Int32) * x10) + x15).toNatClampNeg) then none else if (x10 < 0 ∨ 3 ≤ x10.toNatClampNeg) then none else (B_X2_offers_140 k223 n) (m_set_price u (upd (m_price u) x10.toNatClampNeg (m_worth u (((5 : Int32) * x10) + x15).toNatClampNeg))) x2 x3 x4 x5 x7 x9 x10 x11 (((((m_worth u (((5 : Int32) * x10) + x15).toNatClampNeg)).toInt64 * (r102).toInt64) * x7) + ((x11 - (r102).toInt64) * x5)) (x15 + (-1))
def B_X2_offers_51  (k89 : StM → Option (Int64 × StM)) (k240 : StM → Int32 → Int32 → Int64 → Int64 → Option (Int64 × StM)) : Nat → StM → Int32 → Int32 → Int32 → Int64 → Int64 → Int32 → Option (Int64 × StM)
  | 0, _, _, _, _, _, _, _ => none
  | n + 1, u, x2, x3, x4, x5, x7, x9 => if (m_n u) ≤ x9 then k240 u x2 x3 x5 x7 else (f_X2_isBuyer u (x3 - x3 / (3 : Int32) * (3 : Int32))).bind fun r208 => if r208 = 0 then k89 u else if ((x4 >>> ((x3 - x3 / (3 : Int32) * (3 : Int32)) &&& 31)) &&& (1 : Int32)) = (1 : Int32) then k89 u else (f_X2_share u (x3 - x3 / (3 : Int32) * (3 : Int32)) (0 : Int32)).bind fun r211 => if ((x3 - x3 / (3 : Int32) * (3 : Int32)) < 0 ∨ 3 ≤ (x3 - x3 / (3 : Int32) * (3 : Int32)).toNatClampNeg) then none else if ((x3 - x3 / (3 : Int32) * (3 : Int32)) < 0 ∨ 3 ≤ (x3 - x3 / (3 : Int32) * (3 : Int32)).toNatClampNeg) then none else B_X2_offers_140 (fun z214_u z214_2 z214_3 z214_4 z214_7 z214_9 z214_11 z214_13 => (B_X2_offers_51 k89 k240 n) z214_u z214_2 z214_3 z214_4 z214_13 (z214_7 * z214_11) (z214_9 + 1)) 1000 (m_set_price u (upd (m_price u) (x3 - x3 / (3 : Int32) * (3 : Int32)).toNatClampNeg (1001 : Int32))) x2 (x3 / (3 : Int32)) (x4 ||| ((1 : Int32) <<< ((x3 - x3 / (3 : Int32) * (3 : Int32)) &&& 31))) x5 x7 x9 (x3 - x3 / (3 : Int32) * (3 : Int32)) ((r211).toInt64) (x5 * (r211).toInt64) ((m_many (m_set_price u (upd (m_price u) (x3 - x3 / (3 : Int32) * (3 : Int32)).toNatClampNeg (1001 : Int32))) (x3 - x3 / (3 : Int32) * (3 : Int32)).toNatClampNeg) - (1 : Int32))
def B_X2_offers_37   (u : StM) (x1 : Int32) (x2 : Int32) : Option (Int64 × StM) := B_X2_offers_51 (fun z315_u => some ((-1000000000000000 : Int64), z315_u)) (fun z316_u z316_2 z316_3 z316_5 z316_7 => if z316_3 = 0 then if z316_2 ≤ (1 : Int32) then (f_X2_part z316_u z316_5 z316_7 z316_2).bind fun r319 => some (r319, z316_u) else if ((z316_2 - (2 : Int32)) < 0 ∨ 3 ≤ (z316_2 - (2 : Int32)).toNatClampNeg) then none else some (((m_price z316_u (z316_2 - (2 : Int32)).toNatClampNeg)).toInt64, z316_u) else some ((-1000000000000000 : Int64), z316_u)) 1000 u x2 x1 (0 : Int32) (0 : Int64) (1 : Int64) (0 : Int32)
def f_X2_offers (u : StM) (x1 : Int32) (x2 : Int32) : Option (Int64 × StM) := if x1 < 0 then some ((-1000000000000000 : Int64), (m_set_thrown u (0 : Int32))) else (f_X2_in x2 (0 : Int32) (4 : Int32)).bind fun r422 => if r422 = 0 then some ((-1000000000000000 : Int64), (m_set_thrown u (0 : Int32))) else if x2 ≤ (1 : Int32) then B_X2_offers_37 (m_set_thrown u (0 : Int32)) x1 x2 else (f_X2_isBuyer (m_set_thrown u (0 : Int32)) (x2 - (2 : Int32))).bind fun r425 => if r425 = 0 then some ((-1000000000000000 : Int64), (m_set_thrown u (0 : Int32))) else B_X2_offers_37 (m_set_thrown u (0 : Int32)) x1 x2
def B_X2_pairs_20 (u : StM) (k96 : Int32 → Int32 → Int32 → Int32 → Int32 → Option (Int32)) : Nat → Int32 → Int32 → Int32 → Int32 → Int32 → Int32 → Option (Int32)
  | 0, _, _, _, _, _, _ => none
  | n + 1, x1, x2, x3, x4, x5, x6 => if (x2 < 0 ∨ 3 ≤ x2.toNatClampNeg) then none else if (m_many u x2.toNatClampNeg) ≤ x6 then k96 x1 x2 x3 x4 x5 else if ((((5 : Int32) * x1) + x5) < 0 ∨ 15 ≤ (((5 : Int32) * x1) + x5).toNatClampNeg) then none else if ((((5 : Int32) * x2) + x6) < 0 ∨ 15 ≤ (((5 : Int32) * x2) + x6).toNatClampNeg) then none else if ((m_worth u (((5 : Int32) * x1) + x5).toNatClampNeg) + (m_worth u (((5 : Int32) * x2) + x6).toNatClampNeg)) < x3 then (B_X2_pairs_20 u k96 n) x1 x2 x3 (x4 + (0 : Int32)) x5 (x6 + 1) else if ((((5 : Int32) * x1) + x5) < 0 ∨ 15 ≤ (((5 : Int32) * x1) + x5).toNatClampNeg) then none else if ((((5 : Int32) * x2) + x6) < 0 ∨ 15 ≤ (((5 : Int32) * x2) + x6).toNatClampNeg) then none else (B_X2_pairs_20 u k96 n) x1 x2 x3 (x4 + ((m_weight u (((5 : Int32) * x1) + x5).toNatClampNeg) * (m_weight u (((5 : Int32) * x2) + x6).toNatClampNeg))) x5 (x6 + 1)
def B_X2_pairs_6 (u : StM) (k102 : Int32 → Option (Int32)) : Nat → Int32 → Int32 → Int32 → Int32 → Int32 → Option (Int32)
  | 0, _, _, _, _, _ => none
  | n + 1, x1, x2, x3, x4, x5 => if (x1 < 0 ∨ 3 ≤ x1.toNatClampNeg) then none else if (m_many u x1.toNatClampNeg) ≤ x5 then k102 x4 else B_X2_pairs_20 u (fun z210_1 z210_2 z210_3 z210_4 z210_5 => (B_X2_pairs_6 u k102 n) z210_1 z210_2 z210_3 z210_4 (z210_5 + 1)) 1000 x1 x2 x3 x4 x5 (0 : Int32)
def f_X2_pairs (u : StM) (x1 : Int32) (x2 : Int32) (x3 : Int32) : Option (Int32) := B_X2_pairs_6 u (fun z311_4 => some z311_4) 1000 x1 x2 x3 (0 : Int32) (0 : Int32)
def B_X2_bundle_64  (k152 : StM → Int32 → Int32 → Int32 → Int32 → Int64 → Int32 → Option (Int32 × StM)) : Nat → StM → Int32 → Int32 → Int32 → Int32 → Int64 → Int32 → Int32 → Option (Int32 × StM)
  | 0, _, _, _, _, _, _, _, _ => none
  | n + 1, u, x1, x2, x3, x4, x5, x7, x8 => if (x2 < 0 ∨ 3 ≤ x2.toNatClampNeg) then none else if (m_many u x2.toNatClampNeg) ≤ x8 then k152 u x1 x2 x3 x4 x5 x7 else if ((((5 : Int32) * x1) + x7) < 0 ∨ 15 ≤ (((5 : Int32) * x1) + x7).toNatClampNeg) then none else if ((((5 : Int32) * x2) + x8) < 0 ∨ 15 ≤ (((5 : Int32) * x2) + x8).toNatClampNeg) then none else (f_X2_pairs u x1 x2 ((m_worth u (((5 : Int32) * x1) + x7).toNatClampNeg) + (m_worth u (((5 : Int32) * x2) + x8).toNatClampNeg))).bind fun r105 => if 0 < (lg_cmp ((((m_worth u (((5 : Int32) * x1) + x7).toNatClampNeg) + (m_worth u (((5 : Int32) * x2) + x8).toNatClampNeg))).toInt64 * (r105).toInt64) x5) then (B_X2_bundle_64 k152 n) u x1 x2 x3 ((m_worth u (((5 : Int32) * x1) + x7).toNatClampNeg) + (m_worth u (((5 : Int32) * x2) + x8).toNatClampNeg)) ((((m_worth u (((5 : Int32) * x1) + x7).toNatClampNeg) + (m_worth u (((5 : Int32) * x2) + x8).toNatClampNeg))).toInt64 * (r105).toInt64) x7 (x8 + 1) else if (lg_cmp ((((m_worth u (((5 : Int32) * x1) + x7).toNatClampNeg) + (m_worth u (((5 : Int32) * x2) + x8).toNatClampNeg))).toInt64 * (r105).toInt64) x5) = 0 then if x4 ≤ ((m_worth u (((5 : Int32) * x1) + x7).toNatClampNeg) + (m_worth u (((5 : Int32) * x2) + x8).toNatClampNeg)) then (B_X2_bundle_64 k152 n) u x1 x2 x3 x4 x5 x7 (x8 + 1) else (B_X2_bundle_64 k152 n) u x1 x2 x3 ((m_worth u (((5 : Int32) * x1) + x7).toNatClampNeg) + (m_worth u (((5 : Int32) * x2) + x8).toNatClampNeg)) ((((m_worth u (((5 : Int32) * x1) + x7).toNatClampNeg) + (m_worth u (((5 : Int32) * x2) + x8).toNatClampNeg))).toInt64 * (r105).toInt64) x7 (x8 + 1) else (B_X2_bundle_64 k152 n) u x1 x2 x3 x4 x5 x7 (x8 + 1)
def B_X2_bundle_50  (k158 : StM → Int32 → Int32 → Int32 → Int32 → Int64 → Option (Int32 × StM)) : Nat → StM → Int32 → Int32 → Int32 → Int32 → Int64 → Int32 → Option (Int32 × StM)
  | 0, _, _, _, _, _, _, _ => none
  | n + 1, u, x1, x2, x3, x4, x5, x7 => if (x1 < 0 ∨ 3 ≤ x1.toNatClampNeg) then none else if (m_many u x1.toNatClampNeg) ≤ x7 then k158 u x1 x2 x3 x4 x5 else B_X2_bundle_64 (fun z211_u z211_1 z211_2 z211_3 z211_4 z211_5 z211_7 => (B_X2_bundle_50 k158 n) z211_u z211_1 z211_2 z211_3 z211_4 z211_5 (z211_7 + 1)) 1000 u x1 x2 x3 x4 x5 x7 (0 : Int32)
def f_X2_bundle (u : StM) (x1 : Int32) (x2 : Int32) (x3 : Int32) : Option (Int32 × StM) := (f_X2_isBuyer (m_set_thrown u (0 : Int32)) x1).bind fun r312 => if r312 = 0 then some ((-5 : Int32), (m_set_thrown u (0 : Int32))) else (f_X2_isBuyer (m_set_thrown u (0 : Int32)) x2).bind fun r314 => if r314 = 0 then some ((-5 : Int32), (m_set_thrown u (0 : Int32))) else if x1 = x2 then some ((-5 : Int32), (m_set_thrown u (0 : Int32))) else (f_X2_in x3 (0 : Int32) (2 : Int32)).bind fun r317 => if r317 = 0 then some ((-5 : Int32), (m_set_thrown u (0 : Int32))) else B_X2_bundle_50 (fun z319_u z319_1 z319_2 z319_3 z319_4 z319_5 => if (2 : Int32) ≤ z319_3 then (f_X2_bestOf z319_u z319_1).bind fun r321 => (f_X2_take z319_u z319_1 r321).bind fun r322 => (f_X2_share z319_u z319_2 (0 : Int32)).bind fun r323 => (f_X2_bestOf z319_u z319_2).bind fun r324 => (f_X2_take z319_u z319_2 r324).bind fun r325 => (f_X2_share z319_u z319_1 (0 : Int32)).bind fun r326 => if (lg_cmp z319_5 (((r322).toInt64 * (r323).toInt64) + ((r325).toInt64 * (r326).toInt64))) ≤ 0 then if 0 ≤ (lg_cmp z319_5 (((r322).toInt64 * (r323).toInt64) + ((r325).toInt64 * (r326).toInt64))) then some ((0 : Int32), z319_u) else some ((-1 : Int32), z319_u) else some ((1 : Int32), z319_u) else if z319_3 = 0 then some (z319_4, z319_u) else (f_X2_pairs z319_u z319_1 z319_2 z319_4).bind fun r330 => some (r330, z319_u)) 1000 (m_set_thrown u (0 : Int32)) x1 x2 x3 (-9 : Int32) (-1 : Int64) (0 : Int32)
def f_X2_sample (u : StM) (x1 : Int32) : Option (Int32 × StM) := (f_X2_in x1 (0 : Int32) (1000 : Int32)).bind fun r101 => if r101 = 0 then some ((-1 : Int32), (m_set_thrown u (0 : Int32))) else if (m_samples (m_set_thrown u (0 : Int32))) = (12 : Int32) then some ((-3 : Int32), (m_set_thrown u (0 : Int32))) else if ((m_samples (m_set_thrown u (0 : Int32))) < 0 ∨ 12 ≤ (m_samples (m_set_thrown u (0 : Int32))).toNatClampNeg) then none else some ((m_samples (m_set_samples (m_set_sample (m_set_thrown u (0 : Int32)) (upd (m_sample (m_set_thrown u (0 : Int32))) (m_samples (m_set_thrown u (0 : Int32))).toNatClampNeg x1)) ((m_samples (m_set_sample (m_set_thrown u (0 : Int32)) (upd (m_sample (m_set_thrown u (0 : Int32))) (m_samples (m_set_thrown u (0 : Int32))).toNatClampNeg x1))) + (1 : Int32)))), (m_set_samples (m_set_sample (m_set_thrown u (0 : Int32)) (upd (m_sample (m_set_thrown u (0 : Int32))) (m_samples (m_set_thrown u (0 : Int32))).toNatClampNeg x1)) ((m_samples (m_set_sample (m_set_thrown u (0 : Int32)) (upd (m_sample (m_set_thrown u (0 : Int32))) (m_samples (m_set_thrown u (0 : Int32))).toNatClampNeg x1))) + (1 : Int32))))
def f_X2_clear (u : StM) : Option (Int32 × StM) := some ((m_samples (m_set_thrown u (0 : Int32))), (m_set_samples (m_set_thrown u (0 : Int32)) (0 : Int32)))
def B_X2_learnt_26  (k67 : StM → Int32 → Int32 → Int32 → Int32 → Option (Int32 × StM)) : Nat → StM → Int32 → Int32 → Int32 → Int32 → Int32 → Option (Int32 × StM)
  | 0, _, _, _, _, _, _ => none
  | n + 1, u, x1, x2, x3, x4, x5 => if (m_samples u) ≤ x5 then k67 u x1 x2 x3 x4 else if (x5 < 0 ∨ 12 ≤ x5.toNatClampNeg) then none else if (x3 < 0 ∨ 12 ≤ x3.toNatClampNeg) then none else if (m_sample u x5.toNatClampNeg) < (m_sample u x3.toNatClampNeg) then (B_X2_learnt_26 k67 n) u x1 x2 x3 (x4 + (0 : Int32)) (x5 + 1) else (B_X2_learnt_26 k67 n) u x1 x2 x3 (x4 + (1 : Int32)) (x5 + 1)
def B_X2_learnt_12  (k116 : StM → Int32 → Option (Int32 × StM)) : Nat → StM → Int32 → Int32 → Int32 → Option (Int32 × StM)
  | 0, _, _, _, _ => none
  | n + 1, u, x1, x2, x3 => if (m_samples u) ≤ x3 then k116 u x1 else B_X2_learnt_26 (fun z206_u z206_1 z206_2 z206_3 z206_4 => if (z206_3 < 0 ∨ 12 ≤ z206_3.toNatClampNeg) then none else if z206_2 < ((m_sample z206_u z206_3.toNatClampNeg) * z206_4) then if (z206_3 < 0 ∨ 12 ≤ z206_3.toNatClampNeg) then none else (B_X2_learnt_12 k116 n) z206_u (m_sample z206_u z206_3.toNatClampNeg) ((m_sample z206_u z206_3.toNatClampNeg) * z206_4) (z206_3 + 1) else if ((m_sample z206_u z206_3.toNatClampNeg) * z206_4) = z206_2 then if (z206_3 < 0 ∨ 12 ≤ z206_3.toNatClampNeg) then none else if z206_1 ≤ (m_sample z206_u z206_3.toNatClampNeg) then (B_X2_learnt_12 k116 n) z206_u z206_1 z206_2 (z206_3 + 1) else if (z206_3 < 0 ∨ 12 ≤ z206_3.toNatClampNeg) then none else (B_X2_learnt_12 k116 n) z206_u (m_sample z206_u z206_3.toNatClampNeg) ((m_sample z206_u z206_3.toNatClampNeg) * z206_4) (z206_3 + 1) else (B_X2_learnt_12 k116 n) z206_u z206_1 z206_2 (z206_3 + 1)) 1000 u x1 x2 x3 (0 : Int32) (0 : Int32)
def f_X2_learnt (u : StM) : Option (Int32 × StM) := B_X2_learnt_12 (fun z314_u z314_1 => some (z314_1, z314_u)) 1000 (m_set_thrown u (0 : Int32)) (-9 : Int32) (-1 : Int32) (0 : Int32)
def f_X2_count (u : StM) (x1 : Int32) : Option (Int32 × StM) := if x1 = 0 then some ((m_n (m_set_thrown u (0 : Int32))), (m_set_thrown u (0 : Int32))) else if x1 = (1 : Int32) then some ((m_reserve (m_set_thrown u (0 : Int32))), (m_set_thrown u (0 : Int32))) else if x1 = (2 : Int32) then some ((m_samples (m_set_thrown u (0 : Int32))), (m_set_thrown u (0 : Int32))) else some ((-1 : Int32), (m_set_thrown u (0 : Int32)))
def f_X2_trace (u : StM) : Option (Int64 × StM) := some ((m_trace (m_set_thrown u (0 : Int32))), (m_set_thrown u (0 : Int32)))
end
section
abbrev rm_X2_share : Room := { frames := 0, cells := 0, slots := 0, locals := 0 }
set_option maxHeartbeats 4000000 in
set_option maxRecDepth 100000 in
theorem c_X2_share (l : Launch) (D : va_G) (cA : ClassId) (a : Nat → Nat) (u : StM) (x1 : Int32) (x2 : Int32) (v : Int32) (hv : f_X2_share u x1 x2 = some v)  : Met l yX2_share wsX2_share rm_X2_share (va_Pc [.ref (a 0), .int x1, .int x2] (roB D cA [wM cA a u])) (vp_Si (fun r => r = v)) 0 0 (fun _ => False) := by
  refine ro_i (cc := cX2_share) (maxL := 5) (own := RX2) (by decide) rfl rfl (Nat.le_of_ble_eq_true rfl) ?_
  intro p e s m args below meth c Q ls hC hK hZ hws hl fin
  obtain ⟨hx, hb, hml, hown, hts⟩ := id hC
  have hl : lv_has ls 5 [(0, .ref (a 0)), (1, .int x1), (2, .int x2)] := hl
  have hP : va_P D vwCl (wM cA a u) s.heap := hws _ (List.mem_of_getElem? (i := 0) rfl)
  have hinX2 : ∀ w ∈ wsX20, w ∈ wsX2_share := fun w h => List.mem_cons_of_mem _ (List.mem_append_right _ h)
  have hB5 : ∀ (k36 : Int32 → Option (Int32)) (hk36 : ∀ (x3 : Int32) (ls : Array Slot), lv_has ls 5 [(3, .int x3)] → k36 x3 = some v → W p l e rm_X2_share s m args below meth c s.heap [] 0 0 Q (F0 m 36 ls [])) (n : Nat) (x1 : Int32) (x3 : Int32) (x4 : Int32) (ls : Array Slot), lv_has ls 5 [(0, .ref (a 0)), (1, .int x1), (3, .int x3), (4, .int x4)] → B_X2_share_5 u k36 n x1 x3 x4 = some v → W p l e rm_X2_share s m args below meth c s.heap [] 0 0 Q (F0 m 5 ls []) := by
    intro k36 hk36 n
    induction n with
    | zero => intro x1 x3 x4 ls hl hv; exact absurd hv (by intro h; cases h)
    | succ n hk5 =>
      intro x1 x3 x4 ls hl hv
      rw [B_X2_share_5] at hv
      refine lv_iload hx hb dX2_share_5 (lv_at hl 3 rfl) ?_
      refine lv_aload_n hx hb dX2_share_7 rfl (lv_at hl 0 rfl) ?_
      refine gtX2_many hx hb hts hinX2 hown hK hP (by decide +kernel) dX2_share_8 ?_
      refine lv_iload_n hx hb dX2_share_11 rfl (lv_at hl 1 rfl) ?_
      obtain ⟨g101, hv⟩ := o_grd hv
      refine alX2_many hx hb hK hP g101 dX2_share_12 ?_
      refine lv_icmp_ge (tgt := 36) hx hb dX2_share_13 (by decide) (fun c102 => ?_) (fun c102 => ?_)
      · have hv := o_pos hv c102
        exact hk36 _  ls (lv_sub hl [2] rfl) hv
      · have hv := o_neg hv c102
        refine lv_iload_n hx hb dX2_share_16 rfl (lv_at hl 2 rfl) ?_
        refine lv_aload_n hx hb dX2_share_17 rfl (lv_at hl 0 rfl) ?_
        refine gtX2_weight hx hb hts hinX2 hown hK hP (by decide +kernel) dX2_share_18 ?_
        refine lv_iconst (v := 5) hx hb dX2_share_21 (by decide) ?_
        refine lv_iload_n hx hb dX2_share_22 rfl (lv_at hl 1 rfl) ?_
        refine lv_imul hx hb dX2_share_23 ?_
        refine lv_iload hx hb dX2_share_24 (lv_at hl 3 rfl) ?_
        refine lv_iadd hx hb dX2_share_26 ?_
        obtain ⟨g103, hv⟩ := o_grd hv
        refine alX2_weight hx hb hK hP g103 dX2_share_27 ?_
        refine lv_iadd hx hb dX2_share_28 ?_
        refine lv_istore_n (lv' := [(3, .int (x3 + (m_weight u (((5 : Int32) * x1) + x4).toNatClampNeg))), (0, .ref (a 0)), (1, .int x1), (4, .int x4)]) hx hb dX2_share_29 rfl hl (by decide) rfl (fun ls hl => ?_)
        refine lv_iinc (v := (x4 + 1)) (lv' := [(4, .int (x4 + 1)), (3, .int (x3 + (m_weight u (((5 : Int32) * x1) + x4).toNatClampNeg))), (0, .ref (a 0)), (1, .int x1)]) hx hb dX2_share_30 hl (k := 3) rfl rfl (by decide) rfl (fun ls hl => ?_)
        refine lv_goto (tgt := 5) hx hb dX2_share_33 (by decide) ?_
        exact hk5 _ _ _  ls (lv_sub hl [2, 3, 1, 0] rfl) hv
  unfold f_X2_share at hv
  refine lv_iconst (v := 0) hx hb dX2_share_0 (by decide) ?_
  refine lv_istore_n (lv' := [(3, .int (0 : Int32)), (0, .ref (a 0)), (1, .int x1), (2, .int x2)]) hx hb dX2_share_1 rfl hl (by decide) rfl (fun ls hl => ?_)
  refine lv_iload_n hx hb dX2_share_2 rfl (lv_at hl 3 rfl) ?_
  refine lv_istore (lv' := [(4, .int x2), (3, .int (0 : Int32)), (0, .ref (a 0)), (1, .int x1), (2, .int x2)]) hx hb dX2_share_3 hl (by decide) rfl (fun ls hl => ?_)
  refine hB5 _ (fun z204_3 ls hl hv => ?_) 1000 _ _ _ ls (lv_sub hl [2, 3, 1, 0] rfl) hv
  · skip
    refine lv_iload_n hx hb dX2_share_36 rfl (lv_at hl 0 rfl) ?_
    exact fin dX2_share_37 hv
abbrev rm_X2_take : Room := { frames := 1, cells := 0, slots := 0, locals := 24 }
set_option maxHeartbeats 4000000 in
set_option maxRecDepth 100000 in
theorem c_X2_take (l : Launch) (D : va_G) (cA : ClassId) (a : Nat → Nat) (u : StM) (x1 : Int32) (x2 : Int32) (v : Int32) (hv : f_X2_take u x1 x2 = some v)  : Met l yX2_take wsX2_take rm_X2_take (va_Pc [.ref (a 0), .int x1, .int x2] (roB D cA [wM cA a u])) (vp_Si (fun r => r = v)) 0 0 (fun _ => False) := by
  refine ro_i (cc := cX2_take) (maxL := 3) (own := RX2) (by decide) rfl rfl (Nat.le_of_ble_eq_true rfl) ?_
  intro p e s m args below meth c Q ls hC hK hZ hws hl fin
  obtain ⟨hx, hb, hml, hown, hts⟩ := id hC
  have hl : lv_has ls 3 [(0, .ref (a 0)), (1, .int x1), (2, .int x2)] := hl
  have hP : va_P D vwCl (wM cA a u) s.heap := hws _ (List.mem_of_getElem? (i := 0) rfl)
  have hinX2 : ∀ w ∈ wsX20, w ∈ wsX2_take := fun w h => List.mem_cons_of_mem _ (List.mem_append_right _ h)
  unfold f_X2_take at hv
  refine lv_iload_n hx hb dX2_take_0 rfl (lv_at hl 2 rfl) ?_
  refine lv_aload_n hx hb dX2_take_1 rfl (lv_at hl 0 rfl) ?_
  refine gtX2_many hx hb hts hinX2 hown hK hP (by decide +kernel) dX2_take_2 ?_
  refine lv_iload_n hx hb dX2_take_5 rfl (lv_at hl 1 rfl) ?_
  obtain ⟨g101, hv⟩ := o_grd hv
  refine alX2_many hx hb hK hP g101 dX2_take_6 ?_
  refine lv_icmp_ne (tgt := 14) hx hb dX2_take_7 (by decide) (fun c102 => ?_) (fun c102 => ?_)
  · have hv := o_neg hv c102
    refine lv_aload_n hx hb dX2_take_14 rfl (lv_at hl 0 rfl) ?_
    refine gtX2_worth hx hb hts hinX2 hown hK hP (by decide +kernel) dX2_take_15 ?_
    refine lv_iconst (v := 5) hx hb dX2_take_18 (by decide) ?_
    refine lv_iload_n hx hb dX2_take_19 rfl (lv_at hl 1 rfl) ?_
    refine lv_imul hx hb dX2_take_20 ?_
    refine lv_iload_n hx hb dX2_take_21 rfl (lv_at hl 2 rfl) ?_
    refine lv_iadd hx hb dX2_take_22 ?_
    obtain ⟨g103, hv⟩ := o_grd hv
    refine alX2_worth hx hb hK hP g103 dX2_take_23 ?_
    refine lv_aload_n hx hb dX2_take_24 rfl (lv_at hl 0 rfl) ?_
    refine lv_iload_n hx hb dX2_take_25 rfl (lv_at hl 1 rfl) ?_
    refine lv_iload_n hx hb dX2_take_26 rfl (lv_at hl 2 rfl) ?_
    obtain ⟨r104, e104, hv⟩ := o_bind hv
    refine rcall_i (W.runV (As := [.int x1, .int x2]) (rest := [.int (m_worth u (((5 : Int32) * x1) + x2).toNatClampNeg)]) hC (c_X2_share l D cA a u x1 x2 r104 e104) (cwV 2 hts gX2_take_X2_share rfl rfl rfl (by decide +kernel) ⟨Nat.le_of_ble_eq_true rfl, Nat.le_of_ble_eq_true rfl⟩) ⟨roB_blind, va_recv (ci := 2) (q0 := 0) hK hP rfl rfl, roB_pre hK hZ (hws_1 hP)⟩ rfl rfl hl.1 rfl (lv_room (Nat.le_of_ble_eq_true rfl)) dX2_take_27 ⟨Nat.le_of_ble_eq_true rfl, Nat.le_of_ble_eq_true rfl⟩) ?_
    refine lv_imul hx hb dX2_take_30 ?_
    exact fin dX2_take_31 hv
  · have hv := o_pos hv c102
    refine lv_iconst (v := 0) hx hb dX2_take_10 (by decide) ?_
    refine lv_goto (tgt := 31) hx hb dX2_take_11 (by decide) ?_
    exact fin dX2_take_31 hv
abbrev rm_X0_worthAt : Room := { frames := 0, cells := 0, slots := 0, locals := 0 }
set_option maxHeartbeats 4000000 in
set_option maxRecDepth 100000 in
theorem c_X0_worthAt (l : Launch) (D : va_G) (cA : ClassId) (a : Nat → Nat) (u : StB) (x1 : Int32) (v : Int32) (hv : f_X0_worthAt u x1 = some v)  : Met l yX0_worthAt wsX0_worthAt rm_X0_worthAt (va_Pc [.ref (a 0), .int x1] (roB D cA [wB cA a u])) (vp_Si (fun r => r = v)) 0 0 (fun _ => False) := by
  refine ro_i (cc := cX0_worthAt) (maxL := 2) (own := RX0) (by decide) rfl rfl (Nat.le_of_ble_eq_true rfl) ?_
  intro p e s m args below meth c Q ls hC hK hZ hws hl fin
  obtain ⟨hx, hb, hml, hown, hts⟩ := id hC
  have hl : lv_has ls 2 [(0, .ref (a 0)), (1, .int x1)] := hl
  have hP : va_P D vwCl (wB cA a u) s.heap := hws _ (List.mem_of_getElem? (i := 0) rfl)
  have hinX0 : ∀ w ∈ wsX00, w ∈ wsX0_worthAt := fun w h => List.mem_cons_of_mem _ (List.mem_append_right _ h)
  unfold f_X0_worthAt at hv
  refine lv_iload_n hx hb dX0_worthAt_0 rfl (lv_at hl 1 rfl) ?_
  refine lv_if_lt (tgt := 21) hx hb dX0_worthAt_1 (by decide) (fun c101 => ?_) (fun c101 => ?_)
  · have hv := o_pos hv c101
    refine lv_iconst (v := 0) hx hb dX0_worthAt_21 (by decide) ?_
    exact fin dX0_worthAt_22 hv
  · have hv := o_neg hv c101
    refine lv_iload_n hx hb dX0_worthAt_4 rfl (lv_at hl 1 rfl) ?_
    refine lv_aload_n hx hb dX0_worthAt_5 rfl (lv_at hl 0 rfl) ?_
    refine gtX0_size hx hb hts hinX0 hown hK hP (by decide +kernel) dX0_worthAt_6 ?_
    refine lv_icmp_ge (tgt := 21) hx hb dX0_worthAt_9 (by decide) (fun c102 => ?_) (fun c102 => ?_)
    · have hv := o_pos hv c102
      refine lv_iconst (v := 0) hx hb dX0_worthAt_21 (by decide) ?_
      exact fin dX0_worthAt_22 hv
    · have hv := o_neg hv c102
      refine lv_aload_n hx hb dX0_worthAt_12 rfl (lv_at hl 0 rfl) ?_
      refine gtX0_worths hx hb hts hinX0 hown hK hP (by decide +kernel) dX0_worthAt_13 ?_
      refine lv_iload_n hx hb dX0_worthAt_16 rfl (lv_at hl 1 rfl) ?_
      obtain ⟨g103, hv⟩ := o_grd hv
      refine alX0_worths hx hb hK hP g103 dX0_worthAt_17 ?_
      refine lv_goto (tgt := 22) hx hb dX0_worthAt_18 (by decide) ?_
      exact fin dX0_worthAt_22 hv
abbrev rm_X0_shareAt : Room := { frames := 1, cells := 0, slots := 0, locals := 21 }
set_option maxHeartbeats 4000000 in
set_option maxRecDepth 100000 in
theorem c_X0_shareAt (l : Launch) (D : va_G) (cA : ClassId) (a : Nat → Nat) (u : StB) (x1 : Int32) (v : Int32) (hv : f_X0_shareAt u x1 = some v)  : Met l yX0_shareAt wsX0_shareAt rm_X0_shareAt (va_Pc [.ref (a 0), .int x1] (roB D cA [wB cA a u])) (vp_Si (fun r => r = v)) 0 0 (fun _ => False) := by
  refine ro_i (cc := cX0_shareAt) (maxL := 4) (own := RX0) (by decide) rfl rfl (Nat.le_of_ble_eq_true rfl) ?_
  intro p e s m args below meth c Q ls hC hK hZ hws hl fin
  obtain ⟨hx, hb, hml, hown, hts⟩ := id hC
  have hl : lv_has ls 4 [(0, .ref (a 0)), (1, .int x1)] := hl
  have hP : va_P D vwCl (wB cA a u) s.heap := hws _ (List.mem_of_getElem? (i := 0) rfl)
  have hinX0 : ∀ w ∈ wsX00, w ∈ wsX0_shareAt := fun w h => List.mem_cons_of_mem _ (List.mem_append_right _ h)
  have hB8 : ∀ (k31 : Int32 → Option (Int32)) (hk31 : ∀ (x2 : Int32) (ls : Array Slot), lv_has ls 4 [(2, .int x2)] → k31 x2 = some v → W p l e rm_X0_shareAt s m args below meth c s.heap [] 0 0 Q (F0 m 31 ls [])) (n : Nat) (x2 : Int32) (x3 : Int32) (ls : Array Slot), lv_has ls 4 [(0, .ref (a 0)), (2, .int x2), (3, .int x3)] → B_X0_shareAt_8 u k31 n x2 x3 = some v → W p l e rm_X0_shareAt s m args below meth c s.heap [] 0 0 Q (F0 m 8 ls []) := by
    intro k31 hk31 n
    induction n with
    | zero => intro x2 x3 ls hl hv; exact absurd hv (by intro h; cases h)
    | succ n hk8 =>
      intro x2 x3 ls hl hv
      rw [B_X0_shareAt_8] at hv
      refine lv_iload_n hx hb dX0_shareAt_8 rfl (lv_at hl 2 rfl) ?_
      refine lv_aload_n hx hb dX0_shareAt_9 rfl (lv_at hl 0 rfl) ?_
      refine gtX0_size hx hb hts hinX0 hown hK hP (by decide +kernel) dX0_shareAt_10 ?_
      refine lv_icmp_ge (tgt := 31) hx hb dX0_shareAt_13 (by decide) (fun c101 => ?_) (fun c101 => ?_)
      · have hv := o_pos hv c101
        exact hk31 _  ls (lv_sub hl [1] rfl) hv
      · have hv := o_neg hv c101
        refine lv_iload_n hx hb dX0_shareAt_16 rfl (lv_at hl 1 rfl) ?_
        refine lv_aload_n hx hb dX0_shareAt_17 rfl (lv_at hl 0 rfl) ?_
        refine gtX0_weights hx hb hts hinX0 hown hK hP (by decide +kernel) dX0_shareAt_18 ?_
        refine lv_iload_n hx hb dX0_shareAt_21 rfl (lv_at hl 2 rfl) ?_
        obtain ⟨g102, hv⟩ := o_grd hv
        refine alX0_weights hx hb hK hP g102 dX0_shareAt_22 ?_
        refine lv_iadd hx hb dX0_shareAt_23 ?_
        refine lv_istore_n (lv' := [(2, .int (x2 + (b_weights u x3.toNatClampNeg))), (0, .ref (a 0)), (3, .int x3)]) hx hb dX0_shareAt_24 rfl hl (by decide) rfl (fun ls hl => ?_)
        refine lv_iinc (v := (x3 + 1)) (lv' := [(3, .int (x3 + 1)), (2, .int (x2 + (b_weights u x3.toNatClampNeg))), (0, .ref (a 0))]) hx hb dX0_shareAt_25 hl (k := 2) rfl rfl (by decide) rfl (fun ls hl => ?_)
        refine lv_goto (tgt := 8) hx hb dX0_shareAt_28 (by decide) ?_
        exact hk8 _ _  ls (lv_sub hl [2, 1, 0] rfl) hv
  unfold f_X0_shareAt at hv
  refine lv_iconst (v := 0) hx hb dX0_shareAt_0 (by decide) ?_
  refine lv_istore_n (lv' := [(2, .int (0 : Int32)), (0, .ref (a 0)), (1, .int x1)]) hx hb dX0_shareAt_1 rfl hl (by decide) rfl (fun ls hl => ?_)
  refine lv_iload_n hx hb dX0_shareAt_2 rfl (lv_at hl 2 rfl) ?_
  refine lv_iconst (v := 0) hx hb dX0_shareAt_3 (by decide) ?_
  refine va_mmax hx hb (hml.trans hl.1.symm) hown (hts (.methodLink RX0 35 Lib.Math.max.name) (by decide +kernel)) (hts (.static Lib.Math.max.name) (by decide +kernel)) (hts (.initialized "java/lang/Math") (by decide +kernel)) (hts (.code Lib.Math.max.name Lib.Math.max.code 2 (some .int)) (by decide +kernel)) (Nat.le_of_ble_eq_true rfl) (Nat.le_of_ble_eq_true rfl) (Nat.le_of_ble_eq_true rfl) (Nat.le_of_ble_eq_true rfl) dX0_shareAt_4 ?_
  refine lv_istore_n (lv' := [(3, .int (if x1 < (0 : Int32) then (0 : Int32) else x1)), (2, .int (0 : Int32)), (0, .ref (a 0)), (1, .int x1)]) hx hb dX0_shareAt_7 rfl hl (by decide) rfl (fun ls hl => ?_)
  refine hB8 _ (fun z203_2 ls hl hv => ?_) 1000 _ _ ls (lv_sub hl [2, 1, 0] rfl) hv
  · skip
    refine lv_iload_n hx hb dX0_shareAt_31 rfl (lv_at hl 0 rfl) ?_
    exact fin dX0_shareAt_32 hv
end
