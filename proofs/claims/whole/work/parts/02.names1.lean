/-! ===== BEGIN words of one list among another's, by their places ===== -/
theorem goodIn_r {big : List Cond} (ws : List Cond) (ps : List Nat) (hp : ws = ps.filterMap (fun i => big[i]?)) (h : ws.all goodWord = true) : GoodIn big ws := by
  intro w hw
  have h1 := List.all_eq_true.mp h w hw
  rw [hp] at hw
  obtain ⟨i, -, hi⟩ := List.mem_filterMap.mp hw
  have hm : w ∈ big := by first | exact List.mem_of_getElem? hi | exact List.getElem?_mem hi
  exact ⟨hm, good_of_word h1⟩
theorem goodIn_app {big a b : List Cond} (ha : GoodIn big a) (hb : GoodIn big b) : GoodIn big (a ++ b) := fun w h => (List.mem_append.mp h).elim (ha w) (hb w)
theorem goodIn_ca {big a b : List Cond} {c : Cond} (ha : GoodIn big (c :: a)) (hb : GoodIn big b) : GoodIn big (c :: (a ++ b)) := fun w h => (List.mem_cons.mp h).elim (fun e => ha w (List.mem_cons.mpr (Or.inl e))) (fun h => (List.mem_append.mp h).elim (fun h => ha w (List.mem_cons.mpr (Or.inr h))) (hb w))
theorem goodIn_sub {big ws : List Cond} (hm : ∀ w ∈ ws, w ∈ big) (h : ws.all goodWord = true) : GoodIn big ws := fun w hw => ⟨hm w hw, good_of_word (List.all_eq_true.mp h w hw)⟩
/-! ===== END ===== -/

/-! ===== BEGIN printed: names, fields, word lists, decode rows ===== -/
def RX0 : String := "DoubtSale$Book"
def TX0 : u_T := fun k => match k with
  | 0 => ("DoubtSale$Book", "worths", "[I", true)
  | 1 => ("DoubtSale$Book", "weights", "[I", true)
  | 2 => ("DoubtSale$Book", "uppers", "[I", true)
  | 3 => ("DoubtSale$Book", "lowers", "[I", true)
  | _ => ("DoubtSale$Book", "size", "I", false)
def tyX0 : Nat → FieldType := fun k => match k with
  | 0 => .array .int
  | 1 => .array .int
  | 2 => .array .int
  | 3 => .array .int
  | _ => .int
abbrev wsX00 : List Cond := u_ws RX0 TX0 5
theorem nmX0 : ∀ a, a < 5 → ∀ b, b < 5 → a ≠ b → (TX0 a).2.1 ≠ (TX0 b).2.1 := by decide +kernel
theorem tyX0_ok : ∀ k, k < 5 → parseFieldDescriptor (TX0 k).2.2.1 = some (tyX0 k) := by decide +kernel
abbrev cX0_init : ByteArray := prog_2_method_1_code
def yX0_init : MethodName := ⟨RX0, "<init>", "()V"⟩
abbrev cX0_begin : ByteArray := prog_2_method_2_code
def yX0_begin : MethodName := ⟨RX0, "begin", "(II)V"⟩
abbrev cX0_add : ByteArray := prog_2_method_3_code
def yX0_add : MethodName := ⟨RX0, "add", "(II)V"⟩
abbrev cX0_has : ByteArray := prog_2_method_4_code
def yX0_has : MethodName := ⟨RX0, "has", "(I)Z"⟩
abbrev cX0_worthAt : ByteArray := prog_2_method_5_code
def yX0_worthAt : MethodName := ⟨RX0, "worthAt", "(I)I"⟩
abbrev cX0_weightAt : ByteArray := prog_2_method_6_code
def yX0_weightAt : MethodName := ⟨RX0, "weightAt", "(I)I"⟩
abbrev cX0_shareAt : ByteArray := prog_2_method_7_code
def yX0_shareAt : MethodName := ⟨RX0, "shareAt", "(I)I"⟩
abbrev cX0_allWeights : ByteArray := prog_2_method_8_code
def yX0_allWeights : MethodName := ⟨RX0, "allWeights", "()I"⟩
abbrev cX0_takeAt : ByteArray := prog_2_method_9_code
def yX0_takeAt : MethodName := ⟨RX0, "takeAt", "(I)I"⟩
abbrev cX0_bestPlace : ByteArray := prog_2_method_10_code
def yX0_bestPlace : MethodName := ⟨RX0, "bestPlace", "()I"⟩
abbrev cX0_ironedUpper : ByteArray := prog_2_method_11_code
def yX0_ironedUpper : MethodName := ⟨RX0, "ironedUpper", "(I)J"⟩
abbrev cX0_ironedLower : ByteArray := prog_2_method_12_code
def yX0_ironedLower : MethodName := ⟨RX0, "ironedLower", "(I)J"⟩
abbrev cX0_iron : ByteArray := prog_2_method_13_code
def yX0_iron : MethodName := ⟨RX0, "iron", "()V"⟩
abbrev cX0_nextCorner : ByteArray := prog_2_method_14_code
def yX0_nextCorner : MethodName := ⟨RX0, "nextCorner", "(I)I"⟩
def RX1 : String := "DoubtSale"
def TX1 : u_T := fun k => match k with
  | 0 => ("DoubtSale", "book0", "LDoubtSale$Book;", true)
  | 1 => ("DoubtSale", "book1", "LDoubtSale$Book;", true)
  | 2 => ("DoubtSale", "book2", "LDoubtSale$Book;", true)
  | 3 => ("DoubtSale", "samples", "[I", true)
  | 4 => ("DoubtSale", "buyerCount", "I", false)
  | 5 => ("DoubtSale", "sampleCount", "I", false)
  | 6 => ("DoubtSale", "reservePrice", "I", false)
  | _ => ("DoubtSale", "traced", "J", false)
def tyX1 : Nat → FieldType := fun k => match k with
  | 0 => .object "DoubtSale$Book"
  | 1 => .object "DoubtSale$Book"
  | 2 => .object "DoubtSale$Book"
  | 3 => .array .int
  | 4 => .int
  | 5 => .int
  | 6 => .int
  | _ => .long
abbrev wsX10 : List Cond := u_ws RX1 TX1 8
theorem nmX1 : ∀ a, a < 8 → ∀ b, b < 8 → a ≠ b → (TX1 a).2.1 ≠ (TX1 b).2.1 := by decide +kernel
theorem tyX1_ok : ∀ k, k < 8 → parseFieldDescriptor (TX1 k).2.2.1 = some (tyX1 k) := by decide +kernel
abbrev cX1_init : ByteArray := prog_1_method_1_code
def yX1_init : MethodName := ⟨RX1, "<init>", "()V"⟩
abbrev cX1_buyers : ByteArray := prog_1_method_2_code
def yX1_buyers : MethodName := ⟨RX1, "buyers", "(I)I"⟩
abbrev cX1_book : ByteArray := prog_1_method_3_code
def yX1_book : MethodName := ⟨RX1, "book", "(III)I"⟩
abbrev cX1_more : ByteArray := prog_1_method_4_code
def yX1_more : MethodName := ⟨RX1, "more", "(III)I"⟩
abbrev cX1_about : ByteArray := prog_1_method_5_code
def yX1_about : MethodName := ⟨RX1, "about", "(III)I"⟩
abbrev cX1_whole : ByteArray := prog_1_method_6_code
def yX1_whole : MethodName := ⟨RX1, "whole", "(II)I"⟩
abbrev cX1_slope : ByteArray := prog_1_method_7_code
def yX1_slope : MethodName := ⟨RX1, "slope", "(IIZI)J"⟩
abbrev cX1_gets : ByteArray := prog_1_method_8_code
def yX1_gets : MethodName := ⟨RX1, "gets", "(III)I"⟩
abbrev cX1_pays : ByteArray := prog_1_method_9_code
def yX1_pays : MethodName := ⟨RX1, "pays", "(IIII)I"⟩
abbrev cX1_gain : ByteArray := prog_1_method_10_code
def yX1_gain : MethodName := ⟨RX1, "gain", "(IIIII)J"⟩
abbrev cX1_brings : ByteArray := prog_1_method_11_code
def yX1_brings : MethodName := ⟨RX1, "brings", "(I)J"⟩
abbrev cX1_reserve : ByteArray := prog_1_method_12_code
def yX1_reserve : MethodName := ⟨RX1, "reserve", "(I)I"⟩
abbrev cX1_pay : ByteArray := prog_1_method_13_code
def yX1_pay : MethodName := ⟨RX1, "pay", "(IIII)I"⟩
abbrev cX1_average : ByteArray := prog_1_method_14_code
def yX1_average : MethodName := ⟨RX1, "average", "(II)J"⟩
abbrev cX1_offers : ByteArray := prog_1_method_15_code
def yX1_offers : MethodName := ⟨RX1, "offers", "(II)J"⟩
abbrev cX1_bundle : ByteArray := prog_1_method_16_code
def yX1_bundle : MethodName := ⟨RX1, "bundle", "(III)I"⟩
abbrev cX1_sample : ByteArray := prog_1_method_17_code
def yX1_sample : MethodName := ⟨RX1, "sample", "(I)I"⟩
abbrev cX1_clear : ByteArray := prog_1_method_18_code
def yX1_clear : MethodName := ⟨RX1, "clear", "()I"⟩
abbrev cX1_learnt : ByteArray := prog_1_method_19_code
def yX1_learnt : MethodName := ⟨RX1, "learnt", "()I"⟩
abbrev cX1_count : ByteArray := prog_1_method_20_code
def yX1_count : MethodName := ⟨RX1, "count", "(I)I"⟩
abbrev cX1_trace : ByteArray := prog_1_method_21_code
def yX1_trace : MethodName := ⟨RX1, "trace", "()J"⟩
abbrev cX1_isBuyer : ByteArray := prog_1_method_22_code
def yX1_isBuyer : MethodName := ⟨RX1, "isBuyer", "(I)Z"⟩
abbrev cX1_isWorth : ByteArray := prog_1_method_23_code
def yX1_isWorth : MethodName := ⟨RX1, "isWorth", "(I)Z"⟩
abbrev cX1_isWeight : ByteArray := prog_1_method_24_code
def yX1_isWeight : MethodName := ⟨RX1, "isWeight", "(I)Z"⟩
abbrev cX1_isPart : ByteArray := prog_1_method_25_code
def yX1_isPart : MethodName := ⟨RX1, "isPart", "(I)Z"⟩
abbrev cX1_isKind : ByteArray := prog_1_method_26_code
def yX1_isKind : MethodName := ⟨RX1, "isKind", "(I)Z"⟩
abbrev cX1_arePlaces : ByteArray := prog_1_method_27_code
def yX1_arePlaces : MethodName := ⟨RX1, "arePlaces", "(III)Z"⟩
abbrev cX1_areWorths : ByteArray := prog_1_method_28_code
def yX1_areWorths : MethodName := ⟨RX1, "areWorths", "(III)Z"⟩
abbrev cX1_isOrder : ByteArray := prog_1_method_29_code
def yX1_isOrder : MethodName := ⟨RX1, "isOrder", "(I)Z"⟩
abbrev cX1_bookOf : ByteArray := prog_1_method_30_code
def yX1_bookOf : MethodName := ⟨RX1, "bookOf", "(I)LDoubtSale$Book;"⟩
abbrev cX1_pick : ByteArray := prog_1_method_31_code
def yX1_pick : MethodName := ⟨RX1, "pick", "(IIII)I"⟩
abbrev cX1_winner : ByteArray := prog_1_method_32_code
def yX1_winner : MethodName := ⟨RX1, "winner", "(III)I"⟩
abbrev cX1_getsWith : ByteArray := prog_1_method_33_code
def yX1_getsWith : MethodName := ⟨RX1, "getsWith", "(IIIII)Z"⟩
abbrev cX1_leastWinning : ByteArray := prog_1_method_34_code
def yX1_leastWinning : MethodName := ⟨RX1, "leastWinning", "(IIII)I"⟩
abbrev cX1_paidByKind : ByteArray := prog_1_method_35_code
def yX1_paidByKind : MethodName := ⟨RX1, "paidByKind", "(IIII)I"⟩
abbrev cX1_priceOf : ByteArray := prog_1_method_36_code
def yX1_priceOf : MethodName := ⟨RX1, "priceOf", "(II)I"⟩
abbrev cX1_asksOf : ByteArray := prog_1_method_37_code
def yX1_asksOf : MethodName := ⟨RX1, "asksOf", "(I)I"⟩
abbrev cX1_meanPaid : ByteArray := prog_1_method_38_code
def yX1_meanPaid : MethodName := ⟨RX1, "meanPaid", "(II)J"⟩
abbrev cX1_paidAt : ByteArray := prog_1_method_39_code
def yX1_paidAt : MethodName := ⟨RX1, "paidAt", "(IIII)I"⟩
abbrev cX1_leastPart : ByteArray := prog_1_method_40_code
def yX1_leastPart : MethodName := ⟨RX1, "leastPart", "(JJI)J"⟩
abbrev cX1_commonDivisor : ByteArray := prog_1_method_41_code
def yX1_commonDivisor : MethodName := ⟨RX1, "commonDivisor", "(JJ)J"⟩
abbrev cX1_bestOffer : ByteArray := prog_1_method_42_code
def yX1_bestOffer : MethodName := ⟨RX1, "bestOffer", "(LDoubtSale$Book;JJ)I"⟩
abbrev cX1_offerBrings : ByteArray := prog_1_method_43_code
def yX1_offerBrings : MethodName := ⟨RX1, "offerBrings", "(LDoubtSale$Book;IJJ)J"⟩
abbrev cX1_bestSum : ByteArray := prog_1_method_44_code
def yX1_bestSum : MethodName := ⟨RX1, "bestSum", "(LDoubtSale$Book;LDoubtSale$Book;)I"⟩
abbrev cX1_pairsFrom : ByteArray := prog_1_method_45_code
def yX1_pairsFrom : MethodName := ⟨RX1, "pairsFrom", "(LDoubtSale$Book;LDoubtSale$Book;I)I"⟩
abbrev cX1_bothAlone : ByteArray := prog_1_method_46_code
def yX1_bothAlone : MethodName := ⟨RX1, "bothAlone", "(LDoubtSale$Book;LDoubtSale$Book;)I"⟩
abbrev cX1_samplesFrom : ByteArray := prog_1_method_47_code
def yX1_samplesFrom : MethodName := ⟨RX1, "samplesFrom", "(I)I"⟩
def RX2 : String := "DoubtSaleModel"
def TX2 : u_T := fun k => match k with
  | 0 => ("DoubtSaleModel", "thrown", "I", false)
  | 1 => ("DoubtSaleModel", "trace", "J", false)
  | 2 => ("DoubtSaleModel", "n", "I", false)
  | 3 => ("DoubtSaleModel", "many", "[I", true)
  | 4 => ("DoubtSaleModel", "worth", "[I", true)
  | 5 => ("DoubtSaleModel", "weight", "[I", true)
  | 6 => ("DoubtSaleModel", "reserve", "I", false)
  | 7 => ("DoubtSaleModel", "samples", "I", false)
  | 8 => ("DoubtSaleModel", "sample", "[I", true)
  | 9 => ("DoubtSaleModel", "upper", "J", false)
  | 10 => ("DoubtSaleModel", "lower", "J", false)
  | 11 => ("DoubtSaleModel", "place", "[I", true)
  | 12 => ("DoubtSaleModel", "told", "[I", true)
  | _ => ("DoubtSaleModel", "price", "[I", true)
def tyX2 : Nat → FieldType := fun k => match k with
  | 0 => .int
  | 1 => .long
  | 2 => .int
  | 3 => .array .int
  | 4 => .array .int
  | 5 => .array .int
  | 6 => .int
  | 7 => .int
  | 8 => .array .int
  | 9 => .long
  | 10 => .long
  | 11 => .array .int
  | 12 => .array .int
  | _ => .array .int
abbrev wsX20 : List Cond := u_ws RX2 TX2 14
theorem nmX2 : ∀ a, a < 14 → ∀ b, b < 14 → a ≠ b → (TX2 a).2.1 ≠ (TX2 b).2.1 := by decide +kernel
theorem tyX2_ok : ∀ k, k < 14 → parseFieldDescriptor (TX2 k).2.2.1 = some (tyX2 k) := by decide +kernel
abbrev cX2_init : ByteArray := prog_4_method_1_code
def yX2_init : MethodName := ⟨RX2, "<init>", "()V"⟩
abbrev cX2_in : ByteArray := prog_4_method_3_code
def yX2_in : MethodName := ⟨RX2, "in", "(III)Z"⟩
abbrev cX2_renews : ByteArray := prog_4_method_4_code
def yX2_renews : MethodName := ⟨RX2, "renews", "()V"⟩
abbrev cX2_isBuyer : ByteArray := prog_4_method_5_code
def yX2_isBuyer : MethodName := ⟨RX2, "isBuyer", "(I)Z"⟩
abbrev cX2_buyers : ByteArray := prog_4_method_6_code
def yX2_buyers : MethodName := ⟨RX2, "buyers", "(I)I"⟩
abbrev cX2_book : ByteArray := prog_4_method_7_code
def yX2_book : MethodName := ⟨RX2, "book", "(III)I"⟩
abbrev cX2_more : ByteArray := prog_4_method_8_code
def yX2_more : MethodName := ⟨RX2, "more", "(III)I"⟩
abbrev cX2_share : ByteArray := prog_4_method_9_code
def yX2_share : MethodName := ⟨RX2, "share", "(II)I"⟩
abbrev cX2_take : ByteArray := prog_4_method_10_code
def yX2_take : MethodName := ⟨RX2, "take", "(II)I"⟩
abbrev cX2_bestOf : ByteArray := prog_4_method_11_code
def yX2_bestOf : MethodName := ⟨RX2, "bestOf", "(I)I"⟩
abbrev cX2_isPlace : ByteArray := prog_4_method_12_code
def yX2_isPlace : MethodName := ⟨RX2, "isPlace", "(II)Z"⟩
abbrev cX2_about : ByteArray := prog_4_method_13_code
def yX2_about : MethodName := ⟨RX2, "about", "(III)I"⟩
abbrev cX2_whole : ByteArray := prog_4_method_14_code
def yX2_whole : MethodName := ⟨RX2, "whole", "(II)I"⟩
abbrev cX2_irons : ByteArray := prog_4_method_15_code
def yX2_irons : MethodName := ⟨RX2, "irons", "(II)V"⟩
abbrev cX2_common : ByteArray := prog_4_method_16_code
def yX2_common : MethodName := ⟨RX2, "common", "(JJ)J"⟩
abbrev cX2_part : ByteArray := prog_4_method_17_code
def yX2_part : MethodName := ⟨RX2, "part", "(JJI)J"⟩
abbrev cX2_slope : ByteArray := prog_4_method_18_code
def yX2_slope : MethodName := ⟨RX2, "slope", "(IIZI)J"⟩
abbrev cX2_getter : ByteArray := prog_4_method_19_code
def yX2_getter : MethodName := ⟨RX2, "getter", "()I"⟩
abbrev cX2_paid : ByteArray := prog_4_method_20_code
def yX2_paid : MethodName := ⟨RX2, "paid", "(I)I"⟩
abbrev cX2_isPlaces : ByteArray := prog_4_method_21_code
def yX2_isPlaces : MethodName := ⟨RX2, "isPlaces", "(III)Z"⟩
abbrev cX2_gets : ByteArray := prog_4_method_22_code
def yX2_gets : MethodName := ⟨RX2, "gets", "(III)I"⟩
abbrev cX2_pays : ByteArray := prog_4_method_23_code
def yX2_pays : MethodName := ⟨RX2, "pays", "(IIII)I"⟩
abbrev cX2_gain : ByteArray := prog_4_method_24_code
def yX2_gain : MethodName := ⟨RX2, "gain", "(IIIII)J"⟩
abbrev cX2_all : ByteArray := prog_4_method_25_code
def yX2_all : MethodName := ⟨RX2, "all", "()I"⟩
abbrev cX2_comes : ByteArray := prog_4_method_26_code
def yX2_comes : MethodName := ⟨RX2, "comes", "(I)I"⟩
abbrev cX2_brings : ByteArray := prog_4_method_27_code
def yX2_brings : MethodName := ⟨RX2, "brings", "(I)J"⟩
abbrev cX2_reserve : ByteArray := prog_4_method_28_code
def yX2_reserve : MethodName := ⟨RX2, "reserve", "(I)I"⟩
abbrev cX2_payOf : ByteArray := prog_4_method_29_code
def yX2_payOf : MethodName := ⟨RX2, "payOf", "(I)I"⟩
abbrev cX2_pay : ByteArray := prog_4_method_30_code
def yX2_pay : MethodName := ⟨RX2, "pay", "(IIII)I"⟩
abbrev cX2_average : ByteArray := prog_4_method_31_code
def yX2_average : MethodName := ⟨RX2, "average", "(II)J"⟩
abbrev cX2_offers : ByteArray := prog_4_method_32_code
def yX2_offers : MethodName := ⟨RX2, "offers", "(II)J"⟩
abbrev cX2_pairs : ByteArray := prog_4_method_33_code
def yX2_pairs : MethodName := ⟨RX2, "pairs", "(III)I"⟩
abbrev cX2_bundle : ByteArray := prog_4_method_34_code
def yX2_bundle : MethodName := ⟨RX2, "bundle", "(III)I"⟩
abbrev cX2_sample : ByteArray := prog_4_method_35_code
def yX2_sample : MethodName := ⟨RX2, "sample", "(I)I"⟩
abbrev cX2_clear : ByteArray := prog_4_method_36_code
def yX2_clear : MethodName := ⟨RX2, "clear", "()I"⟩
abbrev cX2_learnt : ByteArray := prog_4_method_37_code
def yX2_learnt : MethodName := ⟨RX2, "learnt", "()I"⟩
abbrev cX2_count : ByteArray := prog_4_method_38_code
def yX2_count : MethodName := ⟨RX2, "count", "(I)I"⟩
abbrev cX2_trace : ByteArray := prog_4_method_39_code
def yX2_trace : MethodName := ⟨RX2, "trace", "()J"⟩
def RJ6 : String := "java/lang/Integer"
def TJ6 : u_T := fun k => match k with
  | _ => ("", "", "", false)
def tyJ6 : Nat → FieldType := fun k => match k with
  | _ => .int
abbrev wsJ60 : List Cond := u_ws RJ6 TJ6 0
theorem nmJ6 : ∀ a, a < 0 → ∀ b, b < 0 → a ≠ b → (TJ6 a).2.1 ≠ (TJ6 b).2.1 := by decide +kernel
theorem tyJ6_ok : ∀ k, k < 0 → parseFieldDescriptor (TJ6 k).2.2.1 = some (tyJ6 k) := by decide +kernel
abbrev cJ6_signum_0f7a4 : ByteArray := prog_5_method_56_code
def yJ6_signum_0f7a4 : MethodName := ⟨RJ6, "signum", "(I)I"⟩
def RJ9 : String := "java/lang/Math"
def TJ9 : u_T := fun k => match k with
  | _ => ("", "", "", false)
def tyJ9 : Nat → FieldType := fun k => match k with
  | _ => .int
abbrev wsJ90 : List Cond := u_ws RJ9 TJ9 0
theorem nmJ9 : ∀ a, a < 0 → ∀ b, b < 0 → a ≠ b → (TJ9 a).2.1 ≠ (TJ9 b).2.1 := by decide +kernel
theorem tyJ9_ok : ∀ k, k < 0 → parseFieldDescriptor (TJ9 k).2.2.1 = some (tyJ9 k) := by decide +kernel
abbrev cJ9_abs_067f4 : ByteArray := prog_6_method_61_code
def yJ9_abs_067f4 : MethodName := ⟨RJ9, "abs", "(J)J"⟩
abbrev cJ9_max_7cf53 : ByteArray := prog_6_method_65_code
def yJ9_max_7cf53 : MethodName := ⟨RJ9, "max", "(II)I"⟩
abbrev cJ9_min_7cf53 : ByteArray := prog_6_method_69_code
def yJ9_min_7cf53 : MethodName := ⟨RJ9, "min", "(II)I"⟩
def RL : String := "DoubtSaleLaw"
abbrev cL_law : ByteArray := code
def yL_law : MethodName := ⟨RL, "law", "([I)Z"⟩
def wsX0_worthAt : List Cond := .code yX0_worthAt cX0_worthAt 2 (some .int) :: ([.fieldLink RX0 24 "DoubtSale$Book" "size" "I", .fieldLink RX0 9 "DoubtSale$Book" "worths" "[I"] ++ wsX00)
def wsX0_shareAt : List Cond := .code yX0_shareAt cX0_shareAt 4 (some .int) :: ([.methodLink RX0 35 Lib.Math.max.name, .static Lib.Math.max.name, .initialized "java/lang/Math", .code Lib.Math.max.name Lib.Math.max.code 2 (some .int), .fieldLink RX0 24 "DoubtSale$Book" "size" "I", .fieldLink RX0 15 "DoubtSale$Book" "weights" "[I"] ++ wsX00)
def wsX0_takeAt : List Cond := .code yX0_takeAt cX0_takeAt 2 (some .int) :: ([.methodLink RX0 45 yX0_worthAt, .instanceMethod yX0_worthAt, .selects RX0 yX0_worthAt yX0_worthAt, .initialized RX0, .code yX0_worthAt cX0_worthAt 2 (some .int), .fieldLink RX0 24 "DoubtSale$Book" "size" "I", .fieldLink RX0 9 "DoubtSale$Book" "worths" "[I", .methodLink RX0 41 yX0_shareAt, .instanceMethod yX0_shareAt, .selects RX0 yX0_shareAt yX0_shareAt, .code yX0_shareAt cX0_shareAt 4 (some .int), .methodLink RX0 35 Lib.Math.max.name, .static Lib.Math.max.name, .initialized "java/lang/Math", .code Lib.Math.max.name Lib.Math.max.code 2 (some .int), .fieldLink RX0 15 "DoubtSale$Book" "weights" "[I"] ++ wsX00)
def wsX0_nextCorner : List Cond := .code yX0_nextCorner cX0_nextCorner 12 (some .int) :: ([.methodLink RX0 48 yX0_takeAt, .instanceMethod yX0_takeAt, .selects RX0 yX0_takeAt yX0_takeAt, .initialized RX0, .code yX0_takeAt cX0_takeAt 2 (some .int), .methodLink RX0 45 yX0_worthAt, .instanceMethod yX0_worthAt, .selects RX0 yX0_worthAt yX0_worthAt, .code yX0_worthAt cX0_worthAt 2 (some .int), .fieldLink RX0 24 "DoubtSale$Book" "size" "I", .fieldLink RX0 9 "DoubtSale$Book" "worths" "[I", .methodLink RX0 41 yX0_shareAt, .instanceMethod yX0_shareAt, .selects RX0 yX0_shareAt yX0_shareAt, .code yX0_shareAt cX0_shareAt 4 (some .int), .methodLink RX0 35 Lib.Math.max.name, .static Lib.Math.max.name, .initialized "java/lang/Math", .code Lib.Math.max.name Lib.Math.max.code 2 (some .int), .fieldLink RX0 15 "DoubtSale$Book" "weights" "[I"] ++ wsX00)
def wsX0_iron_r1 : List Cond := [Cond.fieldLink RX0 24 "DoubtSale$Book" "size" "I", Cond.fieldLink RX0 18 "DoubtSale$Book" "uppers" "[I", Cond.fieldLink RX0 21 "DoubtSale$Book" "lowers" "[I", Cond.methodLink RX0 51 yX0_nextCorner, Cond.instanceMethod yX0_nextCorner, Cond.selects RX0 yX0_nextCorner yX0_nextCorner, Cond.initialized RX0, Cond.code yX0_nextCorner cX0_nextCorner 12 (some .int), Cond.methodLink RX0 48 yX0_takeAt, Cond.instanceMethod yX0_takeAt, Cond.selects RX0 yX0_takeAt yX0_takeAt, Cond.code yX0_takeAt cX0_takeAt 2 (some .int), Cond.methodLink RX0 45 yX0_worthAt, Cond.instanceMethod yX0_worthAt, Cond.selects RX0 yX0_worthAt yX0_worthAt, Cond.code yX0_worthAt cX0_worthAt 2 (some .int), Cond.fieldLink RX0 9 "DoubtSale$Book" "worths" "[I", Cond.methodLink RX0 41 yX0_shareAt, Cond.instanceMethod yX0_shareAt, Cond.selects RX0 yX0_shareAt yX0_shareAt, Cond.code yX0_shareAt cX0_shareAt 4 (some .int), Cond.methodLink RX0 35 Lib.Math.max.name, Cond.static Lib.Math.max.name, Cond.initialized "java/lang/Math"]
def wsX0_iron_r2 : List Cond := [Cond.code Lib.Math.max.name Lib.Math.max.code 2 (some .int), Cond.fieldLink RX0 15 "DoubtSale$Book" "weights" "[I"]
def wsX0_iron : List Cond := .code yX0_iron cX0_iron 6 none :: ((wsX0_iron_r1 ++ wsX0_iron_r2) ++ wsX00)
def wsX0_begin_r1 : List Cond := [Cond.fieldLink RX0 9 "DoubtSale$Book" "worths" "[I", Cond.fieldLink RX0 15 "DoubtSale$Book" "weights" "[I", Cond.fieldLink RX0 24 "DoubtSale$Book" "size" "I", Cond.methodLink RX0 32 yX0_iron, Cond.instanceMethod yX0_iron, Cond.selects RX0 yX0_iron yX0_iron, Cond.initialized RX0, Cond.code yX0_iron cX0_iron 6 none, Cond.fieldLink RX0 18 "DoubtSale$Book" "uppers" "[I", Cond.fieldLink RX0 21 "DoubtSale$Book" "lowers" "[I", Cond.methodLink RX0 51 yX0_nextCorner, Cond.instanceMethod yX0_nextCorner, Cond.selects RX0 yX0_nextCorner yX0_nextCorner, Cond.code yX0_nextCorner cX0_nextCorner 12 (some .int), Cond.methodLink RX0 48 yX0_takeAt, Cond.instanceMethod yX0_takeAt, Cond.selects RX0 yX0_takeAt yX0_takeAt, Cond.code yX0_takeAt cX0_takeAt 2 (some .int), Cond.methodLink RX0 45 yX0_worthAt, Cond.instanceMethod yX0_worthAt, Cond.selects RX0 yX0_worthAt yX0_worthAt, Cond.code yX0_worthAt cX0_worthAt 2 (some .int), Cond.methodLink RX0 41 yX0_shareAt, Cond.instanceMethod yX0_shareAt]
def wsX0_begin_r2 : List Cond := [Cond.selects RX0 yX0_shareAt yX0_shareAt, Cond.code yX0_shareAt cX0_shareAt 4 (some .int), Cond.methodLink RX0 35 Lib.Math.max.name, Cond.static Lib.Math.max.name, Cond.initialized "java/lang/Math", Cond.code Lib.Math.max.name Lib.Math.max.code 2 (some .int)]
def wsX0_begin : List Cond := .code yX0_begin cX0_begin 3 none :: ((wsX0_begin_r1 ++ wsX0_begin_r2) ++ wsX00)
def wsX0_init_r1 : List Cond := [Cond.methodLink RX0 3 objectInit, Cond.instanceMethod objectInit, Cond.code objectInit ⟨#[0xb1]⟩ 1 none, Cond.arrayClass .int, Cond.fieldLink RX0 9 "DoubtSale$Book" "worths" "[I", Cond.fieldLink RX0 15 "DoubtSale$Book" "weights" "[I", Cond.fieldLink RX0 18 "DoubtSale$Book" "uppers" "[I", Cond.fieldLink RX0 21 "DoubtSale$Book" "lowers" "[I", Cond.fieldLink RX0 24 "DoubtSale$Book" "size" "I", Cond.methodLink RX0 28 yX0_begin, Cond.instanceMethod yX0_begin, Cond.selects RX0 yX0_begin yX0_begin, Cond.initialized RX0, Cond.code yX0_begin cX0_begin 3 none, Cond.methodLink RX0 32 yX0_iron, Cond.instanceMethod yX0_iron, Cond.selects RX0 yX0_iron yX0_iron, Cond.code yX0_iron cX0_iron 6 none, Cond.methodLink RX0 51 yX0_nextCorner, Cond.instanceMethod yX0_nextCorner, Cond.selects RX0 yX0_nextCorner yX0_nextCorner, Cond.code yX0_nextCorner cX0_nextCorner 12 (some .int), Cond.methodLink RX0 48 yX0_takeAt, Cond.instanceMethod yX0_takeAt]
def wsX0_init_r2 : List Cond := [Cond.selects RX0 yX0_takeAt yX0_takeAt, Cond.code yX0_takeAt cX0_takeAt 2 (some .int), Cond.methodLink RX0 45 yX0_worthAt, Cond.instanceMethod yX0_worthAt, Cond.selects RX0 yX0_worthAt yX0_worthAt, Cond.code yX0_worthAt cX0_worthAt 2 (some .int), Cond.methodLink RX0 41 yX0_shareAt, Cond.instanceMethod yX0_shareAt, Cond.selects RX0 yX0_shareAt yX0_shareAt, Cond.code yX0_shareAt cX0_shareAt 4 (some .int), Cond.methodLink RX0 35 Lib.Math.max.name, Cond.static Lib.Math.max.name, Cond.initialized "java/lang/Math", Cond.code Lib.Math.max.name Lib.Math.max.code 2 (some .int)]
def wsX0_init : List Cond := .code yX0_init cX0_init 1 none :: ((wsX0_init_r1 ++ wsX0_init_r2) ++ wsX00)
def wsX0_add_r1 : List Cond := [Cond.fieldLink RX0 24 "DoubtSale$Book" "size" "I", Cond.fieldLink RX0 9 "DoubtSale$Book" "worths" "[I", Cond.fieldLink RX0 15 "DoubtSale$Book" "weights" "[I", Cond.methodLink RX0 32 yX0_iron, Cond.instanceMethod yX0_iron, Cond.selects RX0 yX0_iron yX0_iron, Cond.initialized RX0, Cond.code yX0_iron cX0_iron 6 none, Cond.fieldLink RX0 18 "DoubtSale$Book" "uppers" "[I", Cond.fieldLink RX0 21 "DoubtSale$Book" "lowers" "[I", Cond.methodLink RX0 51 yX0_nextCorner, Cond.instanceMethod yX0_nextCorner, Cond.selects RX0 yX0_nextCorner yX0_nextCorner, Cond.code yX0_nextCorner cX0_nextCorner 12 (some .int), Cond.methodLink RX0 48 yX0_takeAt, Cond.instanceMethod yX0_takeAt, Cond.selects RX0 yX0_takeAt yX0_takeAt, Cond.code yX0_takeAt cX0_takeAt 2 (some .int), Cond.methodLink RX0 45 yX0_worthAt, Cond.instanceMethod yX0_worthAt, Cond.selects RX0 yX0_worthAt yX0_worthAt, Cond.code yX0_worthAt cX0_worthAt 2 (some .int), Cond.methodLink RX0 41 yX0_shareAt, Cond.instanceMethod yX0_shareAt]
def wsX0_add_r2 : List Cond := [Cond.selects RX0 yX0_shareAt yX0_shareAt, Cond.code yX0_shareAt cX0_shareAt 4 (some .int), Cond.methodLink RX0 35 Lib.Math.max.name, Cond.static Lib.Math.max.name, Cond.initialized "java/lang/Math", Cond.code Lib.Math.max.name Lib.Math.max.code 2 (some .int)]
def wsX0_add : List Cond := .code yX0_add cX0_add 3 none :: ((wsX0_add_r1 ++ wsX0_add_r2) ++ wsX00)
def wsX0_has : List Cond := .code yX0_has cX0_has 2 (some .boolean) :: ([.fieldLink RX0 24 "DoubtSale$Book" "size" "I"] ++ wsX00)
def wsX0_weightAt : List Cond := .code yX0_weightAt cX0_weightAt 2 (some .int) :: ([.fieldLink RX0 24 "DoubtSale$Book" "size" "I", .fieldLink RX0 15 "DoubtSale$Book" "weights" "[I"] ++ wsX00)
def wsX0_allWeights : List Cond := .code yX0_allWeights cX0_allWeights 1 (some .int) :: ([.methodLink RX0 41 yX0_shareAt, .instanceMethod yX0_shareAt, .selects RX0 yX0_shareAt yX0_shareAt, .initialized RX0, .code yX0_shareAt cX0_shareAt 4 (some .int), .methodLink RX0 35 Lib.Math.max.name, .static Lib.Math.max.name, .initialized "java/lang/Math", .code Lib.Math.max.name Lib.Math.max.code 2 (some .int), .fieldLink RX0 24 "DoubtSale$Book" "size" "I", .fieldLink RX0 15 "DoubtSale$Book" "weights" "[I"] ++ wsX00)
def wsX0_bestPlace : List Cond := .code yX0_bestPlace cX0_bestPlace 3 (some .int) :: ([.fieldLink RX0 24 "DoubtSale$Book" "size" "I", .methodLink RX0 48 yX0_takeAt, .instanceMethod yX0_takeAt, .selects RX0 yX0_takeAt yX0_takeAt, .initialized RX0, .code yX0_takeAt cX0_takeAt 2 (some .int), .methodLink RX0 45 yX0_worthAt, .instanceMethod yX0_worthAt, .selects RX0 yX0_worthAt yX0_worthAt, .code yX0_worthAt cX0_worthAt 2 (some .int), .fieldLink RX0 9 "DoubtSale$Book" "worths" "[I", .methodLink RX0 41 yX0_shareAt, .instanceMethod yX0_shareAt, .selects RX0 yX0_shareAt yX0_shareAt, .code yX0_shareAt cX0_shareAt 4 (some .int), .methodLink RX0 35 Lib.Math.max.name, .static Lib.Math.max.name, .initialized "java/lang/Math", .code Lib.Math.max.name Lib.Math.max.code 2 (some .int), .fieldLink RX0 15 "DoubtSale$Book" "weights" "[I"] ++ wsX00)
def wsX0_ironedUpper : List Cond := .code yX0_ironedUpper cX0_ironedUpper 2 (some .long) :: ([.fieldLink RX0 24 "DoubtSale$Book" "size" "I", .fieldLink RX0 18 "DoubtSale$Book" "uppers" "[I"] ++ wsX00)
def wsX0_ironedLower : List Cond := .code yX0_ironedLower cX0_ironedLower 2 (some .long) :: ([.fieldLink RX0 24 "DoubtSale$Book" "size" "I", .fieldLink RX0 21 "DoubtSale$Book" "lowers" "[I"] ++ wsX00)
def wsX1_init_r1 : List Cond := [Cond.methodLink RX1 1 objectInit, Cond.instanceMethod objectInit, Cond.code objectInit ⟨#[0xb1]⟩ 1 none, Cond.classLink RX1 7 RX0, Cond.instantiable RX0 5, Cond.initialized RX0, Cond.fieldLink RX1 10 "DoubtSale" "book0" "LDoubtSale$Book;", Cond.fieldLink RX1 16 "DoubtSale" "book1" "LDoubtSale$Book;", Cond.fieldLink RX1 19 "DoubtSale" "book2" "LDoubtSale$Book;", Cond.arrayClass .int, Cond.fieldLink RX1 22 "DoubtSale" "samples" "[I", Cond.fieldLink RX1 26 "DoubtSale" "buyerCount" "I", Cond.fieldLink RX1 30 "DoubtSale" "sampleCount" "I", Cond.fieldLink RX1 33 "DoubtSale" "reservePrice" "I", Cond.fieldLink RX1 36 "DoubtSale" "traced" "J", Cond.methodLink RX1 9 yX0_init, Cond.instanceMethod yX0_init, Cond.code yX0_init cX0_init 1 none, Cond.methodLink RX0 3 objectInit, Cond.fieldLink RX0 9 "DoubtSale$Book" "worths" "[I", Cond.fieldLink RX0 15 "DoubtSale$Book" "weights" "[I", Cond.fieldLink RX0 18 "DoubtSale$Book" "uppers" "[I", Cond.fieldLink RX0 21 "DoubtSale$Book" "lowers" "[I", Cond.fieldLink RX0 24 "DoubtSale$Book" "size" "I"]
def wsX1_init_r2 : List Cond := [Cond.methodLink RX0 28 yX0_begin, Cond.instanceMethod yX0_begin, Cond.selects RX0 yX0_begin yX0_begin, Cond.code yX0_begin cX0_begin 3 none, Cond.methodLink RX0 32 yX0_iron, Cond.instanceMethod yX0_iron, Cond.selects RX0 yX0_iron yX0_iron, Cond.code yX0_iron cX0_iron 6 none, Cond.methodLink RX0 51 yX0_nextCorner, Cond.instanceMethod yX0_nextCorner, Cond.selects RX0 yX0_nextCorner yX0_nextCorner, Cond.code yX0_nextCorner cX0_nextCorner 12 (some .int), Cond.methodLink RX0 48 yX0_takeAt, Cond.instanceMethod yX0_takeAt, Cond.selects RX0 yX0_takeAt yX0_takeAt, Cond.code yX0_takeAt cX0_takeAt 2 (some .int), Cond.methodLink RX0 45 yX0_worthAt, Cond.instanceMethod yX0_worthAt, Cond.selects RX0 yX0_worthAt yX0_worthAt, Cond.code yX0_worthAt cX0_worthAt 2 (some .int), Cond.methodLink RX0 41 yX0_shareAt, Cond.instanceMethod yX0_shareAt, Cond.selects RX0 yX0_shareAt yX0_shareAt, Cond.code yX0_shareAt cX0_shareAt 4 (some .int)]
def wsX1_init_r3 : List Cond := [Cond.methodLink RX0 35 Lib.Math.max.name, Cond.static Lib.Math.max.name, Cond.initialized "java/lang/Math", Cond.code Lib.Math.max.name Lib.Math.max.code 2 (some .int)]
def wsX1_init : List Cond := .code yX1_init cX1_init 1 none :: ((wsX1_init_r1 ++ (wsX1_init_r2 ++ wsX1_init_r3)) ++ wsX00 ++ wsX10)
def wsX1_buyers_r1 : List Cond := [Cond.fieldLink RX1 26 "DoubtSale" "buyerCount" "I", Cond.fieldLink RX1 10 "DoubtSale" "book0" "LDoubtSale$Book;", Cond.fieldLink RX1 16 "DoubtSale" "book1" "LDoubtSale$Book;", Cond.fieldLink RX1 19 "DoubtSale" "book2" "LDoubtSale$Book;", Cond.methodLink RX1 40 yX0_begin, Cond.instanceMethod yX0_begin, Cond.selects RX0 yX0_begin yX0_begin, Cond.initialized RX0, Cond.code yX0_begin cX0_begin 3 none, Cond.fieldLink RX0 9 "DoubtSale$Book" "worths" "[I", Cond.fieldLink RX0 15 "DoubtSale$Book" "weights" "[I", Cond.fieldLink RX0 24 "DoubtSale$Book" "size" "I", Cond.methodLink RX0 32 yX0_iron, Cond.instanceMethod yX0_iron, Cond.selects RX0 yX0_iron yX0_iron, Cond.code yX0_iron cX0_iron 6 none, Cond.fieldLink RX0 18 "DoubtSale$Book" "uppers" "[I", Cond.fieldLink RX0 21 "DoubtSale$Book" "lowers" "[I", Cond.methodLink RX0 51 yX0_nextCorner, Cond.instanceMethod yX0_nextCorner, Cond.selects RX0 yX0_nextCorner yX0_nextCorner, Cond.code yX0_nextCorner cX0_nextCorner 12 (some .int), Cond.methodLink RX0 48 yX0_takeAt, Cond.instanceMethod yX0_takeAt]
def wsX1_buyers_r2 : List Cond := [Cond.selects RX0 yX0_takeAt yX0_takeAt, Cond.code yX0_takeAt cX0_takeAt 2 (some .int), Cond.methodLink RX0 45 yX0_worthAt, Cond.instanceMethod yX0_worthAt, Cond.selects RX0 yX0_worthAt yX0_worthAt, Cond.code yX0_worthAt cX0_worthAt 2 (some .int), Cond.methodLink RX0 41 yX0_shareAt, Cond.instanceMethod yX0_shareAt, Cond.selects RX0 yX0_shareAt yX0_shareAt, Cond.code yX0_shareAt cX0_shareAt 4 (some .int), Cond.methodLink RX0 35 Lib.Math.max.name, Cond.static Lib.Math.max.name, Cond.initialized "java/lang/Math", Cond.code Lib.Math.max.name Lib.Math.max.code 2 (some .int)]
def wsX1_buyers : List Cond := .code yX1_buyers cX1_buyers 3 (some .int) :: ((wsX1_buyers_r1 ++ wsX1_buyers_r2) ++ wsX10 ++ wsX00)
def wsX1_isBuyer : List Cond := .code yX1_isBuyer cX1_isBuyer 2 (some .boolean) :: ([.fieldLink RX1 26 "DoubtSale" "buyerCount" "I"] ++ wsX10)
def wsX1_isWorth : List Cond := .code yX1_isWorth cX1_isWorth 1 (some .boolean) :: ([])
def wsX1_isWeight : List Cond := .code yX1_isWeight cX1_isWeight 1 (some .boolean) :: ([])
def wsX1_bookOf : List Cond := .code yX1_bookOf cX1_bookOf 2 (some (.object "DoubtSale$Book")) :: ([.fieldLink RX1 10 "DoubtSale" "book0" "LDoubtSale$Book;", .fieldLink RX1 16 "DoubtSale" "book1" "LDoubtSale$Book;", .fieldLink RX1 19 "DoubtSale" "book2" "LDoubtSale$Book;"] ++ wsX10)
def wsX1_book_r1 : List Cond := [Cond.methodLink RX1 44 yX1_isBuyer, Cond.instanceMethod yX1_isBuyer, Cond.selects RX1 yX1_isBuyer yX1_isBuyer, Cond.initialized RX1, Cond.code yX1_isBuyer cX1_isBuyer 2 (some .boolean), Cond.fieldLink RX1 26 "DoubtSale" "buyerCount" "I", Cond.methodLink RX1 48 yX1_isWorth, Cond.static yX1_isWorth, Cond.code yX1_isWorth cX1_isWorth 1 (some .boolean), Cond.methodLink RX1 51 yX1_isWeight, Cond.static yX1_isWeight, Cond.code yX1_isWeight cX1_isWeight 1 (some .boolean), Cond.methodLink RX1 54 yX1_bookOf, Cond.instanceMethod yX1_bookOf, Cond.selects RX1 yX1_bookOf yX1_bookOf, Cond.code yX1_bookOf cX1_bookOf 2 (some (.object "DoubtSale$Book")), Cond.fieldLink RX1 10 "DoubtSale" "book0" "LDoubtSale$Book;", Cond.fieldLink RX1 16 "DoubtSale" "book1" "LDoubtSale$Book;", Cond.fieldLink RX1 19 "DoubtSale" "book2" "LDoubtSale$Book;", Cond.methodLink RX1 40 yX0_begin, Cond.instanceMethod yX0_begin, Cond.selects RX0 yX0_begin yX0_begin, Cond.initialized RX0, Cond.code yX0_begin cX0_begin 3 none]
def wsX1_book_r2 : List Cond := [Cond.fieldLink RX0 9 "DoubtSale$Book" "worths" "[I", Cond.fieldLink RX0 15 "DoubtSale$Book" "weights" "[I", Cond.fieldLink RX0 24 "DoubtSale$Book" "size" "I", Cond.methodLink RX0 32 yX0_iron, Cond.instanceMethod yX0_iron, Cond.selects RX0 yX0_iron yX0_iron, Cond.code yX0_iron cX0_iron 6 none, Cond.fieldLink RX0 18 "DoubtSale$Book" "uppers" "[I", Cond.fieldLink RX0 21 "DoubtSale$Book" "lowers" "[I", Cond.methodLink RX0 51 yX0_nextCorner, Cond.instanceMethod yX0_nextCorner, Cond.selects RX0 yX0_nextCorner yX0_nextCorner, Cond.code yX0_nextCorner cX0_nextCorner 12 (some .int), Cond.methodLink RX0 48 yX0_takeAt, Cond.instanceMethod yX0_takeAt, Cond.selects RX0 yX0_takeAt yX0_takeAt, Cond.code yX0_takeAt cX0_takeAt 2 (some .int), Cond.methodLink RX0 45 yX0_worthAt, Cond.instanceMethod yX0_worthAt, Cond.selects RX0 yX0_worthAt yX0_worthAt, Cond.code yX0_worthAt cX0_worthAt 2 (some .int), Cond.methodLink RX0 41 yX0_shareAt, Cond.instanceMethod yX0_shareAt, Cond.selects RX0 yX0_shareAt yX0_shareAt]
def wsX1_book_r3 : List Cond := [Cond.code yX0_shareAt cX0_shareAt 4 (some .int), Cond.methodLink RX0 35 Lib.Math.max.name, Cond.static Lib.Math.max.name, Cond.initialized "java/lang/Math", Cond.code Lib.Math.max.name Lib.Math.max.code 2 (some .int)]
def wsX1_book : List Cond := .code yX1_book cX1_book 5 (some .int) :: ((wsX1_book_r1 ++ (wsX1_book_r2 ++ wsX1_book_r3)) ++ wsX00 ++ wsX10)
def wsX1_more_r1 : List Cond := [Cond.methodLink RX1 44 yX1_isBuyer, Cond.instanceMethod yX1_isBuyer, Cond.selects RX1 yX1_isBuyer yX1_isBuyer, Cond.initialized RX1, Cond.code yX1_isBuyer cX1_isBuyer 2 (some .boolean), Cond.fieldLink RX1 26 "DoubtSale" "buyerCount" "I", Cond.methodLink RX1 48 yX1_isWorth, Cond.static yX1_isWorth, Cond.code yX1_isWorth cX1_isWorth 1 (some .boolean), Cond.methodLink RX1 51 yX1_isWeight, Cond.static yX1_isWeight, Cond.code yX1_isWeight cX1_isWeight 1 (some .boolean), Cond.methodLink RX1 54 yX1_bookOf, Cond.instanceMethod yX1_bookOf, Cond.selects RX1 yX1_bookOf yX1_bookOf, Cond.code yX1_bookOf cX1_bookOf 2 (some (.object "DoubtSale$Book")), Cond.fieldLink RX1 10 "DoubtSale" "book0" "LDoubtSale$Book;", Cond.fieldLink RX1 16 "DoubtSale" "book1" "LDoubtSale$Book;", Cond.fieldLink RX1 19 "DoubtSale" "book2" "LDoubtSale$Book;", Cond.methodLink RX1 61 yX0_worthAt, Cond.instanceMethod yX0_worthAt, Cond.selects RX0 yX0_worthAt yX0_worthAt, Cond.initialized RX0, Cond.code yX0_worthAt cX0_worthAt 2 (some .int)]
def wsX1_more_r2 : List Cond := [Cond.fieldLink RX0 24 "DoubtSale$Book" "size" "I", Cond.fieldLink RX0 9 "DoubtSale$Book" "worths" "[I", Cond.methodLink RX1 65 yX0_add, Cond.instanceMethod yX0_add, Cond.selects RX0 yX0_add yX0_add, Cond.code yX0_add cX0_add 3 none, Cond.fieldLink RX0 15 "DoubtSale$Book" "weights" "[I", Cond.methodLink RX0 32 yX0_iron, Cond.instanceMethod yX0_iron, Cond.selects RX0 yX0_iron yX0_iron, Cond.code yX0_iron cX0_iron 6 none, Cond.fieldLink RX0 18 "DoubtSale$Book" "uppers" "[I", Cond.fieldLink RX0 21 "DoubtSale$Book" "lowers" "[I", Cond.methodLink RX0 51 yX0_nextCorner, Cond.instanceMethod yX0_nextCorner, Cond.selects RX0 yX0_nextCorner yX0_nextCorner, Cond.code yX0_nextCorner cX0_nextCorner 12 (some .int), Cond.methodLink RX0 48 yX0_takeAt, Cond.instanceMethod yX0_takeAt, Cond.selects RX0 yX0_takeAt yX0_takeAt, Cond.code yX0_takeAt cX0_takeAt 2 (some .int), Cond.methodLink RX0 45 yX0_worthAt, Cond.methodLink RX0 41 yX0_shareAt, Cond.instanceMethod yX0_shareAt]
def wsX1_more_r3 : List Cond := [Cond.selects RX0 yX0_shareAt yX0_shareAt, Cond.code yX0_shareAt cX0_shareAt 4 (some .int), Cond.methodLink RX0 35 Lib.Math.max.name, Cond.static Lib.Math.max.name, Cond.initialized "java/lang/Math", Cond.code Lib.Math.max.name Lib.Math.max.code 2 (some .int)]
def wsX1_more : List Cond := .code yX1_more cX1_more 5 (some .int) :: ((wsX1_more_r1 ++ (wsX1_more_r2 ++ wsX1_more_r3)) ++ wsX00 ++ wsX10)
def wsX1_about_r1 : List Cond := [Cond.methodLink RX1 44 yX1_isBuyer, Cond.instanceMethod yX1_isBuyer, Cond.selects RX1 yX1_isBuyer yX1_isBuyer, Cond.initialized RX1, Cond.code yX1_isBuyer cX1_isBuyer 2 (some .boolean), Cond.fieldLink RX1 26 "DoubtSale" "buyerCount" "I", Cond.methodLink RX1 54 yX1_bookOf, Cond.instanceMethod yX1_bookOf, Cond.selects RX1 yX1_bookOf yX1_bookOf, Cond.code yX1_bookOf cX1_bookOf 2 (some (.object "DoubtSale$Book")), Cond.fieldLink RX1 10 "DoubtSale" "book0" "LDoubtSale$Book;", Cond.fieldLink RX1 16 "DoubtSale" "book1" "LDoubtSale$Book;", Cond.fieldLink RX1 19 "DoubtSale" "book2" "LDoubtSale$Book;", Cond.methodLink RX1 68 yX0_has, Cond.instanceMethod yX0_has, Cond.selects RX0 yX0_has yX0_has, Cond.initialized RX0, Cond.code yX0_has cX0_has 2 (some .boolean), Cond.fieldLink RX0 24 "DoubtSale$Book" "size" "I", Cond.methodLink RX1 61 yX0_worthAt, Cond.instanceMethod yX0_worthAt, Cond.selects RX0 yX0_worthAt yX0_worthAt, Cond.code yX0_worthAt cX0_worthAt 2 (some .int), Cond.fieldLink RX0 9 "DoubtSale$Book" "worths" "[I"]
def wsX1_about_r2 : List Cond := [Cond.methodLink RX1 71 yX0_weightAt, Cond.instanceMethod yX0_weightAt, Cond.selects RX0 yX0_weightAt yX0_weightAt, Cond.code yX0_weightAt cX0_weightAt 2 (some .int), Cond.fieldLink RX0 15 "DoubtSale$Book" "weights" "[I", Cond.methodLink RX1 74 yX0_shareAt, Cond.instanceMethod yX0_shareAt, Cond.selects RX0 yX0_shareAt yX0_shareAt, Cond.code yX0_shareAt cX0_shareAt 4 (some .int), Cond.methodLink RX0 35 Lib.Math.max.name, Cond.static Lib.Math.max.name, Cond.initialized "java/lang/Math", Cond.code Lib.Math.max.name Lib.Math.max.code 2 (some .int), Cond.methodLink RX1 77 yX0_takeAt, Cond.instanceMethod yX0_takeAt, Cond.selects RX0 yX0_takeAt yX0_takeAt, Cond.code yX0_takeAt cX0_takeAt 2 (some .int), Cond.methodLink RX0 45 yX0_worthAt, Cond.methodLink RX0 41 yX0_shareAt]
def wsX1_about : List Cond := .code yX1_about cX1_about 5 (some .int) :: ((wsX1_about_r1 ++ wsX1_about_r2) ++ wsX10 ++ wsX00)
def wsX1_whole_r1 : List Cond := [Cond.methodLink RX1 44 yX1_isBuyer, Cond.instanceMethod yX1_isBuyer, Cond.selects RX1 yX1_isBuyer yX1_isBuyer, Cond.initialized RX1, Cond.code yX1_isBuyer cX1_isBuyer 2 (some .boolean), Cond.fieldLink RX1 26 "DoubtSale" "buyerCount" "I", Cond.methodLink RX1 54 yX1_bookOf, Cond.instanceMethod yX1_bookOf, Cond.selects RX1 yX1_bookOf yX1_bookOf, Cond.code yX1_bookOf cX1_bookOf 2 (some (.object "DoubtSale$Book")), Cond.fieldLink RX1 10 "DoubtSale" "book0" "LDoubtSale$Book;", Cond.fieldLink RX1 16 "DoubtSale" "book1" "LDoubtSale$Book;", Cond.fieldLink RX1 19 "DoubtSale" "book2" "LDoubtSale$Book;", Cond.methodLink RX1 80 yX0_allWeights, Cond.instanceMethod yX0_allWeights, Cond.selects RX0 yX0_allWeights yX0_allWeights, Cond.initialized RX0, Cond.code yX0_allWeights cX0_allWeights 1 (some .int), Cond.methodLink RX0 41 yX0_shareAt, Cond.instanceMethod yX0_shareAt, Cond.selects RX0 yX0_shareAt yX0_shareAt, Cond.code yX0_shareAt cX0_shareAt 4 (some .int), Cond.methodLink RX0 35 Lib.Math.max.name, Cond.static Lib.Math.max.name]
def wsX1_whole_r2 : List Cond := [Cond.initialized "java/lang/Math", Cond.code Lib.Math.max.name Lib.Math.max.code 2 (some .int), Cond.fieldLink RX0 24 "DoubtSale$Book" "size" "I", Cond.fieldLink RX0 15 "DoubtSale$Book" "weights" "[I", Cond.methodLink RX1 84 yX0_bestPlace, Cond.instanceMethod yX0_bestPlace, Cond.selects RX0 yX0_bestPlace yX0_bestPlace, Cond.code yX0_bestPlace cX0_bestPlace 3 (some .int), Cond.methodLink RX0 48 yX0_takeAt, Cond.instanceMethod yX0_takeAt, Cond.selects RX0 yX0_takeAt yX0_takeAt, Cond.code yX0_takeAt cX0_takeAt 2 (some .int), Cond.methodLink RX0 45 yX0_worthAt, Cond.instanceMethod yX0_worthAt, Cond.selects RX0 yX0_worthAt yX0_worthAt, Cond.code yX0_worthAt cX0_worthAt 2 (some .int), Cond.fieldLink RX0 9 "DoubtSale$Book" "worths" "[I"]
def wsX1_whole : List Cond := .code yX1_whole cX1_whole 4 (some .int) :: ((wsX1_whole_r1 ++ wsX1_whole_r2) ++ wsX00 ++ wsX10)
def wsX1_isPart : List Cond := .code yX1_isPart cX1_isPart 1 (some .boolean) :: ([])
def wsX1_commonDivisor : List Cond := .code yX1_commonDivisor cX1_commonDivisor 11 (some .long) :: ([])
def wsX1_leastPart : List Cond := .code yX1_leastPart cX1_leastPart 7 (some .long) :: ([.methodLink RX1 185 Lib.MathLoose.abs_long.x, .static Lib.MathLoose.abs_long.x, .initialized "java/lang/Math", .code Lib.MathLoose.abs_long.x Lib.MathLoose.abs_long.code 2 (some .long), .constantLong RX1 90 (-1000000000000000), .methodLink RX1 189 yX1_commonDivisor, .static yX1_commonDivisor, .initialized RX1, .code yX1_commonDivisor cX1_commonDivisor 11 (some .long)])
def wsX1_slope_r1 : List Cond := [Cond.constantLong RX1 90 (-1000000000000000), Cond.methodLink RX1 44 yX1_isBuyer, Cond.instanceMethod yX1_isBuyer, Cond.selects RX1 yX1_isBuyer yX1_isBuyer, Cond.initialized RX1, Cond.code yX1_isBuyer cX1_isBuyer 2 (some .boolean), Cond.fieldLink RX1 26 "DoubtSale" "buyerCount" "I", Cond.methodLink RX1 54 yX1_bookOf, Cond.instanceMethod yX1_bookOf, Cond.selects RX1 yX1_bookOf yX1_bookOf, Cond.code yX1_bookOf cX1_bookOf 2 (some (.object "DoubtSale$Book")), Cond.fieldLink RX1 10 "DoubtSale" "book0" "LDoubtSale$Book;", Cond.fieldLink RX1 16 "DoubtSale" "book1" "LDoubtSale$Book;", Cond.fieldLink RX1 19 "DoubtSale" "book2" "LDoubtSale$Book;", Cond.methodLink RX1 68 yX0_has, Cond.instanceMethod yX0_has, Cond.selects RX0 yX0_has yX0_has, Cond.initialized RX0, Cond.code yX0_has cX0_has 2 (some .boolean), Cond.fieldLink RX0 24 "DoubtSale$Book" "size" "I", Cond.methodLink RX1 87 yX1_isPart, Cond.static yX1_isPart, Cond.code yX1_isPart cX1_isPart 1 (some .boolean), Cond.methodLink RX1 92 yX0_ironedUpper]
def wsX1_slope_r2 : List Cond := [Cond.instanceMethod yX0_ironedUpper, Cond.selects RX0 yX0_ironedUpper yX0_ironedUpper, Cond.code yX0_ironedUpper cX0_ironedUpper 2 (some .long), Cond.fieldLink RX0 18 "DoubtSale$Book" "uppers" "[I", Cond.methodLink RX1 96 yX0_ironedLower, Cond.instanceMethod yX0_ironedLower, Cond.selects RX0 yX0_ironedLower yX0_ironedLower, Cond.code yX0_ironedLower cX0_ironedLower 2 (some .long), Cond.fieldLink RX0 21 "DoubtSale$Book" "lowers" "[I", Cond.methodLink RX1 99 yX1_leastPart, Cond.static yX1_leastPart, Cond.code yX1_leastPart cX1_leastPart 7 (some .long), Cond.methodLink RX1 185 Lib.MathLoose.abs_long.x, Cond.static Lib.MathLoose.abs_long.x, Cond.initialized "java/lang/Math", Cond.code Lib.MathLoose.abs_long.x Lib.MathLoose.abs_long.code 2 (some .long), Cond.methodLink RX1 189 yX1_commonDivisor, Cond.static yX1_commonDivisor, Cond.code yX1_commonDivisor cX1_commonDivisor 11 (some .long), Cond.methodLink RX1 77 yX0_takeAt, Cond.instanceMethod yX0_takeAt, Cond.selects RX0 yX0_takeAt yX0_takeAt, Cond.code yX0_takeAt cX0_takeAt 2 (some .int), Cond.methodLink RX0 45 yX0_worthAt]
def wsX1_slope_r3 : List Cond := [Cond.instanceMethod yX0_worthAt, Cond.selects RX0 yX0_worthAt yX0_worthAt, Cond.code yX0_worthAt cX0_worthAt 2 (some .int), Cond.fieldLink RX0 9 "DoubtSale$Book" "worths" "[I", Cond.methodLink RX0 41 yX0_shareAt, Cond.instanceMethod yX0_shareAt, Cond.selects RX0 yX0_shareAt yX0_shareAt, Cond.code yX0_shareAt cX0_shareAt 4 (some .int), Cond.methodLink RX0 35 Lib.Math.max.name, Cond.static Lib.Math.max.name, Cond.code Lib.Math.max.name Lib.Math.max.code 2 (some .int), Cond.fieldLink RX0 15 "DoubtSale$Book" "weights" "[I", Cond.methodLink RX1 71 yX0_weightAt, Cond.instanceMethod yX0_weightAt, Cond.selects RX0 yX0_weightAt yX0_weightAt, Cond.code yX0_weightAt cX0_weightAt 2 (some .int)]
def wsX1_slope : List Cond := .code yX1_slope cX1_slope 6 (some .long) :: ((wsX1_slope_r1 ++ (wsX1_slope_r2 ++ wsX1_slope_r3)) ++ wsX10 ++ wsX00)
def wsX1_pick : List Cond := .code yX1_pick cX1_pick 4 (some .int) :: ([])
def wsX1_arePlaces : List Cond := .code yX1_arePlaces cX1_arePlaces 5 (some .boolean) :: ([.fieldLink RX1 26 "DoubtSale" "buyerCount" "I", .methodLink RX1 54 yX1_bookOf, .instanceMethod yX1_bookOf, .selects RX1 yX1_bookOf yX1_bookOf, .initialized RX1, .code yX1_bookOf cX1_bookOf 2 (some (.object "DoubtSale$Book")), .fieldLink RX1 10 "DoubtSale" "book0" "LDoubtSale$Book;", .fieldLink RX1 16 "DoubtSale" "book1" "LDoubtSale$Book;", .fieldLink RX1 19 "DoubtSale" "book2" "LDoubtSale$Book;", .methodLink RX1 119 yX1_pick, .static yX1_pick, .code yX1_pick cX1_pick 4 (some .int), .methodLink RX1 68 yX0_has, .instanceMethod yX0_has, .selects RX0 yX0_has yX0_has, .initialized RX0, .code yX0_has cX0_has 2 (some .boolean), .fieldLink RX0 24 "DoubtSale$Book" "size" "I"] ++ wsX10 ++ wsX00)
def wsX1_winner : List Cond := .code yX1_winner cX1_winner 15 (some .int) :: ([.fieldLink RX1 26 "DoubtSale" "buyerCount" "I", .methodLink RX1 119 yX1_pick, .static yX1_pick, .initialized RX1, .code yX1_pick cX1_pick 4 (some .int), .methodLink RX1 54 yX1_bookOf, .instanceMethod yX1_bookOf, .selects RX1 yX1_bookOf yX1_bookOf, .code yX1_bookOf cX1_bookOf 2 (some (.object "DoubtSale$Book")), .fieldLink RX1 10 "DoubtSale" "book0" "LDoubtSale$Book;", .fieldLink RX1 16 "DoubtSale" "book1" "LDoubtSale$Book;", .fieldLink RX1 19 "DoubtSale" "book2" "LDoubtSale$Book;", .methodLink RX1 92 yX0_ironedUpper, .instanceMethod yX0_ironedUpper, .selects RX0 yX0_ironedUpper yX0_ironedUpper, .initialized RX0, .code yX0_ironedUpper cX0_ironedUpper 2 (some .long), .fieldLink RX0 24 "DoubtSale$Book" "size" "I", .fieldLink RX0 18 "DoubtSale$Book" "uppers" "[I", .methodLink RX1 96 yX0_ironedLower, .instanceMethod yX0_ironedLower, .selects RX0 yX0_ironedLower yX0_ironedLower, .code yX0_ironedLower cX0_ironedLower 2 (some .long), .fieldLink RX0 21 "DoubtSale$Book" "lowers" "[I"] ++ wsX10 ++ wsX00)
def wsX1_gets_r1 : List Cond := [Cond.methodLink RX1 103 yX1_arePlaces, Cond.instanceMethod yX1_arePlaces, Cond.selects RX1 yX1_arePlaces yX1_arePlaces, Cond.initialized RX1, Cond.code yX1_arePlaces cX1_arePlaces 5 (some .boolean), Cond.fieldLink RX1 26 "DoubtSale" "buyerCount" "I", Cond.methodLink RX1 54 yX1_bookOf, Cond.instanceMethod yX1_bookOf, Cond.selects RX1 yX1_bookOf yX1_bookOf, Cond.code yX1_bookOf cX1_bookOf 2 (some (.object "DoubtSale$Book")), Cond.fieldLink RX1 10 "DoubtSale" "book0" "LDoubtSale$Book;", Cond.fieldLink RX1 16 "DoubtSale" "book1" "LDoubtSale$Book;", Cond.fieldLink RX1 19 "DoubtSale" "book2" "LDoubtSale$Book;", Cond.methodLink RX1 119 yX1_pick, Cond.static yX1_pick, Cond.code yX1_pick cX1_pick 4 (some .int), Cond.methodLink RX1 68 yX0_has, Cond.instanceMethod yX0_has, Cond.selects RX0 yX0_has yX0_has, Cond.initialized RX0, Cond.code yX0_has cX0_has 2 (some .boolean), Cond.fieldLink RX0 24 "DoubtSale$Book" "size" "I", Cond.methodLink RX1 107 yX1_winner, Cond.instanceMethod yX1_winner]
def wsX1_gets_r2 : List Cond := [Cond.selects RX1 yX1_winner yX1_winner, Cond.code yX1_winner cX1_winner 15 (some .int), Cond.methodLink RX1 92 yX0_ironedUpper, Cond.instanceMethod yX0_ironedUpper, Cond.selects RX0 yX0_ironedUpper yX0_ironedUpper, Cond.code yX0_ironedUpper cX0_ironedUpper 2 (some .long), Cond.fieldLink RX0 18 "DoubtSale$Book" "uppers" "[I", Cond.methodLink RX1 96 yX0_ironedLower, Cond.instanceMethod yX0_ironedLower, Cond.selects RX0 yX0_ironedLower yX0_ironedLower, Cond.code yX0_ironedLower cX0_ironedLower 2 (some .long), Cond.fieldLink RX0 21 "DoubtSale$Book" "lowers" "[I"]
def wsX1_gets : List Cond := .code yX1_gets cX1_gets 4 (some .int) :: ((wsX1_gets_r1 ++ wsX1_gets_r2) ++ wsX10 ++ wsX00)
def wsX1_getsWith_r1 : List Cond := [Cond.methodLink RX1 107 yX1_winner, Cond.instanceMethod yX1_winner, Cond.selects RX1 yX1_winner yX1_winner, Cond.initialized RX1, Cond.code yX1_winner cX1_winner 15 (some .int), Cond.fieldLink RX1 26 "DoubtSale" "buyerCount" "I", Cond.methodLink RX1 119 yX1_pick, Cond.static yX1_pick, Cond.code yX1_pick cX1_pick 4 (some .int), Cond.methodLink RX1 54 yX1_bookOf, Cond.instanceMethod yX1_bookOf, Cond.selects RX1 yX1_bookOf yX1_bookOf, Cond.code yX1_bookOf cX1_bookOf 2 (some (.object "DoubtSale$Book")), Cond.fieldLink RX1 10 "DoubtSale" "book0" "LDoubtSale$Book;", Cond.fieldLink RX1 16 "DoubtSale" "book1" "LDoubtSale$Book;", Cond.fieldLink RX1 19 "DoubtSale" "book2" "LDoubtSale$Book;", Cond.methodLink RX1 92 yX0_ironedUpper, Cond.instanceMethod yX0_ironedUpper, Cond.selects RX0 yX0_ironedUpper yX0_ironedUpper, Cond.initialized RX0, Cond.code yX0_ironedUpper cX0_ironedUpper 2 (some .long), Cond.fieldLink RX0 24 "DoubtSale$Book" "size" "I", Cond.fieldLink RX0 18 "DoubtSale$Book" "uppers" "[I", Cond.methodLink RX1 96 yX0_ironedLower]
def wsX1_getsWith_r2 : List Cond := [Cond.instanceMethod yX0_ironedLower, Cond.selects RX0 yX0_ironedLower yX0_ironedLower, Cond.code yX0_ironedLower cX0_ironedLower 2 (some .long), Cond.fieldLink RX0 21 "DoubtSale$Book" "lowers" "[I"]
def wsX1_getsWith : List Cond := .code yX1_getsWith cX1_getsWith 6 (some .boolean) :: ((wsX1_getsWith_r1 ++ wsX1_getsWith_r2) ++ wsX10 ++ wsX00)
def wsX1_leastWinning_r1 : List Cond := [Cond.methodLink RX1 54 yX1_bookOf, Cond.instanceMethod yX1_bookOf, Cond.selects RX1 yX1_bookOf yX1_bookOf, Cond.initialized RX1, Cond.code yX1_bookOf cX1_bookOf 2 (some (.object "DoubtSale$Book")), Cond.fieldLink RX1 10 "DoubtSale" "book0" "LDoubtSale$Book;", Cond.fieldLink RX1 16 "DoubtSale" "book1" "LDoubtSale$Book;", Cond.fieldLink RX1 19 "DoubtSale" "book2" "LDoubtSale$Book;", Cond.methodLink RX1 115 yX1_getsWith, Cond.instanceMethod yX1_getsWith, Cond.selects RX1 yX1_getsWith yX1_getsWith, Cond.code yX1_getsWith cX1_getsWith 6 (some .boolean), Cond.methodLink RX1 107 yX1_winner, Cond.instanceMethod yX1_winner, Cond.selects RX1 yX1_winner yX1_winner, Cond.code yX1_winner cX1_winner 15 (some .int), Cond.fieldLink RX1 26 "DoubtSale" "buyerCount" "I", Cond.methodLink RX1 119 yX1_pick, Cond.static yX1_pick, Cond.code yX1_pick cX1_pick 4 (some .int), Cond.methodLink RX1 92 yX0_ironedUpper, Cond.instanceMethod yX0_ironedUpper, Cond.selects RX0 yX0_ironedUpper yX0_ironedUpper, Cond.initialized RX0]
def wsX1_leastWinning_r2 : List Cond := [Cond.code yX0_ironedUpper cX0_ironedUpper 2 (some .long), Cond.fieldLink RX0 24 "DoubtSale$Book" "size" "I", Cond.fieldLink RX0 18 "DoubtSale$Book" "uppers" "[I", Cond.methodLink RX1 96 yX0_ironedLower, Cond.instanceMethod yX0_ironedLower, Cond.selects RX0 yX0_ironedLower yX0_ironedLower, Cond.code yX0_ironedLower cX0_ironedLower 2 (some .long), Cond.fieldLink RX0 21 "DoubtSale$Book" "lowers" "[I", Cond.methodLink RX1 61 yX0_worthAt, Cond.instanceMethod yX0_worthAt, Cond.selects RX0 yX0_worthAt yX0_worthAt, Cond.code yX0_worthAt cX0_worthAt 2 (some .int), Cond.fieldLink RX0 9 "DoubtSale$Book" "worths" "[I"]
def wsX1_leastWinning : List Cond := .code yX1_leastWinning cX1_leastWinning 7 (some .int) :: ((wsX1_leastWinning_r1 ++ wsX1_leastWinning_r2) ++ wsX00 ++ wsX10)
def wsX1_pays_r1 : List Cond := [Cond.methodLink RX1 103 yX1_arePlaces, Cond.instanceMethod yX1_arePlaces, Cond.selects RX1 yX1_arePlaces yX1_arePlaces, Cond.initialized RX1, Cond.code yX1_arePlaces cX1_arePlaces 5 (some .boolean), Cond.fieldLink RX1 26 "DoubtSale" "buyerCount" "I", Cond.methodLink RX1 54 yX1_bookOf, Cond.instanceMethod yX1_bookOf, Cond.selects RX1 yX1_bookOf yX1_bookOf, Cond.code yX1_bookOf cX1_bookOf 2 (some (.object "DoubtSale$Book")), Cond.fieldLink RX1 10 "DoubtSale" "book0" "LDoubtSale$Book;", Cond.fieldLink RX1 16 "DoubtSale" "book1" "LDoubtSale$Book;", Cond.fieldLink RX1 19 "DoubtSale" "book2" "LDoubtSale$Book;", Cond.methodLink RX1 119 yX1_pick, Cond.static yX1_pick, Cond.code yX1_pick cX1_pick 4 (some .int), Cond.methodLink RX1 68 yX0_has, Cond.instanceMethod yX0_has, Cond.selects RX0 yX0_has yX0_has, Cond.initialized RX0, Cond.code yX0_has cX0_has 2 (some .boolean), Cond.fieldLink RX0 24 "DoubtSale$Book" "size" "I", Cond.methodLink RX1 44 yX1_isBuyer, Cond.instanceMethod yX1_isBuyer]
def wsX1_pays_r2 : List Cond := [Cond.selects RX1 yX1_isBuyer yX1_isBuyer, Cond.code yX1_isBuyer cX1_isBuyer 2 (some .boolean), Cond.methodLink RX1 107 yX1_winner, Cond.instanceMethod yX1_winner, Cond.selects RX1 yX1_winner yX1_winner, Cond.code yX1_winner cX1_winner 15 (some .int), Cond.methodLink RX1 92 yX0_ironedUpper, Cond.instanceMethod yX0_ironedUpper, Cond.selects RX0 yX0_ironedUpper yX0_ironedUpper, Cond.code yX0_ironedUpper cX0_ironedUpper 2 (some .long), Cond.fieldLink RX0 18 "DoubtSale$Book" "uppers" "[I", Cond.methodLink RX1 96 yX0_ironedLower, Cond.instanceMethod yX0_ironedLower, Cond.selects RX0 yX0_ironedLower yX0_ironedLower, Cond.code yX0_ironedLower cX0_ironedLower 2 (some .long), Cond.fieldLink RX0 21 "DoubtSale$Book" "lowers" "[I", Cond.methodLink RX1 111 yX1_leastWinning, Cond.instanceMethod yX1_leastWinning, Cond.selects RX1 yX1_leastWinning yX1_leastWinning, Cond.code yX1_leastWinning cX1_leastWinning 7 (some .int), Cond.methodLink RX1 115 yX1_getsWith, Cond.instanceMethod yX1_getsWith, Cond.selects RX1 yX1_getsWith yX1_getsWith, Cond.code yX1_getsWith cX1_getsWith 6 (some .boolean)]
def wsX1_pays_r3 : List Cond := [Cond.methodLink RX1 61 yX0_worthAt, Cond.instanceMethod yX0_worthAt, Cond.selects RX0 yX0_worthAt yX0_worthAt, Cond.code yX0_worthAt cX0_worthAt 2 (some .int), Cond.fieldLink RX0 9 "DoubtSale$Book" "worths" "[I"]
def wsX1_pays : List Cond := .code yX1_pays cX1_pays 5 (some .int) :: ((wsX1_pays_r1 ++ (wsX1_pays_r2 ++ wsX1_pays_r3)) ++ wsX10 ++ wsX00)
def wsX1_gain_r1 : List Cond := [Cond.constantLong RX1 90 (-1000000000000000), Cond.methodLink RX1 103 yX1_arePlaces, Cond.instanceMethod yX1_arePlaces, Cond.selects RX1 yX1_arePlaces yX1_arePlaces, Cond.initialized RX1, Cond.code yX1_arePlaces cX1_arePlaces 5 (some .boolean), Cond.fieldLink RX1 26 "DoubtSale" "buyerCount" "I", Cond.methodLink RX1 54 yX1_bookOf, Cond.instanceMethod yX1_bookOf, Cond.selects RX1 yX1_bookOf yX1_bookOf, Cond.code yX1_bookOf cX1_bookOf 2 (some (.object "DoubtSale$Book")), Cond.fieldLink RX1 10 "DoubtSale" "book0" "LDoubtSale$Book;", Cond.fieldLink RX1 16 "DoubtSale" "book1" "LDoubtSale$Book;", Cond.fieldLink RX1 19 "DoubtSale" "book2" "LDoubtSale$Book;", Cond.methodLink RX1 119 yX1_pick, Cond.static yX1_pick, Cond.code yX1_pick cX1_pick 4 (some .int), Cond.methodLink RX1 68 yX0_has, Cond.instanceMethod yX0_has, Cond.selects RX0 yX0_has yX0_has, Cond.initialized RX0, Cond.code yX0_has cX0_has 2 (some .boolean), Cond.fieldLink RX0 24 "DoubtSale$Book" "size" "I", Cond.methodLink RX1 44 yX1_isBuyer]
def wsX1_gain_r2 : List Cond := [Cond.instanceMethod yX1_isBuyer, Cond.selects RX1 yX1_isBuyer yX1_isBuyer, Cond.code yX1_isBuyer cX1_isBuyer 2 (some .boolean), Cond.methodLink RX1 115 yX1_getsWith, Cond.instanceMethod yX1_getsWith, Cond.selects RX1 yX1_getsWith yX1_getsWith, Cond.code yX1_getsWith cX1_getsWith 6 (some .boolean), Cond.methodLink RX1 107 yX1_winner, Cond.instanceMethod yX1_winner, Cond.selects RX1 yX1_winner yX1_winner, Cond.code yX1_winner cX1_winner 15 (some .int), Cond.methodLink RX1 92 yX0_ironedUpper, Cond.instanceMethod yX0_ironedUpper, Cond.selects RX0 yX0_ironedUpper yX0_ironedUpper, Cond.code yX0_ironedUpper cX0_ironedUpper 2 (some .long), Cond.fieldLink RX0 18 "DoubtSale$Book" "uppers" "[I", Cond.methodLink RX1 96 yX0_ironedLower, Cond.instanceMethod yX0_ironedLower, Cond.selects RX0 yX0_ironedLower yX0_ironedLower, Cond.code yX0_ironedLower cX0_ironedLower 2 (some .long), Cond.fieldLink RX0 21 "DoubtSale$Book" "lowers" "[I", Cond.methodLink RX1 61 yX0_worthAt, Cond.instanceMethod yX0_worthAt, Cond.selects RX0 yX0_worthAt yX0_worthAt]
def wsX1_gain_r3 : List Cond := [Cond.code yX0_worthAt cX0_worthAt 2 (some .int), Cond.fieldLink RX0 9 "DoubtSale$Book" "worths" "[I", Cond.methodLink RX1 111 yX1_leastWinning, Cond.instanceMethod yX1_leastWinning, Cond.selects RX1 yX1_leastWinning yX1_leastWinning, Cond.code yX1_leastWinning cX1_leastWinning 7 (some .int)]
def wsX1_gain : List Cond := .code yX1_gain cX1_gain 7 (some .long) :: ((wsX1_gain_r1 ++ (wsX1_gain_r2 ++ wsX1_gain_r3)) ++ wsX10 ++ wsX00)
def wsX1_priceOf : List Cond := .code yX1_priceOf cX1_priceOf 4 (some .int) :: ([.fieldLink RX1 33 "DoubtSale" "reservePrice" "I", .methodLink RX1 176 Lib.Math.max.name, .static Lib.Math.max.name, .initialized "java/lang/Math", .code Lib.Math.max.name Lib.Math.max.code 2 (some .int)] ++ wsX10)
def wsX1_paidByKind : List Cond := .code yX1_paidByKind cX1_paidByKind 9 (some .int) :: ([.fieldLink RX1 26 "DoubtSale" "buyerCount" "I", .methodLink RX1 170 Lib.Math.min.name, .static Lib.Math.min.name, .initialized "java/lang/Math", .code Lib.Math.min.name Lib.Math.min.code 2 (some .int), .methodLink RX1 176 Lib.Math.max.name, .static Lib.Math.max.name, .code Lib.Math.max.name Lib.Math.max.code 2 (some .int), .fieldLink RX1 33 "DoubtSale" "reservePrice" "I", .methodLink RX1 119 yX1_pick, .static yX1_pick, .initialized RX1, .code yX1_pick cX1_pick 4 (some .int), .methodLink RX1 179 yX1_priceOf, .instanceMethod yX1_priceOf, .selects RX1 yX1_priceOf yX1_priceOf, .code yX1_priceOf cX1_priceOf 4 (some .int)] ++ wsX10)
def wsX1_paidAt_r1 : List Cond := [Cond.fieldLink RX1 10 "DoubtSale" "book0" "LDoubtSale$Book;", Cond.fieldLink RX1 16 "DoubtSale" "book1" "LDoubtSale$Book;", Cond.fieldLink RX1 19 "DoubtSale" "book2" "LDoubtSale$Book;", Cond.methodLink RX1 107 yX1_winner, Cond.instanceMethod yX1_winner, Cond.selects RX1 yX1_winner yX1_winner, Cond.initialized RX1, Cond.code yX1_winner cX1_winner 15 (some .int), Cond.fieldLink RX1 26 "DoubtSale" "buyerCount" "I", Cond.methodLink RX1 119 yX1_pick, Cond.static yX1_pick, Cond.code yX1_pick cX1_pick 4 (some .int), Cond.methodLink RX1 54 yX1_bookOf, Cond.instanceMethod yX1_bookOf, Cond.selects RX1 yX1_bookOf yX1_bookOf, Cond.code yX1_bookOf cX1_bookOf 2 (some (.object "DoubtSale$Book")), Cond.methodLink RX1 92 yX0_ironedUpper, Cond.instanceMethod yX0_ironedUpper, Cond.selects RX0 yX0_ironedUpper yX0_ironedUpper, Cond.initialized RX0, Cond.code yX0_ironedUpper cX0_ironedUpper 2 (some .long), Cond.fieldLink RX0 24 "DoubtSale$Book" "size" "I", Cond.fieldLink RX0 18 "DoubtSale$Book" "uppers" "[I", Cond.methodLink RX1 96 yX0_ironedLower]
def wsX1_paidAt_r2 : List Cond := [Cond.instanceMethod yX0_ironedLower, Cond.selects RX0 yX0_ironedLower yX0_ironedLower, Cond.code yX0_ironedLower cX0_ironedLower 2 (some .long), Cond.fieldLink RX0 21 "DoubtSale$Book" "lowers" "[I", Cond.methodLink RX1 111 yX1_leastWinning, Cond.instanceMethod yX1_leastWinning, Cond.selects RX1 yX1_leastWinning yX1_leastWinning, Cond.code yX1_leastWinning cX1_leastWinning 7 (some .int), Cond.methodLink RX1 115 yX1_getsWith, Cond.instanceMethod yX1_getsWith, Cond.selects RX1 yX1_getsWith yX1_getsWith, Cond.code yX1_getsWith cX1_getsWith 6 (some .boolean), Cond.methodLink RX1 61 yX0_worthAt, Cond.instanceMethod yX0_worthAt, Cond.selects RX0 yX0_worthAt yX0_worthAt, Cond.code yX0_worthAt cX0_worthAt 2 (some .int), Cond.fieldLink RX0 9 "DoubtSale$Book" "worths" "[I", Cond.methodLink RX1 132 yX1_paidByKind, Cond.instanceMethod yX1_paidByKind, Cond.selects RX1 yX1_paidByKind yX1_paidByKind, Cond.code yX1_paidByKind cX1_paidByKind 9 (some .int), Cond.methodLink RX1 170 Lib.Math.min.name, Cond.static Lib.Math.min.name, Cond.initialized "java/lang/Math"]
def wsX1_paidAt_r3 : List Cond := [Cond.code Lib.Math.min.name Lib.Math.min.code 2 (some .int), Cond.methodLink RX1 176 Lib.Math.max.name, Cond.static Lib.Math.max.name, Cond.code Lib.Math.max.name Lib.Math.max.code 2 (some .int), Cond.fieldLink RX1 33 "DoubtSale" "reservePrice" "I", Cond.methodLink RX1 179 yX1_priceOf, Cond.instanceMethod yX1_priceOf, Cond.selects RX1 yX1_priceOf yX1_priceOf, Cond.code yX1_priceOf cX1_priceOf 4 (some .int)]
def wsX1_paidAt : List Cond := .code yX1_paidAt cX1_paidAt 6 (some .int) :: ((wsX1_paidAt_r1 ++ (wsX1_paidAt_r2 ++ wsX1_paidAt_r3)) ++ wsX10 ++ wsX00)
def wsX1_meanPaid_r1 : List Cond := [Cond.fieldLink RX1 10 "DoubtSale" "book0" "LDoubtSale$Book;", Cond.fieldLink RX1 16 "DoubtSale" "book1" "LDoubtSale$Book;", Cond.fieldLink RX1 19 "DoubtSale" "book2" "LDoubtSale$Book;", Cond.methodLink RX1 71 yX0_weightAt, Cond.instanceMethod yX0_weightAt, Cond.selects RX0 yX0_weightAt yX0_weightAt, Cond.initialized RX0, Cond.code yX0_weightAt cX0_weightAt 2 (some .int), Cond.fieldLink RX0 24 "DoubtSale$Book" "size" "I", Cond.fieldLink RX0 15 "DoubtSale$Book" "weights" "[I", Cond.methodLink RX1 182 yX1_paidAt, Cond.instanceMethod yX1_paidAt, Cond.selects RX1 yX1_paidAt yX1_paidAt, Cond.initialized RX1, Cond.code yX1_paidAt cX1_paidAt 6 (some .int), Cond.methodLink RX1 107 yX1_winner, Cond.instanceMethod yX1_winner, Cond.selects RX1 yX1_winner yX1_winner, Cond.code yX1_winner cX1_winner 15 (some .int), Cond.fieldLink RX1 26 "DoubtSale" "buyerCount" "I", Cond.methodLink RX1 119 yX1_pick, Cond.static yX1_pick, Cond.code yX1_pick cX1_pick 4 (some .int), Cond.methodLink RX1 54 yX1_bookOf]
def wsX1_meanPaid_r2 : List Cond := [Cond.instanceMethod yX1_bookOf, Cond.selects RX1 yX1_bookOf yX1_bookOf, Cond.code yX1_bookOf cX1_bookOf 2 (some (.object "DoubtSale$Book")), Cond.methodLink RX1 92 yX0_ironedUpper, Cond.instanceMethod yX0_ironedUpper, Cond.selects RX0 yX0_ironedUpper yX0_ironedUpper, Cond.code yX0_ironedUpper cX0_ironedUpper 2 (some .long), Cond.fieldLink RX0 18 "DoubtSale$Book" "uppers" "[I", Cond.methodLink RX1 96 yX0_ironedLower, Cond.instanceMethod yX0_ironedLower, Cond.selects RX0 yX0_ironedLower yX0_ironedLower, Cond.code yX0_ironedLower cX0_ironedLower 2 (some .long), Cond.fieldLink RX0 21 "DoubtSale$Book" "lowers" "[I", Cond.methodLink RX1 111 yX1_leastWinning, Cond.instanceMethod yX1_leastWinning, Cond.selects RX1 yX1_leastWinning yX1_leastWinning, Cond.code yX1_leastWinning cX1_leastWinning 7 (some .int), Cond.methodLink RX1 115 yX1_getsWith, Cond.instanceMethod yX1_getsWith, Cond.selects RX1 yX1_getsWith yX1_getsWith, Cond.code yX1_getsWith cX1_getsWith 6 (some .boolean), Cond.methodLink RX1 61 yX0_worthAt, Cond.instanceMethod yX0_worthAt, Cond.selects RX0 yX0_worthAt yX0_worthAt]
def wsX1_meanPaid_r3 : List Cond := [Cond.code yX0_worthAt cX0_worthAt 2 (some .int), Cond.fieldLink RX0 9 "DoubtSale$Book" "worths" "[I", Cond.methodLink RX1 132 yX1_paidByKind, Cond.instanceMethod yX1_paidByKind, Cond.selects RX1 yX1_paidByKind yX1_paidByKind, Cond.code yX1_paidByKind cX1_paidByKind 9 (some .int), Cond.methodLink RX1 170 Lib.Math.min.name, Cond.static Lib.Math.min.name, Cond.initialized "java/lang/Math", Cond.code Lib.Math.min.name Lib.Math.min.code 2 (some .int), Cond.methodLink RX1 176 Lib.Math.max.name, Cond.static Lib.Math.max.name, Cond.code Lib.Math.max.name Lib.Math.max.code 2 (some .int), Cond.fieldLink RX1 33 "DoubtSale" "reservePrice" "I", Cond.methodLink RX1 179 yX1_priceOf, Cond.instanceMethod yX1_priceOf, Cond.selects RX1 yX1_priceOf yX1_priceOf, Cond.code yX1_priceOf cX1_priceOf 4 (some .int), Cond.methodLink RX1 80 yX0_allWeights, Cond.instanceMethod yX0_allWeights, Cond.selects RX0 yX0_allWeights yX0_allWeights, Cond.code yX0_allWeights cX0_allWeights 1 (some .int), Cond.methodLink RX0 41 yX0_shareAt, Cond.instanceMethod yX0_shareAt]
def wsX1_meanPaid_r4 : List Cond := [Cond.selects RX0 yX0_shareAt yX0_shareAt, Cond.code yX0_shareAt cX0_shareAt 4 (some .int), Cond.methodLink RX0 35 Lib.Math.max.name, Cond.methodLink RX1 99 yX1_leastPart, Cond.static yX1_leastPart, Cond.code yX1_leastPart cX1_leastPart 7 (some .long), Cond.methodLink RX1 185 Lib.MathLoose.abs_long.x, Cond.static Lib.MathLoose.abs_long.x, Cond.code Lib.MathLoose.abs_long.x Lib.MathLoose.abs_long.code 2 (some .long), Cond.constantLong RX1 90 (-1000000000000000), Cond.methodLink RX1 189 yX1_commonDivisor, Cond.static yX1_commonDivisor, Cond.code yX1_commonDivisor cX1_commonDivisor 11 (some .long)]
def wsX1_meanPaid : List Cond := .code yX1_meanPaid cX1_meanPaid 10 (some .long) :: ((wsX1_meanPaid_r1 ++ (wsX1_meanPaid_r2 ++ (wsX1_meanPaid_r3 ++ wsX1_meanPaid_r4))) ++ wsX10 ++ wsX00)
def wsX1_brings_r1 : List Cond := [Cond.constantLong RX1 90 (-1000000000000000), Cond.methodLink RX1 87 yX1_isPart, Cond.static yX1_isPart, Cond.initialized RX1, Cond.code yX1_isPart cX1_isPart 1 (some .boolean), Cond.methodLink RX1 122 yX1_meanPaid, Cond.instanceMethod yX1_meanPaid, Cond.selects RX1 yX1_meanPaid yX1_meanPaid, Cond.code yX1_meanPaid cX1_meanPaid 10 (some .long), Cond.fieldLink RX1 10 "DoubtSale" "book0" "LDoubtSale$Book;", Cond.fieldLink RX1 16 "DoubtSale" "book1" "LDoubtSale$Book;", Cond.fieldLink RX1 19 "DoubtSale" "book2" "LDoubtSale$Book;", Cond.methodLink RX1 71 yX0_weightAt, Cond.instanceMethod yX0_weightAt, Cond.selects RX0 yX0_weightAt yX0_weightAt, Cond.initialized RX0, Cond.code yX0_weightAt cX0_weightAt 2 (some .int), Cond.fieldLink RX0 24 "DoubtSale$Book" "size" "I", Cond.fieldLink RX0 15 "DoubtSale$Book" "weights" "[I", Cond.methodLink RX1 182 yX1_paidAt, Cond.instanceMethod yX1_paidAt, Cond.selects RX1 yX1_paidAt yX1_paidAt, Cond.code yX1_paidAt cX1_paidAt 6 (some .int), Cond.methodLink RX1 107 yX1_winner]
def wsX1_brings_r2 : List Cond := [Cond.instanceMethod yX1_winner, Cond.selects RX1 yX1_winner yX1_winner, Cond.code yX1_winner cX1_winner 15 (some .int), Cond.fieldLink RX1 26 "DoubtSale" "buyerCount" "I", Cond.methodLink RX1 119 yX1_pick, Cond.static yX1_pick, Cond.code yX1_pick cX1_pick 4 (some .int), Cond.methodLink RX1 54 yX1_bookOf, Cond.instanceMethod yX1_bookOf, Cond.selects RX1 yX1_bookOf yX1_bookOf, Cond.code yX1_bookOf cX1_bookOf 2 (some (.object "DoubtSale$Book")), Cond.methodLink RX1 92 yX0_ironedUpper, Cond.instanceMethod yX0_ironedUpper, Cond.selects RX0 yX0_ironedUpper yX0_ironedUpper, Cond.code yX0_ironedUpper cX0_ironedUpper 2 (some .long), Cond.fieldLink RX0 18 "DoubtSale$Book" "uppers" "[I", Cond.methodLink RX1 96 yX0_ironedLower, Cond.instanceMethod yX0_ironedLower, Cond.selects RX0 yX0_ironedLower yX0_ironedLower, Cond.code yX0_ironedLower cX0_ironedLower 2 (some .long), Cond.fieldLink RX0 21 "DoubtSale$Book" "lowers" "[I", Cond.methodLink RX1 111 yX1_leastWinning, Cond.instanceMethod yX1_leastWinning, Cond.selects RX1 yX1_leastWinning yX1_leastWinning]
def wsX1_brings_r3 : List Cond := [Cond.code yX1_leastWinning cX1_leastWinning 7 (some .int), Cond.methodLink RX1 115 yX1_getsWith, Cond.instanceMethod yX1_getsWith, Cond.selects RX1 yX1_getsWith yX1_getsWith, Cond.code yX1_getsWith cX1_getsWith 6 (some .boolean), Cond.methodLink RX1 61 yX0_worthAt, Cond.instanceMethod yX0_worthAt, Cond.selects RX0 yX0_worthAt yX0_worthAt, Cond.code yX0_worthAt cX0_worthAt 2 (some .int), Cond.fieldLink RX0 9 "DoubtSale$Book" "worths" "[I", Cond.methodLink RX1 132 yX1_paidByKind, Cond.instanceMethod yX1_paidByKind, Cond.selects RX1 yX1_paidByKind yX1_paidByKind, Cond.code yX1_paidByKind cX1_paidByKind 9 (some .int), Cond.methodLink RX1 170 Lib.Math.min.name, Cond.static Lib.Math.min.name, Cond.initialized "java/lang/Math", Cond.code Lib.Math.min.name Lib.Math.min.code 2 (some .int), Cond.methodLink RX1 176 Lib.Math.max.name, Cond.static Lib.Math.max.name, Cond.code Lib.Math.max.name Lib.Math.max.code 2 (some .int), Cond.fieldLink RX1 33 "DoubtSale" "reservePrice" "I", Cond.methodLink RX1 179 yX1_priceOf, Cond.instanceMethod yX1_priceOf]
def wsX1_brings_r4 : List Cond := [Cond.selects RX1 yX1_priceOf yX1_priceOf, Cond.code yX1_priceOf cX1_priceOf 4 (some .int), Cond.methodLink RX1 80 yX0_allWeights, Cond.instanceMethod yX0_allWeights, Cond.selects RX0 yX0_allWeights yX0_allWeights, Cond.code yX0_allWeights cX0_allWeights 1 (some .int), Cond.methodLink RX0 41 yX0_shareAt, Cond.instanceMethod yX0_shareAt, Cond.selects RX0 yX0_shareAt yX0_shareAt, Cond.code yX0_shareAt cX0_shareAt 4 (some .int), Cond.methodLink RX0 35 Lib.Math.max.name, Cond.methodLink RX1 99 yX1_leastPart, Cond.static yX1_leastPart, Cond.code yX1_leastPart cX1_leastPart 7 (some .long), Cond.methodLink RX1 185 Lib.MathLoose.abs_long.x, Cond.static Lib.MathLoose.abs_long.x, Cond.code Lib.MathLoose.abs_long.x Lib.MathLoose.abs_long.code 2 (some .long), Cond.methodLink RX1 189 yX1_commonDivisor, Cond.static yX1_commonDivisor, Cond.code yX1_commonDivisor cX1_commonDivisor 11 (some .long)]
def wsX1_brings : List Cond := .code yX1_brings cX1_brings 2 (some .long) :: ((wsX1_brings_r1 ++ (wsX1_brings_r2 ++ (wsX1_brings_r3 ++ wsX1_brings_r4))) ++ wsX10 ++ wsX00)
def wsX1_reserve : List Cond := .code yX1_reserve cX1_reserve 3 (some .int) :: ([.fieldLink RX1 33 "DoubtSale" "reservePrice" "I", .methodLink RX1 48 yX1_isWorth, .static yX1_isWorth, .initialized RX1, .code yX1_isWorth cX1_isWorth 1 (some .boolean)] ++ wsX10)
def wsX1_isKind : List Cond := .code yX1_isKind cX1_isKind 1 (some .boolean) :: ([])
def wsX1_areWorths : List Cond := .code yX1_areWorths cX1_areWorths 5 (some .boolean) :: ([.fieldLink RX1 26 "DoubtSale" "buyerCount" "I", .methodLink RX1 119 yX1_pick, .static yX1_pick, .initialized RX1, .code yX1_pick cX1_pick 4 (some .int), .methodLink RX1 48 yX1_isWorth, .static yX1_isWorth, .code yX1_isWorth cX1_isWorth 1 (some .boolean)] ++ wsX10)
def wsX1_asksOf : List Cond := .code yX1_asksOf cX1_asksOf 1 (some .int) :: ([])
def wsX1_pay_r1 : List Cond := [Cond.fieldLink RX1 36 "DoubtSale" "traced" "J", Cond.methodLink RX1 126 yX1_isKind, Cond.static yX1_isKind, Cond.initialized RX1, Cond.code yX1_isKind cX1_isKind 1 (some .boolean), Cond.methodLink RX1 129 yX1_areWorths, Cond.instanceMethod yX1_areWorths, Cond.selects RX1 yX1_areWorths yX1_areWorths, Cond.code yX1_areWorths cX1_areWorths 5 (some .boolean), Cond.fieldLink RX1 26 "DoubtSale" "buyerCount" "I", Cond.methodLink RX1 119 yX1_pick, Cond.static yX1_pick, Cond.code yX1_pick cX1_pick 4 (some .int), Cond.methodLink RX1 48 yX1_isWorth, Cond.static yX1_isWorth, Cond.code yX1_isWorth cX1_isWorth 1 (some .boolean), Cond.methodLink RX1 132 yX1_paidByKind, Cond.instanceMethod yX1_paidByKind, Cond.selects RX1 yX1_paidByKind yX1_paidByKind, Cond.code yX1_paidByKind cX1_paidByKind 9 (some .int), Cond.methodLink RX1 170 Lib.Math.min.name, Cond.static Lib.Math.min.name, Cond.initialized "java/lang/Math", Cond.code Lib.Math.min.name Lib.Math.min.code 2 (some .int)]
def wsX1_pay_r2 : List Cond := [Cond.methodLink RX1 176 Lib.Math.max.name, Cond.static Lib.Math.max.name, Cond.code Lib.Math.max.name Lib.Math.max.code 2 (some .int), Cond.fieldLink RX1 33 "DoubtSale" "reservePrice" "I", Cond.methodLink RX1 179 yX1_priceOf, Cond.instanceMethod yX1_priceOf, Cond.selects RX1 yX1_priceOf yX1_priceOf, Cond.code yX1_priceOf cX1_priceOf 4 (some .int), Cond.methodLink RX1 135 yX1_asksOf, Cond.static yX1_asksOf, Cond.code yX1_asksOf cX1_asksOf 1 (some .int)]
def wsX1_pay : List Cond := .code yX1_pay cX1_pay 6 (some .int) :: ((wsX1_pay_r1 ++ wsX1_pay_r2) ++ wsX10)
def wsX1_average_r1 : List Cond := [Cond.constantLong RX1 90 (-1000000000000000), Cond.methodLink RX1 126 yX1_isKind, Cond.static yX1_isKind, Cond.initialized RX1, Cond.code yX1_isKind cX1_isKind 1 (some .boolean), Cond.methodLink RX1 87 yX1_isPart, Cond.static yX1_isPart, Cond.code yX1_isPart cX1_isPart 1 (some .boolean), Cond.methodLink RX1 122 yX1_meanPaid, Cond.instanceMethod yX1_meanPaid, Cond.selects RX1 yX1_meanPaid yX1_meanPaid, Cond.code yX1_meanPaid cX1_meanPaid 10 (some .long), Cond.fieldLink RX1 10 "DoubtSale" "book0" "LDoubtSale$Book;", Cond.fieldLink RX1 16 "DoubtSale" "book1" "LDoubtSale$Book;", Cond.fieldLink RX1 19 "DoubtSale" "book2" "LDoubtSale$Book;", Cond.methodLink RX1 71 yX0_weightAt, Cond.instanceMethod yX0_weightAt, Cond.selects RX0 yX0_weightAt yX0_weightAt, Cond.initialized RX0, Cond.code yX0_weightAt cX0_weightAt 2 (some .int), Cond.fieldLink RX0 24 "DoubtSale$Book" "size" "I", Cond.fieldLink RX0 15 "DoubtSale$Book" "weights" "[I", Cond.methodLink RX1 182 yX1_paidAt, Cond.instanceMethod yX1_paidAt]
def wsX1_average_r2 : List Cond := [Cond.selects RX1 yX1_paidAt yX1_paidAt, Cond.code yX1_paidAt cX1_paidAt 6 (some .int), Cond.methodLink RX1 107 yX1_winner, Cond.instanceMethod yX1_winner, Cond.selects RX1 yX1_winner yX1_winner, Cond.code yX1_winner cX1_winner 15 (some .int), Cond.fieldLink RX1 26 "DoubtSale" "buyerCount" "I", Cond.methodLink RX1 119 yX1_pick, Cond.static yX1_pick, Cond.code yX1_pick cX1_pick 4 (some .int), Cond.methodLink RX1 54 yX1_bookOf, Cond.instanceMethod yX1_bookOf, Cond.selects RX1 yX1_bookOf yX1_bookOf, Cond.code yX1_bookOf cX1_bookOf 2 (some (.object "DoubtSale$Book")), Cond.methodLink RX1 92 yX0_ironedUpper, Cond.instanceMethod yX0_ironedUpper, Cond.selects RX0 yX0_ironedUpper yX0_ironedUpper, Cond.code yX0_ironedUpper cX0_ironedUpper 2 (some .long), Cond.fieldLink RX0 18 "DoubtSale$Book" "uppers" "[I", Cond.methodLink RX1 96 yX0_ironedLower, Cond.instanceMethod yX0_ironedLower, Cond.selects RX0 yX0_ironedLower yX0_ironedLower, Cond.code yX0_ironedLower cX0_ironedLower 2 (some .long), Cond.fieldLink RX0 21 "DoubtSale$Book" "lowers" "[I"]
def wsX1_average_r3 : List Cond := [Cond.methodLink RX1 111 yX1_leastWinning, Cond.instanceMethod yX1_leastWinning, Cond.selects RX1 yX1_leastWinning yX1_leastWinning, Cond.code yX1_leastWinning cX1_leastWinning 7 (some .int), Cond.methodLink RX1 115 yX1_getsWith, Cond.instanceMethod yX1_getsWith, Cond.selects RX1 yX1_getsWith yX1_getsWith, Cond.code yX1_getsWith cX1_getsWith 6 (some .boolean), Cond.methodLink RX1 61 yX0_worthAt, Cond.instanceMethod yX0_worthAt, Cond.selects RX0 yX0_worthAt yX0_worthAt, Cond.code yX0_worthAt cX0_worthAt 2 (some .int), Cond.fieldLink RX0 9 "DoubtSale$Book" "worths" "[I", Cond.methodLink RX1 132 yX1_paidByKind, Cond.instanceMethod yX1_paidByKind, Cond.selects RX1 yX1_paidByKind yX1_paidByKind, Cond.code yX1_paidByKind cX1_paidByKind 9 (some .int), Cond.methodLink RX1 170 Lib.Math.min.name, Cond.static Lib.Math.min.name, Cond.initialized "java/lang/Math", Cond.code Lib.Math.min.name Lib.Math.min.code 2 (some .int), Cond.methodLink RX1 176 Lib.Math.max.name, Cond.static Lib.Math.max.name, Cond.code Lib.Math.max.name Lib.Math.max.code 2 (some .int)]
def wsX1_average_r4 : List Cond := [Cond.fieldLink RX1 33 "DoubtSale" "reservePrice" "I", Cond.methodLink RX1 179 yX1_priceOf, Cond.instanceMethod yX1_priceOf, Cond.selects RX1 yX1_priceOf yX1_priceOf, Cond.code yX1_priceOf cX1_priceOf 4 (some .int), Cond.methodLink RX1 80 yX0_allWeights, Cond.instanceMethod yX0_allWeights, Cond.selects RX0 yX0_allWeights yX0_allWeights, Cond.code yX0_allWeights cX0_allWeights 1 (some .int), Cond.methodLink RX0 41 yX0_shareAt, Cond.instanceMethod yX0_shareAt, Cond.selects RX0 yX0_shareAt yX0_shareAt, Cond.code yX0_shareAt cX0_shareAt 4 (some .int), Cond.methodLink RX0 35 Lib.Math.max.name, Cond.methodLink RX1 99 yX1_leastPart, Cond.static yX1_leastPart, Cond.code yX1_leastPart cX1_leastPart 7 (some .long), Cond.methodLink RX1 185 Lib.MathLoose.abs_long.x, Cond.static Lib.MathLoose.abs_long.x, Cond.code Lib.MathLoose.abs_long.x Lib.MathLoose.abs_long.code 2 (some .long), Cond.methodLink RX1 189 yX1_commonDivisor, Cond.static yX1_commonDivisor, Cond.code yX1_commonDivisor cX1_commonDivisor 11 (some .long)]
def wsX1_average : List Cond := .code yX1_average cX1_average 3 (some .long) :: ((wsX1_average_r1 ++ (wsX1_average_r2 ++ (wsX1_average_r3 ++ wsX1_average_r4))) ++ wsX10 ++ wsX00)
def wsX1_isOrder : List Cond := .code yX1_isOrder cX1_isOrder 6 (some .boolean) :: ([.fieldLink RX1 26 "DoubtSale" "buyerCount" "I", .methodLink RX1 44 yX1_isBuyer, .instanceMethod yX1_isBuyer, .selects RX1 yX1_isBuyer yX1_isBuyer, .initialized RX1, .code yX1_isBuyer cX1_isBuyer 2 (some .boolean)] ++ wsX10)
def wsX1_offerBrings_r1 : List Cond := [Cond.methodLink RX1 77 yX0_takeAt, Cond.instanceMethod yX0_takeAt, Cond.selects RX0 yX0_takeAt yX0_takeAt, Cond.initialized RX0, Cond.code yX0_takeAt cX0_takeAt 2 (some .int), Cond.methodLink RX0 45 yX0_worthAt, Cond.instanceMethod yX0_worthAt, Cond.selects RX0 yX0_worthAt yX0_worthAt, Cond.code yX0_worthAt cX0_worthAt 2 (some .int), Cond.fieldLink RX0 24 "DoubtSale$Book" "size" "I", Cond.fieldLink RX0 9 "DoubtSale$Book" "worths" "[I", Cond.methodLink RX0 41 yX0_shareAt, Cond.instanceMethod yX0_shareAt, Cond.selects RX0 yX0_shareAt yX0_shareAt, Cond.code yX0_shareAt cX0_shareAt 4 (some .int), Cond.methodLink RX0 35 Lib.Math.max.name, Cond.static Lib.Math.max.name, Cond.initialized "java/lang/Math", Cond.code Lib.Math.max.name Lib.Math.max.code 2 (some .int), Cond.fieldLink RX0 15 "DoubtSale$Book" "weights" "[I", Cond.methodLink RX1 80 yX0_allWeights, Cond.instanceMethod yX0_allWeights, Cond.selects RX0 yX0_allWeights yX0_allWeights, Cond.code yX0_allWeights cX0_allWeights 1 (some .int)]
def wsX1_offerBrings_r2 : List Cond := [Cond.methodLink RX1 74 yX0_shareAt]
def wsX1_offerBrings : List Cond := .code yX1_offerBrings cX1_offerBrings 6 (some .long) :: ((wsX1_offerBrings_r1 ++ wsX1_offerBrings_r2) ++ wsX00)
def wsX1_bestOffer_r1 : List Cond := [Cond.methodLink RX1 147 yX1_offerBrings, Cond.static yX1_offerBrings, Cond.initialized RX1, Cond.code yX1_offerBrings cX1_offerBrings 6 (some .long), Cond.methodLink RX1 77 yX0_takeAt, Cond.instanceMethod yX0_takeAt, Cond.selects RX0 yX0_takeAt yX0_takeAt, Cond.initialized RX0, Cond.code yX0_takeAt cX0_takeAt 2 (some .int), Cond.methodLink RX0 45 yX0_worthAt, Cond.instanceMethod yX0_worthAt, Cond.selects RX0 yX0_worthAt yX0_worthAt, Cond.code yX0_worthAt cX0_worthAt 2 (some .int), Cond.fieldLink RX0 24 "DoubtSale$Book" "size" "I", Cond.fieldLink RX0 9 "DoubtSale$Book" "worths" "[I", Cond.methodLink RX0 41 yX0_shareAt, Cond.instanceMethod yX0_shareAt, Cond.selects RX0 yX0_shareAt yX0_shareAt, Cond.code yX0_shareAt cX0_shareAt 4 (some .int), Cond.methodLink RX0 35 Lib.Math.max.name, Cond.static Lib.Math.max.name, Cond.initialized "java/lang/Math", Cond.code Lib.Math.max.name Lib.Math.max.code 2 (some .int), Cond.fieldLink RX0 15 "DoubtSale$Book" "weights" "[I"]
def wsX1_bestOffer_r2 : List Cond := [Cond.methodLink RX1 80 yX0_allWeights, Cond.instanceMethod yX0_allWeights, Cond.selects RX0 yX0_allWeights yX0_allWeights, Cond.code yX0_allWeights cX0_allWeights 1 (some .int), Cond.methodLink RX1 74 yX0_shareAt]
def wsX1_bestOffer : List Cond := .code yX1_bestOffer cX1_bestOffer 7 (some .int) :: ((wsX1_bestOffer_r1 ++ wsX1_bestOffer_r2) ++ wsX00)
def wsX1_offers_r1 : List Cond := [Cond.constantLong RX1 90 (-1000000000000000), Cond.fieldLink RX1 26 "DoubtSale" "buyerCount" "I", Cond.constantLong RX1 145 (1001), Cond.methodLink RX1 138 yX1_isOrder, Cond.instanceMethod yX1_isOrder, Cond.selects RX1 yX1_isOrder yX1_isOrder, Cond.initialized RX1, Cond.code yX1_isOrder cX1_isOrder 6 (some .boolean), Cond.methodLink RX1 44 yX1_isBuyer, Cond.instanceMethod yX1_isBuyer, Cond.selects RX1 yX1_isBuyer yX1_isBuyer, Cond.code yX1_isBuyer cX1_isBuyer 2 (some .boolean), Cond.methodLink RX1 87 yX1_isPart, Cond.static yX1_isPart, Cond.code yX1_isPart cX1_isPart 1 (some .boolean), Cond.methodLink RX1 54 yX1_bookOf, Cond.instanceMethod yX1_bookOf, Cond.selects RX1 yX1_bookOf yX1_bookOf, Cond.code yX1_bookOf cX1_bookOf 2 (some (.object "DoubtSale$Book")), Cond.fieldLink RX1 10 "DoubtSale" "book0" "LDoubtSale$Book;", Cond.fieldLink RX1 16 "DoubtSale" "book1" "LDoubtSale$Book;", Cond.fieldLink RX1 19 "DoubtSale" "book2" "LDoubtSale$Book;", Cond.methodLink RX1 141 yX1_bestOffer, Cond.static yX1_bestOffer]
def wsX1_offers_r2 : List Cond := [Cond.code yX1_bestOffer cX1_bestOffer 7 (some .int), Cond.methodLink RX1 147 yX1_offerBrings, Cond.static yX1_offerBrings, Cond.code yX1_offerBrings cX1_offerBrings 6 (some .long), Cond.methodLink RX1 77 yX0_takeAt, Cond.instanceMethod yX0_takeAt, Cond.selects RX0 yX0_takeAt yX0_takeAt, Cond.initialized RX0, Cond.code yX0_takeAt cX0_takeAt 2 (some .int), Cond.methodLink RX0 45 yX0_worthAt, Cond.instanceMethod yX0_worthAt, Cond.selects RX0 yX0_worthAt yX0_worthAt, Cond.code yX0_worthAt cX0_worthAt 2 (some .int), Cond.fieldLink RX0 24 "DoubtSale$Book" "size" "I", Cond.fieldLink RX0 9 "DoubtSale$Book" "worths" "[I", Cond.methodLink RX0 41 yX0_shareAt, Cond.instanceMethod yX0_shareAt, Cond.selects RX0 yX0_shareAt yX0_shareAt, Cond.code yX0_shareAt cX0_shareAt 4 (some .int), Cond.methodLink RX0 35 Lib.Math.max.name, Cond.static Lib.Math.max.name, Cond.initialized "java/lang/Math", Cond.code Lib.Math.max.name Lib.Math.max.code 2 (some .int), Cond.fieldLink RX0 15 "DoubtSale$Book" "weights" "[I"]
def wsX1_offers_r3 : List Cond := [Cond.methodLink RX1 80 yX0_allWeights, Cond.instanceMethod yX0_allWeights, Cond.selects RX0 yX0_allWeights yX0_allWeights, Cond.code yX0_allWeights cX0_allWeights 1 (some .int), Cond.methodLink RX1 74 yX0_shareAt, Cond.methodLink RX1 68 yX0_has, Cond.instanceMethod yX0_has, Cond.selects RX0 yX0_has yX0_has, Cond.code yX0_has cX0_has 2 (some .boolean), Cond.methodLink RX1 61 yX0_worthAt, Cond.methodLink RX1 99 yX1_leastPart, Cond.static yX1_leastPart, Cond.code yX1_leastPart cX1_leastPart 7 (some .long), Cond.methodLink RX1 185 Lib.MathLoose.abs_long.x, Cond.static Lib.MathLoose.abs_long.x, Cond.code Lib.MathLoose.abs_long.x Lib.MathLoose.abs_long.code 2 (some .long), Cond.methodLink RX1 189 yX1_commonDivisor, Cond.static yX1_commonDivisor, Cond.code yX1_commonDivisor cX1_commonDivisor 11 (some .long)]
def wsX1_offers : List Cond := .code yX1_offers cX1_offers 12 (some .long) :: ((wsX1_offers_r1 ++ (wsX1_offers_r2 ++ wsX1_offers_r3)) ++ wsX10 ++ wsX00)
def wsX1_pairsFrom : List Cond := .code yX1_pairsFrom cX1_pairsFrom 6 (some .int) :: ([.methodLink RX1 61 yX0_worthAt, .instanceMethod yX0_worthAt, .selects RX0 yX0_worthAt yX0_worthAt, .initialized RX0, .code yX0_worthAt cX0_worthAt 2 (some .int), .fieldLink RX0 24 "DoubtSale$Book" "size" "I", .fieldLink RX0 9 "DoubtSale$Book" "worths" "[I", .methodLink RX1 71 yX0_weightAt, .instanceMethod yX0_weightAt, .selects RX0 yX0_weightAt yX0_weightAt, .code yX0_weightAt cX0_weightAt 2 (some .int), .fieldLink RX0 15 "DoubtSale$Book" "weights" "[I"] ++ wsX00)
def wsX1_bestSum : List Cond := .code yX1_bestSum cX1_bestSum 8 (some .int) :: ([.methodLink RX1 61 yX0_worthAt, .instanceMethod yX0_worthAt, .selects RX0 yX0_worthAt yX0_worthAt, .initialized RX0, .code yX0_worthAt cX0_worthAt 2 (some .int), .fieldLink RX0 24 "DoubtSale$Book" "size" "I", .fieldLink RX0 9 "DoubtSale$Book" "worths" "[I", .methodLink RX1 155 yX1_pairsFrom, .static yX1_pairsFrom, .initialized RX1, .code yX1_pairsFrom cX1_pairsFrom 6 (some .int), .methodLink RX1 71 yX0_weightAt, .instanceMethod yX0_weightAt, .selects RX0 yX0_weightAt yX0_weightAt, .code yX0_weightAt cX0_weightAt 2 (some .int), .fieldLink RX0 15 "DoubtSale$Book" "weights" "[I"] ++ wsX00)
def wsX1_bothAlone_r1 : List Cond := [Cond.methodLink RX1 84 yX0_bestPlace, Cond.instanceMethod yX0_bestPlace, Cond.selects RX0 yX0_bestPlace yX0_bestPlace, Cond.initialized RX0, Cond.code yX0_bestPlace cX0_bestPlace 3 (some .int), Cond.fieldLink RX0 24 "DoubtSale$Book" "size" "I", Cond.methodLink RX0 48 yX0_takeAt, Cond.instanceMethod yX0_takeAt, Cond.selects RX0 yX0_takeAt yX0_takeAt, Cond.code yX0_takeAt cX0_takeAt 2 (some .int), Cond.methodLink RX0 45 yX0_worthAt, Cond.instanceMethod yX0_worthAt, Cond.selects RX0 yX0_worthAt yX0_worthAt, Cond.code yX0_worthAt cX0_worthAt 2 (some .int), Cond.fieldLink RX0 9 "DoubtSale$Book" "worths" "[I", Cond.methodLink RX0 41 yX0_shareAt, Cond.instanceMethod yX0_shareAt, Cond.selects RX0 yX0_shareAt yX0_shareAt, Cond.code yX0_shareAt cX0_shareAt 4 (some .int), Cond.methodLink RX0 35 Lib.Math.max.name, Cond.static Lib.Math.max.name, Cond.initialized "java/lang/Math", Cond.code Lib.Math.max.name Lib.Math.max.code 2 (some .int), Cond.fieldLink RX0 15 "DoubtSale$Book" "weights" "[I"]
def wsX1_bothAlone_r2 : List Cond := [Cond.methodLink RX1 77 yX0_takeAt, Cond.methodLink RX1 80 yX0_allWeights, Cond.instanceMethod yX0_allWeights, Cond.selects RX0 yX0_allWeights yX0_allWeights, Cond.code yX0_allWeights cX0_allWeights 1 (some .int)]
def wsX1_bothAlone : List Cond := .code yX1_bothAlone cX1_bothAlone 2 (some .int) :: ((wsX1_bothAlone_r1 ++ wsX1_bothAlone_r2) ++ wsX00)
def wsJ6_signum_0f7a4 : List Cond := .code yJ6_signum_0f7a4 cJ6_signum_0f7a4 1 (some .int) :: ([])
def wsX1_bundle_r1 : List Cond := [Cond.methodLink RX1 44 yX1_isBuyer, Cond.instanceMethod yX1_isBuyer, Cond.selects RX1 yX1_isBuyer yX1_isBuyer, Cond.initialized RX1, Cond.code yX1_isBuyer cX1_isBuyer 2 (some .boolean), Cond.fieldLink RX1 26 "DoubtSale" "buyerCount" "I", Cond.methodLink RX1 54 yX1_bookOf, Cond.instanceMethod yX1_bookOf, Cond.selects RX1 yX1_bookOf yX1_bookOf, Cond.code yX1_bookOf cX1_bookOf 2 (some (.object "DoubtSale$Book")), Cond.fieldLink RX1 10 "DoubtSale" "book0" "LDoubtSale$Book;", Cond.fieldLink RX1 16 "DoubtSale" "book1" "LDoubtSale$Book;", Cond.fieldLink RX1 19 "DoubtSale" "book2" "LDoubtSale$Book;", Cond.methodLink RX1 151 yX1_bestSum, Cond.static yX1_bestSum, Cond.code yX1_bestSum cX1_bestSum 8 (some .int), Cond.methodLink RX1 61 yX0_worthAt, Cond.instanceMethod yX0_worthAt, Cond.selects RX0 yX0_worthAt yX0_worthAt, Cond.initialized RX0, Cond.code yX0_worthAt cX0_worthAt 2 (some .int), Cond.fieldLink RX0 24 "DoubtSale$Book" "size" "I", Cond.fieldLink RX0 9 "DoubtSale$Book" "worths" "[I", Cond.methodLink RX1 155 yX1_pairsFrom]
def wsX1_bundle_r2 : List Cond := [Cond.static yX1_pairsFrom, Cond.code yX1_pairsFrom cX1_pairsFrom 6 (some .int), Cond.methodLink RX1 71 yX0_weightAt, Cond.instanceMethod yX0_weightAt, Cond.selects RX0 yX0_weightAt yX0_weightAt, Cond.code yX0_weightAt cX0_weightAt 2 (some .int), Cond.fieldLink RX0 15 "DoubtSale$Book" "weights" "[I", Cond.methodLink RX1 159 yX1_bothAlone, Cond.static yX1_bothAlone, Cond.code yX1_bothAlone cX1_bothAlone 2 (some .int), Cond.methodLink RX1 84 yX0_bestPlace, Cond.instanceMethod yX0_bestPlace, Cond.selects RX0 yX0_bestPlace yX0_bestPlace, Cond.code yX0_bestPlace cX0_bestPlace 3 (some .int), Cond.methodLink RX0 48 yX0_takeAt, Cond.instanceMethod yX0_takeAt, Cond.selects RX0 yX0_takeAt yX0_takeAt, Cond.code yX0_takeAt cX0_takeAt 2 (some .int), Cond.methodLink RX0 45 yX0_worthAt, Cond.methodLink RX0 41 yX0_shareAt, Cond.instanceMethod yX0_shareAt, Cond.selects RX0 yX0_shareAt yX0_shareAt, Cond.code yX0_shareAt cX0_shareAt 4 (some .int), Cond.methodLink RX0 35 Lib.Math.max.name]
def wsX1_bundle_r3 : List Cond := [Cond.static Lib.Math.max.name, Cond.initialized "java/lang/Math", Cond.code Lib.Math.max.name Lib.Math.max.code 2 (some .int), Cond.methodLink RX1 77 yX0_takeAt, Cond.methodLink RX1 80 yX0_allWeights, Cond.instanceMethod yX0_allWeights, Cond.selects RX0 yX0_allWeights yX0_allWeights, Cond.code yX0_allWeights cX0_allWeights 1 (some .int), Cond.methodLink RX1 162 yJ6_signum_0f7a4, Cond.static yJ6_signum_0f7a4, Cond.initialized RJ6, Cond.code yJ6_signum_0f7a4 cJ6_signum_0f7a4 1 (some .int)]
def wsX1_bundle : List Cond := .code yX1_bundle cX1_bundle 8 (some .int) :: ((wsX1_bundle_r1 ++ (wsX1_bundle_r2 ++ wsX1_bundle_r3)) ++ wsX10 ++ wsX00)
def wsX1_sample : List Cond := .code yX1_sample cX1_sample 2 (some .int) :: ([.fieldLink RX1 30 "DoubtSale" "sampleCount" "I", .fieldLink RX1 22 "DoubtSale" "samples" "[I", .methodLink RX1 48 yX1_isWorth, .static yX1_isWorth, .initialized RX1, .code yX1_isWorth cX1_isWorth 1 (some .boolean)] ++ wsX10)
def wsX1_clear : List Cond := .code yX1_clear cX1_clear 2 (some .int) :: ([.fieldLink RX1 30 "DoubtSale" "sampleCount" "I"] ++ wsX10)
def wsX1_samplesFrom : List Cond := .code yX1_samplesFrom cX1_samplesFrom 4 (some .int) :: ([.fieldLink RX1 30 "DoubtSale" "sampleCount" "I", .fieldLink RX1 22 "DoubtSale" "samples" "[I"] ++ wsX10)
def wsX1_learnt : List Cond := .code yX1_learnt cX1_learnt 5 (some .int) :: ([.fieldLink RX1 30 "DoubtSale" "sampleCount" "I", .fieldLink RX1 22 "DoubtSale" "samples" "[I", .methodLink RX1 167 yX1_samplesFrom, .instanceMethod yX1_samplesFrom, .selects RX1 yX1_samplesFrom yX1_samplesFrom, .initialized RX1, .code yX1_samplesFrom cX1_samplesFrom 4 (some .int)] ++ wsX10)
def wsX1_count : List Cond := .code yX1_count cX1_count 2 (some .int) :: ([.fieldLink RX1 26 "DoubtSale" "buyerCount" "I", .fieldLink RX1 33 "DoubtSale" "reservePrice" "I", .fieldLink RX1 30 "DoubtSale" "sampleCount" "I"] ++ wsX10)
def wsX1_trace : List Cond := .code yX1_trace cX1_trace 1 (some .long) :: ([.fieldLink RX1 36 "DoubtSale" "traced" "J"] ++ wsX10)
def wsX2_renews : List Cond := .code yX2_renews cX2_renews 2 none :: ([.fieldLink RX2 13 "DoubtSaleModel" "many" "[I", .fieldLink RX2 17 "DoubtSaleModel" "worth" "[I", .fieldLink RX2 20 "DoubtSaleModel" "weight" "[I"] ++ wsX20)
def wsX2_init : List Cond := .code yX2_init cX2_init 1 none :: ([.methodLink RX2 1 objectInit, .instanceMethod objectInit, .code objectInit ⟨#[0xb1]⟩ 1 none, .fieldLink RX2 7 "DoubtSaleModel" "n" "I", .arrayClass .int, .fieldLink RX2 13 "DoubtSaleModel" "many" "[I", .fieldLink RX2 17 "DoubtSaleModel" "worth" "[I", .fieldLink RX2 20 "DoubtSaleModel" "weight" "[I", .fieldLink RX2 23 "DoubtSaleModel" "sample" "[I", .fieldLink RX2 26 "DoubtSaleModel" "place" "[I", .fieldLink RX2 29 "DoubtSaleModel" "told" "[I", .fieldLink RX2 32 "DoubtSaleModel" "price" "[I", .methodLink RX2 35 yX2_renews, .instanceMethod yX2_renews, .selects RX2 yX2_renews yX2_renews, .initialized RX2, .code yX2_renews cX2_renews 2 none] ++ wsX20)
def wsX2_in : List Cond := .code yX2_in cX2_in 3 (some .boolean) :: ([])
def wsX2_isBuyer : List Cond := .code yX2_isBuyer cX2_isBuyer 2 (some .boolean) :: ([.fieldLink RX2 7 "DoubtSaleModel" "n" "I", .methodLink RX2 41 yX2_in, .static yX2_in, .initialized RX2, .code yX2_in cX2_in 3 (some .boolean)] ++ wsX20)
def wsX2_buyers : List Cond := .code yX2_buyers cX2_buyers 3 (some .int) :: ([.fieldLink RX2 38 "DoubtSaleModel" "thrown" "I", .fieldLink RX2 7 "DoubtSaleModel" "n" "I", .methodLink RX2 41 yX2_in, .static yX2_in, .initialized RX2, .code yX2_in cX2_in 3 (some .boolean), .methodLink RX2 35 yX2_renews, .instanceMethod yX2_renews, .selects RX2 yX2_renews yX2_renews, .code yX2_renews cX2_renews 2 none, .fieldLink RX2 13 "DoubtSaleModel" "many" "[I", .fieldLink RX2 17 "DoubtSaleModel" "worth" "[I", .fieldLink RX2 20 "DoubtSaleModel" "weight" "[I"] ++ wsX20)
def wsX2_book : List Cond := .code yX2_book cX2_book 4 (some .int) :: ([.fieldLink RX2 38 "DoubtSaleModel" "thrown" "I", .fieldLink RX2 13 "DoubtSaleModel" "many" "[I", .fieldLink RX2 17 "DoubtSaleModel" "worth" "[I", .fieldLink RX2 20 "DoubtSaleModel" "weight" "[I", .methodLink RX2 45 yX2_isBuyer, .instanceMethod yX2_isBuyer, .selects RX2 yX2_isBuyer yX2_isBuyer, .initialized RX2, .code yX2_isBuyer cX2_isBuyer 2 (some .boolean), .fieldLink RX2 7 "DoubtSaleModel" "n" "I", .methodLink RX2 41 yX2_in, .static yX2_in, .code yX2_in cX2_in 3 (some .boolean)] ++ wsX20)
def wsX2_more : List Cond := .code yX2_more cX2_more 4 (some .int) :: ([.fieldLink RX2 38 "DoubtSaleModel" "thrown" "I", .fieldLink RX2 17 "DoubtSaleModel" "worth" "[I", .fieldLink RX2 13 "DoubtSaleModel" "many" "[I", .fieldLink RX2 20 "DoubtSaleModel" "weight" "[I", .methodLink RX2 45 yX2_isBuyer, .instanceMethod yX2_isBuyer, .selects RX2 yX2_isBuyer yX2_isBuyer, .initialized RX2, .code yX2_isBuyer cX2_isBuyer 2 (some .boolean), .fieldLink RX2 7 "DoubtSaleModel" "n" "I", .methodLink RX2 41 yX2_in, .static yX2_in, .code yX2_in cX2_in 3 (some .boolean)] ++ wsX20)
def wsX2_share : List Cond := .code yX2_share cX2_share 5 (some .int) :: ([.fieldLink RX2 13 "DoubtSaleModel" "many" "[I", .fieldLink RX2 20 "DoubtSaleModel" "weight" "[I"] ++ wsX20)
def wsX2_take : List Cond := .code yX2_take cX2_take 3 (some .int) :: ([.fieldLink RX2 13 "DoubtSaleModel" "many" "[I", .fieldLink RX2 17 "DoubtSaleModel" "worth" "[I", .methodLink RX2 49 yX2_share, .instanceMethod yX2_share, .selects RX2 yX2_share yX2_share, .initialized RX2, .code yX2_share cX2_share 5 (some .int), .fieldLink RX2 20 "DoubtSaleModel" "weight" "[I"] ++ wsX20)
def wsX2_bestOf : List Cond := .code yX2_bestOf cX2_bestOf 4 (some .int) :: ([.fieldLink RX2 13 "DoubtSaleModel" "many" "[I", .methodLink RX2 53 yX2_take, .instanceMethod yX2_take, .selects RX2 yX2_take yX2_take, .initialized RX2, .code yX2_take cX2_take 3 (some .int), .fieldLink RX2 17 "DoubtSaleModel" "worth" "[I", .methodLink RX2 49 yX2_share, .instanceMethod yX2_share, .selects RX2 yX2_share yX2_share, .code yX2_share cX2_share 5 (some .int), .fieldLink RX2 20 "DoubtSaleModel" "weight" "[I"] ++ wsX20)
def wsX2_isPlace : List Cond := .code yX2_isPlace cX2_isPlace 3 (some .boolean) :: ([.fieldLink RX2 13 "DoubtSaleModel" "many" "[I", .methodLink RX2 41 yX2_in, .static yX2_in, .initialized RX2, .code yX2_in cX2_in 3 (some .boolean)] ++ wsX20)
def wsX2_about_r1 : List Cond := [Cond.fieldLink RX2 38 "DoubtSaleModel" "thrown" "I", Cond.fieldLink RX2 17 "DoubtSaleModel" "worth" "[I", Cond.fieldLink RX2 20 "DoubtSaleModel" "weight" "[I", Cond.methodLink RX2 45 yX2_isBuyer, Cond.instanceMethod yX2_isBuyer, Cond.selects RX2 yX2_isBuyer yX2_isBuyer, Cond.initialized RX2, Cond.code yX2_isBuyer cX2_isBuyer 2 (some .boolean), Cond.fieldLink RX2 7 "DoubtSaleModel" "n" "I", Cond.methodLink RX2 41 yX2_in, Cond.static yX2_in, Cond.code yX2_in cX2_in 3 (some .boolean), Cond.methodLink RX2 56 yX2_isPlace, Cond.instanceMethod yX2_isPlace, Cond.selects RX2 yX2_isPlace yX2_isPlace, Cond.code yX2_isPlace cX2_isPlace 3 (some .boolean), Cond.fieldLink RX2 13 "DoubtSaleModel" "many" "[I", Cond.methodLink RX2 49 yX2_share, Cond.instanceMethod yX2_share, Cond.selects RX2 yX2_share yX2_share, Cond.code yX2_share cX2_share 5 (some .int), Cond.methodLink RX2 53 yX2_take, Cond.instanceMethod yX2_take, Cond.selects RX2 yX2_take yX2_take]
def wsX2_about_r2 : List Cond := [Cond.code yX2_take cX2_take 3 (some .int)]
def wsX2_about : List Cond := .code yX2_about cX2_about 4 (some .int) :: ((wsX2_about_r1 ++ wsX2_about_r2) ++ wsX20)
def wsX2_whole_r1 : List Cond := [Cond.fieldLink RX2 38 "DoubtSaleModel" "thrown" "I", Cond.fieldLink RX2 13 "DoubtSaleModel" "many" "[I", Cond.methodLink RX2 45 yX2_isBuyer, Cond.instanceMethod yX2_isBuyer, Cond.selects RX2 yX2_isBuyer yX2_isBuyer, Cond.initialized RX2, Cond.code yX2_isBuyer cX2_isBuyer 2 (some .boolean), Cond.fieldLink RX2 7 "DoubtSaleModel" "n" "I", Cond.methodLink RX2 41 yX2_in, Cond.static yX2_in, Cond.code yX2_in cX2_in 3 (some .boolean), Cond.methodLink RX2 49 yX2_share, Cond.instanceMethod yX2_share, Cond.selects RX2 yX2_share yX2_share, Cond.code yX2_share cX2_share 5 (some .int), Cond.fieldLink RX2 20 "DoubtSaleModel" "weight" "[I", Cond.methodLink RX2 60 yX2_bestOf, Cond.instanceMethod yX2_bestOf, Cond.selects RX2 yX2_bestOf yX2_bestOf, Cond.code yX2_bestOf cX2_bestOf 4 (some .int), Cond.methodLink RX2 53 yX2_take, Cond.instanceMethod yX2_take, Cond.selects RX2 yX2_take yX2_take, Cond.code yX2_take cX2_take 3 (some .int)]
def wsX2_whole_r2 : List Cond := [Cond.fieldLink RX2 17 "DoubtSaleModel" "worth" "[I"]
def wsX2_whole : List Cond := .code yX2_whole cX2_whole 3 (some .int) :: ((wsX2_whole_r1 ++ wsX2_whole_r2) ++ wsX20)
def wsX2_irons : List Cond := .code yX2_irons cX2_irons 13 none :: ([.fieldLink RX2 64 "DoubtSaleModel" "upper" "J", .fieldLink RX2 68 "DoubtSaleModel" "lower" "J", .fieldLink RX2 13 "DoubtSaleModel" "many" "[I", .methodLink RX2 53 yX2_take, .instanceMethod yX2_take, .selects RX2 yX2_take yX2_take, .initialized RX2, .code yX2_take cX2_take 3 (some .int), .fieldLink RX2 17 "DoubtSaleModel" "worth" "[I", .methodLink RX2 49 yX2_share, .instanceMethod yX2_share, .selects RX2 yX2_share yX2_share, .code yX2_share cX2_share 5 (some .int), .fieldLink RX2 20 "DoubtSaleModel" "weight" "[I"] ++ wsX20)
def wsX2_common : List Cond := .code yX2_common cX2_common 10 (some .long) :: ([])
def wsX2_part : List Cond := .code yX2_part cX2_part 8 (some .long) :: ([.methodLink RX2 71 yX2_common, .static yX2_common, .initialized RX2, .code yX2_common cX2_common 10 (some .long)])
def wsX2_slope_r1 : List Cond := [Cond.fieldLink RX2 38 "DoubtSaleModel" "thrown" "I", Cond.constantLong RX2 75 (-1000000000000000), Cond.fieldLink RX2 64 "DoubtSaleModel" "upper" "J", Cond.fieldLink RX2 20 "DoubtSaleModel" "weight" "[I", Cond.fieldLink RX2 68 "DoubtSaleModel" "lower" "J", Cond.methodLink RX2 45 yX2_isBuyer, Cond.instanceMethod yX2_isBuyer, Cond.selects RX2 yX2_isBuyer yX2_isBuyer, Cond.initialized RX2, Cond.code yX2_isBuyer cX2_isBuyer 2 (some .boolean), Cond.fieldLink RX2 7 "DoubtSaleModel" "n" "I", Cond.methodLink RX2 41 yX2_in, Cond.static yX2_in, Cond.code yX2_in cX2_in 3 (some .boolean), Cond.methodLink RX2 56 yX2_isPlace, Cond.instanceMethod yX2_isPlace, Cond.selects RX2 yX2_isPlace yX2_isPlace, Cond.code yX2_isPlace cX2_isPlace 3 (some .boolean), Cond.fieldLink RX2 13 "DoubtSaleModel" "many" "[I", Cond.methodLink RX2 77 yX2_irons, Cond.instanceMethod yX2_irons, Cond.selects RX2 yX2_irons yX2_irons, Cond.code yX2_irons cX2_irons 13 none, Cond.methodLink RX2 53 yX2_take]
def wsX2_slope_r2 : List Cond := [Cond.instanceMethod yX2_take, Cond.selects RX2 yX2_take yX2_take, Cond.code yX2_take cX2_take 3 (some .int), Cond.fieldLink RX2 17 "DoubtSaleModel" "worth" "[I", Cond.methodLink RX2 49 yX2_share, Cond.instanceMethod yX2_share, Cond.selects RX2 yX2_share yX2_share, Cond.code yX2_share cX2_share 5 (some .int), Cond.methodLink RX2 81 yX2_part, Cond.instanceMethod yX2_part, Cond.selects RX2 yX2_part yX2_part, Cond.code yX2_part cX2_part 8 (some .long), Cond.methodLink RX2 71 yX2_common, Cond.static yX2_common, Cond.code yX2_common cX2_common 10 (some .long)]
def wsX2_slope : List Cond := .code yX2_slope cX2_slope 5 (some .long) :: ((wsX2_slope_r1 ++ wsX2_slope_r2) ++ wsX20)
def wsX2_getter : List Cond := .code yX2_getter cX2_getter 7 (some .int) :: ([.fieldLink RX2 7 "DoubtSaleModel" "n" "I", .fieldLink RX2 26 "DoubtSaleModel" "place" "[I", .fieldLink RX2 64 "DoubtSaleModel" "upper" "J", .fieldLink RX2 68 "DoubtSaleModel" "lower" "J", .methodLink RX2 77 yX2_irons, .instanceMethod yX2_irons, .selects RX2 yX2_irons yX2_irons, .initialized RX2, .code yX2_irons cX2_irons 13 none, .fieldLink RX2 13 "DoubtSaleModel" "many" "[I", .methodLink RX2 53 yX2_take, .instanceMethod yX2_take, .selects RX2 yX2_take yX2_take, .code yX2_take cX2_take 3 (some .int), .fieldLink RX2 17 "DoubtSaleModel" "worth" "[I", .methodLink RX2 49 yX2_share, .instanceMethod yX2_share, .selects RX2 yX2_share yX2_share, .code yX2_share cX2_share 5 (some .int), .fieldLink RX2 20 "DoubtSaleModel" "weight" "[I"] ++ wsX20)
def wsX2_paid : List Cond := .code yX2_paid cX2_paid 5 (some .int) :: ([.fieldLink RX2 26 "DoubtSaleModel" "place" "[I", .fieldLink RX2 17 "DoubtSaleModel" "worth" "[I", .methodLink RX2 85 yX2_getter, .instanceMethod yX2_getter, .selects RX2 yX2_getter yX2_getter, .initialized RX2, .code yX2_getter cX2_getter 7 (some .int), .fieldLink RX2 7 "DoubtSaleModel" "n" "I", .fieldLink RX2 64 "DoubtSaleModel" "upper" "J", .fieldLink RX2 68 "DoubtSaleModel" "lower" "J", .methodLink RX2 77 yX2_irons, .instanceMethod yX2_irons, .selects RX2 yX2_irons yX2_irons, .code yX2_irons cX2_irons 13 none, .fieldLink RX2 13 "DoubtSaleModel" "many" "[I", .methodLink RX2 53 yX2_take, .instanceMethod yX2_take, .selects RX2 yX2_take yX2_take, .code yX2_take cX2_take 3 (some .int), .methodLink RX2 49 yX2_share, .instanceMethod yX2_share, .selects RX2 yX2_share yX2_share, .code yX2_share cX2_share 5 (some .int), .fieldLink RX2 20 "DoubtSaleModel" "weight" "[I"] ++ wsX20)
def wsX2_isPlaces : List Cond := .code yX2_isPlaces cX2_isPlaces 6 (some .boolean) :: ([.fieldLink RX2 26 "DoubtSaleModel" "place" "[I", .fieldLink RX2 7 "DoubtSaleModel" "n" "I", .methodLink RX2 56 yX2_isPlace, .instanceMethod yX2_isPlace, .selects RX2 yX2_isPlace yX2_isPlace, .initialized RX2, .code yX2_isPlace cX2_isPlace 3 (some .boolean), .fieldLink RX2 13 "DoubtSaleModel" "many" "[I", .methodLink RX2 41 yX2_in, .static yX2_in, .code yX2_in cX2_in 3 (some .boolean)] ++ wsX20)
def wsX2_gets_r1 : List Cond := [Cond.fieldLink RX2 38 "DoubtSaleModel" "thrown" "I", Cond.methodLink RX2 89 yX2_isPlaces, Cond.instanceMethod yX2_isPlaces, Cond.selects RX2 yX2_isPlaces yX2_isPlaces, Cond.initialized RX2, Cond.code yX2_isPlaces cX2_isPlaces 6 (some .boolean), Cond.fieldLink RX2 26 "DoubtSaleModel" "place" "[I", Cond.fieldLink RX2 7 "DoubtSaleModel" "n" "I", Cond.methodLink RX2 56 yX2_isPlace, Cond.instanceMethod yX2_isPlace, Cond.selects RX2 yX2_isPlace yX2_isPlace, Cond.code yX2_isPlace cX2_isPlace 3 (some .boolean), Cond.fieldLink RX2 13 "DoubtSaleModel" "many" "[I", Cond.methodLink RX2 41 yX2_in, Cond.static yX2_in, Cond.code yX2_in cX2_in 3 (some .boolean), Cond.methodLink RX2 85 yX2_getter, Cond.instanceMethod yX2_getter, Cond.selects RX2 yX2_getter yX2_getter, Cond.code yX2_getter cX2_getter 7 (some .int), Cond.fieldLink RX2 64 "DoubtSaleModel" "upper" "J", Cond.fieldLink RX2 68 "DoubtSaleModel" "lower" "J", Cond.methodLink RX2 77 yX2_irons, Cond.instanceMethod yX2_irons]
def wsX2_gets_r2 : List Cond := [Cond.selects RX2 yX2_irons yX2_irons, Cond.code yX2_irons cX2_irons 13 none, Cond.methodLink RX2 53 yX2_take, Cond.instanceMethod yX2_take, Cond.selects RX2 yX2_take yX2_take, Cond.code yX2_take cX2_take 3 (some .int), Cond.fieldLink RX2 17 "DoubtSaleModel" "worth" "[I", Cond.methodLink RX2 49 yX2_share, Cond.instanceMethod yX2_share, Cond.selects RX2 yX2_share yX2_share, Cond.code yX2_share cX2_share 5 (some .int), Cond.fieldLink RX2 20 "DoubtSaleModel" "weight" "[I"]
def wsX2_gets : List Cond := .code yX2_gets cX2_gets 4 (some .int) :: ((wsX2_gets_r1 ++ wsX2_gets_r2) ++ wsX20)
def wsX2_pays_r1 : List Cond := [Cond.fieldLink RX2 38 "DoubtSaleModel" "thrown" "I", Cond.methodLink RX2 89 yX2_isPlaces, Cond.instanceMethod yX2_isPlaces, Cond.selects RX2 yX2_isPlaces yX2_isPlaces, Cond.initialized RX2, Cond.code yX2_isPlaces cX2_isPlaces 6 (some .boolean), Cond.fieldLink RX2 26 "DoubtSaleModel" "place" "[I", Cond.fieldLink RX2 7 "DoubtSaleModel" "n" "I", Cond.methodLink RX2 56 yX2_isPlace, Cond.instanceMethod yX2_isPlace, Cond.selects RX2 yX2_isPlace yX2_isPlace, Cond.code yX2_isPlace cX2_isPlace 3 (some .boolean), Cond.fieldLink RX2 13 "DoubtSaleModel" "many" "[I", Cond.methodLink RX2 41 yX2_in, Cond.static yX2_in, Cond.code yX2_in cX2_in 3 (some .boolean), Cond.methodLink RX2 45 yX2_isBuyer, Cond.instanceMethod yX2_isBuyer, Cond.selects RX2 yX2_isBuyer yX2_isBuyer, Cond.code yX2_isBuyer cX2_isBuyer 2 (some .boolean), Cond.methodLink RX2 92 yX2_paid, Cond.instanceMethod yX2_paid, Cond.selects RX2 yX2_paid yX2_paid, Cond.code yX2_paid cX2_paid 5 (some .int)]
def wsX2_pays_r2 : List Cond := [Cond.fieldLink RX2 17 "DoubtSaleModel" "worth" "[I", Cond.methodLink RX2 85 yX2_getter, Cond.instanceMethod yX2_getter, Cond.selects RX2 yX2_getter yX2_getter, Cond.code yX2_getter cX2_getter 7 (some .int), Cond.fieldLink RX2 64 "DoubtSaleModel" "upper" "J", Cond.fieldLink RX2 68 "DoubtSaleModel" "lower" "J", Cond.methodLink RX2 77 yX2_irons, Cond.instanceMethod yX2_irons, Cond.selects RX2 yX2_irons yX2_irons, Cond.code yX2_irons cX2_irons 13 none, Cond.methodLink RX2 53 yX2_take, Cond.instanceMethod yX2_take, Cond.selects RX2 yX2_take yX2_take, Cond.code yX2_take cX2_take 3 (some .int), Cond.methodLink RX2 49 yX2_share, Cond.instanceMethod yX2_share, Cond.selects RX2 yX2_share yX2_share, Cond.code yX2_share cX2_share 5 (some .int), Cond.fieldLink RX2 20 "DoubtSaleModel" "weight" "[I"]
def wsX2_pays : List Cond := .code yX2_pays cX2_pays 5 (some .int) :: ((wsX2_pays_r1 ++ wsX2_pays_r2) ++ wsX20)
def wsX2_gain_r1 : List Cond := [Cond.fieldLink RX2 38 "DoubtSaleModel" "thrown" "I", Cond.constantLong RX2 75 (-1000000000000000), Cond.fieldLink RX2 17 "DoubtSaleModel" "worth" "[I", Cond.fieldLink RX2 26 "DoubtSaleModel" "place" "[I", Cond.methodLink RX2 89 yX2_isPlaces, Cond.instanceMethod yX2_isPlaces, Cond.selects RX2 yX2_isPlaces yX2_isPlaces, Cond.initialized RX2, Cond.code yX2_isPlaces cX2_isPlaces 6 (some .boolean), Cond.fieldLink RX2 7 "DoubtSaleModel" "n" "I", Cond.methodLink RX2 56 yX2_isPlace, Cond.instanceMethod yX2_isPlace, Cond.selects RX2 yX2_isPlace yX2_isPlace, Cond.code yX2_isPlace cX2_isPlace 3 (some .boolean), Cond.fieldLink RX2 13 "DoubtSaleModel" "many" "[I", Cond.methodLink RX2 41 yX2_in, Cond.static yX2_in, Cond.code yX2_in cX2_in 3 (some .boolean), Cond.methodLink RX2 45 yX2_isBuyer, Cond.instanceMethod yX2_isBuyer, Cond.selects RX2 yX2_isBuyer yX2_isBuyer, Cond.code yX2_isBuyer cX2_isBuyer 2 (some .boolean), Cond.methodLink RX2 85 yX2_getter, Cond.instanceMethod yX2_getter]
def wsX2_gain_r2 : List Cond := [Cond.selects RX2 yX2_getter yX2_getter, Cond.code yX2_getter cX2_getter 7 (some .int), Cond.fieldLink RX2 64 "DoubtSaleModel" "upper" "J", Cond.fieldLink RX2 68 "DoubtSaleModel" "lower" "J", Cond.methodLink RX2 77 yX2_irons, Cond.instanceMethod yX2_irons, Cond.selects RX2 yX2_irons yX2_irons, Cond.code yX2_irons cX2_irons 13 none, Cond.methodLink RX2 53 yX2_take, Cond.instanceMethod yX2_take, Cond.selects RX2 yX2_take yX2_take, Cond.code yX2_take cX2_take 3 (some .int), Cond.methodLink RX2 49 yX2_share, Cond.instanceMethod yX2_share, Cond.selects RX2 yX2_share yX2_share, Cond.code yX2_share cX2_share 5 (some .int), Cond.fieldLink RX2 20 "DoubtSaleModel" "weight" "[I", Cond.methodLink RX2 92 yX2_paid, Cond.instanceMethod yX2_paid, Cond.selects RX2 yX2_paid yX2_paid, Cond.code yX2_paid cX2_paid 5 (some .int)]
def wsX2_gain : List Cond := .code yX2_gain cX2_gain 7 (some .long) :: ((wsX2_gain_r1 ++ wsX2_gain_r2) ++ wsX20)
def wsX2_all : List Cond := .code yX2_all cX2_all 3 (some .int) :: ([.fieldLink RX2 7 "DoubtSaleModel" "n" "I", .methodLink RX2 49 yX2_share, .instanceMethod yX2_share, .selects RX2 yX2_share yX2_share, .initialized RX2, .code yX2_share cX2_share 5 (some .int), .fieldLink RX2 13 "DoubtSaleModel" "many" "[I", .fieldLink RX2 20 "DoubtSaleModel" "weight" "[I"] ++ wsX20)
def wsX2_comes : List Cond := .code yX2_comes cX2_comes 5 (some .int) :: ([.fieldLink RX2 26 "DoubtSaleModel" "place" "[I", .fieldLink RX2 7 "DoubtSaleModel" "n" "I", .fieldLink RX2 20 "DoubtSaleModel" "weight" "[I", .methodLink RX2 56 yX2_isPlace, .instanceMethod yX2_isPlace, .selects RX2 yX2_isPlace yX2_isPlace, .initialized RX2, .code yX2_isPlace cX2_isPlace 3 (some .boolean), .fieldLink RX2 13 "DoubtSaleModel" "many" "[I", .methodLink RX2 41 yX2_in, .static yX2_in, .code yX2_in cX2_in 3 (some .boolean)] ++ wsX20)
def wsX2_brings_r1 : List Cond := [Cond.fieldLink RX2 38 "DoubtSaleModel" "thrown" "I", Cond.constantLong RX2 75 (-1000000000000000), Cond.fieldLink RX2 7 "DoubtSaleModel" "n" "I", Cond.methodLink RX2 41 yX2_in, Cond.static yX2_in, Cond.initialized RX2, Cond.code yX2_in cX2_in 3 (some .boolean), Cond.methodLink RX2 95 yX2_comes, Cond.instanceMethod yX2_comes, Cond.selects RX2 yX2_comes yX2_comes, Cond.code yX2_comes cX2_comes 5 (some .int), Cond.fieldLink RX2 26 "DoubtSaleModel" "place" "[I", Cond.fieldLink RX2 20 "DoubtSaleModel" "weight" "[I", Cond.methodLink RX2 56 yX2_isPlace, Cond.instanceMethod yX2_isPlace, Cond.selects RX2 yX2_isPlace yX2_isPlace, Cond.code yX2_isPlace cX2_isPlace 3 (some .boolean), Cond.fieldLink RX2 13 "DoubtSaleModel" "many" "[I", Cond.methodLink RX2 92 yX2_paid, Cond.instanceMethod yX2_paid, Cond.selects RX2 yX2_paid yX2_paid, Cond.code yX2_paid cX2_paid 5 (some .int), Cond.fieldLink RX2 17 "DoubtSaleModel" "worth" "[I", Cond.methodLink RX2 85 yX2_getter]
def wsX2_brings_r2 : List Cond := [Cond.instanceMethod yX2_getter, Cond.selects RX2 yX2_getter yX2_getter, Cond.code yX2_getter cX2_getter 7 (some .int), Cond.fieldLink RX2 64 "DoubtSaleModel" "upper" "J", Cond.fieldLink RX2 68 "DoubtSaleModel" "lower" "J", Cond.methodLink RX2 77 yX2_irons, Cond.instanceMethod yX2_irons, Cond.selects RX2 yX2_irons yX2_irons, Cond.code yX2_irons cX2_irons 13 none, Cond.methodLink RX2 53 yX2_take, Cond.instanceMethod yX2_take, Cond.selects RX2 yX2_take yX2_take, Cond.code yX2_take cX2_take 3 (some .int), Cond.methodLink RX2 49 yX2_share, Cond.instanceMethod yX2_share, Cond.selects RX2 yX2_share yX2_share, Cond.code yX2_share cX2_share 5 (some .int), Cond.methodLink RX2 98 yX2_all, Cond.instanceMethod yX2_all, Cond.selects RX2 yX2_all yX2_all, Cond.code yX2_all cX2_all 3 (some .int), Cond.methodLink RX2 81 yX2_part, Cond.instanceMethod yX2_part, Cond.selects RX2 yX2_part yX2_part]
def wsX2_brings_r3 : List Cond := [Cond.code yX2_part cX2_part 8 (some .long), Cond.methodLink RX2 71 yX2_common, Cond.static yX2_common, Cond.code yX2_common cX2_common 10 (some .long)]
def wsX2_brings : List Cond := .code yX2_brings cX2_brings 7 (some .long) :: ((wsX2_brings_r1 ++ (wsX2_brings_r2 ++ wsX2_brings_r3)) ++ wsX20)
def wsX2_reserve : List Cond := .code yX2_reserve cX2_reserve 3 (some .int) :: ([.fieldLink RX2 38 "DoubtSaleModel" "thrown" "I", .fieldLink RX2 101 "DoubtSaleModel" "reserve" "I", .methodLink RX2 41 yX2_in, .static yX2_in, .initialized RX2, .code yX2_in cX2_in 3 (some .boolean)] ++ wsX20)
def wsX2_payOf : List Cond := .code yX2_payOf cX2_payOf 5 (some .int) :: ([.fieldLink RX2 7 "DoubtSaleModel" "n" "I", .fieldLink RX2 29 "DoubtSaleModel" "told" "[I", .fieldLink RX2 101 "DoubtSaleModel" "reserve" "I"] ++ wsX20)
def wsX2_pay : List Cond := .code yX2_pay cX2_pay 7 (some .int) :: ([.fieldLink RX2 38 "DoubtSaleModel" "thrown" "I", .fieldLink RX2 29 "DoubtSaleModel" "told" "[I", .fieldLink RX2 7 "DoubtSaleModel" "n" "I", .fieldLink RX2 107 "DoubtSaleModel" "trace" "J", .constantLong RX2 110 (11), .constantLong RX2 112 (111), .methodLink RX2 41 yX2_in, .static yX2_in, .initialized RX2, .code yX2_in cX2_in 3 (some .boolean), .methodLink RX2 104 yX2_payOf, .instanceMethod yX2_payOf, .selects RX2 yX2_payOf yX2_payOf, .code yX2_payOf cX2_payOf 5 (some .int), .fieldLink RX2 101 "DoubtSaleModel" "reserve" "I"] ++ wsX20)
def wsX2_average_r1 : List Cond := [Cond.fieldLink RX2 38 "DoubtSaleModel" "thrown" "I", Cond.constantLong RX2 75 (-1000000000000000), Cond.fieldLink RX2 7 "DoubtSaleModel" "n" "I", Cond.fieldLink RX2 29 "DoubtSaleModel" "told" "[I", Cond.fieldLink RX2 17 "DoubtSaleModel" "worth" "[I", Cond.fieldLink RX2 26 "DoubtSaleModel" "place" "[I", Cond.methodLink RX2 41 yX2_in, Cond.static yX2_in, Cond.initialized RX2, Cond.code yX2_in cX2_in 3 (some .boolean), Cond.methodLink RX2 95 yX2_comes, Cond.instanceMethod yX2_comes, Cond.selects RX2 yX2_comes yX2_comes, Cond.code yX2_comes cX2_comes 5 (some .int), Cond.fieldLink RX2 20 "DoubtSaleModel" "weight" "[I", Cond.methodLink RX2 56 yX2_isPlace, Cond.instanceMethod yX2_isPlace, Cond.selects RX2 yX2_isPlace yX2_isPlace, Cond.code yX2_isPlace cX2_isPlace 3 (some .boolean), Cond.fieldLink RX2 13 "DoubtSaleModel" "many" "[I", Cond.methodLink RX2 104 yX2_payOf, Cond.instanceMethod yX2_payOf, Cond.selects RX2 yX2_payOf yX2_payOf, Cond.code yX2_payOf cX2_payOf 5 (some .int)]
def wsX2_average_r2 : List Cond := [Cond.fieldLink RX2 101 "DoubtSaleModel" "reserve" "I", Cond.methodLink RX2 98 yX2_all, Cond.instanceMethod yX2_all, Cond.selects RX2 yX2_all yX2_all, Cond.code yX2_all cX2_all 3 (some .int), Cond.methodLink RX2 49 yX2_share, Cond.instanceMethod yX2_share, Cond.selects RX2 yX2_share yX2_share, Cond.code yX2_share cX2_share 5 (some .int), Cond.methodLink RX2 81 yX2_part, Cond.instanceMethod yX2_part, Cond.selects RX2 yX2_part yX2_part, Cond.code yX2_part cX2_part 8 (some .long), Cond.methodLink RX2 71 yX2_common, Cond.static yX2_common, Cond.code yX2_common cX2_common 10 (some .long)]
def wsX2_average : List Cond := .code yX2_average cX2_average 8 (some .long) :: ((wsX2_average_r1 ++ wsX2_average_r2) ++ wsX20)
def wsX2_offers_r1 : List Cond := [Cond.fieldLink RX2 38 "DoubtSaleModel" "thrown" "I", Cond.constantLong RX2 75 (-1000000000000000), Cond.fieldLink RX2 7 "DoubtSaleModel" "n" "I", Cond.fieldLink RX2 32 "DoubtSaleModel" "price" "[I", Cond.fieldLink RX2 13 "DoubtSaleModel" "many" "[I", Cond.fieldLink RX2 17 "DoubtSaleModel" "worth" "[I", Cond.methodLink RX2 41 yX2_in, Cond.static yX2_in, Cond.initialized RX2, Cond.code yX2_in cX2_in 3 (some .boolean), Cond.methodLink RX2 45 yX2_isBuyer, Cond.instanceMethod yX2_isBuyer, Cond.selects RX2 yX2_isBuyer yX2_isBuyer, Cond.code yX2_isBuyer cX2_isBuyer 2 (some .boolean), Cond.methodLink RX2 49 yX2_share, Cond.instanceMethod yX2_share, Cond.selects RX2 yX2_share yX2_share, Cond.code yX2_share cX2_share 5 (some .int), Cond.fieldLink RX2 20 "DoubtSaleModel" "weight" "[I", Cond.methodLink RX2 81 yX2_part, Cond.instanceMethod yX2_part, Cond.selects RX2 yX2_part yX2_part, Cond.code yX2_part cX2_part 8 (some .long), Cond.methodLink RX2 71 yX2_common]
def wsX2_offers_r2 : List Cond := [Cond.static yX2_common, Cond.code yX2_common cX2_common 10 (some .long)]
def wsX2_offers : List Cond := .code yX2_offers cX2_offers 20 (some .long) :: ((wsX2_offers_r1 ++ wsX2_offers_r2) ++ wsX20)
def wsX2_pairs : List Cond := .code yX2_pairs cX2_pairs 7 (some .int) :: ([.fieldLink RX2 13 "DoubtSaleModel" "many" "[I", .fieldLink RX2 17 "DoubtSaleModel" "worth" "[I", .fieldLink RX2 20 "DoubtSaleModel" "weight" "[I"] ++ wsX20)
def wsX2_bundle_r1 : List Cond := [Cond.fieldLink RX2 38 "DoubtSaleModel" "thrown" "I", Cond.constantLong RX2 114 (-1), Cond.fieldLink RX2 13 "DoubtSaleModel" "many" "[I", Cond.fieldLink RX2 17 "DoubtSaleModel" "worth" "[I", Cond.methodLink RX2 45 yX2_isBuyer, Cond.instanceMethod yX2_isBuyer, Cond.selects RX2 yX2_isBuyer yX2_isBuyer, Cond.initialized RX2, Cond.code yX2_isBuyer cX2_isBuyer 2 (some .boolean), Cond.fieldLink RX2 7 "DoubtSaleModel" "n" "I", Cond.methodLink RX2 41 yX2_in, Cond.static yX2_in, Cond.code yX2_in cX2_in 3 (some .boolean), Cond.methodLink RX2 116 yX2_pairs, Cond.instanceMethod yX2_pairs, Cond.selects RX2 yX2_pairs yX2_pairs, Cond.code yX2_pairs cX2_pairs 7 (some .int), Cond.fieldLink RX2 20 "DoubtSaleModel" "weight" "[I", Cond.methodLink RX2 60 yX2_bestOf, Cond.instanceMethod yX2_bestOf, Cond.selects RX2 yX2_bestOf yX2_bestOf, Cond.code yX2_bestOf cX2_bestOf 4 (some .int), Cond.methodLink RX2 53 yX2_take, Cond.instanceMethod yX2_take]
def wsX2_bundle_r2 : List Cond := [Cond.selects RX2 yX2_take yX2_take, Cond.code yX2_take cX2_take 3 (some .int), Cond.methodLink RX2 49 yX2_share, Cond.instanceMethod yX2_share, Cond.selects RX2 yX2_share yX2_share, Cond.code yX2_share cX2_share 5 (some .int)]
def wsX2_bundle : List Cond := .code yX2_bundle cX2_bundle 12 (some .int) :: ((wsX2_bundle_r1 ++ wsX2_bundle_r2) ++ wsX20)
def wsX2_sample : List Cond := .code yX2_sample cX2_sample 2 (some .int) :: ([.fieldLink RX2 38 "DoubtSaleModel" "thrown" "I", .fieldLink RX2 120 "DoubtSaleModel" "samples" "I", .fieldLink RX2 23 "DoubtSaleModel" "sample" "[I", .methodLink RX2 41 yX2_in, .static yX2_in, .initialized RX2, .code yX2_in cX2_in 3 (some .boolean)] ++ wsX20)
def wsX2_clear : List Cond := .code yX2_clear cX2_clear 2 (some .int) :: ([.fieldLink RX2 38 "DoubtSaleModel" "thrown" "I", .fieldLink RX2 120 "DoubtSaleModel" "samples" "I"] ++ wsX20)
def wsX2_learnt : List Cond := .code yX2_learnt cX2_learnt 6 (some .int) :: ([.fieldLink RX2 38 "DoubtSaleModel" "thrown" "I", .fieldLink RX2 120 "DoubtSaleModel" "samples" "I", .fieldLink RX2 23 "DoubtSaleModel" "sample" "[I"] ++ wsX20)
def wsX2_count : List Cond := .code yX2_count cX2_count 2 (some .int) :: ([.fieldLink RX2 38 "DoubtSaleModel" "thrown" "I", .fieldLink RX2 7 "DoubtSaleModel" "n" "I", .fieldLink RX2 101 "DoubtSaleModel" "reserve" "I", .fieldLink RX2 120 "DoubtSaleModel" "samples" "I"] ++ wsX20)
def wsX2_trace : List Cond := .code yX2_trace cX2_trace 1 (some .long) :: ([.fieldLink RX2 38 "DoubtSaleModel" "thrown" "I", .fieldLink RX2 107 "DoubtSaleModel" "trace" "J"] ++ wsX20)
def wsJ9_abs_067f4 : List Cond := .code yJ9_abs_067f4 cJ9_abs_067f4 2 (some .long) :: ([])
def wsJ9_max_7cf53 : List Cond := .code yJ9_max_7cf53 cJ9_max_7cf53 2 (some .int) :: ([])
def wsJ9_min_7cf53 : List Cond := .code yJ9_min_7cf53 cJ9_min_7cf53 2 (some .int) :: ([])
def wsL_law_r1 : List Cond := [Cond.classLink RL 7 RX1, Cond.instantiable RX1 8, Cond.initialized RX1, Cond.classLink RL 10 RX2, Cond.instantiable RX2 14, Cond.initialized RX2, Cond.methodLink RL 9 yX1_init, Cond.instanceMethod yX1_init, Cond.code yX1_init cX1_init 1 none, Cond.methodLink RX1 1 objectInit, Cond.instanceMethod objectInit, Cond.code objectInit ⟨#[0xb1]⟩ 1 none, Cond.classLink RX1 7 RX0, Cond.instantiable RX0 5, Cond.initialized RX0, Cond.fieldLink RX1 10 "DoubtSale" "book0" "LDoubtSale$Book;", Cond.fieldLink RX1 16 "DoubtSale" "book1" "LDoubtSale$Book;", Cond.fieldLink RX1 19 "DoubtSale" "book2" "LDoubtSale$Book;", Cond.arrayClass .int, Cond.fieldLink RX1 22 "DoubtSale" "samples" "[I", Cond.fieldLink RX1 26 "DoubtSale" "buyerCount" "I", Cond.fieldLink RX1 30 "DoubtSale" "sampleCount" "I", Cond.fieldLink RX1 33 "DoubtSale" "reservePrice" "I", Cond.fieldLink RX1 36 "DoubtSale" "traced" "J"]
def wsL_law_r2 : List Cond := [Cond.methodLink RX1 9 yX0_init, Cond.instanceMethod yX0_init, Cond.code yX0_init cX0_init 1 none, Cond.methodLink RX0 3 objectInit, Cond.fieldLink RX0 9 "DoubtSale$Book" "worths" "[I", Cond.fieldLink RX0 15 "DoubtSale$Book" "weights" "[I", Cond.fieldLink RX0 18 "DoubtSale$Book" "uppers" "[I", Cond.fieldLink RX0 21 "DoubtSale$Book" "lowers" "[I", Cond.fieldLink RX0 24 "DoubtSale$Book" "size" "I", Cond.methodLink RX0 28 yX0_begin, Cond.instanceMethod yX0_begin, Cond.selects RX0 yX0_begin yX0_begin, Cond.code yX0_begin cX0_begin 3 none, Cond.methodLink RX0 32 yX0_iron, Cond.instanceMethod yX0_iron, Cond.selects RX0 yX0_iron yX0_iron, Cond.code yX0_iron cX0_iron 6 none, Cond.methodLink RX0 51 yX0_nextCorner, Cond.instanceMethod yX0_nextCorner, Cond.selects RX0 yX0_nextCorner yX0_nextCorner, Cond.code yX0_nextCorner cX0_nextCorner 12 (some .int), Cond.methodLink RX0 48 yX0_takeAt, Cond.instanceMethod yX0_takeAt, Cond.selects RX0 yX0_takeAt yX0_takeAt]
def wsL_law_r3 : List Cond := [Cond.code yX0_takeAt cX0_takeAt 2 (some .int), Cond.methodLink RX0 45 yX0_worthAt, Cond.instanceMethod yX0_worthAt, Cond.selects RX0 yX0_worthAt yX0_worthAt, Cond.code yX0_worthAt cX0_worthAt 2 (some .int), Cond.methodLink RX0 41 yX0_shareAt, Cond.instanceMethod yX0_shareAt, Cond.selects RX0 yX0_shareAt yX0_shareAt, Cond.code yX0_shareAt cX0_shareAt 4 (some .int), Cond.methodLink RX0 35 Lib.Math.max.name, Cond.static Lib.Math.max.name, Cond.initialized "java/lang/Math", Cond.code Lib.Math.max.name Lib.Math.max.code 2 (some .int), Cond.methodLink RL 12 yX2_init, Cond.instanceMethod yX2_init, Cond.code yX2_init cX2_init 1 none, Cond.methodLink RX2 1 objectInit, Cond.fieldLink RX2 7 "DoubtSaleModel" "n" "I", Cond.fieldLink RX2 13 "DoubtSaleModel" "many" "[I", Cond.fieldLink RX2 17 "DoubtSaleModel" "worth" "[I", Cond.fieldLink RX2 20 "DoubtSaleModel" "weight" "[I", Cond.fieldLink RX2 23 "DoubtSaleModel" "sample" "[I", Cond.fieldLink RX2 26 "DoubtSaleModel" "place" "[I", Cond.fieldLink RX2 29 "DoubtSaleModel" "told" "[I"]
def wsL_law_r4 : List Cond := [Cond.fieldLink RX2 32 "DoubtSaleModel" "price" "[I", Cond.methodLink RX2 35 yX2_renews, Cond.instanceMethod yX2_renews, Cond.selects RX2 yX2_renews yX2_renews, Cond.code yX2_renews cX2_renews 2 none, Cond.methodLink RL 13 yX1_buyers, Cond.instanceMethod yX1_buyers, Cond.selects RX1 yX1_buyers yX1_buyers, Cond.code yX1_buyers cX1_buyers 3 (some .int), Cond.methodLink RX1 40 yX0_begin, Cond.methodLink RL 17 yX2_buyers, Cond.instanceMethod yX2_buyers, Cond.selects RX2 yX2_buyers yX2_buyers, Cond.code yX2_buyers cX2_buyers 3 (some .int), Cond.fieldLink RX2 38 "DoubtSaleModel" "thrown" "I", Cond.methodLink RX2 41 yX2_in, Cond.static yX2_in, Cond.code yX2_in cX2_in 3 (some .boolean), Cond.methodLink RL 18 yX1_book, Cond.instanceMethod yX1_book, Cond.selects RX1 yX1_book yX1_book, Cond.code yX1_book cX1_book 5 (some .int), Cond.methodLink RX1 44 yX1_isBuyer, Cond.instanceMethod yX1_isBuyer]
def wsL_law_r5 : List Cond := [Cond.selects RX1 yX1_isBuyer yX1_isBuyer, Cond.code yX1_isBuyer cX1_isBuyer 2 (some .boolean), Cond.methodLink RX1 48 yX1_isWorth, Cond.static yX1_isWorth, Cond.code yX1_isWorth cX1_isWorth 1 (some .boolean), Cond.methodLink RX1 51 yX1_isWeight, Cond.static yX1_isWeight, Cond.code yX1_isWeight cX1_isWeight 1 (some .boolean), Cond.methodLink RX1 54 yX1_bookOf, Cond.instanceMethod yX1_bookOf, Cond.selects RX1 yX1_bookOf yX1_bookOf, Cond.code yX1_bookOf cX1_bookOf 2 (some (.object "DoubtSale$Book")), Cond.methodLink RL 22 yX2_book, Cond.instanceMethod yX2_book, Cond.selects RX2 yX2_book yX2_book, Cond.code yX2_book cX2_book 4 (some .int), Cond.methodLink RX2 45 yX2_isBuyer, Cond.instanceMethod yX2_isBuyer, Cond.selects RX2 yX2_isBuyer yX2_isBuyer, Cond.code yX2_isBuyer cX2_isBuyer 2 (some .boolean), Cond.methodLink RL 23 yX1_more, Cond.instanceMethod yX1_more, Cond.selects RX1 yX1_more yX1_more, Cond.code yX1_more cX1_more 5 (some .int)]
def wsL_law_r6 : List Cond := [Cond.methodLink RX1 61 yX0_worthAt, Cond.methodLink RX1 65 yX0_add, Cond.instanceMethod yX0_add, Cond.selects RX0 yX0_add yX0_add, Cond.code yX0_add cX0_add 3 none, Cond.methodLink RL 26 yX2_more, Cond.instanceMethod yX2_more, Cond.selects RX2 yX2_more yX2_more, Cond.code yX2_more cX2_more 4 (some .int), Cond.methodLink RL 27 yX1_about, Cond.instanceMethod yX1_about, Cond.selects RX1 yX1_about yX1_about, Cond.code yX1_about cX1_about 5 (some .int), Cond.methodLink RX1 68 yX0_has, Cond.instanceMethod yX0_has, Cond.selects RX0 yX0_has yX0_has, Cond.code yX0_has cX0_has 2 (some .boolean), Cond.methodLink RX1 71 yX0_weightAt, Cond.instanceMethod yX0_weightAt, Cond.selects RX0 yX0_weightAt yX0_weightAt, Cond.code yX0_weightAt cX0_weightAt 2 (some .int), Cond.methodLink RX1 74 yX0_shareAt, Cond.methodLink RX1 77 yX0_takeAt, Cond.methodLink RL 30 yX2_about]
def wsL_law_r7 : List Cond := [Cond.instanceMethod yX2_about, Cond.selects RX2 yX2_about yX2_about, Cond.code yX2_about cX2_about 4 (some .int), Cond.methodLink RX2 56 yX2_isPlace, Cond.instanceMethod yX2_isPlace, Cond.selects RX2 yX2_isPlace yX2_isPlace, Cond.code yX2_isPlace cX2_isPlace 3 (some .boolean), Cond.methodLink RX2 49 yX2_share, Cond.instanceMethod yX2_share, Cond.selects RX2 yX2_share yX2_share, Cond.code yX2_share cX2_share 5 (some .int), Cond.methodLink RX2 53 yX2_take, Cond.instanceMethod yX2_take, Cond.selects RX2 yX2_take yX2_take, Cond.code yX2_take cX2_take 3 (some .int), Cond.methodLink RL 31 yX1_whole, Cond.instanceMethod yX1_whole, Cond.selects RX1 yX1_whole yX1_whole, Cond.code yX1_whole cX1_whole 4 (some .int), Cond.methodLink RX1 80 yX0_allWeights, Cond.instanceMethod yX0_allWeights, Cond.selects RX0 yX0_allWeights yX0_allWeights, Cond.code yX0_allWeights cX0_allWeights 1 (some .int), Cond.methodLink RX1 84 yX0_bestPlace]
def wsL_law_r8 : List Cond := [Cond.instanceMethod yX0_bestPlace, Cond.selects RX0 yX0_bestPlace yX0_bestPlace, Cond.code yX0_bestPlace cX0_bestPlace 3 (some .int), Cond.methodLink RL 35 yX2_whole, Cond.instanceMethod yX2_whole, Cond.selects RX2 yX2_whole yX2_whole, Cond.code yX2_whole cX2_whole 3 (some .int), Cond.methodLink RX2 60 yX2_bestOf, Cond.instanceMethod yX2_bestOf, Cond.selects RX2 yX2_bestOf yX2_bestOf, Cond.code yX2_bestOf cX2_bestOf 4 (some .int), Cond.methodLink RL 36 yX1_slope, Cond.instanceMethod yX1_slope, Cond.selects RX1 yX1_slope yX1_slope, Cond.code yX1_slope cX1_slope 6 (some .long), Cond.constantLong RX1 90 (-1000000000000000), Cond.methodLink RX1 87 yX1_isPart, Cond.static yX1_isPart, Cond.code yX1_isPart cX1_isPart 1 (some .boolean), Cond.methodLink RX1 92 yX0_ironedUpper, Cond.instanceMethod yX0_ironedUpper, Cond.selects RX0 yX0_ironedUpper yX0_ironedUpper, Cond.code yX0_ironedUpper cX0_ironedUpper 2 (some .long), Cond.methodLink RX1 96 yX0_ironedLower]
def wsL_law_r9 : List Cond := [Cond.instanceMethod yX0_ironedLower, Cond.selects RX0 yX0_ironedLower yX0_ironedLower, Cond.code yX0_ironedLower cX0_ironedLower 2 (some .long), Cond.methodLink RX1 99 yX1_leastPart, Cond.static yX1_leastPart, Cond.code yX1_leastPart cX1_leastPart 7 (some .long), Cond.methodLink RX1 185 Lib.MathLoose.abs_long.x, Cond.static Lib.MathLoose.abs_long.x, Cond.code Lib.MathLoose.abs_long.x Lib.MathLoose.abs_long.code 2 (some .long), Cond.methodLink RX1 189 yX1_commonDivisor, Cond.static yX1_commonDivisor, Cond.code yX1_commonDivisor cX1_commonDivisor 11 (some .long), Cond.methodLink RL 40 yX2_slope, Cond.instanceMethod yX2_slope, Cond.selects RX2 yX2_slope yX2_slope, Cond.code yX2_slope cX2_slope 5 (some .long), Cond.constantLong RX2 75 (-1000000000000000), Cond.fieldLink RX2 64 "DoubtSaleModel" "upper" "J", Cond.fieldLink RX2 68 "DoubtSaleModel" "lower" "J", Cond.methodLink RX2 77 yX2_irons, Cond.instanceMethod yX2_irons, Cond.selects RX2 yX2_irons yX2_irons, Cond.code yX2_irons cX2_irons 13 none, Cond.methodLink RX2 81 yX2_part]
def wsL_law_r10 : List Cond := [Cond.instanceMethod yX2_part, Cond.selects RX2 yX2_part yX2_part, Cond.code yX2_part cX2_part 8 (some .long), Cond.methodLink RX2 71 yX2_common, Cond.static yX2_common, Cond.code yX2_common cX2_common 10 (some .long), Cond.methodLink RL 41 yX1_gets, Cond.instanceMethod yX1_gets, Cond.selects RX1 yX1_gets yX1_gets, Cond.code yX1_gets cX1_gets 4 (some .int), Cond.methodLink RX1 103 yX1_arePlaces, Cond.instanceMethod yX1_arePlaces, Cond.selects RX1 yX1_arePlaces yX1_arePlaces, Cond.code yX1_arePlaces cX1_arePlaces 5 (some .boolean), Cond.methodLink RX1 119 yX1_pick, Cond.static yX1_pick, Cond.code yX1_pick cX1_pick 4 (some .int), Cond.methodLink RX1 107 yX1_winner, Cond.instanceMethod yX1_winner, Cond.selects RX1 yX1_winner yX1_winner, Cond.code yX1_winner cX1_winner 15 (some .int), Cond.methodLink RL 44 yX2_gets, Cond.instanceMethod yX2_gets, Cond.selects RX2 yX2_gets yX2_gets]
def wsL_law_r11 : List Cond := [Cond.code yX2_gets cX2_gets 4 (some .int), Cond.methodLink RX2 89 yX2_isPlaces, Cond.instanceMethod yX2_isPlaces, Cond.selects RX2 yX2_isPlaces yX2_isPlaces, Cond.code yX2_isPlaces cX2_isPlaces 6 (some .boolean), Cond.methodLink RX2 85 yX2_getter, Cond.instanceMethod yX2_getter, Cond.selects RX2 yX2_getter yX2_getter, Cond.code yX2_getter cX2_getter 7 (some .int), Cond.methodLink RL 45 yX1_pays, Cond.instanceMethod yX1_pays, Cond.selects RX1 yX1_pays yX1_pays, Cond.code yX1_pays cX1_pays 5 (some .int), Cond.methodLink RX1 111 yX1_leastWinning, Cond.instanceMethod yX1_leastWinning, Cond.selects RX1 yX1_leastWinning yX1_leastWinning, Cond.code yX1_leastWinning cX1_leastWinning 7 (some .int), Cond.methodLink RX1 115 yX1_getsWith, Cond.instanceMethod yX1_getsWith, Cond.selects RX1 yX1_getsWith yX1_getsWith, Cond.code yX1_getsWith cX1_getsWith 6 (some .boolean), Cond.methodLink RL 49 yX2_pays, Cond.instanceMethod yX2_pays, Cond.selects RX2 yX2_pays yX2_pays]
def wsL_law_r12 : List Cond := [Cond.code yX2_pays cX2_pays 5 (some .int), Cond.methodLink RX2 92 yX2_paid, Cond.instanceMethod yX2_paid, Cond.selects RX2 yX2_paid yX2_paid, Cond.code yX2_paid cX2_paid 5 (some .int), Cond.methodLink RL 50 yX1_gain, Cond.instanceMethod yX1_gain, Cond.selects RX1 yX1_gain yX1_gain, Cond.code yX1_gain cX1_gain 7 (some .long), Cond.methodLink RL 54 yX2_gain, Cond.instanceMethod yX2_gain, Cond.selects RX2 yX2_gain yX2_gain, Cond.code yX2_gain cX2_gain 7 (some .long), Cond.methodLink RL 55 yX1_brings, Cond.instanceMethod yX1_brings, Cond.selects RX1 yX1_brings yX1_brings, Cond.code yX1_brings cX1_brings 2 (some .long), Cond.methodLink RX1 122 yX1_meanPaid, Cond.instanceMethod yX1_meanPaid, Cond.selects RX1 yX1_meanPaid yX1_meanPaid, Cond.code yX1_meanPaid cX1_meanPaid 10 (some .long), Cond.methodLink RX1 182 yX1_paidAt, Cond.instanceMethod yX1_paidAt, Cond.selects RX1 yX1_paidAt yX1_paidAt]
def wsL_law_r13 : List Cond := [Cond.code yX1_paidAt cX1_paidAt 6 (some .int), Cond.methodLink RX1 132 yX1_paidByKind, Cond.instanceMethod yX1_paidByKind, Cond.selects RX1 yX1_paidByKind yX1_paidByKind, Cond.code yX1_paidByKind cX1_paidByKind 9 (some .int), Cond.methodLink RX1 170 Lib.Math.min.name, Cond.static Lib.Math.min.name, Cond.code Lib.Math.min.name Lib.Math.min.code 2 (some .int), Cond.methodLink RX1 176 Lib.Math.max.name, Cond.methodLink RX1 179 yX1_priceOf, Cond.instanceMethod yX1_priceOf, Cond.selects RX1 yX1_priceOf yX1_priceOf, Cond.code yX1_priceOf cX1_priceOf 4 (some .int), Cond.methodLink RL 59 yX2_brings, Cond.instanceMethod yX2_brings, Cond.selects RX2 yX2_brings yX2_brings, Cond.code yX2_brings cX2_brings 7 (some .long), Cond.methodLink RX2 95 yX2_comes, Cond.instanceMethod yX2_comes, Cond.selects RX2 yX2_comes yX2_comes, Cond.code yX2_comes cX2_comes 5 (some .int), Cond.methodLink RX2 98 yX2_all, Cond.instanceMethod yX2_all, Cond.selects RX2 yX2_all yX2_all]
def wsL_law_r14 : List Cond := [Cond.code yX2_all cX2_all 3 (some .int), Cond.methodLink RL 60 yX1_reserve, Cond.instanceMethod yX1_reserve, Cond.selects RX1 yX1_reserve yX1_reserve, Cond.code yX1_reserve cX1_reserve 3 (some .int), Cond.methodLink RL 63 yX2_reserve, Cond.instanceMethod yX2_reserve, Cond.selects RX2 yX2_reserve yX2_reserve, Cond.code yX2_reserve cX2_reserve 3 (some .int), Cond.fieldLink RX2 101 "DoubtSaleModel" "reserve" "I", Cond.methodLink RL 64 yX1_pay, Cond.instanceMethod yX1_pay, Cond.selects RX1 yX1_pay yX1_pay, Cond.code yX1_pay cX1_pay 6 (some .int), Cond.methodLink RX1 126 yX1_isKind, Cond.static yX1_isKind, Cond.code yX1_isKind cX1_isKind 1 (some .boolean), Cond.methodLink RX1 129 yX1_areWorths, Cond.instanceMethod yX1_areWorths, Cond.selects RX1 yX1_areWorths yX1_areWorths, Cond.code yX1_areWorths cX1_areWorths 5 (some .boolean), Cond.methodLink RX1 135 yX1_asksOf, Cond.static yX1_asksOf, Cond.code yX1_asksOf cX1_asksOf 1 (some .int)]
def wsL_law_r15 : List Cond := [Cond.methodLink RL 67 yX2_pay, Cond.instanceMethod yX2_pay, Cond.selects RX2 yX2_pay yX2_pay, Cond.code yX2_pay cX2_pay 7 (some .int), Cond.fieldLink RX2 107 "DoubtSaleModel" "trace" "J", Cond.constantLong RX2 110 (11), Cond.constantLong RX2 112 (111), Cond.methodLink RX2 104 yX2_payOf, Cond.instanceMethod yX2_payOf, Cond.selects RX2 yX2_payOf yX2_payOf, Cond.code yX2_payOf cX2_payOf 5 (some .int), Cond.methodLink RL 68 yX1_average, Cond.instanceMethod yX1_average, Cond.selects RX1 yX1_average yX1_average, Cond.code yX1_average cX1_average 3 (some .long), Cond.methodLink RL 72 yX2_average, Cond.instanceMethod yX2_average, Cond.selects RX2 yX2_average yX2_average, Cond.code yX2_average cX2_average 8 (some .long), Cond.methodLink RL 73 yX1_offers, Cond.instanceMethod yX1_offers, Cond.selects RX1 yX1_offers yX1_offers, Cond.code yX1_offers cX1_offers 12 (some .long), Cond.constantLong RX1 145 (1001)]
def wsL_law_r16 : List Cond := [Cond.methodLink RX1 138 yX1_isOrder, Cond.instanceMethod yX1_isOrder, Cond.selects RX1 yX1_isOrder yX1_isOrder, Cond.code yX1_isOrder cX1_isOrder 6 (some .boolean), Cond.methodLink RX1 141 yX1_bestOffer, Cond.static yX1_bestOffer, Cond.code yX1_bestOffer cX1_bestOffer 7 (some .int), Cond.methodLink RX1 147 yX1_offerBrings, Cond.static yX1_offerBrings, Cond.code yX1_offerBrings cX1_offerBrings 6 (some .long), Cond.methodLink RL 76 yX2_offers, Cond.instanceMethod yX2_offers, Cond.selects RX2 yX2_offers yX2_offers, Cond.code yX2_offers cX2_offers 20 (some .long), Cond.methodLink RL 77 yX1_bundle, Cond.instanceMethod yX1_bundle, Cond.selects RX1 yX1_bundle yX1_bundle, Cond.code yX1_bundle cX1_bundle 8 (some .int), Cond.methodLink RX1 151 yX1_bestSum, Cond.static yX1_bestSum, Cond.code yX1_bestSum cX1_bestSum 8 (some .int), Cond.methodLink RX1 155 yX1_pairsFrom, Cond.static yX1_pairsFrom, Cond.code yX1_pairsFrom cX1_pairsFrom 6 (some .int)]
def wsL_law_r17 : List Cond := [Cond.methodLink RX1 159 yX1_bothAlone, Cond.static yX1_bothAlone, Cond.code yX1_bothAlone cX1_bothAlone 2 (some .int), Cond.methodLink RX1 162 yJ6_signum_0f7a4, Cond.static yJ6_signum_0f7a4, Cond.initialized RJ6, Cond.code yJ6_signum_0f7a4 cJ6_signum_0f7a4 1 (some .int), Cond.methodLink RL 80 yX2_bundle, Cond.instanceMethod yX2_bundle, Cond.selects RX2 yX2_bundle yX2_bundle, Cond.code yX2_bundle cX2_bundle 12 (some .int), Cond.constantLong RX2 114 (-1), Cond.methodLink RX2 116 yX2_pairs, Cond.instanceMethod yX2_pairs, Cond.selects RX2 yX2_pairs yX2_pairs, Cond.code yX2_pairs cX2_pairs 7 (some .int), Cond.methodLink RL 81 yX1_sample, Cond.instanceMethod yX1_sample, Cond.selects RX1 yX1_sample yX1_sample, Cond.code yX1_sample cX1_sample 2 (some .int), Cond.methodLink RL 84 yX2_sample, Cond.instanceMethod yX2_sample, Cond.selects RX2 yX2_sample yX2_sample, Cond.code yX2_sample cX2_sample 2 (some .int)]
def wsL_law_r18 : List Cond := [Cond.fieldLink RX2 120 "DoubtSaleModel" "samples" "I", Cond.methodLink RL 85 yX1_clear, Cond.instanceMethod yX1_clear, Cond.selects RX1 yX1_clear yX1_clear, Cond.code yX1_clear cX1_clear 2 (some .int), Cond.methodLink RL 89 yX2_clear, Cond.instanceMethod yX2_clear, Cond.selects RX2 yX2_clear yX2_clear, Cond.code yX2_clear cX2_clear 2 (some .int), Cond.methodLink RL 90 yX1_learnt, Cond.instanceMethod yX1_learnt, Cond.selects RX1 yX1_learnt yX1_learnt, Cond.code yX1_learnt cX1_learnt 5 (some .int), Cond.methodLink RX1 167 yX1_samplesFrom, Cond.instanceMethod yX1_samplesFrom, Cond.selects RX1 yX1_samplesFrom yX1_samplesFrom, Cond.code yX1_samplesFrom cX1_samplesFrom 4 (some .int), Cond.methodLink RL 93 yX2_learnt, Cond.instanceMethod yX2_learnt, Cond.selects RX2 yX2_learnt yX2_learnt, Cond.code yX2_learnt cX2_learnt 6 (some .int), Cond.methodLink RL 94 yX1_count, Cond.instanceMethod yX1_count, Cond.selects RX1 yX1_count yX1_count]
def wsL_law_r19 : List Cond := [Cond.code yX1_count cX1_count 2 (some .int), Cond.methodLink RL 97 yX2_count, Cond.instanceMethod yX2_count, Cond.selects RX2 yX2_count yX2_count, Cond.code yX2_count cX2_count 2 (some .int), Cond.methodLink RL 98 yX1_trace, Cond.instanceMethod yX1_trace, Cond.selects RX1 yX1_trace yX1_trace, Cond.code yX1_trace cX1_trace 1 (some .long), Cond.methodLink RL 102 yX2_trace, Cond.instanceMethod yX2_trace, Cond.selects RX2 yX2_trace yX2_trace, Cond.code yX2_trace cX2_trace 1 (some .long)]
def wsL_law : List Cond := (wsL_law_r1 ++ (wsL_law_r2 ++ (wsL_law_r3 ++ (wsL_law_r4 ++ (wsL_law_r5 ++ (wsL_law_r6 ++ (wsL_law_r7 ++ (wsL_law_r8 ++ (wsL_law_r9 ++ (wsL_law_r10 ++ (wsL_law_r11 ++ (wsL_law_r12 ++ (wsL_law_r13 ++ (wsL_law_r14 ++ (wsL_law_r15 ++ (wsL_law_r16 ++ (wsL_law_r17 ++ (wsL_law_r18 ++ wsL_law_r19)))))))))))))))))) ++ wsX10 ++ wsX20 ++ wsX00 ++ ([] : List Cond)
set_option maxRecDepth 20000 in
theorem ggX0_init_X0_begin : GoodIn wsX0_init wsX0_begin := goodIn_r _ [14, 5, 6, 9, 15, 16, 17, 13, 18, 7, 8, 19, 20, 21, 22, 23, 24, 25, 26, 27, 28, 29, 30, 31, 32, 33, 34, 35, 36, 37, 38, 39, 40, 41, 42, 43] (by decide +kernel) (by decide +kernel)
set_option maxRecDepth 20000 in
theorem gX0_init_X0_begin : GoodIn wsX0_init (wsV RX0 28 RX0 yX0_begin wsX0_begin) := goodIn_app (goodIn_of _ (by decide +kernel)) ggX0_init_X0_begin
theorem dX0_init_0 : decode cX0_init 0 = .ok (.aload_n 0, 1) := by decide +kernel
theorem dX0_init_1 : decode cX0_init 1 = .ok (.invokespecial 3, 3) := by decide +kernel
theorem dX0_init_4 : decode cX0_init 4 = .ok (.aload_n 0, 1) := by decide +kernel
theorem dX0_init_5 : decode cX0_init 5 = .ok (.iconst 5, 1) := by decide +kernel
theorem dX0_init_6 : decode cX0_init 6 = .ok (.newarray .int, 2) := by decide +kernel
theorem dX0_init_8 : decode cX0_init 8 = .ok (.putfield 9, 3) := by decide +kernel
theorem dX0_init_11 : decode cX0_init 11 = .ok (.aload_n 0, 1) := by decide +kernel
theorem dX0_init_12 : decode cX0_init 12 = .ok (.iconst 5, 1) := by decide +kernel
theorem dX0_init_13 : decode cX0_init 13 = .ok (.newarray .int, 2) := by decide +kernel
theorem dX0_init_15 : decode cX0_init 15 = .ok (.putfield 15, 3) := by decide +kernel
theorem dX0_init_18 : decode cX0_init 18 = .ok (.aload_n 0, 1) := by decide +kernel
theorem dX0_init_19 : decode cX0_init 19 = .ok (.iconst 5, 1) := by decide +kernel
theorem dX0_init_20 : decode cX0_init 20 = .ok (.newarray .int, 2) := by decide +kernel
theorem dX0_init_22 : decode cX0_init 22 = .ok (.putfield 18, 3) := by decide +kernel
theorem dX0_init_25 : decode cX0_init 25 = .ok (.aload_n 0, 1) := by decide +kernel
theorem dX0_init_26 : decode cX0_init 26 = .ok (.iconst 5, 1) := by decide +kernel
theorem dX0_init_27 : decode cX0_init 27 = .ok (.newarray .int, 2) := by decide +kernel
theorem dX0_init_29 : decode cX0_init 29 = .ok (.putfield 21, 3) := by decide +kernel
theorem dX0_init_32 : decode cX0_init 32 = .ok (.aload_n 0, 1) := by decide +kernel
theorem dX0_init_33 : decode cX0_init 33 = .ok (.iconst 0, 1) := by decide +kernel
theorem dX0_init_34 : decode cX0_init 34 = .ok (.putfield 24, 3) := by decide +kernel
theorem dX0_init_37 : decode cX0_init 37 = .ok (.aload_n 0, 1) := by decide +kernel
theorem dX0_init_38 : decode cX0_init 38 = .ok (.iconst 0, 1) := by decide +kernel
theorem dX0_init_39 : decode cX0_init 39 = .ok (.iconst 1, 1) := by decide +kernel
theorem dX0_init_40 : decode cX0_init 40 = .ok (.invokevirtual 28, 3) := by decide +kernel
theorem dX0_init_43 : decode cX0_init 43 = .ok (.return_, 1) := by decide +kernel
set_option maxRecDepth 20000 in
theorem ggX0_begin_X0_iron : GoodIn wsX0_begin wsX0_iron := goodIn_r _ [8, 3, 9, 10, 11, 12, 13, 7, 14, 15, 16, 17, 18, 19, 20, 21, 22, 1, 23, 24, 25, 26, 27, 28, 29, 30, 2, 31, 32, 33, 34, 35] (by decide +kernel) (by decide +kernel)
set_option maxRecDepth 20000 in
theorem gX0_begin_X0_iron : GoodIn wsX0_begin (wsV RX0 32 RX0 yX0_iron wsX0_iron) := goodIn_app (goodIn_of _ (by decide +kernel)) ggX0_begin_X0_iron
theorem dX0_begin_0 : decode cX0_begin 0 = .ok (.aload_n 0, 1) := by decide +kernel
theorem dX0_begin_1 : decode cX0_begin 1 = .ok (.getfield 9, 3) := by decide +kernel
theorem dX0_begin_4 : decode cX0_begin 4 = .ok (.iconst 0, 1) := by decide +kernel
theorem dX0_begin_5 : decode cX0_begin 5 = .ok (.iload_n 1, 1) := by decide +kernel
theorem dX0_begin_6 : decode cX0_begin 6 = .ok (.iastore, 1) := by decide +kernel
theorem dX0_begin_7 : decode cX0_begin 7 = .ok (.aload_n 0, 1) := by decide +kernel
theorem dX0_begin_8 : decode cX0_begin 8 = .ok (.getfield 15, 3) := by decide +kernel
theorem dX0_begin_11 : decode cX0_begin 11 = .ok (.iconst 0, 1) := by decide +kernel
theorem dX0_begin_12 : decode cX0_begin 12 = .ok (.iload_n 2, 1) := by decide +kernel
theorem dX0_begin_13 : decode cX0_begin 13 = .ok (.iastore, 1) := by decide +kernel
theorem dX0_begin_14 : decode cX0_begin 14 = .ok (.aload_n 0, 1) := by decide +kernel
theorem dX0_begin_15 : decode cX0_begin 15 = .ok (.iconst 1, 1) := by decide +kernel
theorem dX0_begin_16 : decode cX0_begin 16 = .ok (.putfield 24, 3) := by decide +kernel
theorem dX0_begin_19 : decode cX0_begin 19 = .ok (.aload_n 0, 1) := by decide +kernel
theorem dX0_begin_20 : decode cX0_begin 20 = .ok (.invokevirtual 32, 3) := by decide +kernel
theorem dX0_begin_23 : decode cX0_begin 23 = .ok (.return_, 1) := by decide +kernel
set_option maxRecDepth 20000 in
theorem ggX0_add_X0_iron : GoodIn wsX0_add wsX0_iron := goodIn_r _ [8, 1, 9, 10, 11, 12, 13, 7, 14, 15, 16, 17, 18, 19, 20, 21, 22, 2, 23, 24, 25, 26, 27, 28, 29, 30, 3, 31, 32, 33, 34, 35] (by decide +kernel) (by decide +kernel)
set_option maxRecDepth 20000 in
theorem gX0_add_X0_iron : GoodIn wsX0_add (wsV RX0 32 RX0 yX0_iron wsX0_iron) := goodIn_app (goodIn_of _ (by decide +kernel)) ggX0_add_X0_iron
theorem dX0_add_0 : decode cX0_add 0 = .ok (.aload_n 0, 1) := by decide +kernel
theorem dX0_add_1 : decode cX0_add 1 = .ok (.getfield 24, 3) := by decide +kernel
theorem dX0_add_4 : decode cX0_add 4 = .ok (.iconst 5, 1) := by decide +kernel
theorem dX0_add_5 : decode cX0_add 5 = .ok (.if_icmp .lt 4, 3) := by decide +kernel
theorem dX0_add_8 : decode cX0_add 8 = .ok (.return_, 1) := by decide +kernel
theorem dX0_add_9 : decode cX0_add 9 = .ok (.aload_n 0, 1) := by decide +kernel
theorem dX0_add_10 : decode cX0_add 10 = .ok (.getfield 9, 3) := by decide +kernel
theorem dX0_add_13 : decode cX0_add 13 = .ok (.aload_n 0, 1) := by decide +kernel
theorem dX0_add_14 : decode cX0_add 14 = .ok (.getfield 24, 3) := by decide +kernel
theorem dX0_add_17 : decode cX0_add 17 = .ok (.iload_n 1, 1) := by decide +kernel
theorem dX0_add_18 : decode cX0_add 18 = .ok (.iastore, 1) := by decide +kernel
theorem dX0_add_19 : decode cX0_add 19 = .ok (.aload_n 0, 1) := by decide +kernel
theorem dX0_add_20 : decode cX0_add 20 = .ok (.getfield 15, 3) := by decide +kernel
theorem dX0_add_23 : decode cX0_add 23 = .ok (.aload_n 0, 1) := by decide +kernel
theorem dX0_add_24 : decode cX0_add 24 = .ok (.getfield 24, 3) := by decide +kernel
theorem dX0_add_27 : decode cX0_add 27 = .ok (.iload_n 2, 1) := by decide +kernel
theorem dX0_add_28 : decode cX0_add 28 = .ok (.iastore, 1) := by decide +kernel
theorem dX0_add_29 : decode cX0_add 29 = .ok (.aload_n 0, 1) := by decide +kernel
theorem dX0_add_30 : decode cX0_add 30 = .ok (.dup, 1) := by decide +kernel
theorem dX0_add_31 : decode cX0_add 31 = .ok (.getfield 24, 3) := by decide +kernel
theorem dX0_add_34 : decode cX0_add 34 = .ok (.iconst 1, 1) := by decide +kernel
theorem dX0_add_35 : decode cX0_add 35 = .ok (.iadd, 1) := by decide +kernel
theorem dX0_add_36 : decode cX0_add 36 = .ok (.putfield 24, 3) := by decide +kernel
theorem dX0_add_39 : decode cX0_add 39 = .ok (.aload_n 0, 1) := by decide +kernel
theorem dX0_add_40 : decode cX0_add 40 = .ok (.invokevirtual 32, 3) := by decide +kernel
theorem dX0_add_43 : decode cX0_add 43 = .ok (.return_, 1) := by decide +kernel
theorem dX0_has_0 : decode cX0_has 0 = .ok (.iload_n 1, 1) := by decide +kernel
theorem dX0_has_1 : decode cX0_has 1 = .ok (.ifCond .lt 15, 3) := by decide +kernel
theorem dX0_has_4 : decode cX0_has 4 = .ok (.iload_n 1, 1) := by decide +kernel
theorem dX0_has_5 : decode cX0_has 5 = .ok (.aload_n 0, 1) := by decide +kernel
theorem dX0_has_6 : decode cX0_has 6 = .ok (.getfield 24, 3) := by decide +kernel
theorem dX0_has_9 : decode cX0_has 9 = .ok (.if_icmp .ge 7, 3) := by decide +kernel
theorem dX0_has_12 : decode cX0_has 12 = .ok (.iconst 1, 1) := by decide +kernel
theorem dX0_has_13 : decode cX0_has 13 = .ok (.goto 4, 3) := by decide +kernel
theorem dX0_has_16 : decode cX0_has 16 = .ok (.iconst 0, 1) := by decide +kernel
theorem dX0_has_17 : decode cX0_has 17 = .ok (.ireturn, 1) := by decide +kernel
theorem dX0_worthAt_0 : decode cX0_worthAt 0 = .ok (.iload_n 1, 1) := by decide +kernel
theorem dX0_worthAt_1 : decode cX0_worthAt 1 = .ok (.ifCond .lt 20, 3) := by decide +kernel
theorem dX0_worthAt_4 : decode cX0_worthAt 4 = .ok (.iload_n 1, 1) := by decide +kernel
theorem dX0_worthAt_5 : decode cX0_worthAt 5 = .ok (.aload_n 0, 1) := by decide +kernel
theorem dX0_worthAt_6 : decode cX0_worthAt 6 = .ok (.getfield 24, 3) := by decide +kernel
theorem dX0_worthAt_9 : decode cX0_worthAt 9 = .ok (.if_icmp .ge 12, 3) := by decide +kernel
theorem dX0_worthAt_12 : decode cX0_worthAt 12 = .ok (.aload_n 0, 1) := by decide +kernel
theorem dX0_worthAt_13 : decode cX0_worthAt 13 = .ok (.getfield 9, 3) := by decide +kernel
theorem dX0_worthAt_16 : decode cX0_worthAt 16 = .ok (.iload_n 1, 1) := by decide +kernel
theorem dX0_worthAt_17 : decode cX0_worthAt 17 = .ok (.iaload, 1) := by decide +kernel
theorem dX0_worthAt_18 : decode cX0_worthAt 18 = .ok (.goto 4, 3) := by decide +kernel
theorem dX0_worthAt_21 : decode cX0_worthAt 21 = .ok (.iconst 0, 1) := by decide +kernel
theorem dX0_worthAt_22 : decode cX0_worthAt 22 = .ok (.ireturn, 1) := by decide +kernel
theorem dX0_weightAt_0 : decode cX0_weightAt 0 = .ok (.iload_n 1, 1) := by decide +kernel
theorem dX0_weightAt_1 : decode cX0_weightAt 1 = .ok (.ifCond .lt 20, 3) := by decide +kernel
theorem dX0_weightAt_4 : decode cX0_weightAt 4 = .ok (.iload_n 1, 1) := by decide +kernel
theorem dX0_weightAt_5 : decode cX0_weightAt 5 = .ok (.aload_n 0, 1) := by decide +kernel
theorem dX0_weightAt_6 : decode cX0_weightAt 6 = .ok (.getfield 24, 3) := by decide +kernel
theorem dX0_weightAt_9 : decode cX0_weightAt 9 = .ok (.if_icmp .ge 12, 3) := by decide +kernel
theorem dX0_weightAt_12 : decode cX0_weightAt 12 = .ok (.aload_n 0, 1) := by decide +kernel
theorem dX0_weightAt_13 : decode cX0_weightAt 13 = .ok (.getfield 15, 3) := by decide +kernel
theorem dX0_weightAt_16 : decode cX0_weightAt 16 = .ok (.iload_n 1, 1) := by decide +kernel
theorem dX0_weightAt_17 : decode cX0_weightAt 17 = .ok (.iaload, 1) := by decide +kernel
theorem dX0_weightAt_18 : decode cX0_weightAt 18 = .ok (.goto 4, 3) := by decide +kernel
theorem dX0_weightAt_21 : decode cX0_weightAt 21 = .ok (.iconst 0, 1) := by decide +kernel
theorem dX0_weightAt_22 : decode cX0_weightAt 22 = .ok (.ireturn, 1) := by decide +kernel
theorem dX0_shareAt_0 : decode cX0_shareAt 0 = .ok (.iconst 0, 1) := by decide +kernel
theorem dX0_shareAt_1 : decode cX0_shareAt 1 = .ok (.istore_n 2, 1) := by decide +kernel
theorem dX0_shareAt_2 : decode cX0_shareAt 2 = .ok (.iload_n 1, 1) := by decide +kernel
theorem dX0_shareAt_3 : decode cX0_shareAt 3 = .ok (.iconst 0, 1) := by decide +kernel
theorem dX0_shareAt_4 : decode cX0_shareAt 4 = .ok (.invokestatic 35, 3) := by decide +kernel
theorem dX0_shareAt_7 : decode cX0_shareAt 7 = .ok (.istore_n 3, 1) := by decide +kernel
theorem dX0_shareAt_8 : decode cX0_shareAt 8 = .ok (.iload_n 3, 1) := by decide +kernel
theorem dX0_shareAt_9 : decode cX0_shareAt 9 = .ok (.aload_n 0, 1) := by decide +kernel
theorem dX0_shareAt_10 : decode cX0_shareAt 10 = .ok (.getfield 24, 3) := by decide +kernel
theorem dX0_shareAt_13 : decode cX0_shareAt 13 = .ok (.if_icmp .ge 18, 3) := by decide +kernel
theorem dX0_shareAt_16 : decode cX0_shareAt 16 = .ok (.iload_n 2, 1) := by decide +kernel
theorem dX0_shareAt_17 : decode cX0_shareAt 17 = .ok (.aload_n 0, 1) := by decide +kernel
theorem dX0_shareAt_18 : decode cX0_shareAt 18 = .ok (.getfield 15, 3) := by decide +kernel
theorem dX0_shareAt_21 : decode cX0_shareAt 21 = .ok (.iload_n 3, 1) := by decide +kernel
theorem dX0_shareAt_22 : decode cX0_shareAt 22 = .ok (.iaload, 1) := by decide +kernel
theorem dX0_shareAt_23 : decode cX0_shareAt 23 = .ok (.iadd, 1) := by decide +kernel
theorem dX0_shareAt_24 : decode cX0_shareAt 24 = .ok (.istore_n 2, 1) := by decide +kernel
theorem dX0_shareAt_25 : decode cX0_shareAt 25 = .ok (.iinc 3 1, 3) := by decide +kernel
theorem dX0_shareAt_28 : decode cX0_shareAt 28 = .ok (.goto (-20), 3) := by decide +kernel
theorem dX0_shareAt_31 : decode cX0_shareAt 31 = .ok (.iload_n 2, 1) := by decide +kernel
theorem dX0_shareAt_32 : decode cX0_shareAt 32 = .ok (.ireturn, 1) := by decide +kernel
set_option maxRecDepth 20000 in
theorem ggX0_allWeights_X0_shareAt : GoodIn wsX0_allWeights wsX0_shareAt := goodIn_r _ [5, 6, 7, 8, 9, 10, 11, 12, 13, 14, 15, 16] (by decide +kernel) (by decide +kernel)
set_option maxRecDepth 20000 in
theorem gX0_allWeights_X0_shareAt : GoodIn wsX0_allWeights (wsV RX0 41 RX0 yX0_shareAt wsX0_shareAt) := goodIn_app (goodIn_of _ (by decide +kernel)) ggX0_allWeights_X0_shareAt
theorem dX0_allWeights_0 : decode cX0_allWeights 0 = .ok (.aload_n 0, 1) := by decide +kernel
theorem dX0_allWeights_1 : decode cX0_allWeights 1 = .ok (.iconst 0, 1) := by decide +kernel
theorem dX0_allWeights_2 : decode cX0_allWeights 2 = .ok (.invokevirtual 41, 3) := by decide +kernel
theorem dX0_allWeights_5 : decode cX0_allWeights 5 = .ok (.ireturn, 1) := by decide +kernel
set_option maxRecDepth 20000 in
theorem ggX0_takeAt_X0_worthAt : GoodIn wsX0_takeAt wsX0_worthAt := goodIn_r _ [5, 6, 7, 17, 18, 19, 20, 21] (by decide +kernel) (by decide +kernel)
set_option maxRecDepth 20000 in
theorem gX0_takeAt_X0_worthAt : GoodIn wsX0_takeAt (wsV RX0 45 RX0 yX0_worthAt wsX0_worthAt) := goodIn_app (goodIn_of _ (by decide +kernel)) ggX0_takeAt_X0_worthAt
set_option maxRecDepth 20000 in
theorem ggX0_takeAt_X0_shareAt : GoodIn wsX0_takeAt wsX0_shareAt := goodIn_r _ [11, 12, 13, 14, 15, 6, 16, 17, 18, 19, 20, 21] (by decide +kernel) (by decide +kernel)
set_option maxRecDepth 20000 in
theorem gX0_takeAt_X0_shareAt : GoodIn wsX0_takeAt (wsV RX0 41 RX0 yX0_shareAt wsX0_shareAt) := goodIn_app (goodIn_of _ (by decide +kernel)) ggX0_takeAt_X0_shareAt
theorem dX0_takeAt_0 : decode cX0_takeAt 0 = .ok (.aload_n 0, 1) := by decide +kernel
theorem dX0_takeAt_1 : decode cX0_takeAt 1 = .ok (.iload_n 1, 1) := by decide +kernel
theorem dX0_takeAt_2 : decode cX0_takeAt 2 = .ok (.invokevirtual 45, 3) := by decide +kernel
theorem dX0_takeAt_5 : decode cX0_takeAt 5 = .ok (.aload_n 0, 1) := by decide +kernel
theorem dX0_takeAt_6 : decode cX0_takeAt 6 = .ok (.iload_n 1, 1) := by decide +kernel
theorem dX0_takeAt_7 : decode cX0_takeAt 7 = .ok (.invokevirtual 41, 3) := by decide +kernel
theorem dX0_takeAt_10 : decode cX0_takeAt 10 = .ok (.imul, 1) := by decide +kernel
theorem dX0_takeAt_11 : decode cX0_takeAt 11 = .ok (.ireturn, 1) := by decide +kernel
set_option maxRecDepth 20000 in
theorem ggX0_bestPlace_X0_takeAt : GoodIn wsX0_bestPlace wsX0_takeAt := goodIn_r _ [6, 7, 8, 9, 5, 10, 1, 11, 12, 13, 14, 15, 16, 17, 18, 19, 20, 21, 22, 23, 24, 25] (by decide +kernel) (by decide +kernel)
set_option maxRecDepth 20000 in
theorem gX0_bestPlace_X0_takeAt : GoodIn wsX0_bestPlace (wsV RX0 48 RX0 yX0_takeAt wsX0_takeAt) := goodIn_app (goodIn_of _ (by decide +kernel)) ggX0_bestPlace_X0_takeAt
theorem dX0_bestPlace_0 : decode cX0_bestPlace 0 = .ok (.iconst 0, 1) := by decide +kernel
theorem dX0_bestPlace_1 : decode cX0_bestPlace 1 = .ok (.istore_n 1, 1) := by decide +kernel
theorem dX0_bestPlace_2 : decode cX0_bestPlace 2 = .ok (.iconst 1, 1) := by decide +kernel
theorem dX0_bestPlace_3 : decode cX0_bestPlace 3 = .ok (.istore_n 2, 1) := by decide +kernel
theorem dX0_bestPlace_4 : decode cX0_bestPlace 4 = .ok (.iload_n 2, 1) := by decide +kernel
theorem dX0_bestPlace_5 : decode cX0_bestPlace 5 = .ok (.aload_n 0, 1) := by decide +kernel
theorem dX0_bestPlace_6 : decode cX0_bestPlace 6 = .ok (.getfield 24, 3) := by decide +kernel
theorem dX0_bestPlace_9 : decode cX0_bestPlace 9 = .ok (.if_icmp .ge 24, 3) := by decide +kernel
theorem dX0_bestPlace_12 : decode cX0_bestPlace 12 = .ok (.aload_n 0, 1) := by decide +kernel
theorem dX0_bestPlace_13 : decode cX0_bestPlace 13 = .ok (.iload_n 2, 1) := by decide +kernel
theorem dX0_bestPlace_14 : decode cX0_bestPlace 14 = .ok (.invokevirtual 48, 3) := by decide +kernel
theorem dX0_bestPlace_17 : decode cX0_bestPlace 17 = .ok (.aload_n 0, 1) := by decide +kernel
theorem dX0_bestPlace_18 : decode cX0_bestPlace 18 = .ok (.iload_n 1, 1) := by decide +kernel
theorem dX0_bestPlace_19 : decode cX0_bestPlace 19 = .ok (.invokevirtual 48, 3) := by decide +kernel
theorem dX0_bestPlace_22 : decode cX0_bestPlace 22 = .ok (.if_icmp .le 5, 3) := by decide +kernel
theorem dX0_bestPlace_25 : decode cX0_bestPlace 25 = .ok (.iload_n 2, 1) := by decide +kernel
theorem dX0_bestPlace_26 : decode cX0_bestPlace 26 = .ok (.istore_n 1, 1) := by decide +kernel
theorem dX0_bestPlace_27 : decode cX0_bestPlace 27 = .ok (.iinc 2 1, 3) := by decide +kernel
theorem dX0_bestPlace_30 : decode cX0_bestPlace 30 = .ok (.goto (-26), 3) := by decide +kernel
theorem dX0_bestPlace_33 : decode cX0_bestPlace 33 = .ok (.iload_n 1, 1) := by decide +kernel
theorem dX0_bestPlace_34 : decode cX0_bestPlace 34 = .ok (.ireturn, 1) := by decide +kernel
theorem dX0_ironedUpper_0 : decode cX0_ironedUpper 0 = .ok (.iload_n 1, 1) := by decide +kernel
theorem dX0_ironedUpper_1 : decode cX0_ironedUpper 1 = .ok (.ifCond .lt 21, 3) := by decide +kernel
theorem dX0_ironedUpper_4 : decode cX0_ironedUpper 4 = .ok (.iload_n 1, 1) := by decide +kernel
theorem dX0_ironedUpper_5 : decode cX0_ironedUpper 5 = .ok (.aload_n 0, 1) := by decide +kernel
theorem dX0_ironedUpper_6 : decode cX0_ironedUpper 6 = .ok (.getfield 24, 3) := by decide +kernel
theorem dX0_ironedUpper_9 : decode cX0_ironedUpper 9 = .ok (.if_icmp .ge 13, 3) := by decide +kernel
theorem dX0_ironedUpper_12 : decode cX0_ironedUpper 12 = .ok (.aload_n 0, 1) := by decide +kernel
theorem dX0_ironedUpper_13 : decode cX0_ironedUpper 13 = .ok (.getfield 18, 3) := by decide +kernel
theorem dX0_ironedUpper_16 : decode cX0_ironedUpper 16 = .ok (.iload_n 1, 1) := by decide +kernel
theorem dX0_ironedUpper_17 : decode cX0_ironedUpper 17 = .ok (.iaload, 1) := by decide +kernel
theorem dX0_ironedUpper_18 : decode cX0_ironedUpper 18 = .ok (.i2l, 1) := by decide +kernel
theorem dX0_ironedUpper_19 : decode cX0_ironedUpper 19 = .ok (.goto 4, 3) := by decide +kernel
theorem dX0_ironedUpper_22 : decode cX0_ironedUpper 22 = .ok (.lconst 0, 1) := by decide +kernel
theorem dX0_ironedUpper_23 : decode cX0_ironedUpper 23 = .ok (.lreturn, 1) := by decide +kernel
theorem dX0_ironedLower_0 : decode cX0_ironedLower 0 = .ok (.iload_n 1, 1) := by decide +kernel
theorem dX0_ironedLower_1 : decode cX0_ironedLower 1 = .ok (.ifCond .lt 21, 3) := by decide +kernel
theorem dX0_ironedLower_4 : decode cX0_ironedLower 4 = .ok (.iload_n 1, 1) := by decide +kernel
theorem dX0_ironedLower_5 : decode cX0_ironedLower 5 = .ok (.aload_n 0, 1) := by decide +kernel
theorem dX0_ironedLower_6 : decode cX0_ironedLower 6 = .ok (.getfield 24, 3) := by decide +kernel
theorem dX0_ironedLower_9 : decode cX0_ironedLower 9 = .ok (.if_icmp .ge 13, 3) := by decide +kernel
theorem dX0_ironedLower_12 : decode cX0_ironedLower 12 = .ok (.aload_n 0, 1) := by decide +kernel
theorem dX0_ironedLower_13 : decode cX0_ironedLower 13 = .ok (.getfield 21, 3) := by decide +kernel
theorem dX0_ironedLower_16 : decode cX0_ironedLower 16 = .ok (.iload_n 1, 1) := by decide +kernel
theorem dX0_ironedLower_17 : decode cX0_ironedLower 17 = .ok (.iaload, 1) := by decide +kernel
theorem dX0_ironedLower_18 : decode cX0_ironedLower 18 = .ok (.i2l, 1) := by decide +kernel
theorem dX0_ironedLower_19 : decode cX0_ironedLower 19 = .ok (.goto 4, 3) := by decide +kernel
theorem dX0_ironedLower_22 : decode cX0_ironedLower 22 = .ok (.lconst 1, 1) := by decide +kernel
theorem dX0_ironedLower_23 : decode cX0_ironedLower 23 = .ok (.lreturn, 1) := by decide +kernel
set_option maxRecDepth 20000 in
theorem ggX0_iron_X0_nextCorner : GoodIn wsX0_iron wsX0_nextCorner := goodIn_r _ [8, 9, 10, 11, 7, 12, 13, 14, 15, 16, 1, 17, 18, 19, 20, 21, 22, 23, 24, 25, 26, 27, 28, 29, 30, 31] (by decide +kernel) (by decide +kernel)
set_option maxRecDepth 20000 in
theorem gX0_iron_X0_nextCorner : GoodIn wsX0_iron (wsV RX0 51 RX0 yX0_nextCorner wsX0_nextCorner) := goodIn_app (goodIn_of _ (by decide +kernel)) ggX0_iron_X0_nextCorner
set_option maxRecDepth 20000 in
theorem ggX0_iron_X0_takeAt : GoodIn wsX0_iron wsX0_takeAt := goodIn_r _ [12, 13, 14, 15, 7, 16, 1, 17, 18, 19, 20, 21, 22, 23, 24, 25, 26, 27, 28, 29, 30, 31] (by decide +kernel) (by decide +kernel)
set_option maxRecDepth 20000 in
theorem gX0_iron_X0_takeAt : GoodIn wsX0_iron (wsV RX0 48 RX0 yX0_takeAt wsX0_takeAt) := goodIn_app (goodIn_of _ (by decide +kernel)) ggX0_iron_X0_takeAt
set_option maxRecDepth 20000 in
theorem ggX0_iron_X0_shareAt : GoodIn wsX0_iron wsX0_shareAt := goodIn_r _ [21, 22, 23, 24, 25, 1, 26, 27, 28, 29, 30, 31] (by decide +kernel) (by decide +kernel)
set_option maxRecDepth 20000 in
theorem gX0_iron_X0_shareAt : GoodIn wsX0_iron (wsV RX0 41 RX0 yX0_shareAt wsX0_shareAt) := goodIn_app (goodIn_of _ (by decide +kernel)) ggX0_iron_X0_shareAt
theorem dX0_iron_0 : decode cX0_iron 0 = .ok (.aload_n 0, 1) := by decide +kernel
theorem dX0_iron_1 : decode cX0_iron 1 = .ok (.getfield 24, 3) := by decide +kernel
theorem dX0_iron_4 : decode cX0_iron 4 = .ok (.istore_n 1, 1) := by decide +kernel
theorem dX0_iron_5 : decode cX0_iron 5 = .ok (.iconst 0, 1) := by decide +kernel
theorem dX0_iron_6 : decode cX0_iron 6 = .ok (.istore_n 2, 1) := by decide +kernel
theorem dX0_iron_7 : decode cX0_iron 7 = .ok (.iconst 1, 1) := by decide +kernel
theorem dX0_iron_8 : decode cX0_iron 8 = .ok (.istore_n 3, 1) := by decide +kernel
theorem dX0_iron_9 : decode cX0_iron 9 = .ok (.aload_n 0, 1) := by decide +kernel
theorem dX0_iron_10 : decode cX0_iron 10 = .ok (.getfield 24, 3) := by decide +kernel
theorem dX0_iron_13 : decode cX0_iron 13 = .ok (.iconst 1, 1) := by decide +kernel
theorem dX0_iron_14 : decode cX0_iron 14 = .ok (.isub, 1) := by decide +kernel
theorem dX0_iron_15 : decode cX0_iron 15 = .ok (.istore 4, 2) := by decide +kernel
theorem dX0_iron_17 : decode cX0_iron 17 = .ok (.iload 4, 2) := by decide +kernel
theorem dX0_iron_19 : decode cX0_iron 19 = .ok (.ifCond .lt 67, 3) := by decide +kernel
theorem dX0_iron_22 : decode cX0_iron 22 = .ok (.iload 4, 2) := by decide +kernel
theorem dX0_iron_24 : decode cX0_iron 24 = .ok (.iload_n 1, 1) := by decide +kernel
theorem dX0_iron_25 : decode cX0_iron 25 = .ok (.if_icmp .ge 39, 3) := by decide +kernel
theorem dX0_iron_28 : decode cX0_iron 28 = .ok (.aload_n 0, 1) := by decide +kernel
theorem dX0_iron_29 : decode cX0_iron 29 = .ok (.iload_n 1, 1) := by decide +kernel
theorem dX0_iron_30 : decode cX0_iron 30 = .ok (.invokevirtual 51, 3) := by decide +kernel
theorem dX0_iron_33 : decode cX0_iron 33 = .ok (.istore 5, 2) := by decide +kernel
theorem dX0_iron_35 : decode cX0_iron 35 = .ok (.aload_n 0, 1) := by decide +kernel
theorem dX0_iron_36 : decode cX0_iron 36 = .ok (.iload 5, 2) := by decide +kernel
theorem dX0_iron_38 : decode cX0_iron 38 = .ok (.invokevirtual 48, 3) := by decide +kernel
theorem dX0_iron_41 : decode cX0_iron 41 = .ok (.aload_n 0, 1) := by decide +kernel
theorem dX0_iron_42 : decode cX0_iron 42 = .ok (.iload_n 1, 1) := by decide +kernel
theorem dX0_iron_43 : decode cX0_iron 43 = .ok (.invokevirtual 48, 3) := by decide +kernel
theorem dX0_iron_46 : decode cX0_iron 46 = .ok (.isub, 1) := by decide +kernel
theorem dX0_iron_47 : decode cX0_iron 47 = .ok (.istore_n 2, 1) := by decide +kernel
theorem dX0_iron_48 : decode cX0_iron 48 = .ok (.aload_n 0, 1) := by decide +kernel
theorem dX0_iron_49 : decode cX0_iron 49 = .ok (.iload 5, 2) := by decide +kernel
theorem dX0_iron_51 : decode cX0_iron 51 = .ok (.invokevirtual 41, 3) := by decide +kernel
theorem dX0_iron_54 : decode cX0_iron 54 = .ok (.aload_n 0, 1) := by decide +kernel
theorem dX0_iron_55 : decode cX0_iron 55 = .ok (.iload_n 1, 1) := by decide +kernel
theorem dX0_iron_56 : decode cX0_iron 56 = .ok (.invokevirtual 41, 3) := by decide +kernel
theorem dX0_iron_59 : decode cX0_iron 59 = .ok (.isub, 1) := by decide +kernel
theorem dX0_iron_60 : decode cX0_iron 60 = .ok (.istore_n 3, 1) := by decide +kernel
theorem dX0_iron_61 : decode cX0_iron 61 = .ok (.iload 5, 2) := by decide +kernel
theorem dX0_iron_63 : decode cX0_iron 63 = .ok (.istore_n 1, 1) := by decide +kernel
theorem dX0_iron_64 : decode cX0_iron 64 = .ok (.aload_n 0, 1) := by decide +kernel
theorem dX0_iron_65 : decode cX0_iron 65 = .ok (.getfield 18, 3) := by decide +kernel
theorem dX0_iron_68 : decode cX0_iron 68 = .ok (.iload 4, 2) := by decide +kernel
theorem dX0_iron_70 : decode cX0_iron 70 = .ok (.iload_n 2, 1) := by decide +kernel
theorem dX0_iron_71 : decode cX0_iron 71 = .ok (.iastore, 1) := by decide +kernel
theorem dX0_iron_72 : decode cX0_iron 72 = .ok (.aload_n 0, 1) := by decide +kernel
theorem dX0_iron_73 : decode cX0_iron 73 = .ok (.getfield 21, 3) := by decide +kernel
theorem dX0_iron_76 : decode cX0_iron 76 = .ok (.iload 4, 2) := by decide +kernel
theorem dX0_iron_78 : decode cX0_iron 78 = .ok (.iload_n 3, 1) := by decide +kernel
theorem dX0_iron_79 : decode cX0_iron 79 = .ok (.iastore, 1) := by decide +kernel
theorem dX0_iron_80 : decode cX0_iron 80 = .ok (.iinc 4 (-1), 3) := by decide +kernel
theorem dX0_iron_83 : decode cX0_iron 83 = .ok (.goto (-66), 3) := by decide +kernel
theorem dX0_iron_86 : decode cX0_iron 86 = .ok (.return_, 1) := by decide +kernel
set_option maxRecDepth 20000 in
theorem ggX0_nextCorner_X0_takeAt : GoodIn wsX0_nextCorner wsX0_takeAt := goodIn_r _ [5, 6, 7, 8, 4, 9, 10, 11, 12, 13, 14, 15, 16, 17, 18, 19, 20, 21, 22, 23, 24, 25] (by decide +kernel) (by decide +kernel)
set_option maxRecDepth 20000 in
theorem gX0_nextCorner_X0_takeAt : GoodIn wsX0_nextCorner (wsV RX0 48 RX0 yX0_takeAt wsX0_takeAt) := goodIn_app (goodIn_of _ (by decide +kernel)) ggX0_nextCorner_X0_takeAt
set_option maxRecDepth 20000 in
theorem ggX0_nextCorner_X0_shareAt : GoodIn wsX0_nextCorner wsX0_shareAt := goodIn_r _ [15, 16, 17, 18, 19, 10, 20, 21, 22, 23, 24, 25] (by decide +kernel) (by decide +kernel)
set_option maxRecDepth 20000 in
theorem gX0_nextCorner_X0_shareAt : GoodIn wsX0_nextCorner (wsV RX0 41 RX0 yX0_shareAt wsX0_shareAt) := goodIn_app (goodIn_of _ (by decide +kernel)) ggX0_nextCorner_X0_shareAt
theorem dX0_nextCorner_0 : decode cX0_nextCorner 0 = .ok (.iload_n 1, 1) := by decide +kernel
theorem dX0_nextCorner_1 : decode cX0_nextCorner 1 = .ok (.iconst 1, 1) := by decide +kernel
theorem dX0_nextCorner_2 : decode cX0_nextCorner 2 = .ok (.isub, 1) := by decide +kernel
theorem dX0_nextCorner_3 : decode cX0_nextCorner 3 = .ok (.istore_n 2, 1) := by decide +kernel
theorem dX0_nextCorner_4 : decode cX0_nextCorner 4 = .ok (.iload_n 1, 1) := by decide +kernel
theorem dX0_nextCorner_5 : decode cX0_nextCorner 5 = .ok (.iconst 2, 1) := by decide +kernel
theorem dX0_nextCorner_6 : decode cX0_nextCorner 6 = .ok (.isub, 1) := by decide +kernel
theorem dX0_nextCorner_7 : decode cX0_nextCorner 7 = .ok (.istore_n 3, 1) := by decide +kernel
theorem dX0_nextCorner_8 : decode cX0_nextCorner 8 = .ok (.iload_n 3, 1) := by decide +kernel
theorem dX0_nextCorner_9 : decode cX0_nextCorner 9 = .ok (.ifCond .lt 81, 3) := by decide +kernel
theorem dX0_nextCorner_12 : decode cX0_nextCorner 12 = .ok (.aload_n 0, 1) := by decide +kernel
theorem dX0_nextCorner_13 : decode cX0_nextCorner 13 = .ok (.iload_n 3, 1) := by decide +kernel
theorem dX0_nextCorner_14 : decode cX0_nextCorner 14 = .ok (.invokevirtual 48, 3) := by decide +kernel
theorem dX0_nextCorner_17 : decode cX0_nextCorner 17 = .ok (.aload_n 0, 1) := by decide +kernel
theorem dX0_nextCorner_18 : decode cX0_nextCorner 18 = .ok (.iload_n 1, 1) := by decide +kernel
theorem dX0_nextCorner_19 : decode cX0_nextCorner 19 = .ok (.invokevirtual 48, 3) := by decide +kernel
theorem dX0_nextCorner_22 : decode cX0_nextCorner 22 = .ok (.isub, 1) := by decide +kernel
theorem dX0_nextCorner_23 : decode cX0_nextCorner 23 = .ok (.i2l, 1) := by decide +kernel
theorem dX0_nextCorner_24 : decode cX0_nextCorner 24 = .ok (.lstore 4, 2) := by decide +kernel
theorem dX0_nextCorner_26 : decode cX0_nextCorner 26 = .ok (.aload_n 0, 1) := by decide +kernel
theorem dX0_nextCorner_27 : decode cX0_nextCorner 27 = .ok (.iload_n 3, 1) := by decide +kernel
theorem dX0_nextCorner_28 : decode cX0_nextCorner 28 = .ok (.invokevirtual 41, 3) := by decide +kernel
theorem dX0_nextCorner_31 : decode cX0_nextCorner 31 = .ok (.aload_n 0, 1) := by decide +kernel
theorem dX0_nextCorner_32 : decode cX0_nextCorner 32 = .ok (.iload_n 1, 1) := by decide +kernel
theorem dX0_nextCorner_33 : decode cX0_nextCorner 33 = .ok (.invokevirtual 41, 3) := by decide +kernel
theorem dX0_nextCorner_36 : decode cX0_nextCorner 36 = .ok (.isub, 1) := by decide +kernel
theorem dX0_nextCorner_37 : decode cX0_nextCorner 37 = .ok (.i2l, 1) := by decide +kernel
theorem dX0_nextCorner_38 : decode cX0_nextCorner 38 = .ok (.lstore 6, 2) := by decide +kernel
theorem dX0_nextCorner_40 : decode cX0_nextCorner 40 = .ok (.aload_n 0, 1) := by decide +kernel
theorem dX0_nextCorner_41 : decode cX0_nextCorner 41 = .ok (.iload_n 2, 1) := by decide +kernel
theorem dX0_nextCorner_42 : decode cX0_nextCorner 42 = .ok (.invokevirtual 48, 3) := by decide +kernel
theorem dX0_nextCorner_45 : decode cX0_nextCorner 45 = .ok (.aload_n 0, 1) := by decide +kernel
theorem dX0_nextCorner_46 : decode cX0_nextCorner 46 = .ok (.iload_n 1, 1) := by decide +kernel
theorem dX0_nextCorner_47 : decode cX0_nextCorner 47 = .ok (.invokevirtual 48, 3) := by decide +kernel
theorem dX0_nextCorner_50 : decode cX0_nextCorner 50 = .ok (.isub, 1) := by decide +kernel
theorem dX0_nextCorner_51 : decode cX0_nextCorner 51 = .ok (.i2l, 1) := by decide +kernel
theorem dX0_nextCorner_52 : decode cX0_nextCorner 52 = .ok (.lstore 8, 2) := by decide +kernel
theorem dX0_nextCorner_54 : decode cX0_nextCorner 54 = .ok (.aload_n 0, 1) := by decide +kernel
theorem dX0_nextCorner_55 : decode cX0_nextCorner 55 = .ok (.iload_n 2, 1) := by decide +kernel
theorem dX0_nextCorner_56 : decode cX0_nextCorner 56 = .ok (.invokevirtual 41, 3) := by decide +kernel
theorem dX0_nextCorner_59 : decode cX0_nextCorner 59 = .ok (.aload_n 0, 1) := by decide +kernel
theorem dX0_nextCorner_60 : decode cX0_nextCorner 60 = .ok (.iload_n 1, 1) := by decide +kernel
theorem dX0_nextCorner_61 : decode cX0_nextCorner 61 = .ok (.invokevirtual 41, 3) := by decide +kernel
theorem dX0_nextCorner_64 : decode cX0_nextCorner 64 = .ok (.isub, 1) := by decide +kernel
theorem dX0_nextCorner_65 : decode cX0_nextCorner 65 = .ok (.i2l, 1) := by decide +kernel
theorem dX0_nextCorner_66 : decode cX0_nextCorner 66 = .ok (.lstore 10, 2) := by decide +kernel
theorem dX0_nextCorner_68 : decode cX0_nextCorner 68 = .ok (.lload 4, 2) := by decide +kernel
theorem dX0_nextCorner_70 : decode cX0_nextCorner 70 = .ok (.lload 10, 2) := by decide +kernel
theorem dX0_nextCorner_72 : decode cX0_nextCorner 72 = .ok (.lmul, 1) := by decide +kernel
theorem dX0_nextCorner_73 : decode cX0_nextCorner 73 = .ok (.lload 8, 2) := by decide +kernel
theorem dX0_nextCorner_75 : decode cX0_nextCorner 75 = .ok (.lload 6, 2) := by decide +kernel
theorem dX0_nextCorner_77 : decode cX0_nextCorner 77 = .ok (.lmul, 1) := by decide +kernel
theorem dX0_nextCorner_78 : decode cX0_nextCorner 78 = .ok (.lcmp, 1) := by decide +kernel
theorem dX0_nextCorner_79 : decode cX0_nextCorner 79 = .ok (.ifCond .lt 5, 3) := by decide +kernel
theorem dX0_nextCorner_82 : decode cX0_nextCorner 82 = .ok (.iload_n 3, 1) := by decide +kernel
theorem dX0_nextCorner_83 : decode cX0_nextCorner 83 = .ok (.istore_n 2, 1) := by decide +kernel
theorem dX0_nextCorner_84 : decode cX0_nextCorner 84 = .ok (.iinc 3 (-1), 3) := by decide +kernel
theorem dX0_nextCorner_87 : decode cX0_nextCorner 87 = .ok (.goto (-79), 3) := by decide +kernel
theorem dX0_nextCorner_90 : decode cX0_nextCorner 90 = .ok (.iload_n 2, 1) := by decide +kernel
theorem dX0_nextCorner_91 : decode cX0_nextCorner 91 = .ok (.ireturn, 1) := by decide +kernel
set_option maxRecDepth 20000 in
theorem ggX1_init_X0_init : GoodIn wsX1_init wsX0_init := goodIn_r _ [18, 19, 2, 3, 10, 20, 21, 22, 23, 24, 25, 26, 27, 6, 28, 29, 30, 31, 32, 33, 34, 35, 36, 37, 38, 39, 40, 41, 42, 43, 44, 45, 46, 47, 48, 49, 50, 51, 52, 53, 54, 55, 56, 57] (by decide +kernel) (by decide +kernel)
set_option maxRecDepth 20000 in
theorem gX1_init_X0_init : GoodIn wsX1_init (wsX0_init) := ggX1_init_X0_init
theorem dX1_init_0 : decode cX1_init 0 = .ok (.aload_n 0, 1) := by decide +kernel
theorem dX1_init_1 : decode cX1_init 1 = .ok (.invokespecial 1, 3) := by decide +kernel
theorem dX1_init_4 : decode cX1_init 4 = .ok (.aload_n 0, 1) := by decide +kernel
theorem dX1_init_5 : decode cX1_init 5 = .ok (.new 7, 3) := by decide +kernel
theorem dX1_init_8 : decode cX1_init 8 = .ok (.dup, 1) := by decide +kernel
theorem dX1_init_9 : decode cX1_init 9 = .ok (.invokespecial 9, 3) := by decide +kernel
theorem dX1_init_12 : decode cX1_init 12 = .ok (.putfield 10, 3) := by decide +kernel
theorem dX1_init_15 : decode cX1_init 15 = .ok (.aload_n 0, 1) := by decide +kernel
theorem dX1_init_16 : decode cX1_init 16 = .ok (.new 7, 3) := by decide +kernel
theorem dX1_init_19 : decode cX1_init 19 = .ok (.dup, 1) := by decide +kernel
theorem dX1_init_20 : decode cX1_init 20 = .ok (.invokespecial 9, 3) := by decide +kernel
theorem dX1_init_23 : decode cX1_init 23 = .ok (.putfield 16, 3) := by decide +kernel
theorem dX1_init_26 : decode cX1_init 26 = .ok (.aload_n 0, 1) := by decide +kernel
theorem dX1_init_27 : decode cX1_init 27 = .ok (.new 7, 3) := by decide +kernel
theorem dX1_init_30 : decode cX1_init 30 = .ok (.dup, 1) := by decide +kernel
theorem dX1_init_31 : decode cX1_init 31 = .ok (.invokespecial 9, 3) := by decide +kernel
theorem dX1_init_34 : decode cX1_init 34 = .ok (.putfield 19, 3) := by decide +kernel
theorem dX1_init_37 : decode cX1_init 37 = .ok (.aload_n 0, 1) := by decide +kernel
theorem dX1_init_38 : decode cX1_init 38 = .ok (.bipush 12, 2) := by decide +kernel
theorem dX1_init_40 : decode cX1_init 40 = .ok (.newarray .int, 2) := by decide +kernel
theorem dX1_init_42 : decode cX1_init 42 = .ok (.putfield 22, 3) := by decide +kernel
theorem dX1_init_45 : decode cX1_init 45 = .ok (.aload_n 0, 1) := by decide +kernel
theorem dX1_init_46 : decode cX1_init 46 = .ok (.iconst 1, 1) := by decide +kernel
theorem dX1_init_47 : decode cX1_init 47 = .ok (.putfield 26, 3) := by decide +kernel
theorem dX1_init_50 : decode cX1_init 50 = .ok (.aload_n 0, 1) := by decide +kernel
theorem dX1_init_51 : decode cX1_init 51 = .ok (.iconst 0, 1) := by decide +kernel
theorem dX1_init_52 : decode cX1_init 52 = .ok (.putfield 30, 3) := by decide +kernel
theorem dX1_init_55 : decode cX1_init 55 = .ok (.aload_n 0, 1) := by decide +kernel
theorem dX1_init_56 : decode cX1_init 56 = .ok (.iconst 0, 1) := by decide +kernel
theorem dX1_init_57 : decode cX1_init 57 = .ok (.putfield 33, 3) := by decide +kernel
theorem dX1_init_60 : decode cX1_init 60 = .ok (.aload_n 0, 1) := by decide +kernel
theorem dX1_init_61 : decode cX1_init 61 = .ok (.lconst 0, 1) := by decide +kernel
theorem dX1_init_62 : decode cX1_init 62 = .ok (.putfield 36, 3) := by decide +kernel
theorem dX1_init_65 : decode cX1_init 65 = .ok (.return_, 1) := by decide +kernel
