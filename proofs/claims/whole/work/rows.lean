section
-- ===== PART A: goes FIRST, ahead of the names: the tables' words, and 'selects' of the private methods out of them =====
/-- a private method of a class that the tables say can be made, by its rows of tables_1 -/
def lw_okq (q : MethodName × Nat) : Prop := (q.1.cls ≠ "java/lang/invoke/MethodHandle" ∧ q.1.cls ≠ "java/lang/invoke/VarHandle") ∧ Cond.instantiable q.1.cls q.2 ∈ tables_1 ∧ Cond.privateMethod q.1 ∈ tables_1 ∧ Cond.instanceMethod q.1 ∈ tables_1
theorem lw_p0 : lw_okq (⟨"NetworkCoordinates", "pairFault", "(II)I"⟩, 2) := ⟨⟨by decide +kernel, by decide +kernel⟩, List.mem_of_getElem? (i := 7) (by decide +kernel), List.mem_of_getElem? (i := 95) (by decide +kernel), List.mem_of_getElem? (i := 96) (by decide +kernel)⟩
theorem lw_p1 : lw_okq (⟨"NetworkCoordinates", "isNode", "(I)Z"⟩, 2) := ⟨⟨by decide +kernel, by decide +kernel⟩, List.mem_of_getElem? (i := 7) (by decide +kernel), List.mem_of_getElem? (i := 99) (by decide +kernel), List.mem_of_getElem? (i := 100) (by decide +kernel)⟩
theorem lw_p2 : lw_okq (⟨"NetworkCoordinates", "knownPairFault", "(II)I"⟩, 2) := ⟨⟨by decide +kernel, by decide +kernel⟩, List.mem_of_getElem? (i := 7) (by decide +kernel), List.mem_of_getElem? (i := 117) (by decide +kernel), List.mem_of_getElem? (i := 118) (by decide +kernel)⟩
theorem lw_p3 : lw_okq (⟨"NetworkCoordinates$State", "stepOf", "(III)I"⟩, 11) := ⟨⟨by decide +kernel, by decide +kernel⟩, List.mem_of_getElem? (i := 15) (by decide +kernel), List.mem_of_getElem? (i := 185) (by decide +kernel), List.mem_of_getElem? (i := 186) (by decide +kernel)⟩
theorem lw_p4 : lw_okq (⟨"NetworkCoordinates$State", "weight", "(II)J"⟩, 11) := ⟨⟨by decide +kernel, by decide +kernel⟩, List.mem_of_getElem? (i := 15) (by decide +kernel), List.mem_of_getElem? (i := 189) (by decide +kernel), List.mem_of_getElem? (i := 190) (by decide +kernel)⟩
theorem lw_p5 : lw_okq (⟨"NetworkCoordinates$State", "xAfter", "(IIII)I"⟩, 11) := ⟨⟨by decide +kernel, by decide +kernel⟩, List.mem_of_getElem? (i := 15) (by decide +kernel), List.mem_of_getElem? (i := 210) (by decide +kernel), List.mem_of_getElem? (i := 211) (by decide +kernel)⟩
theorem lw_p6 : lw_okq (⟨"NetworkCoordinates$State", "yAfter", "(IIII)I"⟩, 11) := ⟨⟨by decide +kernel, by decide +kernel⟩, List.mem_of_getElem? (i := 15) (by decide +kernel), List.mem_of_getElem? (i := 220) (by decide +kernel), List.mem_of_getElem? (i := 221) (by decide +kernel)⟩
theorem lw_p7 : lw_okq (⟨"NetworkCoordinates$State", "heightAfter", "(IIII)I"⟩, 11) := ⟨⟨by decide +kernel, by decide +kernel⟩, List.mem_of_getElem? (i := 15) (by decide +kernel), List.mem_of_getElem? (i := 224) (by decide +kernel), List.mem_of_getElem? (i := 225) (by decide +kernel)⟩
theorem lw_p8 : lw_okq (⟨"NetworkCoordinates$State", "errorAfter", "(III)I"⟩, 11) := ⟨⟨by decide +kernel, by decide +kernel⟩, List.mem_of_getElem? (i := 15) (by decide +kernel), List.mem_of_getElem? (i := 228) (by decide +kernel), List.mem_of_getElem? (i := 229) (by decide +kernel)⟩
theorem lw_p9 : lw_okq (⟨"NetworkCoordinatesModel", "begin", "(I)V"⟩, 11) := ⟨⟨by decide +kernel, by decide +kernel⟩, List.mem_of_getElem? (i := 343) (by decide +kernel), List.mem_of_getElem? (i := 349) (by decide +kernel), List.mem_of_getElem? (i := 350) (by decide +kernel)⟩
theorem lw_p10 : lw_okq (⟨"NetworkCoordinatesModel", "wrongPair", "(II)I"⟩, 11) := ⟨⟨by decide +kernel, by decide +kernel⟩, List.mem_of_getElem? (i := 343) (by decide +kernel), List.mem_of_getElem? (i := 400) (by decide +kernel), List.mem_of_getElem? (i := 401) (by decide +kernel)⟩
theorem lw_p11 : lw_okq (⟨"NetworkCoordinatesModel", "isNode", "(I)Z"⟩, 11) := ⟨⟨by decide +kernel, by decide +kernel⟩, List.mem_of_getElem? (i := 343) (by decide +kernel), List.mem_of_getElem? (i := 404) (by decide +kernel), List.mem_of_getElem? (i := 405) (by decide +kernel)⟩
theorem lw_p12 : lw_okq (⟨"NetworkCoordinatesModel", "set", "(II)I"⟩, 11) := ⟨⟨by decide +kernel, by decide +kernel⟩, List.mem_of_getElem? (i := 343) (by decide +kernel), List.mem_of_getElem? (i := 413) (by decide +kernel), List.mem_of_getElem? (i := 414) (by decide +kernel)⟩
theorem lw_p13 : lw_okq (⟨"NetworkCoordinatesModel", "wrongKnown", "(II)I"⟩, 11) := ⟨⟨by decide +kernel, by decide +kernel⟩, List.mem_of_getElem? (i := 343) (by decide +kernel), List.mem_of_getElem? (i := 421) (by decide +kernel), List.mem_of_getElem? (i := 422) (by decide +kernel)⟩
theorem lw_p14 : lw_okq (⟨"NetworkCoordinatesModel", "of", "(II)I"⟩, 11) := ⟨⟨by decide +kernel, by decide +kernel⟩, List.mem_of_getElem? (i := 343) (by decide +kernel), List.mem_of_getElem? (i := 448) (by decide +kernel), List.mem_of_getElem? (i := 449) (by decide +kernel)⟩
theorem lw_p15 : lw_okq (⟨"NetworkCoordinatesModel", "predicted", "(II)I"⟩, 11) := ⟨⟨by decide +kernel, by decide +kernel⟩, List.mem_of_getElem? (i := 343) (by decide +kernel), List.mem_of_getElem? (i := 468) (by decide +kernel), List.mem_of_getElem? (i := 469) (by decide +kernel)⟩
def lw_privs_1 : List (MethodName × Nat) := [(⟨"NetworkCoordinates", "pairFault", "(II)I"⟩, 2), (⟨"NetworkCoordinates", "isNode", "(I)Z"⟩, 2), (⟨"NetworkCoordinates", "knownPairFault", "(II)I"⟩, 2), (⟨"NetworkCoordinates$State", "stepOf", "(III)I"⟩, 11), (⟨"NetworkCoordinates$State", "weight", "(II)J"⟩, 11), (⟨"NetworkCoordinates$State", "xAfter", "(IIII)I"⟩, 11), (⟨"NetworkCoordinates$State", "yAfter", "(IIII)I"⟩, 11), (⟨"NetworkCoordinates$State", "heightAfter", "(IIII)I"⟩, 11), (⟨"NetworkCoordinates$State", "errorAfter", "(III)I"⟩, 11), (⟨"NetworkCoordinatesModel", "begin", "(I)V"⟩, 11), (⟨"NetworkCoordinatesModel", "wrongPair", "(II)I"⟩, 11), (⟨"NetworkCoordinatesModel", "isNode", "(I)Z"⟩, 11), (⟨"NetworkCoordinatesModel", "set", "(II)I"⟩, 11), (⟨"NetworkCoordinatesModel", "wrongKnown", "(II)I"⟩, 11), (⟨"NetworkCoordinatesModel", "of", "(II)I"⟩, 11), (⟨"NetworkCoordinatesModel", "predicted", "(II)I"⟩, 11)]
theorem lw_r1 : ∀ q ∈ lw_privs_1, lw_okq q := List.forall_mem_cons.mpr ⟨lw_p0, List.forall_mem_cons.mpr ⟨lw_p1, List.forall_mem_cons.mpr ⟨lw_p2, List.forall_mem_cons.mpr ⟨lw_p3, List.forall_mem_cons.mpr ⟨lw_p4, List.forall_mem_cons.mpr ⟨lw_p5, List.forall_mem_cons.mpr ⟨lw_p6, List.forall_mem_cons.mpr ⟨lw_p7, List.forall_mem_cons.mpr ⟨lw_p8, List.forall_mem_cons.mpr ⟨lw_p9, List.forall_mem_cons.mpr ⟨lw_p10, List.forall_mem_cons.mpr ⟨lw_p11, List.forall_mem_cons.mpr ⟨lw_p12, List.forall_mem_cons.mpr ⟨lw_p13, List.forall_mem_cons.mpr ⟨lw_p14, List.forall_mem_cons.mpr ⟨lw_p15, fun _ h => absurd h List.not_mem_nil⟩⟩⟩⟩⟩⟩⟩⟩⟩⟩⟩⟩⟩⟩⟩⟩
theorem lw_p16 : lw_okq (⟨"NetworkCoordinatesModel", "update", "(II)V"⟩, 11) := ⟨⟨by decide +kernel, by decide +kernel⟩, List.mem_of_getElem? (i := 343) (by decide +kernel), List.mem_of_getElem? (i := 484) (by decide +kernel), List.mem_of_getElem? (i := 485) (by decide +kernel)⟩
theorem lw_p17 : lw_okq (⟨"NetworkCoordinatesModel", "workOut", "(II)V"⟩, 11) := ⟨⟨by decide +kernel, by decide +kernel⟩, List.mem_of_getElem? (i := 343) (by decide +kernel), List.mem_of_getElem? (i := 488) (by decide +kernel), List.mem_of_getElem? (i := 489) (by decide +kernel)⟩
theorem lw_p18 : lw_okq (⟨"NetworkCoordinatesModel", "sample", "(II)I"⟩, 11) := ⟨⟨by decide +kernel, by decide +kernel⟩, List.mem_of_getElem? (i := 343) (by decide +kernel), List.mem_of_getElem? (i := 492) (by decide +kernel), List.mem_of_getElem? (i := 493) (by decide +kernel)⟩
theorem lw_p19 : lw_okq (⟨"NetworkCoordinatesModel", "round", "()I"⟩, 11) := ⟨⟨by decide +kernel, by decide +kernel⟩, List.mem_of_getElem? (i := 343) (by decide +kernel), List.mem_of_getElem? (i := 507) (by decide +kernel), List.mem_of_getElem? (i := 508) (by decide +kernel)⟩
theorem lw_p20 : lw_okq (⟨"NetworkCoordinatesModel", "errorOf", "(II)I"⟩, 11) := ⟨⟨by decide +kernel, by decide +kernel⟩, List.mem_of_getElem? (i := 343) (by decide +kernel), List.mem_of_getElem? (i := 519) (by decide +kernel), List.mem_of_getElem? (i := 520) (by decide +kernel)⟩
theorem lw_p21 : lw_okq (⟨"NetworkCoordinatesModel", "rankOf", "(II)I"⟩, 11) := ⟨⟨by decide +kernel, by decide +kernel⟩, List.mem_of_getElem? (i := 343) (by decide +kernel), List.mem_of_getElem? (i := 536) (by decide +kernel), List.mem_of_getElem? (i := 537) (by decide +kernel)⟩
theorem lw_p22 : lw_okq (⟨"NetworkCoordinatesModel", "countAll", "()V"⟩, 11) := ⟨⟨by decide +kernel, by decide +kernel⟩, List.mem_of_getElem? (i := 343) (by decide +kernel), List.mem_of_getElem? (i := 548) (by decide +kernel), List.mem_of_getElem? (i := 549) (by decide +kernel)⟩
theorem lw_p23 : lw_okq (⟨"NetworkCoordinatesModel", "countTriangle", "(III)V"⟩, 11) := ⟨⟨by decide +kernel, by decide +kernel⟩, List.mem_of_getElem? (i := 343) (by decide +kernel), List.mem_of_getElem? (i := 552) (by decide +kernel), List.mem_of_getElem? (i := 553) (by decide +kernel)⟩
theorem lw_p24 : lw_okq (⟨"NetworkCoordinatesModel", "isTriangle", "(III)Z"⟩, 11) := ⟨⟨by decide +kernel, by decide +kernel⟩, List.mem_of_getElem? (i := 343) (by decide +kernel), List.mem_of_getElem? (i := 556) (by decide +kernel), List.mem_of_getElem? (i := 557) (by decide +kernel)⟩
theorem lw_p25 : lw_okq (⟨"NetworkCoordinatesModel", "excess", "(III)I"⟩, 11) := ⟨⟨by decide +kernel, by decide +kernel⟩, List.mem_of_getElem? (i := 343) (by decide +kernel), List.mem_of_getElem? (i := 560) (by decide +kernel), List.mem_of_getElem? (i := 561) (by decide +kernel)⟩
def lw_privs_2 : List (MethodName × Nat) := [(⟨"NetworkCoordinatesModel", "update", "(II)V"⟩, 11), (⟨"NetworkCoordinatesModel", "workOut", "(II)V"⟩, 11), (⟨"NetworkCoordinatesModel", "sample", "(II)I"⟩, 11), (⟨"NetworkCoordinatesModel", "round", "()I"⟩, 11), (⟨"NetworkCoordinatesModel", "errorOf", "(II)I"⟩, 11), (⟨"NetworkCoordinatesModel", "rankOf", "(II)I"⟩, 11), (⟨"NetworkCoordinatesModel", "countAll", "()V"⟩, 11), (⟨"NetworkCoordinatesModel", "countTriangle", "(III)V"⟩, 11), (⟨"NetworkCoordinatesModel", "isTriangle", "(III)Z"⟩, 11), (⟨"NetworkCoordinatesModel", "excess", "(III)I"⟩, 11)]
theorem lw_r2 : ∀ q ∈ lw_privs_2, lw_okq q := List.forall_mem_cons.mpr ⟨lw_p16, List.forall_mem_cons.mpr ⟨lw_p17, List.forall_mem_cons.mpr ⟨lw_p18, List.forall_mem_cons.mpr ⟨lw_p19, List.forall_mem_cons.mpr ⟨lw_p20, List.forall_mem_cons.mpr ⟨lw_p21, List.forall_mem_cons.mpr ⟨lw_p22, List.forall_mem_cons.mpr ⟨lw_p23, List.forall_mem_cons.mpr ⟨lw_p24, List.forall_mem_cons.mpr ⟨lw_p25, fun _ h => absurd h List.not_mem_nil⟩⟩⟩⟩⟩⟩⟩⟩⟩⟩
def lw_privs : List (MethodName × Nat) := lw_privs_1 ++ (lw_privs_2)
def lw_tbl : List Cond := k2_sels lw_privs ++ tables_1
theorem lw_privs_ok : ∀ q ∈ lw_privs, lw_okq q := by
  show ∀ q ∈ lw_privs_1 ++ (lw_privs_2), lw_okq q
  exact List.forall_mem_append.mpr ⟨lw_r1, lw_r2⟩
/-! ===== BEGIN words of one list among another's, by their places ===== -/
theorem goodIn_r {big : List Cond} (ws : List Cond) (ps : List Nat) (hp : ws = ps.filterMap (fun i => big[i]?)) (h : ws.all goodWord = true) : GoodIn big ws := by
  intro w hw
  have h1 := List.all_eq_true.mp h w hw
  rw [hp] at hw
  obtain ⟨i, -, hi⟩ := List.mem_filterMap.mp hw
  have hm : w ∈ big := by first | exact List.mem_of_getElem? hi | exact List.getElem?_mem hi
  exact ⟨hm, good_of_word h1⟩
theorem goodIn_app {big a b : List Cond} (ha : GoodIn big a) (hb : GoodIn big b) : GoodIn big (a ++ b) := fun w h => (List.mem_append.mp h).elim (ha w) (hb w)
theorem goodIn_ca {big a b : List Cond} {c : Cond} (ha : GoodIn big (c :: a)) (hb : GoodIn big b) : GoodIn big (c :: (a ++ b)) := fun w h => (List.mem_cons.mp h).elim (fun e => ha w (List.mem_cons.mpr (Or.inl e))) (fun h => (List.mem_append.mp h).elim (fun h => ha w (List.mem_cons.mpr (Or.inr h))) (hb w))
theorem goodIn_sub {big ws : List Cond} (hm : ∀ w ∈ ws, w ∈ big) (h : ws.all goodWord = true) : GoodIn big ws := fun w hw => ⟨hm w hw, good_of_word (List.all_eq_true.mp h w hw)⟩
/-! ===== END ===== -/

/-! ===== BEGIN printed: names, fields, word lists, decode rows ===== -/
def RX0 : String := "NetworkCoordinates$State"
def TX0 : u_T := fun k => match k with
  | 0 => ("NetworkCoordinates$State", "nodes", "I", false)
  | 1 => ("NetworkCoordinates$State", "round", "I", false)
  | 2 => ("NetworkCoordinates$State", "errorGain", "I", false)
  | 3 => ("NetworkCoordinates$State", "moveGain", "I", false)
  | 4 => ("NetworkCoordinates$State", "maxStep", "I", false)
  | 5 => ("NetworkCoordinates$State", "xs", "[I", true)
  | 6 => ("NetworkCoordinates$State", "ys", "[I", true)
  | 7 => ("NetworkCoordinates$State", "heights", "[I", true)
  | 8 => ("NetworkCoordinates$State", "errors", "[I", true)
  | 9 => ("NetworkCoordinates$State", "lies", "[I", true)
  | _ => ("NetworkCoordinates$State", "rtts", "[I", true)
def tyX0 : Nat → FieldType := fun k => match k with
  | 0 => .int
  | 1 => .int
  | 2 => .int
  | 3 => .int
  | 4 => .int
  | 5 => .array .int
  | 6 => .array .int
  | 7 => .array .int
  | 8 => .array .int
  | 9 => .array .int
  | _ => .array .int
abbrev wsX00 : List Cond := u_ws RX0 TX0 11
theorem nmX0 : ∀ a, a < 11 → ∀ b, b < 11 → a ≠ b → (TX0 a).2.1 ≠ (TX0 b).2.1 := by decide +kernel
theorem tyX0_ok : ∀ k, k < 11 → parseFieldDescriptor (TX0 k).2.2.1 = some (tyX0 k) := by decide +kernel
abbrev cX0_init : ByteArray := prog_2_method_1_code
def yX0_init : MethodName := ⟨RX0, "<init>", "()V"⟩
abbrev cX0_begin : ByteArray := prog_2_method_2_code
def yX0_begin : MethodName := ⟨RX0, "begin", "(I)V"⟩
abbrev cX0_copyFrom : ByteArray := prog_2_method_3_code
def yX0_copyFrom : MethodName := ⟨RX0, "copyFrom", "(LNetworkCoordinates$State;)V"⟩
abbrev cX0_settle : ByteArray := prog_2_method_4_code
def yX0_settle : MethodName := ⟨RX0, "settle", "(IIIII)V"⟩
abbrev cX0_rttOf : ByteArray := prog_2_method_5_code
def yX0_rttOf : MethodName := ⟨RX0, "rttOf", "(II)I"⟩
abbrev cX0_keepRtt : ByteArray := prog_2_method_6_code
def yX0_keepRtt : MethodName := ⟨RX0, "keepRtt", "(III)V"⟩
abbrev cX0_isKnown : ByteArray := prog_2_method_7_code
def yX0_isKnown : MethodName := ⟨RX0, "isKnown", "(II)Z"⟩
abbrev cX0_sample : ByteArray := prog_2_method_8_code
def yX0_sample : MethodName := ⟨RX0, "sample", "(II)I"⟩
abbrev cX0_predicted : ByteArray := prog_2_method_9_code
def yX0_predicted : MethodName := ⟨RX0, "predicted", "(II)I"⟩
abbrev cX0_playRound : ByteArray := prog_2_method_10_code
def yX0_playRound : MethodName := ⟨RX0, "playRound", "()I"⟩
abbrev cX0_update : ByteArray := prog_2_method_11_code
def yX0_update : MethodName := ⟨RX0, "update", "(II)V"⟩
abbrev cX0_distanceMoved : ByteArray := prog_2_method_12_code
def yX0_distanceMoved : MethodName := ⟨RX0, "distanceMoved", "(II)I"⟩
abbrev cX0_weight : ByteArray := prog_2_method_13_code
def yX0_weight : MethodName := ⟨RX0, "weight", "(II)J"⟩
abbrev cX0_errorAfter : ByteArray := prog_2_method_14_code
def yX0_errorAfter : MethodName := ⟨RX0, "errorAfter", "(III)I"⟩
abbrev cX0_stepOf : ByteArray := prog_2_method_15_code
def yX0_stepOf : MethodName := ⟨RX0, "stepOf", "(III)I"⟩
abbrev cX0_xAfter : ByteArray := prog_2_method_16_code
def yX0_xAfter : MethodName := ⟨RX0, "xAfter", "(IIII)I"⟩
abbrev cX0_yAfter : ByteArray := prog_2_method_17_code
def yX0_yAfter : MethodName := ⟨RX0, "yAfter", "(IIII)I"⟩
abbrev cX0_heightAfter : ByteArray := prog_2_method_18_code
def yX0_heightAfter : MethodName := ⟨RX0, "heightAfter", "(IIII)I"⟩
abbrev cX0_relative : ByteArray := prog_2_method_19_code
def yX0_relative : MethodName := ⟨RX0, "relative", "(II)I"⟩
abbrev cX0_rankOf : ByteArray := prog_2_method_20_code
def yX0_rankOf : MethodName := ⟨RX0, "rankOf", "(II)I"⟩
abbrev cX0_isTriangle : ByteArray := prog_2_method_21_code
def yX0_isTriangle : MethodName := ⟨RX0, "isTriangle", "(III)Z"⟩
abbrev cX0_excess : ByteArray := prog_2_method_22_code
def yX0_excess : MethodName := ⟨RX0, "excess", "(III)I"⟩
abbrev cX0_violationsAt : ByteArray := prog_2_method_23_code
def yX0_violationsAt : MethodName := ⟨RX0, "violationsAt", "(I)I"⟩
def RX1 : String := "NetworkCoordinates"
def TX1 : u_T := fun k => match k with
  | 0 => ("NetworkCoordinates", "now", "LNetworkCoordinates$State;", true)
  | _ => ("NetworkCoordinates", "slots", "[LNetworkCoordinates$State;", true)
def tyX1 : Nat → FieldType := fun k => match k with
  | 0 => .object "NetworkCoordinates$State"
  | _ => .array (.object "NetworkCoordinates$State")
abbrev wsX10 : List Cond := u_ws RX1 TX1 2
theorem nmX1 : ∀ a, a < 2 → ∀ b, b < 2 → a ≠ b → (TX1 a).2.1 ≠ (TX1 b).2.1 := by decide +kernel
theorem tyX1_ok : ∀ k, k < 2 → parseFieldDescriptor (TX1 k).2.2.1 = some (tyX1 k) := by decide +kernel
abbrev cX1_init : ByteArray := prog_1_method_1_code
def yX1_init : MethodName := ⟨RX1, "<init>", "()V"⟩
abbrev cX1_reset : ByteArray := prog_1_method_2_code
def yX1_reset : MethodName := ⟨RX1, "reset", "(I)I"⟩
abbrev cX1_setRtt : ByteArray := prog_1_method_3_code
def yX1_setRtt : MethodName := ⟨RX1, "setRtt", "(III)I"⟩
abbrev cX1_rtt : ByteArray := prog_1_method_4_code
def yX1_rtt : MethodName := ⟨RX1, "rtt", "(II)I"⟩
abbrev cX1_setLie : ByteArray := prog_1_method_5_code
def yX1_setLie : MethodName := ⟨RX1, "setLie", "(II)I"⟩
abbrev cX1_setGains : ByteArray := prog_1_method_6_code
def yX1_setGains : MethodName := ⟨RX1, "setGains", "(II)I"⟩
abbrev cX1_setMaxStep : ByteArray := prog_1_method_7_code
def yX1_setMaxStep : MethodName := ⟨RX1, "setMaxStep", "(I)I"⟩
abbrev cX1_place : ByteArray := prog_1_method_8_code
def yX1_place : MethodName := ⟨RX1, "place", "(IIII)I"⟩
abbrev cX1_x : ByteArray := prog_1_method_9_code
def yX1_x : MethodName := ⟨RX1, "x", "(I)I"⟩
abbrev cX1_y : ByteArray := prog_1_method_10_code
def yX1_y : MethodName := ⟨RX1, "y", "(I)I"⟩
abbrev cX1_height : ByteArray := prog_1_method_11_code
def yX1_height : MethodName := ⟨RX1, "height", "(I)I"⟩
abbrev cX1_error : ByteArray := prog_1_method_12_code
def yX1_error : MethodName := ⟨RX1, "error", "(I)I"⟩
abbrev cX1_predict : ByteArray := prog_1_method_13_code
def yX1_predict : MethodName := ⟨RX1, "predict", "(II)I"⟩
abbrev cX1_measure : ByteArray := prog_1_method_14_code
def yX1_measure : MethodName := ⟨RX1, "measure", "(II)I"⟩
abbrev cX1_run : ByteArray := prog_1_method_15_code
def yX1_run : MethodName := ⟨RX1, "run", "(I)I"⟩
abbrev cX1_roundCounter : ByteArray := prog_1_method_16_code
def yX1_roundCounter : MethodName := ⟨RX1, "roundCounter", "()I"⟩
abbrev cX1_meanError : ByteArray := prog_1_method_17_code
def yX1_meanError : MethodName := ⟨RX1, "meanError", "()I"⟩
abbrev cX1_worstPair : ByteArray := prog_1_method_18_code
def yX1_worstPair : MethodName := ⟨RX1, "worstPair", "()I"⟩
abbrev cX1_relativeError : ByteArray := prog_1_method_19_code
def yX1_relativeError : MethodName := ⟨RX1, "relativeError", "(II)I"⟩
abbrev cX1_nearest : ByteArray := prog_1_method_20_code
def yX1_nearest : MethodName := ⟨RX1, "nearest", "(II)I"⟩
abbrev cX1_relay : ByteArray := prog_1_method_21_code
def yX1_relay : MethodName := ⟨RX1, "relay", "(II)I"⟩
abbrev cX1_triangles : ByteArray := prog_1_method_22_code
def yX1_triangles : MethodName := ⟨RX1, "triangles", "()I"⟩
abbrev cX1_violations : ByteArray := prog_1_method_23_code
def yX1_violations : MethodName := ⟨RX1, "violations", "()I"⟩
abbrev cX1_worstExcess : ByteArray := prog_1_method_24_code
def yX1_worstExcess : MethodName := ⟨RX1, "worstExcess", "()I"⟩
abbrev cX1_suspect : ByteArray := prog_1_method_25_code
def yX1_suspect : MethodName := ⟨RX1, "suspect", "()I"⟩
abbrev cX1_move : ByteArray := prog_1_method_26_code
def yX1_move : MethodName := ⟨RX1, "move", "(II)I"⟩
abbrev cX1_save : ByteArray := prog_1_method_27_code
def yX1_save : MethodName := ⟨RX1, "save", "(I)I"⟩
abbrev cX1_restore : ByteArray := prog_1_method_28_code
def yX1_restore : MethodName := ⟨RX1, "restore", "(I)I"⟩
abbrev cX1_isNode : ByteArray := prog_1_method_29_code
def yX1_isNode : MethodName := ⟨RX1, "isNode", "(I)Z"⟩
abbrev cX1_pairFault : ByteArray := prog_1_method_30_code
def yX1_pairFault : MethodName := ⟨RX1, "pairFault", "(II)I"⟩
abbrev cX1_knownPairFault : ByteArray := prog_1_method_31_code
def yX1_knownPairFault : MethodName := ⟨RX1, "knownPairFault", "(II)I"⟩
abbrev cX1_isWithin : ByteArray := prog_1_method_32_code
def yX1_isWithin : MethodName := ⟨RX1, "isWithin", "(III)Z"⟩
abbrev cX1_limited : ByteArray := prog_1_method_33_code
def yX1_limited : MethodName := ⟨RX1, "limited", "(JII)I"⟩
abbrev cX1_quotient : ByteArray := prog_1_method_34_code
def yX1_quotient : MethodName := ⟨RX1, "quotient", "(JJ)J"⟩
abbrev cX1_share : ByteArray := prog_1_method_35_code
def yX1_share : MethodName := ⟨RX1, "share", "(III)J"⟩
abbrev cX1_squareRoot : ByteArray := prog_1_method_36_code
def yX1_squareRoot : MethodName := ⟨RX1, "squareRoot", "(J)I"⟩
abbrev cX1_planarDistance : ByteArray := prog_1_method_37_code
def yX1_planarDistance : MethodName := ⟨RX1, "planarDistance", "(JJ)I"⟩
def RX2 : String := "NetworkCoordinatesModel"
def TX2 : u_T := fun k => match k with
  | 0 => ("NetworkCoordinatesModel", "state", "[I", true)
  | 1 => ("NetworkCoordinatesModel", "slots", "[I", true)
  | 2 => ("NetworkCoordinatesModel", "isSaved", "[Z", true)
  | 3 => ("NetworkCoordinatesModel", "newX", "I", false)
  | 4 => ("NetworkCoordinatesModel", "newY", "I", false)
  | 5 => ("NetworkCoordinatesModel", "newHeight", "I", false)
  | 6 => ("NetworkCoordinatesModel", "newError", "I", false)
  | 7 => ("NetworkCoordinatesModel", "triangleMany", "I", false)
  | 8 => ("NetworkCoordinatesModel", "violatedMany", "I", false)
  | 9 => ("NetworkCoordinatesModel", "mostExcess", "I", false)
  | _ => ("NetworkCoordinatesModel", "often", "[I", true)
def tyX2 : Nat → FieldType := fun k => match k with
  | 0 => .array .int
  | 1 => .array .int
  | 2 => .array .boolean
  | 3 => .int
  | 4 => .int
  | 5 => .int
  | 6 => .int
  | 7 => .int
  | 8 => .int
  | 9 => .int
  | _ => .array .int
abbrev wsX20 : List Cond := u_ws RX2 TX2 11
theorem nmX2 : ∀ a, a < 11 → ∀ b, b < 11 → a ≠ b → (TX2 a).2.1 ≠ (TX2 b).2.1 := by decide +kernel
theorem tyX2_ok : ∀ k, k < 11 → parseFieldDescriptor (TX2 k).2.2.1 = some (tyX2 k) := by decide +kernel
abbrev cX2_init : ByteArray := prog_4_method_1_code
def yX2_init : MethodName := ⟨RX2, "<init>", "()V"⟩
abbrev cX2_begin : ByteArray := prog_4_method_2_code
def yX2_begin : MethodName := ⟨RX2, "begin", "(I)V"⟩
abbrev cX2_in : ByteArray := prog_4_method_3_code
def yX2_in : MethodName := ⟨RX2, "in", "(III)Z"⟩
abbrev cX2_isNode : ByteArray := prog_4_method_4_code
def yX2_isNode : MethodName := ⟨RX2, "isNode", "(I)Z"⟩
abbrev cX2_plain : ByteArray := prog_4_method_5_code
def yX2_plain : MethodName := ⟨RX2, "plain", "(J)J"⟩
abbrev cX2_limited : ByteArray := prog_4_method_6_code
def yX2_limited : MethodName := ⟨RX2, "limited", "(JII)I"⟩
abbrev cX2_root : ByteArray := prog_4_method_7_code
def yX2_root : MethodName := ⟨RX2, "root", "(J)J"⟩
abbrev cX2_reset : ByteArray := prog_4_method_8_code
def yX2_reset : MethodName := ⟨RX2, "reset", "(I)I"⟩
abbrev cX2_set : ByteArray := prog_4_method_9_code
def yX2_set : MethodName := ⟨RX2, "set", "(II)I"⟩
abbrev cX2_cell : ByteArray := prog_4_method_10_code
def yX2_cell : MethodName := ⟨RX2, "cell", "(II)I"⟩
abbrev cX2_wrongPair : ByteArray := prog_4_method_11_code
def yX2_wrongPair : MethodName := ⟨RX2, "wrongPair", "(II)I"⟩
abbrev cX2_wrongKnown : ByteArray := prog_4_method_12_code
def yX2_wrongKnown : MethodName := ⟨RX2, "wrongKnown", "(II)I"⟩
abbrev cX2_setRtt : ByteArray := prog_4_method_13_code
def yX2_setRtt : MethodName := ⟨RX2, "setRtt", "(III)I"⟩
abbrev cX2_rtt : ByteArray := prog_4_method_14_code
def yX2_rtt : MethodName := ⟨RX2, "rtt", "(II)I"⟩
abbrev cX2_setLie : ByteArray := prog_4_method_15_code
def yX2_setLie : MethodName := ⟨RX2, "setLie", "(II)I"⟩
abbrev cX2_setGains : ByteArray := prog_4_method_16_code
def yX2_setGains : MethodName := ⟨RX2, "setGains", "(II)I"⟩
abbrev cX2_setMaxStep : ByteArray := prog_4_method_17_code
def yX2_setMaxStep : MethodName := ⟨RX2, "setMaxStep", "(I)I"⟩
abbrev cX2_place : ByteArray := prog_4_method_18_code
def yX2_place : MethodName := ⟨RX2, "place", "(IIII)I"⟩
abbrev cX2_of : ByteArray := prog_4_method_19_code
def yX2_of : MethodName := ⟨RX2, "of", "(II)I"⟩
abbrev cX2_x : ByteArray := prog_4_method_20_code
def yX2_x : MethodName := ⟨RX2, "x", "(I)I"⟩
abbrev cX2_y : ByteArray := prog_4_method_21_code
def yX2_y : MethodName := ⟨RX2, "y", "(I)I"⟩
abbrev cX2_height : ByteArray := prog_4_method_22_code
def yX2_height : MethodName := ⟨RX2, "height", "(I)I"⟩
abbrev cX2_error : ByteArray := prog_4_method_23_code
def yX2_error : MethodName := ⟨RX2, "error", "(I)I"⟩
abbrev cX2_planar : ByteArray := prog_4_method_24_code
def yX2_planar : MethodName := ⟨RX2, "planar", "(JJ)I"⟩
abbrev cX2_predicted : ByteArray := prog_4_method_25_code
def yX2_predicted : MethodName := ⟨RX2, "predicted", "(II)I"⟩
abbrev cX2_predict : ByteArray := prog_4_method_26_code
def yX2_predict : MethodName := ⟨RX2, "predict", "(II)I"⟩
abbrev cX2_sample : ByteArray := prog_4_method_27_code
def yX2_sample : MethodName := ⟨RX2, "sample", "(II)I"⟩
abbrev cX2_workOut : ByteArray := prog_4_method_28_code
def yX2_workOut : MethodName := ⟨RX2, "workOut", "(II)V"⟩
abbrev cX2_update : ByteArray := prog_4_method_29_code
def yX2_update : MethodName := ⟨RX2, "update", "(II)V"⟩
abbrev cX2_measure : ByteArray := prog_4_method_30_code
def yX2_measure : MethodName := ⟨RX2, "measure", "(II)I"⟩
abbrev cX2_round : ByteArray := prog_4_method_31_code
def yX2_round : MethodName := ⟨RX2, "round", "()I"⟩
abbrev cX2_run : ByteArray := prog_4_method_32_code
def yX2_run : MethodName := ⟨RX2, "run", "(I)I"⟩
abbrev cX2_roundCounter : ByteArray := prog_4_method_33_code
def yX2_roundCounter : MethodName := ⟨RX2, "roundCounter", "()I"⟩
abbrev cX2_errorOf : ByteArray := prog_4_method_34_code
def yX2_errorOf : MethodName := ⟨RX2, "errorOf", "(II)I"⟩
abbrev cX2_meanError : ByteArray := prog_4_method_35_code
def yX2_meanError : MethodName := ⟨RX2, "meanError", "()I"⟩
abbrev cX2_worstPair : ByteArray := prog_4_method_36_code
def yX2_worstPair : MethodName := ⟨RX2, "worstPair", "()I"⟩
abbrev cX2_relativeError : ByteArray := prog_4_method_37_code
def yX2_relativeError : MethodName := ⟨RX2, "relativeError", "(II)I"⟩
abbrev cX2_rankOf : ByteArray := prog_4_method_38_code
def yX2_rankOf : MethodName := ⟨RX2, "rankOf", "(II)I"⟩
abbrev cX2_nearest : ByteArray := prog_4_method_39_code
def yX2_nearest : MethodName := ⟨RX2, "nearest", "(II)I"⟩
abbrev cX2_relay : ByteArray := prog_4_method_40_code
def yX2_relay : MethodName := ⟨RX2, "relay", "(II)I"⟩
abbrev cX2_isTriangle : ByteArray := prog_4_method_41_code
def yX2_isTriangle : MethodName := ⟨RX2, "isTriangle", "(III)Z"⟩
abbrev cX2_excess : ByteArray := prog_4_method_42_code
def yX2_excess : MethodName := ⟨RX2, "excess", "(III)I"⟩
abbrev cX2_countTriangle : ByteArray := prog_4_method_43_code
def yX2_countTriangle : MethodName := ⟨RX2, "countTriangle", "(III)V"⟩
abbrev cX2_countAll : ByteArray := prog_4_method_44_code
def yX2_countAll : MethodName := ⟨RX2, "countAll", "()V"⟩
abbrev cX2_triangles : ByteArray := prog_4_method_45_code
def yX2_triangles : MethodName := ⟨RX2, "triangles", "()I"⟩
abbrev cX2_violations : ByteArray := prog_4_method_46_code
def yX2_violations : MethodName := ⟨RX2, "violations", "()I"⟩
abbrev cX2_worstExcess : ByteArray := prog_4_method_47_code
def yX2_worstExcess : MethodName := ⟨RX2, "worstExcess", "()I"⟩
abbrev cX2_suspect : ByteArray := prog_4_method_48_code
def yX2_suspect : MethodName := ⟨RX2, "suspect", "()I"⟩
abbrev cX2_move : ByteArray := prog_4_method_49_code
def yX2_move : MethodName := ⟨RX2, "move", "(II)I"⟩
abbrev cX2_save : ByteArray := prog_4_method_50_code
def yX2_save : MethodName := ⟨RX2, "save", "(I)I"⟩
abbrev cX2_restore : ByteArray := prog_4_method_51_code
def yX2_restore : MethodName := ⟨RX2, "restore", "(I)I"⟩
def RJ9 : String := "java/lang/Math"
def TJ9 : u_T := fun k => match k with
  | _ => ("", "", "", false)
def tyJ9 : Nat → FieldType := fun k => match k with
  | _ => .int
abbrev wsJ90 : List Cond := u_ws RJ9 TJ9 0
theorem nmJ9 : ∀ a, a < 0 → ∀ b, b < 0 → a ≠ b → (TJ9 a).2.1 ≠ (TJ9 b).2.1 := by decide +kernel
theorem tyJ9_ok : ∀ k, k < 0 → parseFieldDescriptor (TJ9 k).2.2.1 = some (tyJ9 k) := by decide +kernel
abbrev cJ9_floorMod_7cf53 : ByteArray := prog_5_method_50_code
def yJ9_floorMod_7cf53 : MethodName := ⟨RJ9, "floorMod", "(II)I"⟩
abbrev cJ9_abs_0f7a4 : ByteArray := prog_5_method_59_code
def yJ9_abs_0f7a4 : MethodName := ⟨RJ9, "abs", "(I)I"⟩
abbrev cJ9_max_7cf53 : ByteArray := prog_5_method_65_code
def yJ9_max_7cf53 : MethodName := ⟨RJ9, "max", "(II)I"⟩
abbrev cJ9_max_f86c9 : ByteArray := prog_5_method_66_code
def yJ9_max_f86c9 : MethodName := ⟨RJ9, "max", "(JJ)J"⟩
abbrev cJ9_min_f86c9 : ByteArray := prog_5_method_70_code
def yJ9_min_f86c9 : MethodName := ⟨RJ9, "min", "(JJ)J"⟩
def RJ10 : String := "java/lang/System"
def TJ10 : u_T := fun k => match k with
  | _ => ("", "", "", false)
def tyJ10 : Nat → FieldType := fun k => match k with
  | _ => .int
abbrev wsJ100 : List Cond := u_ws RJ10 TJ10 0
theorem nmJ10 : ∀ a, a < 0 → ∀ b, b < 0 → a ≠ b → (TJ10 a).2.1 ≠ (TJ10 b).2.1 := by decide +kernel
theorem tyJ10_ok : ∀ k, k < 0 → parseFieldDescriptor (TJ10 k).2.2.1 = some (tyJ10 k) := by decide +kernel
def RL : String := "NetworkCoordinatesLaw"
abbrev cL_law : ByteArray := code
def yL_law : MethodName := ⟨RL, "law", "([I)Z"⟩
def wsX0_settle : List Cond := .code yX0_settle cX0_settle 6 none :: ([.fieldLink RX0 21 "NetworkCoordinates$State" "xs" "[I", .fieldLink RX0 25 "NetworkCoordinates$State" "ys" "[I", .fieldLink RX0 28 "NetworkCoordinates$State" "heights" "[I", .fieldLink RX0 31 "NetworkCoordinates$State" "errors" "[I"] ++ wsX00)
def wsX0_begin : List Cond := .code yX0_begin cX0_begin 3 none :: ([.fieldLink RX0 44 "NetworkCoordinates$State" "nodes" "I", .fieldLink RX0 47 "NetworkCoordinates$State" "round" "I", .fieldLink RX0 34 "NetworkCoordinates$State" "lies" "[I", .fieldLink RX0 37 "NetworkCoordinates$State" "rtts" "[I", .methodLink RX0 50 yX0_settle, .instanceMethod yX0_settle, .selects RX0 yX0_settle yX0_settle, .initialized RX0, .code yX0_settle cX0_settle 6 none, .fieldLink RX0 21 "NetworkCoordinates$State" "xs" "[I", .fieldLink RX0 25 "NetworkCoordinates$State" "ys" "[I", .fieldLink RX0 28 "NetworkCoordinates$State" "heights" "[I", .fieldLink RX0 31 "NetworkCoordinates$State" "errors" "[I"] ++ wsX00)
def wsX0_init : List Cond := .code yX0_init cX0_init 1 none :: ([.methodLink RX0 3 objectInit, .instanceMethod objectInit, .code objectInit ⟨#[0xb1]⟩ 1 none, .fieldLink RX0 9 "NetworkCoordinates$State" "errorGain" "I", .fieldLink RX0 15 "NetworkCoordinates$State" "moveGain" "I", .fieldLink RX0 18 "NetworkCoordinates$State" "maxStep" "I", .arrayClass .int, .fieldLink RX0 21 "NetworkCoordinates$State" "xs" "[I", .fieldLink RX0 25 "NetworkCoordinates$State" "ys" "[I", .fieldLink RX0 28 "NetworkCoordinates$State" "heights" "[I", .fieldLink RX0 31 "NetworkCoordinates$State" "errors" "[I", .fieldLink RX0 34 "NetworkCoordinates$State" "lies" "[I", .fieldLink RX0 37 "NetworkCoordinates$State" "rtts" "[I", .methodLink RX0 40 yX0_begin, .instanceMethod yX0_begin, .selects RX0 yX0_begin yX0_begin, .initialized RX0, .code yX0_begin cX0_begin 3 none, .fieldLink RX0 44 "NetworkCoordinates$State" "nodes" "I", .fieldLink RX0 47 "NetworkCoordinates$State" "round" "I", .methodLink RX0 50 yX0_settle, .instanceMethod yX0_settle, .selects RX0 yX0_settle yX0_settle, .code yX0_settle cX0_settle 6 none] ++ wsX00)
def wsX0_copyFrom : List Cond := .code yX0_copyFrom cX0_copyFrom 2 none :: ([.fieldLink RX0 44 "NetworkCoordinates$State" "nodes" "I", .fieldLink RX0 47 "NetworkCoordinates$State" "round" "I", .fieldLink RX0 9 "NetworkCoordinates$State" "errorGain" "I", .fieldLink RX0 15 "NetworkCoordinates$State" "moveGain" "I", .fieldLink RX0 18 "NetworkCoordinates$State" "maxStep" "I", .fieldLink RX0 21 "NetworkCoordinates$State" "xs" "[I", .methodLink RX0 54 arraycopyName, .native arraycopyName, .static arraycopyName, .initialized "java/lang/System", .fieldLink RX0 25 "NetworkCoordinates$State" "ys" "[I", .fieldLink RX0 28 "NetworkCoordinates$State" "heights" "[I", .fieldLink RX0 31 "NetworkCoordinates$State" "errors" "[I", .fieldLink RX0 34 "NetworkCoordinates$State" "lies" "[I", .fieldLink RX0 37 "NetworkCoordinates$State" "rtts" "[I"] ++ wsX00)
def wsX0_rttOf : List Cond := .code yX0_rttOf cX0_rttOf 3 (some .int) :: ([.fieldLink RX0 37 "NetworkCoordinates$State" "rtts" "[I"] ++ wsX00)
def wsX0_keepRtt : List Cond := .code yX0_keepRtt cX0_keepRtt 4 none :: ([.fieldLink RX0 37 "NetworkCoordinates$State" "rtts" "[I"] ++ wsX00)
def wsX0_isKnown : List Cond := .code yX0_isKnown cX0_isKnown 3 (some .boolean) :: ([.methodLink RX0 60 yX0_rttOf, .instanceMethod yX0_rttOf, .selects RX0 yX0_rttOf yX0_rttOf, .initialized RX0, .code yX0_rttOf cX0_rttOf 3 (some .int), .fieldLink RX0 37 "NetworkCoordinates$State" "rtts" "[I"] ++ wsX00)
def wsX0_sample : List Cond := .code yX0_sample cX0_sample 3 (some .int) :: ([.fieldLink RX0 34 "NetworkCoordinates$State" "lies" "[I", .methodLink RX0 60 yX0_rttOf, .instanceMethod yX0_rttOf, .selects RX0 yX0_rttOf yX0_rttOf, .initialized RX0, .code yX0_rttOf cX0_rttOf 3 (some .int), .fieldLink RX0 37 "NetworkCoordinates$State" "rtts" "[I"] ++ wsX00)
def wsX1_squareRoot : List Cond := .code yX1_squareRoot cX1_squareRoot 7 (some .int) :: ([])
def wsX1_planarDistance : List Cond := .code yX1_planarDistance cX1_planarDistance 4 (some .int) :: ([.methodLink RX1 149 yX1_squareRoot, .static yX1_squareRoot, .initialized RX1, .code yX1_squareRoot cX1_squareRoot 7 (some .int)])
def wsX0_predicted : List Cond := .code yX0_predicted cX0_predicted 3 (some .int) :: ([.fieldLink RX0 21 "NetworkCoordinates$State" "xs" "[I", .fieldLink RX0 25 "NetworkCoordinates$State" "ys" "[I", .fieldLink RX0 28 "NetworkCoordinates$State" "heights" "[I", .static yX1_planarDistance, .initialized RX1, .code yX1_planarDistance cX1_planarDistance 4 (some .int), .methodLink RX1 149 yX1_squareRoot, .static yX1_squareRoot, .code yX1_squareRoot cX1_squareRoot 7 (some .int)] ++ wsX00)
def wsJ9_floorMod_7cf53 : List Cond := .code yJ9_floorMod_7cf53 cJ9_floorMod_7cf53 3 (some .int) :: ([])
def wsX1_quotient : List Cond := .code yX1_quotient cX1_quotient 4 (some .long) :: ([])
def wsX0_weight : List Cond := .code yX0_weight cX0_weight 3 (some .long) :: ([.constantLong RX0 101 (1000), .fieldLink RX0 31 "NetworkCoordinates$State" "errors" "[I", .static yX1_quotient, .initialized RX1, .code yX1_quotient cX1_quotient 4 (some .long)] ++ wsX00)
def wsX1_limited : List Cond := .code yX1_limited cX1_limited 4 (some .int) :: ([.methodLink RX1 144 Lib.MathLoose.min_long.x, .static Lib.MathLoose.min_long.x, .initialized "java/lang/Math", .code Lib.MathLoose.min_long.x Lib.MathLoose.min_long.code 4 (some .long), .methodLink RX1 147 Lib.MathLoose.max_long.x, .static Lib.MathLoose.max_long.x, .code Lib.MathLoose.max_long.x Lib.MathLoose.max_long.code 4 (some .long)])
def wsX0_stepOf_r1 : List Cond := [Cond.fieldLink RX0 15 "NetworkCoordinates$State" "moveGain" "I", Cond.constantLong RX0 101 (1000), Cond.fieldLink RX0 18 "NetworkCoordinates$State" "maxStep" "I", Cond.methodLink RX0 117 yX0_weight, Cond.instanceMethod yX0_weight, Cond.selects RX0 yX0_weight yX0_weight, Cond.initialized RX0, Cond.code yX0_weight cX0_weight 3 (some .long), Cond.fieldLink RX0 31 "NetworkCoordinates$State" "errors" "[I", Cond.static yX1_quotient, Cond.initialized RX1, Cond.code yX1_quotient cX1_quotient 4 (some .long), Cond.methodLink RX0 107 yX0_sample, Cond.instanceMethod yX0_sample, Cond.selects RX0 yX0_sample yX0_sample, Cond.code yX0_sample cX0_sample 3 (some .int), Cond.fieldLink RX0 34 "NetworkCoordinates$State" "lies" "[I", Cond.methodLink RX0 60 yX0_rttOf, Cond.instanceMethod yX0_rttOf, Cond.selects RX0 yX0_rttOf yX0_rttOf, Cond.code yX0_rttOf cX0_rttOf 3 (some .int), Cond.fieldLink RX0 37 "NetworkCoordinates$State" "rtts" "[I", Cond.static yX1_limited, Cond.code yX1_limited cX1_limited 4 (some .int)]
def wsX0_stepOf_r2 : List Cond := [Cond.methodLink RX1 144 Lib.MathLoose.min_long.x, Cond.static Lib.MathLoose.min_long.x, Cond.initialized "java/lang/Math", Cond.code Lib.MathLoose.min_long.x Lib.MathLoose.min_long.code 4 (some .long), Cond.methodLink RX1 147 Lib.MathLoose.max_long.x, Cond.static Lib.MathLoose.max_long.x, Cond.code Lib.MathLoose.max_long.x Lib.MathLoose.max_long.code 4 (some .long)]
def wsX0_stepOf : List Cond := .code yX0_stepOf cX0_stepOf 6 (some .int) :: ((wsX0_stepOf_r1 ++ wsX0_stepOf_r2) ++ wsX00)
def wsX1_share : List Cond := .code yX1_share cX1_share 3 (some .long) :: ([.methodLink RX1 108 yX1_quotient, .static yX1_quotient, .initialized RX1, .code yX1_quotient cX1_quotient 4 (some .long)])
def wsX0_xAfter : List Cond := .code yX0_xAfter cX0_xAfter 7 (some .int) :: ([.fieldLink RX0 21 "NetworkCoordinates$State" "xs" "[I", .constant RX0 132 (-100000), .constant RX0 133 (100000), .static yX1_share, .initialized RX1, .code yX1_share cX1_share 3 (some .long), .methodLink RX1 108 yX1_quotient, .static yX1_quotient, .code yX1_quotient cX1_quotient 4 (some .long), .static yX1_limited, .code yX1_limited cX1_limited 4 (some .int), .methodLink RX1 144 Lib.MathLoose.min_long.x, .static Lib.MathLoose.min_long.x, .initialized "java/lang/Math", .code Lib.MathLoose.min_long.x Lib.MathLoose.min_long.code 4 (some .long), .methodLink RX1 147 Lib.MathLoose.max_long.x, .static Lib.MathLoose.max_long.x, .code Lib.MathLoose.max_long.x Lib.MathLoose.max_long.code 4 (some .long)] ++ wsX00)
def wsX0_yAfter : List Cond := .code yX0_yAfter cX0_yAfter 7 (some .int) :: ([.fieldLink RX0 25 "NetworkCoordinates$State" "ys" "[I", .constant RX0 132 (-100000), .constant RX0 133 (100000), .static yX1_share, .initialized RX1, .code yX1_share cX1_share 3 (some .long), .methodLink RX1 108 yX1_quotient, .static yX1_quotient, .code yX1_quotient cX1_quotient 4 (some .long), .static yX1_limited, .code yX1_limited cX1_limited 4 (some .int), .methodLink RX1 144 Lib.MathLoose.min_long.x, .static Lib.MathLoose.min_long.x, .initialized "java/lang/Math", .code Lib.MathLoose.min_long.x Lib.MathLoose.min_long.code 4 (some .long), .methodLink RX1 147 Lib.MathLoose.max_long.x, .static Lib.MathLoose.max_long.x, .code Lib.MathLoose.max_long.x Lib.MathLoose.max_long.code 4 (some .long)] ++ wsX00)
def wsX0_heightAfter : List Cond := .code yX0_heightAfter cX0_heightAfter 7 (some .int) :: ([.fieldLink RX0 28 "NetworkCoordinates$State" "heights" "[I", .constant RX0 133 (100000), .static yX1_share, .initialized RX1, .code yX1_share cX1_share 3 (some .long), .methodLink RX1 108 yX1_quotient, .static yX1_quotient, .code yX1_quotient cX1_quotient 4 (some .long), .static yX1_limited, .code yX1_limited cX1_limited 4 (some .int), .methodLink RX1 144 Lib.MathLoose.min_long.x, .static Lib.MathLoose.min_long.x, .initialized "java/lang/Math", .code Lib.MathLoose.min_long.x Lib.MathLoose.min_long.code 4 (some .long), .methodLink RX1 147 Lib.MathLoose.max_long.x, .static Lib.MathLoose.max_long.x, .code Lib.MathLoose.max_long.x Lib.MathLoose.max_long.code 4 (some .long)] ++ wsX00)
def wsX0_errorAfter_r1 : List Cond := [Cond.constantLong RX0 101 (1000), Cond.methodLink RX0 110 Lib.Math.abs.name, Cond.static Lib.Math.abs.name, Cond.initialized "java/lang/Math", Cond.code Lib.Math.abs.name Lib.Math.abs.code 1 (some .int), Cond.methodLink RX0 114 Lib.MathLoose.min_long.x, Cond.static Lib.MathLoose.min_long.x, Cond.code Lib.MathLoose.min_long.x Lib.MathLoose.min_long.code 4 (some .long), Cond.fieldLink RX0 9 "NetworkCoordinates$State" "errorGain" "I", Cond.fieldLink RX0 31 "NetworkCoordinates$State" "errors" "[I", Cond.methodLink RX0 121 Lib.MathLoose.max_long.x, Cond.static Lib.MathLoose.max_long.x, Cond.code Lib.MathLoose.max_long.x Lib.MathLoose.max_long.code 4 (some .long), Cond.methodLink RX0 107 yX0_sample, Cond.instanceMethod yX0_sample, Cond.selects RX0 yX0_sample yX0_sample, Cond.initialized RX0, Cond.code yX0_sample cX0_sample 3 (some .int), Cond.fieldLink RX0 34 "NetworkCoordinates$State" "lies" "[I", Cond.methodLink RX0 60 yX0_rttOf, Cond.instanceMethod yX0_rttOf, Cond.selects RX0 yX0_rttOf yX0_rttOf, Cond.code yX0_rttOf cX0_rttOf 3 (some .int), Cond.fieldLink RX0 37 "NetworkCoordinates$State" "rtts" "[I"]
def wsX0_errorAfter_r2 : List Cond := [Cond.static yX1_quotient, Cond.initialized RX1, Cond.code yX1_quotient cX1_quotient 4 (some .long), Cond.methodLink RX0 117 yX0_weight, Cond.instanceMethod yX0_weight, Cond.selects RX0 yX0_weight yX0_weight, Cond.code yX0_weight cX0_weight 3 (some .long)]
def wsX0_errorAfter : List Cond := .code yX0_errorAfter cX0_errorAfter 11 (some .int) :: ((wsX0_errorAfter_r1 ++ wsX0_errorAfter_r2) ++ wsX00)
def wsX0_update_r1 : List Cond := [Cond.methodLink RX0 81 yX0_predicted, Cond.instanceMethod yX0_predicted, Cond.selects RX0 yX0_predicted yX0_predicted, Cond.initialized RX0, Cond.code yX0_predicted cX0_predicted 3 (some .int), Cond.fieldLink RX0 21 "NetworkCoordinates$State" "xs" "[I", Cond.fieldLink RX0 25 "NetworkCoordinates$State" "ys" "[I", Cond.fieldLink RX0 28 "NetworkCoordinates$State" "heights" "[I", Cond.static yX1_planarDistance, Cond.initialized RX1, Cond.code yX1_planarDistance cX1_planarDistance 4 (some .int), Cond.methodLink RX1 149 yX1_squareRoot, Cond.static yX1_squareRoot, Cond.code yX1_squareRoot cX1_squareRoot 7 (some .int), Cond.methodLink RX0 84 yX0_stepOf, Cond.instanceMethod yX0_stepOf, Cond.selects RX0 yX0_stepOf yX0_stepOf, Cond.code yX0_stepOf cX0_stepOf 6 (some .int), Cond.fieldLink RX0 15 "NetworkCoordinates$State" "moveGain" "I", Cond.constantLong RX0 101 (1000), Cond.fieldLink RX0 18 "NetworkCoordinates$State" "maxStep" "I", Cond.methodLink RX0 117 yX0_weight, Cond.instanceMethod yX0_weight, Cond.selects RX0 yX0_weight yX0_weight]
def wsX0_update_r2 : List Cond := [Cond.code yX0_weight cX0_weight 3 (some .long), Cond.fieldLink RX0 31 "NetworkCoordinates$State" "errors" "[I", Cond.static yX1_quotient, Cond.code yX1_quotient cX1_quotient 4 (some .long), Cond.methodLink RX0 107 yX0_sample, Cond.instanceMethod yX0_sample, Cond.selects RX0 yX0_sample yX0_sample, Cond.code yX0_sample cX0_sample 3 (some .int), Cond.fieldLink RX0 34 "NetworkCoordinates$State" "lies" "[I", Cond.methodLink RX0 60 yX0_rttOf, Cond.instanceMethod yX0_rttOf, Cond.selects RX0 yX0_rttOf yX0_rttOf, Cond.code yX0_rttOf cX0_rttOf 3 (some .int), Cond.fieldLink RX0 37 "NetworkCoordinates$State" "rtts" "[I", Cond.static yX1_limited, Cond.code yX1_limited cX1_limited 4 (some .int), Cond.methodLink RX1 144 Lib.MathLoose.min_long.x, Cond.static Lib.MathLoose.min_long.x, Cond.initialized "java/lang/Math", Cond.code Lib.MathLoose.min_long.x Lib.MathLoose.min_long.code 4 (some .long), Cond.methodLink RX1 147 Lib.MathLoose.max_long.x, Cond.static Lib.MathLoose.max_long.x, Cond.code Lib.MathLoose.max_long.x Lib.MathLoose.max_long.code 4 (some .long), Cond.methodLink RX0 88 yX0_xAfter]
def wsX0_update_r3 : List Cond := [Cond.instanceMethod yX0_xAfter, Cond.selects RX0 yX0_xAfter yX0_xAfter, Cond.code yX0_xAfter cX0_xAfter 7 (some .int), Cond.constant RX0 132 (-100000), Cond.constant RX0 133 (100000), Cond.static yX1_share, Cond.code yX1_share cX1_share 3 (some .long), Cond.methodLink RX1 108 yX1_quotient, Cond.methodLink RX0 92 yX0_yAfter, Cond.instanceMethod yX0_yAfter, Cond.selects RX0 yX0_yAfter yX0_yAfter, Cond.code yX0_yAfter cX0_yAfter 7 (some .int), Cond.methodLink RX0 95 yX0_heightAfter, Cond.instanceMethod yX0_heightAfter, Cond.selects RX0 yX0_heightAfter yX0_heightAfter, Cond.code yX0_heightAfter cX0_heightAfter 7 (some .int), Cond.methodLink RX0 98 yX0_errorAfter, Cond.instanceMethod yX0_errorAfter, Cond.selects RX0 yX0_errorAfter yX0_errorAfter, Cond.code yX0_errorAfter cX0_errorAfter 11 (some .int), Cond.methodLink RX0 110 Lib.Math.abs.name, Cond.static Lib.Math.abs.name, Cond.code Lib.Math.abs.name Lib.Math.abs.code 1 (some .int), Cond.methodLink RX0 114 Lib.MathLoose.min_long.x]
def wsX0_update_r4 : List Cond := [Cond.fieldLink RX0 9 "NetworkCoordinates$State" "errorGain" "I", Cond.methodLink RX0 121 Lib.MathLoose.max_long.x, Cond.methodLink RX0 50 yX0_settle, Cond.instanceMethod yX0_settle, Cond.selects RX0 yX0_settle yX0_settle, Cond.code yX0_settle cX0_settle 6 none]
def wsX0_update : List Cond := .code yX0_update cX0_update 8 none :: ((wsX0_update_r1 ++ (wsX0_update_r2 ++ (wsX0_update_r3 ++ wsX0_update_r4))) ++ wsX00)
def wsX0_playRound_r1 : List Cond := [Cond.fieldLink RX0 44 "NetworkCoordinates$State" "nodes" "I", Cond.fieldLink RX0 47 "NetworkCoordinates$State" "round" "I", Cond.methodLink RX0 68 yJ9_floorMod_7cf53, Cond.static yJ9_floorMod_7cf53, Cond.initialized RJ9, Cond.code yJ9_floorMod_7cf53 cJ9_floorMod_7cf53 3 (some .int), Cond.methodLink RX0 73 yX0_isKnown, Cond.instanceMethod yX0_isKnown, Cond.selects RX0 yX0_isKnown yX0_isKnown, Cond.initialized RX0, Cond.code yX0_isKnown cX0_isKnown 3 (some .boolean), Cond.methodLink RX0 60 yX0_rttOf, Cond.instanceMethod yX0_rttOf, Cond.selects RX0 yX0_rttOf yX0_rttOf, Cond.code yX0_rttOf cX0_rttOf 3 (some .int), Cond.fieldLink RX0 37 "NetworkCoordinates$State" "rtts" "[I", Cond.methodLink RX0 77 yX0_update, Cond.instanceMethod yX0_update, Cond.selects RX0 yX0_update yX0_update, Cond.code yX0_update cX0_update 8 none, Cond.methodLink RX0 81 yX0_predicted, Cond.instanceMethod yX0_predicted, Cond.selects RX0 yX0_predicted yX0_predicted, Cond.code yX0_predicted cX0_predicted 3 (some .int)]
def wsX0_playRound_r2 : List Cond := [Cond.fieldLink RX0 21 "NetworkCoordinates$State" "xs" "[I", Cond.fieldLink RX0 25 "NetworkCoordinates$State" "ys" "[I", Cond.fieldLink RX0 28 "NetworkCoordinates$State" "heights" "[I", Cond.static yX1_planarDistance, Cond.initialized RX1, Cond.code yX1_planarDistance cX1_planarDistance 4 (some .int), Cond.methodLink RX1 149 yX1_squareRoot, Cond.static yX1_squareRoot, Cond.code yX1_squareRoot cX1_squareRoot 7 (some .int), Cond.methodLink RX0 84 yX0_stepOf, Cond.instanceMethod yX0_stepOf, Cond.selects RX0 yX0_stepOf yX0_stepOf, Cond.code yX0_stepOf cX0_stepOf 6 (some .int), Cond.fieldLink RX0 15 "NetworkCoordinates$State" "moveGain" "I", Cond.constantLong RX0 101 (1000), Cond.fieldLink RX0 18 "NetworkCoordinates$State" "maxStep" "I", Cond.methodLink RX0 117 yX0_weight, Cond.instanceMethod yX0_weight, Cond.selects RX0 yX0_weight yX0_weight, Cond.code yX0_weight cX0_weight 3 (some .long), Cond.fieldLink RX0 31 "NetworkCoordinates$State" "errors" "[I", Cond.static yX1_quotient, Cond.code yX1_quotient cX1_quotient 4 (some .long), Cond.methodLink RX0 107 yX0_sample]
def wsX0_playRound_r3 : List Cond := [Cond.instanceMethod yX0_sample, Cond.selects RX0 yX0_sample yX0_sample, Cond.code yX0_sample cX0_sample 3 (some .int), Cond.fieldLink RX0 34 "NetworkCoordinates$State" "lies" "[I", Cond.static yX1_limited, Cond.code yX1_limited cX1_limited 4 (some .int), Cond.methodLink RX1 144 Lib.MathLoose.min_long.x, Cond.static Lib.MathLoose.min_long.x, Cond.initialized "java/lang/Math", Cond.code Lib.MathLoose.min_long.x Lib.MathLoose.min_long.code 4 (some .long), Cond.methodLink RX1 147 Lib.MathLoose.max_long.x, Cond.static Lib.MathLoose.max_long.x, Cond.code Lib.MathLoose.max_long.x Lib.MathLoose.max_long.code 4 (some .long), Cond.methodLink RX0 88 yX0_xAfter, Cond.instanceMethod yX0_xAfter, Cond.selects RX0 yX0_xAfter yX0_xAfter, Cond.code yX0_xAfter cX0_xAfter 7 (some .int), Cond.constant RX0 132 (-100000), Cond.constant RX0 133 (100000), Cond.static yX1_share, Cond.code yX1_share cX1_share 3 (some .long), Cond.methodLink RX1 108 yX1_quotient, Cond.methodLink RX0 92 yX0_yAfter, Cond.instanceMethod yX0_yAfter]
def wsX0_playRound_r4 : List Cond := [Cond.selects RX0 yX0_yAfter yX0_yAfter, Cond.code yX0_yAfter cX0_yAfter 7 (some .int), Cond.methodLink RX0 95 yX0_heightAfter, Cond.instanceMethod yX0_heightAfter, Cond.selects RX0 yX0_heightAfter yX0_heightAfter, Cond.code yX0_heightAfter cX0_heightAfter 7 (some .int), Cond.methodLink RX0 98 yX0_errorAfter, Cond.instanceMethod yX0_errorAfter, Cond.selects RX0 yX0_errorAfter yX0_errorAfter, Cond.code yX0_errorAfter cX0_errorAfter 11 (some .int), Cond.methodLink RX0 110 Lib.Math.abs.name, Cond.static Lib.Math.abs.name, Cond.code Lib.Math.abs.name Lib.Math.abs.code 1 (some .int), Cond.methodLink RX0 114 Lib.MathLoose.min_long.x, Cond.fieldLink RX0 9 "NetworkCoordinates$State" "errorGain" "I", Cond.methodLink RX0 121 Lib.MathLoose.max_long.x, Cond.methodLink RX0 50 yX0_settle, Cond.instanceMethod yX0_settle, Cond.selects RX0 yX0_settle yX0_settle, Cond.code yX0_settle cX0_settle 6 none]
def wsX0_playRound : List Cond := .code yX0_playRound cX0_playRound 6 (some .int) :: ((wsX0_playRound_r1 ++ (wsX0_playRound_r2 ++ (wsX0_playRound_r3 ++ wsX0_playRound_r4))) ++ wsX00)
def wsX0_distanceMoved_r1 : List Cond := [Cond.fieldLink RX0 21 "NetworkCoordinates$State" "xs" "[I", Cond.fieldLink RX0 25 "NetworkCoordinates$State" "ys" "[I", Cond.methodLink RX0 81 yX0_predicted, Cond.instanceMethod yX0_predicted, Cond.selects RX0 yX0_predicted yX0_predicted, Cond.initialized RX0, Cond.code yX0_predicted cX0_predicted 3 (some .int), Cond.fieldLink RX0 28 "NetworkCoordinates$State" "heights" "[I", Cond.static yX1_planarDistance, Cond.initialized RX1, Cond.code yX1_planarDistance cX1_planarDistance 4 (some .int), Cond.methodLink RX1 149 yX1_squareRoot, Cond.static yX1_squareRoot, Cond.code yX1_squareRoot cX1_squareRoot 7 (some .int), Cond.methodLink RX0 84 yX0_stepOf, Cond.instanceMethod yX0_stepOf, Cond.selects RX0 yX0_stepOf yX0_stepOf, Cond.code yX0_stepOf cX0_stepOf 6 (some .int), Cond.fieldLink RX0 15 "NetworkCoordinates$State" "moveGain" "I", Cond.constantLong RX0 101 (1000), Cond.fieldLink RX0 18 "NetworkCoordinates$State" "maxStep" "I", Cond.methodLink RX0 117 yX0_weight, Cond.instanceMethod yX0_weight, Cond.selects RX0 yX0_weight yX0_weight]
def wsX0_distanceMoved_r2 : List Cond := [Cond.code yX0_weight cX0_weight 3 (some .long), Cond.fieldLink RX0 31 "NetworkCoordinates$State" "errors" "[I", Cond.static yX1_quotient, Cond.code yX1_quotient cX1_quotient 4 (some .long), Cond.methodLink RX0 107 yX0_sample, Cond.instanceMethod yX0_sample, Cond.selects RX0 yX0_sample yX0_sample, Cond.code yX0_sample cX0_sample 3 (some .int), Cond.fieldLink RX0 34 "NetworkCoordinates$State" "lies" "[I", Cond.methodLink RX0 60 yX0_rttOf, Cond.instanceMethod yX0_rttOf, Cond.selects RX0 yX0_rttOf yX0_rttOf, Cond.code yX0_rttOf cX0_rttOf 3 (some .int), Cond.fieldLink RX0 37 "NetworkCoordinates$State" "rtts" "[I", Cond.static yX1_limited, Cond.code yX1_limited cX1_limited 4 (some .int), Cond.methodLink RX1 144 Lib.MathLoose.min_long.x, Cond.static Lib.MathLoose.min_long.x, Cond.initialized "java/lang/Math", Cond.code Lib.MathLoose.min_long.x Lib.MathLoose.min_long.code 4 (some .long), Cond.methodLink RX1 147 Lib.MathLoose.max_long.x, Cond.static Lib.MathLoose.max_long.x, Cond.code Lib.MathLoose.max_long.x Lib.MathLoose.max_long.code 4 (some .long), Cond.methodLink RX0 88 yX0_xAfter]
def wsX0_distanceMoved_r3 : List Cond := [Cond.instanceMethod yX0_xAfter, Cond.selects RX0 yX0_xAfter yX0_xAfter, Cond.code yX0_xAfter cX0_xAfter 7 (some .int), Cond.constant RX0 132 (-100000), Cond.constant RX0 133 (100000), Cond.static yX1_share, Cond.code yX1_share cX1_share 3 (some .long), Cond.methodLink RX1 108 yX1_quotient, Cond.methodLink RX0 92 yX0_yAfter, Cond.instanceMethod yX0_yAfter, Cond.selects RX0 yX0_yAfter yX0_yAfter, Cond.code yX0_yAfter cX0_yAfter 7 (some .int)]
def wsX0_distanceMoved : List Cond := .code yX0_distanceMoved cX0_distanceMoved 5 (some .int) :: ((wsX0_distanceMoved_r1 ++ (wsX0_distanceMoved_r2 ++ wsX0_distanceMoved_r3)) ++ wsX00)
def wsX0_relative_r1 : List Cond := [Cond.constantLong RX0 101 (1000), Cond.methodLink RX0 110 Lib.Math.abs.name, Cond.static Lib.Math.abs.name, Cond.initialized "java/lang/Math", Cond.code Lib.Math.abs.name Lib.Math.abs.code 1 (some .int), Cond.methodLink RX0 60 yX0_rttOf, Cond.instanceMethod yX0_rttOf, Cond.selects RX0 yX0_rttOf yX0_rttOf, Cond.initialized RX0, Cond.code yX0_rttOf cX0_rttOf 3 (some .int), Cond.fieldLink RX0 37 "NetworkCoordinates$State" "rtts" "[I", Cond.methodLink RX0 81 yX0_predicted, Cond.instanceMethod yX0_predicted, Cond.selects RX0 yX0_predicted yX0_predicted, Cond.code yX0_predicted cX0_predicted 3 (some .int), Cond.fieldLink RX0 21 "NetworkCoordinates$State" "xs" "[I", Cond.fieldLink RX0 25 "NetworkCoordinates$State" "ys" "[I", Cond.fieldLink RX0 28 "NetworkCoordinates$State" "heights" "[I", Cond.static yX1_planarDistance, Cond.initialized RX1, Cond.code yX1_planarDistance cX1_planarDistance 4 (some .int), Cond.methodLink RX1 149 yX1_squareRoot, Cond.static yX1_squareRoot, Cond.code yX1_squareRoot cX1_squareRoot 7 (some .int)]
def wsX0_relative_r2 : List Cond := [Cond.static yX1_quotient, Cond.code yX1_quotient cX1_quotient 4 (some .long)]
def wsX0_relative : List Cond := .code yX0_relative cX0_relative 4 (some .int) :: ((wsX0_relative_r1 ++ wsX0_relative_r2) ++ wsX00)
def wsX0_rankOf : List Cond := .code yX0_rankOf cX0_rankOf 7 (some .int) :: ([.fieldLink RX0 44 "NetworkCoordinates$State" "nodes" "I", .methodLink RX0 81 yX0_predicted, .instanceMethod yX0_predicted, .selects RX0 yX0_predicted yX0_predicted, .initialized RX0, .code yX0_predicted cX0_predicted 3 (some .int), .fieldLink RX0 21 "NetworkCoordinates$State" "xs" "[I", .fieldLink RX0 25 "NetworkCoordinates$State" "ys" "[I", .fieldLink RX0 28 "NetworkCoordinates$State" "heights" "[I", .static yX1_planarDistance, .initialized RX1, .code yX1_planarDistance cX1_planarDistance 4 (some .int), .methodLink RX1 149 yX1_squareRoot, .static yX1_squareRoot, .code yX1_squareRoot cX1_squareRoot 7 (some .int)] ++ wsX00)
def wsX0_isTriangle : List Cond := .code yX0_isTriangle cX0_isTriangle 4 (some .boolean) :: ([.methodLink RX0 73 yX0_isKnown, .instanceMethod yX0_isKnown, .selects RX0 yX0_isKnown yX0_isKnown, .initialized RX0, .code yX0_isKnown cX0_isKnown 3 (some .boolean), .methodLink RX0 60 yX0_rttOf, .instanceMethod yX0_rttOf, .selects RX0 yX0_rttOf yX0_rttOf, .code yX0_rttOf cX0_rttOf 3 (some .int), .fieldLink RX0 37 "NetworkCoordinates$State" "rtts" "[I"] ++ wsX00)
def wsX0_excess : List Cond := .code yX0_excess cX0_excess 8 (some .int) :: ([.methodLink RX0 138 Lib.Math.max.name, .static Lib.Math.max.name, .initialized "java/lang/Math", .code Lib.Math.max.name Lib.Math.max.code 2 (some .int), .methodLink RX0 134 yX0_isTriangle, .instanceMethod yX0_isTriangle, .selects RX0 yX0_isTriangle yX0_isTriangle, .initialized RX0, .code yX0_isTriangle cX0_isTriangle 4 (some .boolean), .methodLink RX0 73 yX0_isKnown, .instanceMethod yX0_isKnown, .selects RX0 yX0_isKnown yX0_isKnown, .code yX0_isKnown cX0_isKnown 3 (some .boolean), .methodLink RX0 60 yX0_rttOf, .instanceMethod yX0_rttOf, .selects RX0 yX0_rttOf yX0_rttOf, .code yX0_rttOf cX0_rttOf 3 (some .int), .fieldLink RX0 37 "NetworkCoordinates$State" "rtts" "[I"] ++ wsX00)
def wsX0_violationsAt : List Cond := .code yX0_violationsAt cX0_violationsAt 5 (some .int) :: ([.fieldLink RX0 44 "NetworkCoordinates$State" "nodes" "I", .methodLink RX0 140 yX0_excess, .instanceMethod yX0_excess, .selects RX0 yX0_excess yX0_excess, .initialized RX0, .code yX0_excess cX0_excess 8 (some .int), .methodLink RX0 138 Lib.Math.max.name, .static Lib.Math.max.name, .initialized "java/lang/Math", .code Lib.Math.max.name Lib.Math.max.code 2 (some .int), .methodLink RX0 134 yX0_isTriangle, .instanceMethod yX0_isTriangle, .selects RX0 yX0_isTriangle yX0_isTriangle, .code yX0_isTriangle cX0_isTriangle 4 (some .boolean), .methodLink RX0 73 yX0_isKnown, .instanceMethod yX0_isKnown, .selects RX0 yX0_isKnown yX0_isKnown, .code yX0_isKnown cX0_isKnown 3 (some .boolean), .methodLink RX0 60 yX0_rttOf, .instanceMethod yX0_rttOf, .selects RX0 yX0_rttOf yX0_rttOf, .code yX0_rttOf cX0_rttOf 3 (some .int), .fieldLink RX0 37 "NetworkCoordinates$State" "rtts" "[I"] ++ wsX00)
def wsX1_init_r1 : List Cond := [Cond.methodLink RX1 1 objectInit, Cond.instanceMethod objectInit, Cond.code objectInit ⟨#[0xb1]⟩ 1 none, Cond.classLink RX1 7 RX0, Cond.instantiable RX0 11, Cond.initialized RX0, Cond.fieldLink RX1 10 "NetworkCoordinates" "now" "LNetworkCoordinates$State;", Cond.fieldLink RX1 16 "NetworkCoordinates" "slots" "[LNetworkCoordinates$State;", Cond.methodLink RX1 9 yX0_init, Cond.instanceMethod yX0_init, Cond.code yX0_init cX0_init 1 none, Cond.methodLink RX0 3 objectInit, Cond.fieldLink RX0 9 "NetworkCoordinates$State" "errorGain" "I", Cond.fieldLink RX0 15 "NetworkCoordinates$State" "moveGain" "I", Cond.fieldLink RX0 18 "NetworkCoordinates$State" "maxStep" "I", Cond.arrayClass .int, Cond.fieldLink RX0 21 "NetworkCoordinates$State" "xs" "[I", Cond.fieldLink RX0 25 "NetworkCoordinates$State" "ys" "[I", Cond.fieldLink RX0 28 "NetworkCoordinates$State" "heights" "[I", Cond.fieldLink RX0 31 "NetworkCoordinates$State" "errors" "[I", Cond.fieldLink RX0 34 "NetworkCoordinates$State" "lies" "[I", Cond.fieldLink RX0 37 "NetworkCoordinates$State" "rtts" "[I", Cond.methodLink RX0 40 yX0_begin, Cond.instanceMethod yX0_begin]
def wsX1_init_r2 : List Cond := [Cond.selects RX0 yX0_begin yX0_begin, Cond.code yX0_begin cX0_begin 3 none, Cond.fieldLink RX0 44 "NetworkCoordinates$State" "nodes" "I", Cond.fieldLink RX0 47 "NetworkCoordinates$State" "round" "I", Cond.methodLink RX0 50 yX0_settle, Cond.instanceMethod yX0_settle, Cond.selects RX0 yX0_settle yX0_settle, Cond.code yX0_settle cX0_settle 6 none]
def wsX1_init : List Cond := .code yX1_init cX1_init 1 none :: ((wsX1_init_r1 ++ wsX1_init_r2) ++ wsX00 ++ wsX10)
def wsX1_isWithin : List Cond := .code yX1_isWithin cX1_isWithin 3 (some .boolean) :: ([])
def wsX1_reset : List Cond := .code yX1_reset cX1_reset 3 (some .int) :: ([.constant RX1 24 (-1000002), .fieldLink RX1 10 "NetworkCoordinates" "now" "LNetworkCoordinates$State;", .methodLink RX1 20 yX1_isWithin, .static yX1_isWithin, .initialized RX1, .code yX1_isWithin cX1_isWithin 3 (some .boolean), .methodLink RX1 29 yX0_begin, .instanceMethod yX0_begin, .selects RX0 yX0_begin yX0_begin, .initialized RX0, .code yX0_begin cX0_begin 3 none, .fieldLink RX0 44 "NetworkCoordinates$State" "nodes" "I", .fieldLink RX0 47 "NetworkCoordinates$State" "round" "I", .fieldLink RX0 34 "NetworkCoordinates$State" "lies" "[I", .fieldLink RX0 37 "NetworkCoordinates$State" "rtts" "[I", .methodLink RX0 50 yX0_settle, .instanceMethod yX0_settle, .selects RX0 yX0_settle yX0_settle, .code yX0_settle cX0_settle 6 none, .fieldLink RX0 21 "NetworkCoordinates$State" "xs" "[I", .fieldLink RX0 25 "NetworkCoordinates$State" "ys" "[I", .fieldLink RX0 28 "NetworkCoordinates$State" "heights" "[I", .fieldLink RX0 31 "NetworkCoordinates$State" "errors" "[I"] ++ wsX10 ++ wsX00)
def wsX1_isNode : List Cond := .code yX1_isNode cX1_isNode 2 (some .boolean) :: ([.fieldLink RX1 10 "NetworkCoordinates" "now" "LNetworkCoordinates$State;", .methodLink RX1 20 yX1_isWithin, .static yX1_isWithin, .initialized RX1, .code yX1_isWithin cX1_isWithin 3 (some .boolean)] ++ wsX10 ++ wsX00)
def wsX1_pairFault : List Cond := .code yX1_pairFault cX1_pairFault 3 (some .int) :: ([.constant RX1 51 (-1000001), .constant RX1 142 (-1000003), .methodLink RX1 47 yX1_isNode, .instanceMethod yX1_isNode, .selects RX1 yX1_isNode yX1_isNode, .initialized RX1, .code yX1_isNode cX1_isNode 2 (some .boolean), .fieldLink RX1 10 "NetworkCoordinates" "now" "LNetworkCoordinates$State;", .methodLink RX1 20 yX1_isWithin, .static yX1_isWithin, .code yX1_isWithin cX1_isWithin 3 (some .boolean)] ++ wsX10 ++ wsX00)
def wsX1_setRtt_r1 : List Cond := [Cond.constant RX1 24 (-1000002), Cond.fieldLink RX1 10 "NetworkCoordinates" "now" "LNetworkCoordinates$State;", Cond.methodLink RX1 33 yX1_pairFault, Cond.instanceMethod yX1_pairFault, Cond.selects RX1 yX1_pairFault yX1_pairFault, Cond.initialized RX1, Cond.code yX1_pairFault cX1_pairFault 3 (some .int), Cond.constant RX1 51 (-1000001), Cond.constant RX1 142 (-1000003), Cond.methodLink RX1 47 yX1_isNode, Cond.instanceMethod yX1_isNode, Cond.selects RX1 yX1_isNode yX1_isNode, Cond.code yX1_isNode cX1_isNode 2 (some .boolean), Cond.methodLink RX1 20 yX1_isWithin, Cond.static yX1_isWithin, Cond.code yX1_isWithin cX1_isWithin 3 (some .boolean), Cond.methodLink RX1 37 yX0_rttOf, Cond.instanceMethod yX0_rttOf, Cond.selects RX0 yX0_rttOf yX0_rttOf, Cond.initialized RX0, Cond.code yX0_rttOf cX0_rttOf 3 (some .int), Cond.fieldLink RX0 37 "NetworkCoordinates$State" "rtts" "[I", Cond.methodLink RX1 40 yX0_keepRtt, Cond.instanceMethod yX0_keepRtt]
def wsX1_setRtt_r2 : List Cond := [Cond.selects RX0 yX0_keepRtt yX0_keepRtt, Cond.code yX0_keepRtt cX0_keepRtt 4 none]
def wsX1_setRtt : List Cond := .code yX1_setRtt cX1_setRtt 6 (some .int) :: ((wsX1_setRtt_r1 ++ wsX1_setRtt_r2) ++ wsX10 ++ wsX00)
def wsX1_knownPairFault_r1 : List Cond := [Cond.fieldLink RX1 10 "NetworkCoordinates" "now" "LNetworkCoordinates$State;", Cond.constant RX1 143 (-1000004), Cond.methodLink RX1 33 yX1_pairFault, Cond.instanceMethod yX1_pairFault, Cond.selects RX1 yX1_pairFault yX1_pairFault, Cond.initialized RX1, Cond.code yX1_pairFault cX1_pairFault 3 (some .int), Cond.constant RX1 51 (-1000001), Cond.constant RX1 142 (-1000003), Cond.methodLink RX1 47 yX1_isNode, Cond.instanceMethod yX1_isNode, Cond.selects RX1 yX1_isNode yX1_isNode, Cond.code yX1_isNode cX1_isNode 2 (some .boolean), Cond.methodLink RX1 20 yX1_isWithin, Cond.static yX1_isWithin, Cond.code yX1_isWithin cX1_isWithin 3 (some .boolean), Cond.methodLink RX1 100 yX0_isKnown, Cond.instanceMethod yX0_isKnown, Cond.selects RX0 yX0_isKnown yX0_isKnown, Cond.initialized RX0, Cond.code yX0_isKnown cX0_isKnown 3 (some .boolean), Cond.methodLink RX0 60 yX0_rttOf, Cond.instanceMethod yX0_rttOf, Cond.selects RX0 yX0_rttOf yX0_rttOf]
def wsX1_knownPairFault_r2 : List Cond := [Cond.code yX0_rttOf cX0_rttOf 3 (some .int), Cond.fieldLink RX0 37 "NetworkCoordinates$State" "rtts" "[I"]
def wsX1_knownPairFault : List Cond := .code yX1_knownPairFault cX1_knownPairFault 4 (some .int) :: ((wsX1_knownPairFault_r1 ++ wsX1_knownPairFault_r2) ++ wsX10 ++ wsX00)
def wsX1_rtt_r1 : List Cond := [Cond.fieldLink RX1 10 "NetworkCoordinates" "now" "LNetworkCoordinates$State;", Cond.methodLink RX1 44 yX1_knownPairFault, Cond.instanceMethod yX1_knownPairFault, Cond.selects RX1 yX1_knownPairFault yX1_knownPairFault, Cond.initialized RX1, Cond.code yX1_knownPairFault cX1_knownPairFault 4 (some .int), Cond.constant RX1 143 (-1000004), Cond.methodLink RX1 33 yX1_pairFault, Cond.instanceMethod yX1_pairFault, Cond.selects RX1 yX1_pairFault yX1_pairFault, Cond.code yX1_pairFault cX1_pairFault 3 (some .int), Cond.constant RX1 51 (-1000001), Cond.constant RX1 142 (-1000003), Cond.methodLink RX1 47 yX1_isNode, Cond.instanceMethod yX1_isNode, Cond.selects RX1 yX1_isNode yX1_isNode, Cond.code yX1_isNode cX1_isNode 2 (some .boolean), Cond.methodLink RX1 20 yX1_isWithin, Cond.static yX1_isWithin, Cond.code yX1_isWithin cX1_isWithin 3 (some .boolean), Cond.methodLink RX1 100 yX0_isKnown, Cond.instanceMethod yX0_isKnown, Cond.selects RX0 yX0_isKnown yX0_isKnown, Cond.initialized RX0]
def wsX1_rtt_r2 : List Cond := [Cond.code yX0_isKnown cX0_isKnown 3 (some .boolean), Cond.methodLink RX0 60 yX0_rttOf, Cond.instanceMethod yX0_rttOf, Cond.selects RX0 yX0_rttOf yX0_rttOf, Cond.code yX0_rttOf cX0_rttOf 3 (some .int), Cond.fieldLink RX0 37 "NetworkCoordinates$State" "rtts" "[I", Cond.methodLink RX1 37 yX0_rttOf]
def wsX1_rtt : List Cond := .code yX1_rtt cX1_rtt 4 (some .int) :: ((wsX1_rtt_r1 ++ wsX1_rtt_r2) ++ wsX10 ++ wsX00)
def wsX1_setLie : List Cond := .code yX1_setLie cX1_setLie 4 (some .int) :: ([.constant RX1 51 (-1000001), .constant RX1 24 (-1000002), .fieldLink RX1 10 "NetworkCoordinates" "now" "LNetworkCoordinates$State;", .methodLink RX1 47 yX1_isNode, .instanceMethod yX1_isNode, .selects RX1 yX1_isNode yX1_isNode, .initialized RX1, .code yX1_isNode cX1_isNode 2 (some .boolean), .methodLink RX1 20 yX1_isWithin, .static yX1_isWithin, .code yX1_isWithin cX1_isWithin 3 (some .boolean)] ++ wsX10 ++ wsX00)
def wsX1_setGains : List Cond := .code yX1_setGains cX1_setGains 4 (some .int) :: ([.constant RX1 24 (-1000002), .fieldLink RX1 10 "NetworkCoordinates" "now" "LNetworkCoordinates$State;", .methodLink RX1 20 yX1_isWithin, .static yX1_isWithin, .initialized RX1, .code yX1_isWithin cX1_isWithin 3 (some .boolean)] ++ wsX10 ++ wsX00)
def wsX1_setMaxStep : List Cond := .code yX1_setMaxStep cX1_setMaxStep 3 (some .int) :: ([.constant RX1 24 (-1000002), .fieldLink RX1 10 "NetworkCoordinates" "now" "LNetworkCoordinates$State;", .methodLink RX1 20 yX1_isWithin, .static yX1_isWithin, .initialized RX1, .code yX1_isWithin cX1_isWithin 3 (some .boolean)] ++ wsX10 ++ wsX00)
def wsX1_place : List Cond := .code yX1_place cX1_place 6 (some .int) :: ([.constant RX1 51 (-1000001), .constant RX1 65 (-100000), .constant RX1 66 (100000), .constant RX1 24 (-1000002), .fieldLink RX1 10 "NetworkCoordinates" "now" "LNetworkCoordinates$State;", .methodLink RX1 47 yX1_isNode, .instanceMethod yX1_isNode, .selects RX1 yX1_isNode yX1_isNode, .initialized RX1, .code yX1_isNode cX1_isNode 2 (some .boolean), .methodLink RX1 20 yX1_isWithin, .static yX1_isWithin, .code yX1_isWithin cX1_isWithin 3 (some .boolean), .methodLink RX1 70 yX0_settle, .instanceMethod yX0_settle, .selects RX0 yX0_settle yX0_settle, .initialized RX0, .code yX0_settle cX0_settle 6 none, .fieldLink RX0 21 "NetworkCoordinates$State" "xs" "[I", .fieldLink RX0 25 "NetworkCoordinates$State" "ys" "[I", .fieldLink RX0 28 "NetworkCoordinates$State" "heights" "[I", .fieldLink RX0 31 "NetworkCoordinates$State" "errors" "[I"] ++ wsX10 ++ wsX00)
def wsX1_x : List Cond := .code yX1_x cX1_x 2 (some .int) :: ([.fieldLink RX1 10 "NetworkCoordinates" "now" "LNetworkCoordinates$State;", .constant RX1 51 (-1000001), .methodLink RX1 47 yX1_isNode, .instanceMethod yX1_isNode, .selects RX1 yX1_isNode yX1_isNode, .initialized RX1, .code yX1_isNode cX1_isNode 2 (some .boolean), .methodLink RX1 20 yX1_isWithin, .static yX1_isWithin, .code yX1_isWithin cX1_isWithin 3 (some .boolean)] ++ wsX10 ++ wsX00)
def wsX1_y : List Cond := .code yX1_y cX1_y 2 (some .int) :: ([.fieldLink RX1 10 "NetworkCoordinates" "now" "LNetworkCoordinates$State;", .constant RX1 51 (-1000001), .methodLink RX1 47 yX1_isNode, .instanceMethod yX1_isNode, .selects RX1 yX1_isNode yX1_isNode, .initialized RX1, .code yX1_isNode cX1_isNode 2 (some .boolean), .methodLink RX1 20 yX1_isWithin, .static yX1_isWithin, .code yX1_isWithin cX1_isWithin 3 (some .boolean)] ++ wsX10 ++ wsX00)
def wsX1_height : List Cond := .code yX1_height cX1_height 2 (some .int) :: ([.fieldLink RX1 10 "NetworkCoordinates" "now" "LNetworkCoordinates$State;", .constant RX1 51 (-1000001), .methodLink RX1 47 yX1_isNode, .instanceMethod yX1_isNode, .selects RX1 yX1_isNode yX1_isNode, .initialized RX1, .code yX1_isNode cX1_isNode 2 (some .boolean), .methodLink RX1 20 yX1_isWithin, .static yX1_isWithin, .code yX1_isWithin cX1_isWithin 3 (some .boolean)] ++ wsX10 ++ wsX00)
def wsX1_error : List Cond := .code yX1_error cX1_error 2 (some .int) :: ([.fieldLink RX1 10 "NetworkCoordinates" "now" "LNetworkCoordinates$State;", .constant RX1 51 (-1000001), .methodLink RX1 47 yX1_isNode, .instanceMethod yX1_isNode, .selects RX1 yX1_isNode yX1_isNode, .initialized RX1, .code yX1_isNode cX1_isNode 2 (some .boolean), .methodLink RX1 20 yX1_isWithin, .static yX1_isWithin, .code yX1_isWithin cX1_isWithin 3 (some .boolean)] ++ wsX10 ++ wsX00)
def wsX1_predict_r1 : List Cond := [Cond.fieldLink RX1 10 "NetworkCoordinates" "now" "LNetworkCoordinates$State;", Cond.methodLink RX1 33 yX1_pairFault, Cond.instanceMethod yX1_pairFault, Cond.selects RX1 yX1_pairFault yX1_pairFault, Cond.initialized RX1, Cond.code yX1_pairFault cX1_pairFault 3 (some .int), Cond.constant RX1 51 (-1000001), Cond.constant RX1 142 (-1000003), Cond.methodLink RX1 47 yX1_isNode, Cond.instanceMethod yX1_isNode, Cond.selects RX1 yX1_isNode yX1_isNode, Cond.code yX1_isNode cX1_isNode 2 (some .boolean), Cond.methodLink RX1 20 yX1_isWithin, Cond.static yX1_isWithin, Cond.code yX1_isWithin cX1_isWithin 3 (some .boolean), Cond.methodLink RX1 83 yX0_predicted, Cond.instanceMethod yX0_predicted, Cond.selects RX0 yX0_predicted yX0_predicted, Cond.initialized RX0, Cond.code yX0_predicted cX0_predicted 3 (some .int), Cond.fieldLink RX0 21 "NetworkCoordinates$State" "xs" "[I", Cond.fieldLink RX0 25 "NetworkCoordinates$State" "ys" "[I", Cond.fieldLink RX0 28 "NetworkCoordinates$State" "heights" "[I", Cond.static yX1_planarDistance]
def wsX1_predict_r2 : List Cond := [Cond.code yX1_planarDistance cX1_planarDistance 4 (some .int), Cond.methodLink RX1 149 yX1_squareRoot, Cond.static yX1_squareRoot, Cond.code yX1_squareRoot cX1_squareRoot 7 (some .int)]
def wsX1_predict : List Cond := .code yX1_predict cX1_predict 4 (some .int) :: ((wsX1_predict_r1 ++ wsX1_predict_r2) ++ wsX10 ++ wsX00)
def wsX1_measure_r1 : List Cond := [Cond.fieldLink RX1 10 "NetworkCoordinates" "now" "LNetworkCoordinates$State;", Cond.methodLink RX1 44 yX1_knownPairFault, Cond.instanceMethod yX1_knownPairFault, Cond.selects RX1 yX1_knownPairFault yX1_knownPairFault, Cond.initialized RX1, Cond.code yX1_knownPairFault cX1_knownPairFault 4 (some .int), Cond.constant RX1 143 (-1000004), Cond.methodLink RX1 33 yX1_pairFault, Cond.instanceMethod yX1_pairFault, Cond.selects RX1 yX1_pairFault yX1_pairFault, Cond.code yX1_pairFault cX1_pairFault 3 (some .int), Cond.constant RX1 51 (-1000001), Cond.constant RX1 142 (-1000003), Cond.methodLink RX1 47 yX1_isNode, Cond.instanceMethod yX1_isNode, Cond.selects RX1 yX1_isNode yX1_isNode, Cond.code yX1_isNode cX1_isNode 2 (some .boolean), Cond.methodLink RX1 20 yX1_isWithin, Cond.static yX1_isWithin, Cond.code yX1_isWithin cX1_isWithin 3 (some .boolean), Cond.methodLink RX1 100 yX0_isKnown, Cond.instanceMethod yX0_isKnown, Cond.selects RX0 yX0_isKnown yX0_isKnown, Cond.initialized RX0]
def wsX1_measure_r2 : List Cond := [Cond.code yX0_isKnown cX0_isKnown 3 (some .boolean), Cond.methodLink RX0 60 yX0_rttOf, Cond.instanceMethod yX0_rttOf, Cond.selects RX0 yX0_rttOf yX0_rttOf, Cond.code yX0_rttOf cX0_rttOf 3 (some .int), Cond.fieldLink RX0 37 "NetworkCoordinates$State" "rtts" "[I", Cond.methodLink RX1 86 yX0_update, Cond.instanceMethod yX0_update, Cond.selects RX0 yX0_update yX0_update, Cond.code yX0_update cX0_update 8 none, Cond.methodLink RX0 81 yX0_predicted, Cond.instanceMethod yX0_predicted, Cond.selects RX0 yX0_predicted yX0_predicted, Cond.code yX0_predicted cX0_predicted 3 (some .int), Cond.fieldLink RX0 21 "NetworkCoordinates$State" "xs" "[I", Cond.fieldLink RX0 25 "NetworkCoordinates$State" "ys" "[I", Cond.fieldLink RX0 28 "NetworkCoordinates$State" "heights" "[I", Cond.static yX1_planarDistance, Cond.code yX1_planarDistance cX1_planarDistance 4 (some .int), Cond.methodLink RX1 149 yX1_squareRoot, Cond.static yX1_squareRoot, Cond.code yX1_squareRoot cX1_squareRoot 7 (some .int), Cond.methodLink RX0 84 yX0_stepOf, Cond.instanceMethod yX0_stepOf]
def wsX1_measure_r3 : List Cond := [Cond.selects RX0 yX0_stepOf yX0_stepOf, Cond.code yX0_stepOf cX0_stepOf 6 (some .int), Cond.fieldLink RX0 15 "NetworkCoordinates$State" "moveGain" "I", Cond.constantLong RX0 101 (1000), Cond.fieldLink RX0 18 "NetworkCoordinates$State" "maxStep" "I", Cond.methodLink RX0 117 yX0_weight, Cond.instanceMethod yX0_weight, Cond.selects RX0 yX0_weight yX0_weight, Cond.code yX0_weight cX0_weight 3 (some .long), Cond.fieldLink RX0 31 "NetworkCoordinates$State" "errors" "[I", Cond.static yX1_quotient, Cond.code yX1_quotient cX1_quotient 4 (some .long), Cond.methodLink RX0 107 yX0_sample, Cond.instanceMethod yX0_sample, Cond.selects RX0 yX0_sample yX0_sample, Cond.code yX0_sample cX0_sample 3 (some .int), Cond.fieldLink RX0 34 "NetworkCoordinates$State" "lies" "[I", Cond.static yX1_limited, Cond.code yX1_limited cX1_limited 4 (some .int), Cond.methodLink RX1 144 Lib.MathLoose.min_long.x, Cond.static Lib.MathLoose.min_long.x, Cond.initialized "java/lang/Math", Cond.code Lib.MathLoose.min_long.x Lib.MathLoose.min_long.code 4 (some .long), Cond.methodLink RX1 147 Lib.MathLoose.max_long.x]
def wsX1_measure_r4 : List Cond := [Cond.static Lib.MathLoose.max_long.x, Cond.code Lib.MathLoose.max_long.x Lib.MathLoose.max_long.code 4 (some .long), Cond.methodLink RX0 88 yX0_xAfter, Cond.instanceMethod yX0_xAfter, Cond.selects RX0 yX0_xAfter yX0_xAfter, Cond.code yX0_xAfter cX0_xAfter 7 (some .int), Cond.constant RX0 132 (-100000), Cond.constant RX0 133 (100000), Cond.static yX1_share, Cond.code yX1_share cX1_share 3 (some .long), Cond.methodLink RX1 108 yX1_quotient, Cond.methodLink RX0 92 yX0_yAfter, Cond.instanceMethod yX0_yAfter, Cond.selects RX0 yX0_yAfter yX0_yAfter, Cond.code yX0_yAfter cX0_yAfter 7 (some .int), Cond.methodLink RX0 95 yX0_heightAfter, Cond.instanceMethod yX0_heightAfter, Cond.selects RX0 yX0_heightAfter yX0_heightAfter, Cond.code yX0_heightAfter cX0_heightAfter 7 (some .int), Cond.methodLink RX0 98 yX0_errorAfter, Cond.instanceMethod yX0_errorAfter, Cond.selects RX0 yX0_errorAfter yX0_errorAfter, Cond.code yX0_errorAfter cX0_errorAfter 11 (some .int), Cond.methodLink RX0 110 Lib.Math.abs.name]
def wsX1_measure_r5 : List Cond := [Cond.static Lib.Math.abs.name, Cond.code Lib.Math.abs.name Lib.Math.abs.code 1 (some .int), Cond.methodLink RX0 114 Lib.MathLoose.min_long.x, Cond.fieldLink RX0 9 "NetworkCoordinates$State" "errorGain" "I", Cond.methodLink RX0 121 Lib.MathLoose.max_long.x, Cond.methodLink RX0 50 yX0_settle, Cond.instanceMethod yX0_settle, Cond.selects RX0 yX0_settle yX0_settle, Cond.code yX0_settle cX0_settle 6 none, Cond.methodLink RX1 90 yX0_sample]
def wsX1_measure : List Cond := .code yX1_measure cX1_measure 4 (some .int) :: ((wsX1_measure_r1 ++ (wsX1_measure_r2 ++ (wsX1_measure_r3 ++ (wsX1_measure_r4 ++ wsX1_measure_r5)))) ++ wsX10 ++ wsX00)
def wsX1_run_r1 : List Cond := [Cond.constant RX1 24 (-1000002), Cond.fieldLink RX1 10 "NetworkCoordinates" "now" "LNetworkCoordinates$State;", Cond.methodLink RX1 20 yX1_isWithin, Cond.static yX1_isWithin, Cond.initialized RX1, Cond.code yX1_isWithin cX1_isWithin 3 (some .boolean), Cond.methodLink RX1 93 yX0_playRound, Cond.instanceMethod yX0_playRound, Cond.selects RX0 yX0_playRound yX0_playRound, Cond.initialized RX0, Cond.code yX0_playRound cX0_playRound 6 (some .int), Cond.fieldLink RX0 44 "NetworkCoordinates$State" "nodes" "I", Cond.fieldLink RX0 47 "NetworkCoordinates$State" "round" "I", Cond.methodLink RX0 68 yJ9_floorMod_7cf53, Cond.static yJ9_floorMod_7cf53, Cond.initialized RJ9, Cond.code yJ9_floorMod_7cf53 cJ9_floorMod_7cf53 3 (some .int), Cond.methodLink RX0 73 yX0_isKnown, Cond.instanceMethod yX0_isKnown, Cond.selects RX0 yX0_isKnown yX0_isKnown, Cond.code yX0_isKnown cX0_isKnown 3 (some .boolean), Cond.methodLink RX0 60 yX0_rttOf, Cond.instanceMethod yX0_rttOf, Cond.selects RX0 yX0_rttOf yX0_rttOf]
def wsX1_run_r2 : List Cond := [Cond.code yX0_rttOf cX0_rttOf 3 (some .int), Cond.fieldLink RX0 37 "NetworkCoordinates$State" "rtts" "[I", Cond.methodLink RX0 77 yX0_update, Cond.instanceMethod yX0_update, Cond.selects RX0 yX0_update yX0_update, Cond.code yX0_update cX0_update 8 none, Cond.methodLink RX0 81 yX0_predicted, Cond.instanceMethod yX0_predicted, Cond.selects RX0 yX0_predicted yX0_predicted, Cond.code yX0_predicted cX0_predicted 3 (some .int), Cond.fieldLink RX0 21 "NetworkCoordinates$State" "xs" "[I", Cond.fieldLink RX0 25 "NetworkCoordinates$State" "ys" "[I", Cond.fieldLink RX0 28 "NetworkCoordinates$State" "heights" "[I", Cond.static yX1_planarDistance, Cond.code yX1_planarDistance cX1_planarDistance 4 (some .int), Cond.methodLink RX1 149 yX1_squareRoot, Cond.static yX1_squareRoot, Cond.code yX1_squareRoot cX1_squareRoot 7 (some .int), Cond.methodLink RX0 84 yX0_stepOf, Cond.instanceMethod yX0_stepOf, Cond.selects RX0 yX0_stepOf yX0_stepOf, Cond.code yX0_stepOf cX0_stepOf 6 (some .int), Cond.fieldLink RX0 15 "NetworkCoordinates$State" "moveGain" "I", Cond.constantLong RX0 101 (1000)]
def wsX1_run_r3 : List Cond := [Cond.fieldLink RX0 18 "NetworkCoordinates$State" "maxStep" "I", Cond.methodLink RX0 117 yX0_weight, Cond.instanceMethod yX0_weight, Cond.selects RX0 yX0_weight yX0_weight, Cond.code yX0_weight cX0_weight 3 (some .long), Cond.fieldLink RX0 31 "NetworkCoordinates$State" "errors" "[I", Cond.static yX1_quotient, Cond.code yX1_quotient cX1_quotient 4 (some .long), Cond.methodLink RX0 107 yX0_sample, Cond.instanceMethod yX0_sample, Cond.selects RX0 yX0_sample yX0_sample, Cond.code yX0_sample cX0_sample 3 (some .int), Cond.fieldLink RX0 34 "NetworkCoordinates$State" "lies" "[I", Cond.static yX1_limited, Cond.code yX1_limited cX1_limited 4 (some .int), Cond.methodLink RX1 144 Lib.MathLoose.min_long.x, Cond.static Lib.MathLoose.min_long.x, Cond.initialized "java/lang/Math", Cond.code Lib.MathLoose.min_long.x Lib.MathLoose.min_long.code 4 (some .long), Cond.methodLink RX1 147 Lib.MathLoose.max_long.x, Cond.static Lib.MathLoose.max_long.x, Cond.code Lib.MathLoose.max_long.x Lib.MathLoose.max_long.code 4 (some .long), Cond.methodLink RX0 88 yX0_xAfter, Cond.instanceMethod yX0_xAfter]
def wsX1_run_r4 : List Cond := [Cond.selects RX0 yX0_xAfter yX0_xAfter, Cond.code yX0_xAfter cX0_xAfter 7 (some .int), Cond.constant RX0 132 (-100000), Cond.constant RX0 133 (100000), Cond.static yX1_share, Cond.code yX1_share cX1_share 3 (some .long), Cond.methodLink RX1 108 yX1_quotient, Cond.methodLink RX0 92 yX0_yAfter, Cond.instanceMethod yX0_yAfter, Cond.selects RX0 yX0_yAfter yX0_yAfter, Cond.code yX0_yAfter cX0_yAfter 7 (some .int), Cond.methodLink RX0 95 yX0_heightAfter, Cond.instanceMethod yX0_heightAfter, Cond.selects RX0 yX0_heightAfter yX0_heightAfter, Cond.code yX0_heightAfter cX0_heightAfter 7 (some .int), Cond.methodLink RX0 98 yX0_errorAfter, Cond.instanceMethod yX0_errorAfter, Cond.selects RX0 yX0_errorAfter yX0_errorAfter, Cond.code yX0_errorAfter cX0_errorAfter 11 (some .int), Cond.methodLink RX0 110 Lib.Math.abs.name, Cond.static Lib.Math.abs.name, Cond.code Lib.Math.abs.name Lib.Math.abs.code 1 (some .int), Cond.methodLink RX0 114 Lib.MathLoose.min_long.x, Cond.fieldLink RX0 9 "NetworkCoordinates$State" "errorGain" "I"]
def wsX1_run_r5 : List Cond := [Cond.methodLink RX0 121 Lib.MathLoose.max_long.x, Cond.methodLink RX0 50 yX0_settle, Cond.instanceMethod yX0_settle, Cond.selects RX0 yX0_settle yX0_settle, Cond.code yX0_settle cX0_settle 6 none]
def wsX1_run : List Cond := .code yX1_run cX1_run 4 (some .int) :: ((wsX1_run_r1 ++ (wsX1_run_r2 ++ (wsX1_run_r3 ++ (wsX1_run_r4 ++ wsX1_run_r5)))) ++ wsX10 ++ wsX00)
def wsX1_roundCounter : List Cond := .code yX1_roundCounter cX1_roundCounter 1 (some .int) :: ([.fieldLink RX1 10 "NetworkCoordinates" "now" "LNetworkCoordinates$State;"] ++ wsX10 ++ wsX00)
def wsX1_meanError_r1 : List Cond := [Cond.fieldLink RX1 10 "NetworkCoordinates" "now" "LNetworkCoordinates$State;", Cond.constant RX1 107 (-1000005), Cond.methodLink RX1 100 yX0_isKnown, Cond.instanceMethod yX0_isKnown, Cond.selects RX0 yX0_isKnown yX0_isKnown, Cond.initialized RX0, Cond.code yX0_isKnown cX0_isKnown 3 (some .boolean), Cond.methodLink RX0 60 yX0_rttOf, Cond.instanceMethod yX0_rttOf, Cond.selects RX0 yX0_rttOf yX0_rttOf, Cond.code yX0_rttOf cX0_rttOf 3 (some .int), Cond.fieldLink RX0 37 "NetworkCoordinates$State" "rtts" "[I", Cond.methodLink RX1 104 yX0_relative, Cond.instanceMethod yX0_relative, Cond.selects RX0 yX0_relative yX0_relative, Cond.code yX0_relative cX0_relative 4 (some .int), Cond.constantLong RX0 101 (1000), Cond.methodLink RX0 110 Lib.Math.abs.name, Cond.static Lib.Math.abs.name, Cond.initialized "java/lang/Math", Cond.code Lib.Math.abs.name Lib.Math.abs.code 1 (some .int), Cond.methodLink RX0 81 yX0_predicted, Cond.instanceMethod yX0_predicted, Cond.selects RX0 yX0_predicted yX0_predicted]
def wsX1_meanError_r2 : List Cond := [Cond.code yX0_predicted cX0_predicted 3 (some .int), Cond.fieldLink RX0 21 "NetworkCoordinates$State" "xs" "[I", Cond.fieldLink RX0 25 "NetworkCoordinates$State" "ys" "[I", Cond.fieldLink RX0 28 "NetworkCoordinates$State" "heights" "[I", Cond.static yX1_planarDistance, Cond.initialized RX1, Cond.code yX1_planarDistance cX1_planarDistance 4 (some .int), Cond.methodLink RX1 149 yX1_squareRoot, Cond.static yX1_squareRoot, Cond.code yX1_squareRoot cX1_squareRoot 7 (some .int), Cond.static yX1_quotient, Cond.code yX1_quotient cX1_quotient 4 (some .long), Cond.methodLink RX1 108 yX1_quotient]
def wsX1_meanError : List Cond := .code yX1_meanError cX1_meanError 6 (some .int) :: ((wsX1_meanError_r1 ++ wsX1_meanError_r2) ++ wsX10 ++ wsX00)
def wsX1_worstPair_r1 : List Cond := [Cond.constant RX1 107 (-1000005), Cond.fieldLink RX1 10 "NetworkCoordinates" "now" "LNetworkCoordinates$State;", Cond.methodLink RX1 100 yX0_isKnown, Cond.instanceMethod yX0_isKnown, Cond.selects RX0 yX0_isKnown yX0_isKnown, Cond.initialized RX0, Cond.code yX0_isKnown cX0_isKnown 3 (some .boolean), Cond.methodLink RX0 60 yX0_rttOf, Cond.instanceMethod yX0_rttOf, Cond.selects RX0 yX0_rttOf yX0_rttOf, Cond.code yX0_rttOf cX0_rttOf 3 (some .int), Cond.fieldLink RX0 37 "NetworkCoordinates$State" "rtts" "[I", Cond.methodLink RX1 104 yX0_relative, Cond.instanceMethod yX0_relative, Cond.selects RX0 yX0_relative yX0_relative, Cond.code yX0_relative cX0_relative 4 (some .int), Cond.constantLong RX0 101 (1000), Cond.methodLink RX0 110 Lib.Math.abs.name, Cond.static Lib.Math.abs.name, Cond.initialized "java/lang/Math", Cond.code Lib.Math.abs.name Lib.Math.abs.code 1 (some .int), Cond.methodLink RX0 81 yX0_predicted, Cond.instanceMethod yX0_predicted, Cond.selects RX0 yX0_predicted yX0_predicted]
def wsX1_worstPair_r2 : List Cond := [Cond.code yX0_predicted cX0_predicted 3 (some .int), Cond.fieldLink RX0 21 "NetworkCoordinates$State" "xs" "[I", Cond.fieldLink RX0 25 "NetworkCoordinates$State" "ys" "[I", Cond.fieldLink RX0 28 "NetworkCoordinates$State" "heights" "[I", Cond.static yX1_planarDistance, Cond.initialized RX1, Cond.code yX1_planarDistance cX1_planarDistance 4 (some .int), Cond.methodLink RX1 149 yX1_squareRoot, Cond.static yX1_squareRoot, Cond.code yX1_squareRoot cX1_squareRoot 7 (some .int), Cond.static yX1_quotient, Cond.code yX1_quotient cX1_quotient 4 (some .long)]
def wsX1_worstPair : List Cond := .code yX1_worstPair cX1_worstPair 5 (some .int) :: ((wsX1_worstPair_r1 ++ wsX1_worstPair_r2) ++ wsX10 ++ wsX00)
def wsX1_relativeError_r1 : List Cond := [Cond.fieldLink RX1 10 "NetworkCoordinates" "now" "LNetworkCoordinates$State;", Cond.methodLink RX1 44 yX1_knownPairFault, Cond.instanceMethod yX1_knownPairFault, Cond.selects RX1 yX1_knownPairFault yX1_knownPairFault, Cond.initialized RX1, Cond.code yX1_knownPairFault cX1_knownPairFault 4 (some .int), Cond.constant RX1 143 (-1000004), Cond.methodLink RX1 33 yX1_pairFault, Cond.instanceMethod yX1_pairFault, Cond.selects RX1 yX1_pairFault yX1_pairFault, Cond.code yX1_pairFault cX1_pairFault 3 (some .int), Cond.constant RX1 51 (-1000001), Cond.constant RX1 142 (-1000003), Cond.methodLink RX1 47 yX1_isNode, Cond.instanceMethod yX1_isNode, Cond.selects RX1 yX1_isNode yX1_isNode, Cond.code yX1_isNode cX1_isNode 2 (some .boolean), Cond.methodLink RX1 20 yX1_isWithin, Cond.static yX1_isWithin, Cond.code yX1_isWithin cX1_isWithin 3 (some .boolean), Cond.methodLink RX1 100 yX0_isKnown, Cond.instanceMethod yX0_isKnown, Cond.selects RX0 yX0_isKnown yX0_isKnown, Cond.initialized RX0]
def wsX1_relativeError_r2 : List Cond := [Cond.code yX0_isKnown cX0_isKnown 3 (some .boolean), Cond.methodLink RX0 60 yX0_rttOf, Cond.instanceMethod yX0_rttOf, Cond.selects RX0 yX0_rttOf yX0_rttOf, Cond.code yX0_rttOf cX0_rttOf 3 (some .int), Cond.fieldLink RX0 37 "NetworkCoordinates$State" "rtts" "[I", Cond.methodLink RX1 104 yX0_relative, Cond.instanceMethod yX0_relative, Cond.selects RX0 yX0_relative yX0_relative, Cond.code yX0_relative cX0_relative 4 (some .int), Cond.constantLong RX0 101 (1000), Cond.methodLink RX0 110 Lib.Math.abs.name, Cond.static Lib.Math.abs.name, Cond.initialized "java/lang/Math", Cond.code Lib.Math.abs.name Lib.Math.abs.code 1 (some .int), Cond.methodLink RX0 81 yX0_predicted, Cond.instanceMethod yX0_predicted, Cond.selects RX0 yX0_predicted yX0_predicted, Cond.code yX0_predicted cX0_predicted 3 (some .int), Cond.fieldLink RX0 21 "NetworkCoordinates$State" "xs" "[I", Cond.fieldLink RX0 25 "NetworkCoordinates$State" "ys" "[I", Cond.fieldLink RX0 28 "NetworkCoordinates$State" "heights" "[I", Cond.static yX1_planarDistance, Cond.code yX1_planarDistance cX1_planarDistance 4 (some .int)]
def wsX1_relativeError_r3 : List Cond := [Cond.methodLink RX1 149 yX1_squareRoot, Cond.static yX1_squareRoot, Cond.code yX1_squareRoot cX1_squareRoot 7 (some .int), Cond.static yX1_quotient, Cond.code yX1_quotient cX1_quotient 4 (some .long)]
def wsX1_relativeError : List Cond := .code yX1_relativeError cX1_relativeError 4 (some .int) :: ((wsX1_relativeError_r1 ++ (wsX1_relativeError_r2 ++ wsX1_relativeError_r3)) ++ wsX10 ++ wsX00)
def wsX1_nearest_r1 : List Cond := [Cond.constant RX1 51 (-1000001), Cond.fieldLink RX1 10 "NetworkCoordinates" "now" "LNetworkCoordinates$State;", Cond.constant RX1 24 (-1000002), Cond.constant RX1 107 (-1000005), Cond.methodLink RX1 47 yX1_isNode, Cond.instanceMethod yX1_isNode, Cond.selects RX1 yX1_isNode yX1_isNode, Cond.initialized RX1, Cond.code yX1_isNode cX1_isNode 2 (some .boolean), Cond.methodLink RX1 20 yX1_isWithin, Cond.static yX1_isWithin, Cond.code yX1_isWithin cX1_isWithin 3 (some .boolean), Cond.methodLink RX1 112 yX0_rankOf, Cond.instanceMethod yX0_rankOf, Cond.selects RX0 yX0_rankOf yX0_rankOf, Cond.initialized RX0, Cond.code yX0_rankOf cX0_rankOf 7 (some .int), Cond.fieldLink RX0 44 "NetworkCoordinates$State" "nodes" "I", Cond.methodLink RX0 81 yX0_predicted, Cond.instanceMethod yX0_predicted, Cond.selects RX0 yX0_predicted yX0_predicted, Cond.code yX0_predicted cX0_predicted 3 (some .int), Cond.fieldLink RX0 21 "NetworkCoordinates$State" "xs" "[I", Cond.fieldLink RX0 25 "NetworkCoordinates$State" "ys" "[I"]
def wsX1_nearest_r2 : List Cond := [Cond.fieldLink RX0 28 "NetworkCoordinates$State" "heights" "[I", Cond.static yX1_planarDistance, Cond.code yX1_planarDistance cX1_planarDistance 4 (some .int), Cond.methodLink RX1 149 yX1_squareRoot, Cond.static yX1_squareRoot, Cond.code yX1_squareRoot cX1_squareRoot 7 (some .int)]
def wsX1_nearest : List Cond := .code yX1_nearest cX1_nearest 5 (some .int) :: ((wsX1_nearest_r1 ++ wsX1_nearest_r2) ++ wsX10 ++ wsX00)
def wsX1_relay_r1 : List Cond := [Cond.constant RX1 107 (-1000005), Cond.constant RX1 117 (2147483647), Cond.fieldLink RX1 10 "NetworkCoordinates" "now" "LNetworkCoordinates$State;", Cond.methodLink RX1 33 yX1_pairFault, Cond.instanceMethod yX1_pairFault, Cond.selects RX1 yX1_pairFault yX1_pairFault, Cond.initialized RX1, Cond.code yX1_pairFault cX1_pairFault 3 (some .int), Cond.constant RX1 51 (-1000001), Cond.constant RX1 142 (-1000003), Cond.methodLink RX1 47 yX1_isNode, Cond.instanceMethod yX1_isNode, Cond.selects RX1 yX1_isNode yX1_isNode, Cond.code yX1_isNode cX1_isNode 2 (some .boolean), Cond.methodLink RX1 20 yX1_isWithin, Cond.static yX1_isWithin, Cond.code yX1_isWithin cX1_isWithin 3 (some .boolean), Cond.methodLink RX1 83 yX0_predicted, Cond.instanceMethod yX0_predicted, Cond.selects RX0 yX0_predicted yX0_predicted, Cond.initialized RX0, Cond.code yX0_predicted cX0_predicted 3 (some .int), Cond.fieldLink RX0 21 "NetworkCoordinates$State" "xs" "[I", Cond.fieldLink RX0 25 "NetworkCoordinates$State" "ys" "[I"]
def wsX1_relay_r2 : List Cond := [Cond.fieldLink RX0 28 "NetworkCoordinates$State" "heights" "[I", Cond.static yX1_planarDistance, Cond.code yX1_planarDistance cX1_planarDistance 4 (some .int), Cond.methodLink RX1 149 yX1_squareRoot, Cond.static yX1_squareRoot, Cond.code yX1_squareRoot cX1_squareRoot 7 (some .int)]
def wsX1_relay : List Cond := .code yX1_relay cX1_relay 8 (some .int) :: ((wsX1_relay_r1 ++ wsX1_relay_r2) ++ wsX10 ++ wsX00)
def wsX1_triangles : List Cond := .code yX1_triangles cX1_triangles 5 (some .int) :: ([.fieldLink RX1 10 "NetworkCoordinates" "now" "LNetworkCoordinates$State;", .methodLink RX1 118 yX0_isTriangle, .instanceMethod yX0_isTriangle, .selects RX0 yX0_isTriangle yX0_isTriangle, .initialized RX0, .code yX0_isTriangle cX0_isTriangle 4 (some .boolean), .methodLink RX0 73 yX0_isKnown, .instanceMethod yX0_isKnown, .selects RX0 yX0_isKnown yX0_isKnown, .code yX0_isKnown cX0_isKnown 3 (some .boolean), .methodLink RX0 60 yX0_rttOf, .instanceMethod yX0_rttOf, .selects RX0 yX0_rttOf yX0_rttOf, .code yX0_rttOf cX0_rttOf 3 (some .int), .fieldLink RX0 37 "NetworkCoordinates$State" "rtts" "[I"] ++ wsX10 ++ wsX00)
def wsX1_violations_r1 : List Cond := [Cond.fieldLink RX1 10 "NetworkCoordinates" "now" "LNetworkCoordinates$State;", Cond.methodLink RX1 121 yX0_violationsAt, Cond.instanceMethod yX0_violationsAt, Cond.selects RX0 yX0_violationsAt yX0_violationsAt, Cond.initialized RX0, Cond.code yX0_violationsAt cX0_violationsAt 5 (some .int), Cond.fieldLink RX0 44 "NetworkCoordinates$State" "nodes" "I", Cond.methodLink RX0 140 yX0_excess, Cond.instanceMethod yX0_excess, Cond.selects RX0 yX0_excess yX0_excess, Cond.code yX0_excess cX0_excess 8 (some .int), Cond.methodLink RX0 138 Lib.Math.max.name, Cond.static Lib.Math.max.name, Cond.initialized "java/lang/Math", Cond.code Lib.Math.max.name Lib.Math.max.code 2 (some .int), Cond.methodLink RX0 134 yX0_isTriangle, Cond.instanceMethod yX0_isTriangle, Cond.selects RX0 yX0_isTriangle yX0_isTriangle, Cond.code yX0_isTriangle cX0_isTriangle 4 (some .boolean), Cond.methodLink RX0 73 yX0_isKnown, Cond.instanceMethod yX0_isKnown, Cond.selects RX0 yX0_isKnown yX0_isKnown, Cond.code yX0_isKnown cX0_isKnown 3 (some .boolean), Cond.methodLink RX0 60 yX0_rttOf]
def wsX1_violations_r2 : List Cond := [Cond.instanceMethod yX0_rttOf, Cond.selects RX0 yX0_rttOf yX0_rttOf, Cond.code yX0_rttOf cX0_rttOf 3 (some .int), Cond.fieldLink RX0 37 "NetworkCoordinates$State" "rtts" "[I"]
def wsX1_violations : List Cond := .code yX1_violations cX1_violations 3 (some .int) :: ((wsX1_violations_r1 ++ wsX1_violations_r2) ++ wsX10 ++ wsX00)
def wsX1_worstExcess_r1 : List Cond := [Cond.fieldLink RX1 10 "NetworkCoordinates" "now" "LNetworkCoordinates$State;", Cond.methodLink RX1 129 Lib.Math.max.name, Cond.static Lib.Math.max.name, Cond.initialized "java/lang/Math", Cond.code Lib.Math.max.name Lib.Math.max.code 2 (some .int), Cond.constant RX1 107 (-1000005), Cond.methodLink RX1 125 yX0_excess, Cond.instanceMethod yX0_excess, Cond.selects RX0 yX0_excess yX0_excess, Cond.initialized RX0, Cond.code yX0_excess cX0_excess 8 (some .int), Cond.methodLink RX0 138 Lib.Math.max.name, Cond.methodLink RX0 134 yX0_isTriangle, Cond.instanceMethod yX0_isTriangle, Cond.selects RX0 yX0_isTriangle yX0_isTriangle, Cond.code yX0_isTriangle cX0_isTriangle 4 (some .boolean), Cond.methodLink RX0 73 yX0_isKnown, Cond.instanceMethod yX0_isKnown, Cond.selects RX0 yX0_isKnown yX0_isKnown, Cond.code yX0_isKnown cX0_isKnown 3 (some .boolean), Cond.methodLink RX0 60 yX0_rttOf, Cond.instanceMethod yX0_rttOf, Cond.selects RX0 yX0_rttOf yX0_rttOf, Cond.code yX0_rttOf cX0_rttOf 3 (some .int)]
def wsX1_worstExcess_r2 : List Cond := [Cond.fieldLink RX0 37 "NetworkCoordinates$State" "rtts" "[I"]
def wsX1_worstExcess : List Cond := .code yX1_worstExcess cX1_worstExcess 5 (some .int) :: ((wsX1_worstExcess_r1 ++ wsX1_worstExcess_r2) ++ wsX10 ++ wsX00)
def wsX1_suspect_r1 : List Cond := [Cond.constant RX1 107 (-1000005), Cond.fieldLink RX1 10 "NetworkCoordinates" "now" "LNetworkCoordinates$State;", Cond.methodLink RX1 121 yX0_violationsAt, Cond.instanceMethod yX0_violationsAt, Cond.selects RX0 yX0_violationsAt yX0_violationsAt, Cond.initialized RX0, Cond.code yX0_violationsAt cX0_violationsAt 5 (some .int), Cond.fieldLink RX0 44 "NetworkCoordinates$State" "nodes" "I", Cond.methodLink RX0 140 yX0_excess, Cond.instanceMethod yX0_excess, Cond.selects RX0 yX0_excess yX0_excess, Cond.code yX0_excess cX0_excess 8 (some .int), Cond.methodLink RX0 138 Lib.Math.max.name, Cond.static Lib.Math.max.name, Cond.initialized "java/lang/Math", Cond.code Lib.Math.max.name Lib.Math.max.code 2 (some .int), Cond.methodLink RX0 134 yX0_isTriangle, Cond.instanceMethod yX0_isTriangle, Cond.selects RX0 yX0_isTriangle yX0_isTriangle, Cond.code yX0_isTriangle cX0_isTriangle 4 (some .boolean), Cond.methodLink RX0 73 yX0_isKnown, Cond.instanceMethod yX0_isKnown, Cond.selects RX0 yX0_isKnown yX0_isKnown, Cond.code yX0_isKnown cX0_isKnown 3 (some .boolean)]
def wsX1_suspect_r2 : List Cond := [Cond.methodLink RX0 60 yX0_rttOf, Cond.instanceMethod yX0_rttOf, Cond.selects RX0 yX0_rttOf yX0_rttOf, Cond.code yX0_rttOf cX0_rttOf 3 (some .int), Cond.fieldLink RX0 37 "NetworkCoordinates$State" "rtts" "[I"]
def wsX1_suspect : List Cond := .code yX1_suspect cX1_suspect 5 (some .int) :: ((wsX1_suspect_r1 ++ wsX1_suspect_r2) ++ wsX10 ++ wsX00)
def wsX1_move_r1 : List Cond := [Cond.fieldLink RX1 10 "NetworkCoordinates" "now" "LNetworkCoordinates$State;", Cond.methodLink RX1 44 yX1_knownPairFault, Cond.instanceMethod yX1_knownPairFault, Cond.selects RX1 yX1_knownPairFault yX1_knownPairFault, Cond.initialized RX1, Cond.code yX1_knownPairFault cX1_knownPairFault 4 (some .int), Cond.constant RX1 143 (-1000004), Cond.methodLink RX1 33 yX1_pairFault, Cond.instanceMethod yX1_pairFault, Cond.selects RX1 yX1_pairFault yX1_pairFault, Cond.code yX1_pairFault cX1_pairFault 3 (some .int), Cond.constant RX1 51 (-1000001), Cond.constant RX1 142 (-1000003), Cond.methodLink RX1 47 yX1_isNode, Cond.instanceMethod yX1_isNode, Cond.selects RX1 yX1_isNode yX1_isNode, Cond.code yX1_isNode cX1_isNode 2 (some .boolean), Cond.methodLink RX1 20 yX1_isWithin, Cond.static yX1_isWithin, Cond.code yX1_isWithin cX1_isWithin 3 (some .boolean), Cond.methodLink RX1 100 yX0_isKnown, Cond.instanceMethod yX0_isKnown, Cond.selects RX0 yX0_isKnown yX0_isKnown, Cond.initialized RX0]
def wsX1_move_r2 : List Cond := [Cond.code yX0_isKnown cX0_isKnown 3 (some .boolean), Cond.methodLink RX0 60 yX0_rttOf, Cond.instanceMethod yX0_rttOf, Cond.selects RX0 yX0_rttOf yX0_rttOf, Cond.code yX0_rttOf cX0_rttOf 3 (some .int), Cond.fieldLink RX0 37 "NetworkCoordinates$State" "rtts" "[I", Cond.methodLink RX1 134 yX0_distanceMoved, Cond.instanceMethod yX0_distanceMoved, Cond.selects RX0 yX0_distanceMoved yX0_distanceMoved, Cond.code yX0_distanceMoved cX0_distanceMoved 5 (some .int), Cond.fieldLink RX0 21 "NetworkCoordinates$State" "xs" "[I", Cond.fieldLink RX0 25 "NetworkCoordinates$State" "ys" "[I", Cond.methodLink RX0 81 yX0_predicted, Cond.instanceMethod yX0_predicted, Cond.selects RX0 yX0_predicted yX0_predicted, Cond.code yX0_predicted cX0_predicted 3 (some .int), Cond.fieldLink RX0 28 "NetworkCoordinates$State" "heights" "[I", Cond.static yX1_planarDistance, Cond.code yX1_planarDistance cX1_planarDistance 4 (some .int), Cond.methodLink RX1 149 yX1_squareRoot, Cond.static yX1_squareRoot, Cond.code yX1_squareRoot cX1_squareRoot 7 (some .int), Cond.methodLink RX0 84 yX0_stepOf, Cond.instanceMethod yX0_stepOf]
def wsX1_move_r3 : List Cond := [Cond.selects RX0 yX0_stepOf yX0_stepOf, Cond.code yX0_stepOf cX0_stepOf 6 (some .int), Cond.fieldLink RX0 15 "NetworkCoordinates$State" "moveGain" "I", Cond.constantLong RX0 101 (1000), Cond.fieldLink RX0 18 "NetworkCoordinates$State" "maxStep" "I", Cond.methodLink RX0 117 yX0_weight, Cond.instanceMethod yX0_weight, Cond.selects RX0 yX0_weight yX0_weight, Cond.code yX0_weight cX0_weight 3 (some .long), Cond.fieldLink RX0 31 "NetworkCoordinates$State" "errors" "[I", Cond.static yX1_quotient, Cond.code yX1_quotient cX1_quotient 4 (some .long), Cond.methodLink RX0 107 yX0_sample, Cond.instanceMethod yX0_sample, Cond.selects RX0 yX0_sample yX0_sample, Cond.code yX0_sample cX0_sample 3 (some .int), Cond.fieldLink RX0 34 "NetworkCoordinates$State" "lies" "[I", Cond.static yX1_limited, Cond.code yX1_limited cX1_limited 4 (some .int), Cond.methodLink RX1 144 Lib.MathLoose.min_long.x, Cond.static Lib.MathLoose.min_long.x, Cond.initialized "java/lang/Math", Cond.code Lib.MathLoose.min_long.x Lib.MathLoose.min_long.code 4 (some .long), Cond.methodLink RX1 147 Lib.MathLoose.max_long.x]
def wsX1_move_r4 : List Cond := [Cond.static Lib.MathLoose.max_long.x, Cond.code Lib.MathLoose.max_long.x Lib.MathLoose.max_long.code 4 (some .long), Cond.methodLink RX0 88 yX0_xAfter, Cond.instanceMethod yX0_xAfter, Cond.selects RX0 yX0_xAfter yX0_xAfter, Cond.code yX0_xAfter cX0_xAfter 7 (some .int), Cond.constant RX0 132 (-100000), Cond.constant RX0 133 (100000), Cond.static yX1_share, Cond.code yX1_share cX1_share 3 (some .long), Cond.methodLink RX1 108 yX1_quotient, Cond.methodLink RX0 92 yX0_yAfter, Cond.instanceMethod yX0_yAfter, Cond.selects RX0 yX0_yAfter yX0_yAfter, Cond.code yX0_yAfter cX0_yAfter 7 (some .int)]
def wsX1_move : List Cond := .code yX1_move cX1_move 4 (some .int) :: ((wsX1_move_r1 ++ (wsX1_move_r2 ++ (wsX1_move_r3 ++ wsX1_move_r4))) ++ wsX10 ++ wsX00)
def wsX1_save_r1 : List Cond := [Cond.constant RX1 24 (-1000002), Cond.fieldLink RX1 16 "NetworkCoordinates" "slots" "[LNetworkCoordinates$State;", Cond.classLink RX1 7 RX0, Cond.instantiable RX0 11, Cond.initialized RX0, Cond.fieldLink RX1 10 "NetworkCoordinates" "now" "LNetworkCoordinates$State;", Cond.methodLink RX1 20 yX1_isWithin, Cond.static yX1_isWithin, Cond.initialized RX1, Cond.code yX1_isWithin cX1_isWithin 3 (some .boolean), Cond.methodLink RX1 9 yX0_init, Cond.instanceMethod yX0_init, Cond.code yX0_init cX0_init 1 none, Cond.methodLink RX0 3 objectInit, Cond.instanceMethod objectInit, Cond.code objectInit ⟨#[0xb1]⟩ 1 none, Cond.fieldLink RX0 9 "NetworkCoordinates$State" "errorGain" "I", Cond.fieldLink RX0 15 "NetworkCoordinates$State" "moveGain" "I", Cond.fieldLink RX0 18 "NetworkCoordinates$State" "maxStep" "I", Cond.arrayClass .int, Cond.fieldLink RX0 21 "NetworkCoordinates$State" "xs" "[I", Cond.fieldLink RX0 25 "NetworkCoordinates$State" "ys" "[I", Cond.fieldLink RX0 28 "NetworkCoordinates$State" "heights" "[I", Cond.fieldLink RX0 31 "NetworkCoordinates$State" "errors" "[I"]
def wsX1_save_r2 : List Cond := [Cond.fieldLink RX0 34 "NetworkCoordinates$State" "lies" "[I", Cond.fieldLink RX0 37 "NetworkCoordinates$State" "rtts" "[I", Cond.methodLink RX0 40 yX0_begin, Cond.instanceMethod yX0_begin, Cond.selects RX0 yX0_begin yX0_begin, Cond.code yX0_begin cX0_begin 3 none, Cond.fieldLink RX0 44 "NetworkCoordinates$State" "nodes" "I", Cond.fieldLink RX0 47 "NetworkCoordinates$State" "round" "I", Cond.methodLink RX0 50 yX0_settle, Cond.instanceMethod yX0_settle, Cond.selects RX0 yX0_settle yX0_settle, Cond.code yX0_settle cX0_settle 6 none, Cond.methodLink RX1 137 yX0_copyFrom, Cond.instanceMethod yX0_copyFrom, Cond.selects RX0 yX0_copyFrom yX0_copyFrom, Cond.code yX0_copyFrom cX0_copyFrom 2 none, Cond.methodLink RX0 54 arraycopyName, Cond.native arraycopyName, Cond.static arraycopyName, Cond.initialized "java/lang/System"]
def wsX1_save : List Cond := .code yX1_save cX1_save 3 (some .int) :: ((wsX1_save_r1 ++ wsX1_save_r2) ++ wsX10 ++ wsX00)
def wsX1_restore_r1 : List Cond := [Cond.constant RX1 24 (-1000002), Cond.fieldLink RX1 16 "NetworkCoordinates" "slots" "[LNetworkCoordinates$State;", Cond.constant RX1 141 (-1000006), Cond.fieldLink RX1 10 "NetworkCoordinates" "now" "LNetworkCoordinates$State;", Cond.methodLink RX1 20 yX1_isWithin, Cond.static yX1_isWithin, Cond.initialized RX1, Cond.code yX1_isWithin cX1_isWithin 3 (some .boolean), Cond.methodLink RX1 137 yX0_copyFrom, Cond.instanceMethod yX0_copyFrom, Cond.selects RX0 yX0_copyFrom yX0_copyFrom, Cond.initialized RX0, Cond.code yX0_copyFrom cX0_copyFrom 2 none, Cond.fieldLink RX0 44 "NetworkCoordinates$State" "nodes" "I", Cond.fieldLink RX0 47 "NetworkCoordinates$State" "round" "I", Cond.fieldLink RX0 9 "NetworkCoordinates$State" "errorGain" "I", Cond.fieldLink RX0 15 "NetworkCoordinates$State" "moveGain" "I", Cond.fieldLink RX0 18 "NetworkCoordinates$State" "maxStep" "I", Cond.fieldLink RX0 21 "NetworkCoordinates$State" "xs" "[I", Cond.methodLink RX0 54 arraycopyName, Cond.native arraycopyName, Cond.static arraycopyName, Cond.initialized "java/lang/System", Cond.fieldLink RX0 25 "NetworkCoordinates$State" "ys" "[I"]
def wsX1_restore_r2 : List Cond := [Cond.fieldLink RX0 28 "NetworkCoordinates$State" "heights" "[I", Cond.fieldLink RX0 31 "NetworkCoordinates$State" "errors" "[I", Cond.fieldLink RX0 34 "NetworkCoordinates$State" "lies" "[I", Cond.fieldLink RX0 37 "NetworkCoordinates$State" "rtts" "[I"]
def wsX1_restore : List Cond := .code yX1_restore cX1_restore 3 (some .int) :: ((wsX1_restore_r1 ++ wsX1_restore_r2) ++ wsX10 ++ wsX00)
def wsX2_begin : List Cond := .code yX2_begin cX2_begin 3 none :: ([.fieldLink RX2 7 "NetworkCoordinatesModel" "state" "[I"] ++ wsX20)
def wsX2_init : List Cond := .code yX2_init cX2_init 1 none :: ([.methodLink RX2 1 objectInit, .instanceMethod objectInit, .code objectInit ⟨#[0xb1]⟩ 1 none, .arrayClass .int, .fieldLink RX2 7 "NetworkCoordinatesModel" "state" "[I", .fieldLink RX2 13 "NetworkCoordinatesModel" "slots" "[I", .arrayClass .boolean, .fieldLink RX2 16 "NetworkCoordinatesModel" "isSaved" "[Z", .fieldLink RX2 20 "NetworkCoordinatesModel" "often" "[I", .methodLink RX2 23 yX2_begin, .instanceMethod yX2_begin, .selects RX2 yX2_begin yX2_begin, .initialized RX2, .code yX2_begin cX2_begin 3 none] ++ wsX20)
def wsX2_in : List Cond := .code yX2_in cX2_in 3 (some .boolean) :: ([])
def wsX2_isNode : List Cond := .code yX2_isNode cX2_isNode 2 (some .boolean) :: ([.fieldLink RX2 7 "NetworkCoordinatesModel" "state" "[I", .methodLink RX2 27 yX2_in, .static yX2_in, .initialized RX2, .code yX2_in cX2_in 3 (some .boolean)] ++ wsX20)
def wsX2_plain : List Cond := .code yX2_plain cX2_plain 2 (some .long) :: ([])
def wsX2_limited : List Cond := .code yX2_limited cX2_limited 4 (some .int) :: ([])
def wsX2_root : List Cond := .code yX2_root cX2_root 8 (some .long) :: ([.constantLong RX2 31 (400000), .constantLong RX2 33 (2)])
def wsX2_reset : List Cond := .code yX2_reset cX2_reset 3 (some .int) :: ([.constant RX2 35 (-1000002), .fieldLink RX2 7 "NetworkCoordinatesModel" "state" "[I", .methodLink RX2 27 yX2_in, .static yX2_in, .initialized RX2, .code yX2_in cX2_in 3 (some .boolean), .methodLink RX2 23 yX2_begin, .instanceMethod yX2_begin, .selects RX2 yX2_begin yX2_begin, .code yX2_begin cX2_begin 3 none] ++ wsX20)
def wsX2_set : List Cond := .code yX2_set cX2_set 4 (some .int) :: ([.fieldLink RX2 7 "NetworkCoordinatesModel" "state" "[I"] ++ wsX20)
def wsX2_cell : List Cond := .code yX2_cell cX2_cell 2 (some .int) :: ([])
def wsX2_wrongPair : List Cond := .code yX2_wrongPair cX2_wrongPair 3 (some .int) :: ([.constant RX2 40 (-1000001), .constant RX2 41 (-1000003), .methodLink RX2 36 yX2_isNode, .instanceMethod yX2_isNode, .selects RX2 yX2_isNode yX2_isNode, .initialized RX2, .code yX2_isNode cX2_isNode 2 (some .boolean), .fieldLink RX2 7 "NetworkCoordinatesModel" "state" "[I", .methodLink RX2 27 yX2_in, .static yX2_in, .code yX2_in cX2_in 3 (some .boolean)] ++ wsX20)
def wsX2_wrongKnown : List Cond := .code yX2_wrongKnown cX2_wrongKnown 4 (some .int) :: ([.fieldLink RX2 7 "NetworkCoordinatesModel" "state" "[I", .constant RX2 49 (-1000004), .methodLink RX2 42 yX2_wrongPair, .instanceMethod yX2_wrongPair, .selects RX2 yX2_wrongPair yX2_wrongPair, .initialized RX2, .code yX2_wrongPair cX2_wrongPair 3 (some .int), .constant RX2 40 (-1000001), .constant RX2 41 (-1000003), .methodLink RX2 36 yX2_isNode, .instanceMethod yX2_isNode, .selects RX2 yX2_isNode yX2_isNode, .code yX2_isNode cX2_isNode 2 (some .boolean), .methodLink RX2 27 yX2_in, .static yX2_in, .code yX2_in cX2_in 3 (some .boolean), .methodLink RX2 46 yX2_cell, .static yX2_cell, .code yX2_cell cX2_cell 2 (some .int)] ++ wsX20)
def wsX2_setRtt : List Cond := .code yX2_setRtt cX2_setRtt 5 (some .int) :: ([.constant RX2 35 (-1000002), .fieldLink RX2 7 "NetworkCoordinatesModel" "state" "[I", .methodLink RX2 42 yX2_wrongPair, .instanceMethod yX2_wrongPair, .selects RX2 yX2_wrongPair yX2_wrongPair, .initialized RX2, .code yX2_wrongPair cX2_wrongPair 3 (some .int), .constant RX2 40 (-1000001), .constant RX2 41 (-1000003), .methodLink RX2 36 yX2_isNode, .instanceMethod yX2_isNode, .selects RX2 yX2_isNode yX2_isNode, .code yX2_isNode cX2_isNode 2 (some .boolean), .methodLink RX2 27 yX2_in, .static yX2_in, .code yX2_in cX2_in 3 (some .boolean), .methodLink RX2 46 yX2_cell, .static yX2_cell, .code yX2_cell cX2_cell 2 (some .int), .methodLink RX2 50 yX2_set, .instanceMethod yX2_set, .selects RX2 yX2_set yX2_set, .code yX2_set cX2_set 4 (some .int)] ++ wsX20)
def wsX2_rtt : List Cond := .code yX2_rtt cX2_rtt 4 (some .int) :: ([.fieldLink RX2 7 "NetworkCoordinatesModel" "state" "[I", .methodLink RX2 53 yX2_wrongKnown, .instanceMethod yX2_wrongKnown, .selects RX2 yX2_wrongKnown yX2_wrongKnown, .initialized RX2, .code yX2_wrongKnown cX2_wrongKnown 4 (some .int), .constant RX2 49 (-1000004), .methodLink RX2 42 yX2_wrongPair, .instanceMethod yX2_wrongPair, .selects RX2 yX2_wrongPair yX2_wrongPair, .code yX2_wrongPair cX2_wrongPair 3 (some .int), .constant RX2 40 (-1000001), .constant RX2 41 (-1000003), .methodLink RX2 36 yX2_isNode, .instanceMethod yX2_isNode, .selects RX2 yX2_isNode yX2_isNode, .code yX2_isNode cX2_isNode 2 (some .boolean), .methodLink RX2 27 yX2_in, .static yX2_in, .code yX2_in cX2_in 3 (some .boolean), .methodLink RX2 46 yX2_cell, .static yX2_cell, .code yX2_cell cX2_cell 2 (some .int)] ++ wsX20)
def wsX2_setLie : List Cond := .code yX2_setLie cX2_setLie 3 (some .int) :: ([.constant RX2 40 (-1000001), .constant RX2 35 (-1000002), .methodLink RX2 36 yX2_isNode, .instanceMethod yX2_isNode, .selects RX2 yX2_isNode yX2_isNode, .initialized RX2, .code yX2_isNode cX2_isNode 2 (some .boolean), .fieldLink RX2 7 "NetworkCoordinatesModel" "state" "[I", .methodLink RX2 27 yX2_in, .static yX2_in, .code yX2_in cX2_in 3 (some .boolean), .methodLink RX2 50 yX2_set, .instanceMethod yX2_set, .selects RX2 yX2_set yX2_set, .code yX2_set cX2_set 4 (some .int)] ++ wsX20)
def wsX2_setGains : List Cond := .code yX2_setGains cX2_setGains 3 (some .int) :: ([.constant RX2 35 (-1000002), .methodLink RX2 27 yX2_in, .static yX2_in, .initialized RX2, .code yX2_in cX2_in 3 (some .boolean), .methodLink RX2 50 yX2_set, .instanceMethod yX2_set, .selects RX2 yX2_set yX2_set, .code yX2_set cX2_set 4 (some .int), .fieldLink RX2 7 "NetworkCoordinatesModel" "state" "[I"] ++ wsX20)
def wsX2_setMaxStep : List Cond := .code yX2_setMaxStep cX2_setMaxStep 2 (some .int) :: ([.constant RX2 35 (-1000002), .methodLink RX2 27 yX2_in, .static yX2_in, .initialized RX2, .code yX2_in cX2_in 3 (some .boolean), .methodLink RX2 50 yX2_set, .instanceMethod yX2_set, .selects RX2 yX2_set yX2_set, .code yX2_set cX2_set 4 (some .int), .fieldLink RX2 7 "NetworkCoordinatesModel" "state" "[I"] ++ wsX20)
def wsX2_place : List Cond := .code yX2_place cX2_place 5 (some .int) :: ([.constant RX2 40 (-1000001), .constant RX2 56 (-100000), .constant RX2 57 (100000), .constant RX2 35 (-1000002), .fieldLink RX2 7 "NetworkCoordinatesModel" "state" "[I", .methodLink RX2 36 yX2_isNode, .instanceMethod yX2_isNode, .selects RX2 yX2_isNode yX2_isNode, .initialized RX2, .code yX2_isNode cX2_isNode 2 (some .boolean), .methodLink RX2 27 yX2_in, .static yX2_in, .code yX2_in cX2_in 3 (some .boolean), .methodLink RX2 50 yX2_set, .instanceMethod yX2_set, .selects RX2 yX2_set yX2_set, .code yX2_set cX2_set 4 (some .int)] ++ wsX20)
def wsX2_of : List Cond := .code yX2_of cX2_of 3 (some .int) :: ([.fieldLink RX2 7 "NetworkCoordinatesModel" "state" "[I", .constant RX2 40 (-1000001), .methodLink RX2 36 yX2_isNode, .instanceMethod yX2_isNode, .selects RX2 yX2_isNode yX2_isNode, .initialized RX2, .code yX2_isNode cX2_isNode 2 (some .boolean), .methodLink RX2 27 yX2_in, .static yX2_in, .code yX2_in cX2_in 3 (some .boolean)] ++ wsX20)
def wsX2_x : List Cond := .code yX2_x cX2_x 2 (some .int) :: ([.methodLink RX2 58 yX2_of, .instanceMethod yX2_of, .selects RX2 yX2_of yX2_of, .initialized RX2, .code yX2_of cX2_of 3 (some .int), .fieldLink RX2 7 "NetworkCoordinatesModel" "state" "[I", .constant RX2 40 (-1000001), .methodLink RX2 36 yX2_isNode, .instanceMethod yX2_isNode, .selects RX2 yX2_isNode yX2_isNode, .code yX2_isNode cX2_isNode 2 (some .boolean), .methodLink RX2 27 yX2_in, .static yX2_in, .code yX2_in cX2_in 3 (some .boolean)] ++ wsX20)
def wsX2_y : List Cond := .code yX2_y cX2_y 2 (some .int) :: ([.methodLink RX2 58 yX2_of, .instanceMethod yX2_of, .selects RX2 yX2_of yX2_of, .initialized RX2, .code yX2_of cX2_of 3 (some .int), .fieldLink RX2 7 "NetworkCoordinatesModel" "state" "[I", .constant RX2 40 (-1000001), .methodLink RX2 36 yX2_isNode, .instanceMethod yX2_isNode, .selects RX2 yX2_isNode yX2_isNode, .code yX2_isNode cX2_isNode 2 (some .boolean), .methodLink RX2 27 yX2_in, .static yX2_in, .code yX2_in cX2_in 3 (some .boolean)] ++ wsX20)
def wsX2_height : List Cond := .code yX2_height cX2_height 2 (some .int) :: ([.methodLink RX2 58 yX2_of, .instanceMethod yX2_of, .selects RX2 yX2_of yX2_of, .initialized RX2, .code yX2_of cX2_of 3 (some .int), .fieldLink RX2 7 "NetworkCoordinatesModel" "state" "[I", .constant RX2 40 (-1000001), .methodLink RX2 36 yX2_isNode, .instanceMethod yX2_isNode, .selects RX2 yX2_isNode yX2_isNode, .code yX2_isNode cX2_isNode 2 (some .boolean), .methodLink RX2 27 yX2_in, .static yX2_in, .code yX2_in cX2_in 3 (some .boolean)] ++ wsX20)
def wsX2_error : List Cond := .code yX2_error cX2_error 2 (some .int) :: ([.methodLink RX2 58 yX2_of, .instanceMethod yX2_of, .selects RX2 yX2_of yX2_of, .initialized RX2, .code yX2_of cX2_of 3 (some .int), .fieldLink RX2 7 "NetworkCoordinatesModel" "state" "[I", .constant RX2 40 (-1000001), .methodLink RX2 36 yX2_isNode, .instanceMethod yX2_isNode, .selects RX2 yX2_isNode yX2_isNode, .code yX2_isNode cX2_isNode 2 (some .boolean), .methodLink RX2 27 yX2_in, .static yX2_in, .code yX2_in cX2_in 3 (some .boolean)] ++ wsX20)
def wsX2_planar : List Cond := .code yX2_planar cX2_planar 4 (some .int) :: ([.methodLink RX2 61 yX2_root, .static yX2_root, .initialized RX2, .code yX2_root cX2_root 8 (some .long), .constantLong RX2 31 (400000), .constantLong RX2 33 (2)])
def wsX2_predicted : List Cond := .code yX2_predicted cX2_predicted 3 (some .int) :: ([.fieldLink RX2 7 "NetworkCoordinatesModel" "state" "[I", .methodLink RX2 65 yX2_planar, .static yX2_planar, .initialized RX2, .code yX2_planar cX2_planar 4 (some .int), .methodLink RX2 61 yX2_root, .static yX2_root, .code yX2_root cX2_root 8 (some .long), .constantLong RX2 31 (400000), .constantLong RX2 33 (2)] ++ wsX20)
def wsX2_predict_r1 : List Cond := [Cond.methodLink RX2 42 yX2_wrongPair, Cond.instanceMethod yX2_wrongPair, Cond.selects RX2 yX2_wrongPair yX2_wrongPair, Cond.initialized RX2, Cond.code yX2_wrongPair cX2_wrongPair 3 (some .int), Cond.constant RX2 40 (-1000001), Cond.constant RX2 41 (-1000003), Cond.methodLink RX2 36 yX2_isNode, Cond.instanceMethod yX2_isNode, Cond.selects RX2 yX2_isNode yX2_isNode, Cond.code yX2_isNode cX2_isNode 2 (some .boolean), Cond.fieldLink RX2 7 "NetworkCoordinatesModel" "state" "[I", Cond.methodLink RX2 27 yX2_in, Cond.static yX2_in, Cond.code yX2_in cX2_in 3 (some .boolean), Cond.methodLink RX2 69 yX2_predicted, Cond.instanceMethod yX2_predicted, Cond.selects RX2 yX2_predicted yX2_predicted, Cond.code yX2_predicted cX2_predicted 3 (some .int), Cond.methodLink RX2 65 yX2_planar, Cond.static yX2_planar, Cond.code yX2_planar cX2_planar 4 (some .int), Cond.methodLink RX2 61 yX2_root, Cond.static yX2_root]
def wsX2_predict_r2 : List Cond := [Cond.code yX2_root cX2_root 8 (some .long), Cond.constantLong RX2 31 (400000), Cond.constantLong RX2 33 (2)]
def wsX2_predict : List Cond := .code yX2_predict cX2_predict 4 (some .int) :: ((wsX2_predict_r1 ++ wsX2_predict_r2) ++ wsX20)
def wsX2_sample : List Cond := .code yX2_sample cX2_sample 3 (some .int) :: ([.fieldLink RX2 7 "NetworkCoordinatesModel" "state" "[I", .methodLink RX2 46 yX2_cell, .static yX2_cell, .initialized RX2, .code yX2_cell cX2_cell 2 (some .int)] ++ wsX20)
def wsX2_workOut_r1 : List Cond := [Cond.fieldLink RX2 7 "NetworkCoordinatesModel" "state" "[I", Cond.constantLong RX2 75 (1000), Cond.fieldLink RX2 80 "NetworkCoordinatesModel" "newError" "I", Cond.constant RX2 56 (-100000), Cond.constant RX2 57 (100000), Cond.fieldLink RX2 88 "NetworkCoordinatesModel" "newX" "I", Cond.fieldLink RX2 91 "NetworkCoordinatesModel" "newY" "I", Cond.fieldLink RX2 94 "NetworkCoordinatesModel" "newHeight" "I", Cond.methodLink RX2 72 yX2_sample, Cond.instanceMethod yX2_sample, Cond.selects RX2 yX2_sample yX2_sample, Cond.initialized RX2, Cond.code yX2_sample cX2_sample 3 (some .int), Cond.methodLink RX2 46 yX2_cell, Cond.static yX2_cell, Cond.code yX2_cell cX2_cell 2 (some .int), Cond.methodLink RX2 69 yX2_predicted, Cond.instanceMethod yX2_predicted, Cond.selects RX2 yX2_predicted yX2_predicted, Cond.code yX2_predicted cX2_predicted 3 (some .int), Cond.methodLink RX2 65 yX2_planar, Cond.static yX2_planar, Cond.code yX2_planar cX2_planar 4 (some .int), Cond.methodLink RX2 61 yX2_root]
def wsX2_workOut_r2 : List Cond := [Cond.static yX2_root, Cond.code yX2_root cX2_root 8 (some .long), Cond.constantLong RX2 31 (400000), Cond.constantLong RX2 33 (2), Cond.methodLink RX2 77 yX2_plain, Cond.static yX2_plain, Cond.code yX2_plain cX2_plain 2 (some .long), Cond.methodLink RX2 84 yX2_limited, Cond.static yX2_limited, Cond.code yX2_limited cX2_limited 4 (some .int)]
def wsX2_workOut : List Cond := .code yX2_workOut cX2_workOut 33 none :: ((wsX2_workOut_r1 ++ wsX2_workOut_r2) ++ wsX20)
def wsX2_update_r1 : List Cond := [Cond.fieldLink RX2 7 "NetworkCoordinatesModel" "state" "[I", Cond.fieldLink RX2 88 "NetworkCoordinatesModel" "newX" "I", Cond.fieldLink RX2 91 "NetworkCoordinatesModel" "newY" "I", Cond.fieldLink RX2 94 "NetworkCoordinatesModel" "newHeight" "I", Cond.fieldLink RX2 80 "NetworkCoordinatesModel" "newError" "I", Cond.methodLink RX2 97 yX2_workOut, Cond.instanceMethod yX2_workOut, Cond.selects RX2 yX2_workOut yX2_workOut, Cond.initialized RX2, Cond.code yX2_workOut cX2_workOut 33 none, Cond.constantLong RX2 75 (1000), Cond.constant RX2 56 (-100000), Cond.constant RX2 57 (100000), Cond.methodLink RX2 72 yX2_sample, Cond.instanceMethod yX2_sample, Cond.selects RX2 yX2_sample yX2_sample, Cond.code yX2_sample cX2_sample 3 (some .int), Cond.methodLink RX2 46 yX2_cell, Cond.static yX2_cell, Cond.code yX2_cell cX2_cell 2 (some .int), Cond.methodLink RX2 69 yX2_predicted, Cond.instanceMethod yX2_predicted, Cond.selects RX2 yX2_predicted yX2_predicted, Cond.code yX2_predicted cX2_predicted 3 (some .int)]
def wsX2_update_r2 : List Cond := [Cond.methodLink RX2 65 yX2_planar, Cond.static yX2_planar, Cond.code yX2_planar cX2_planar 4 (some .int), Cond.methodLink RX2 61 yX2_root, Cond.static yX2_root, Cond.code yX2_root cX2_root 8 (some .long), Cond.constantLong RX2 31 (400000), Cond.constantLong RX2 33 (2), Cond.methodLink RX2 77 yX2_plain, Cond.static yX2_plain, Cond.code yX2_plain cX2_plain 2 (some .long), Cond.methodLink RX2 84 yX2_limited, Cond.static yX2_limited, Cond.code yX2_limited cX2_limited 4 (some .int)]
def wsX2_update : List Cond := .code yX2_update cX2_update 3 none :: ((wsX2_update_r1 ++ wsX2_update_r2) ++ wsX20)
def wsX2_measure_r1 : List Cond := [Cond.methodLink RX2 53 yX2_wrongKnown, Cond.instanceMethod yX2_wrongKnown, Cond.selects RX2 yX2_wrongKnown yX2_wrongKnown, Cond.initialized RX2, Cond.code yX2_wrongKnown cX2_wrongKnown 4 (some .int), Cond.fieldLink RX2 7 "NetworkCoordinatesModel" "state" "[I", Cond.constant RX2 49 (-1000004), Cond.methodLink RX2 42 yX2_wrongPair, Cond.instanceMethod yX2_wrongPair, Cond.selects RX2 yX2_wrongPair yX2_wrongPair, Cond.code yX2_wrongPair cX2_wrongPair 3 (some .int), Cond.constant RX2 40 (-1000001), Cond.constant RX2 41 (-1000003), Cond.methodLink RX2 36 yX2_isNode, Cond.instanceMethod yX2_isNode, Cond.selects RX2 yX2_isNode yX2_isNode, Cond.code yX2_isNode cX2_isNode 2 (some .boolean), Cond.methodLink RX2 27 yX2_in, Cond.static yX2_in, Cond.code yX2_in cX2_in 3 (some .boolean), Cond.methodLink RX2 46 yX2_cell, Cond.static yX2_cell, Cond.code yX2_cell cX2_cell 2 (some .int), Cond.methodLink RX2 101 yX2_update]
def wsX2_measure_r2 : List Cond := [Cond.instanceMethod yX2_update, Cond.selects RX2 yX2_update yX2_update, Cond.code yX2_update cX2_update 3 none, Cond.fieldLink RX2 88 "NetworkCoordinatesModel" "newX" "I", Cond.fieldLink RX2 91 "NetworkCoordinatesModel" "newY" "I", Cond.fieldLink RX2 94 "NetworkCoordinatesModel" "newHeight" "I", Cond.fieldLink RX2 80 "NetworkCoordinatesModel" "newError" "I", Cond.methodLink RX2 97 yX2_workOut, Cond.instanceMethod yX2_workOut, Cond.selects RX2 yX2_workOut yX2_workOut, Cond.code yX2_workOut cX2_workOut 33 none, Cond.constantLong RX2 75 (1000), Cond.constant RX2 56 (-100000), Cond.constant RX2 57 (100000), Cond.methodLink RX2 72 yX2_sample, Cond.instanceMethod yX2_sample, Cond.selects RX2 yX2_sample yX2_sample, Cond.code yX2_sample cX2_sample 3 (some .int), Cond.methodLink RX2 69 yX2_predicted, Cond.instanceMethod yX2_predicted, Cond.selects RX2 yX2_predicted yX2_predicted, Cond.code yX2_predicted cX2_predicted 3 (some .int), Cond.methodLink RX2 65 yX2_planar, Cond.static yX2_planar]
def wsX2_measure_r3 : List Cond := [Cond.code yX2_planar cX2_planar 4 (some .int), Cond.methodLink RX2 61 yX2_root, Cond.static yX2_root, Cond.code yX2_root cX2_root 8 (some .long), Cond.constantLong RX2 31 (400000), Cond.constantLong RX2 33 (2), Cond.methodLink RX2 77 yX2_plain, Cond.static yX2_plain, Cond.code yX2_plain cX2_plain 2 (some .long), Cond.methodLink RX2 84 yX2_limited, Cond.static yX2_limited, Cond.code yX2_limited cX2_limited 4 (some .int)]
def wsX2_measure : List Cond := .code yX2_measure cX2_measure 4 (some .int) :: ((wsX2_measure_r1 ++ (wsX2_measure_r2 ++ wsX2_measure_r3)) ++ wsX20)
def wsX2_round_r1 : List Cond := [Cond.fieldLink RX2 7 "NetworkCoordinatesModel" "state" "[I", Cond.methodLink RX2 46 yX2_cell, Cond.static yX2_cell, Cond.initialized RX2, Cond.code yX2_cell cX2_cell 2 (some .int), Cond.methodLink RX2 101 yX2_update, Cond.instanceMethod yX2_update, Cond.selects RX2 yX2_update yX2_update, Cond.code yX2_update cX2_update 3 none, Cond.fieldLink RX2 88 "NetworkCoordinatesModel" "newX" "I", Cond.fieldLink RX2 91 "NetworkCoordinatesModel" "newY" "I", Cond.fieldLink RX2 94 "NetworkCoordinatesModel" "newHeight" "I", Cond.fieldLink RX2 80 "NetworkCoordinatesModel" "newError" "I", Cond.methodLink RX2 97 yX2_workOut, Cond.instanceMethod yX2_workOut, Cond.selects RX2 yX2_workOut yX2_workOut, Cond.code yX2_workOut cX2_workOut 33 none, Cond.constantLong RX2 75 (1000), Cond.constant RX2 56 (-100000), Cond.constant RX2 57 (100000), Cond.methodLink RX2 72 yX2_sample, Cond.instanceMethod yX2_sample, Cond.selects RX2 yX2_sample yX2_sample, Cond.code yX2_sample cX2_sample 3 (some .int)]
def wsX2_round_r2 : List Cond := [Cond.methodLink RX2 69 yX2_predicted, Cond.instanceMethod yX2_predicted, Cond.selects RX2 yX2_predicted yX2_predicted, Cond.code yX2_predicted cX2_predicted 3 (some .int), Cond.methodLink RX2 65 yX2_planar, Cond.static yX2_planar, Cond.code yX2_planar cX2_planar 4 (some .int), Cond.methodLink RX2 61 yX2_root, Cond.static yX2_root, Cond.code yX2_root cX2_root 8 (some .long), Cond.constantLong RX2 31 (400000), Cond.constantLong RX2 33 (2), Cond.methodLink RX2 77 yX2_plain, Cond.static yX2_plain, Cond.code yX2_plain cX2_plain 2 (some .long), Cond.methodLink RX2 84 yX2_limited, Cond.static yX2_limited, Cond.code yX2_limited cX2_limited 4 (some .int)]
def wsX2_round : List Cond := .code yX2_round cX2_round 5 (some .int) :: ((wsX2_round_r1 ++ wsX2_round_r2) ++ wsX20)
def wsX2_run_r1 : List Cond := [Cond.constant RX2 35 (-1000002), Cond.methodLink RX2 27 yX2_in, Cond.static yX2_in, Cond.initialized RX2, Cond.code yX2_in cX2_in 3 (some .boolean), Cond.methodLink RX2 104 yX2_round, Cond.instanceMethod yX2_round, Cond.selects RX2 yX2_round yX2_round, Cond.code yX2_round cX2_round 5 (some .int), Cond.fieldLink RX2 7 "NetworkCoordinatesModel" "state" "[I", Cond.methodLink RX2 46 yX2_cell, Cond.static yX2_cell, Cond.code yX2_cell cX2_cell 2 (some .int), Cond.methodLink RX2 101 yX2_update, Cond.instanceMethod yX2_update, Cond.selects RX2 yX2_update yX2_update, Cond.code yX2_update cX2_update 3 none, Cond.fieldLink RX2 88 "NetworkCoordinatesModel" "newX" "I", Cond.fieldLink RX2 91 "NetworkCoordinatesModel" "newY" "I", Cond.fieldLink RX2 94 "NetworkCoordinatesModel" "newHeight" "I", Cond.fieldLink RX2 80 "NetworkCoordinatesModel" "newError" "I", Cond.methodLink RX2 97 yX2_workOut, Cond.instanceMethod yX2_workOut, Cond.selects RX2 yX2_workOut yX2_workOut]
def wsX2_run_r2 : List Cond := [Cond.code yX2_workOut cX2_workOut 33 none, Cond.constantLong RX2 75 (1000), Cond.constant RX2 56 (-100000), Cond.constant RX2 57 (100000), Cond.methodLink RX2 72 yX2_sample, Cond.instanceMethod yX2_sample, Cond.selects RX2 yX2_sample yX2_sample, Cond.code yX2_sample cX2_sample 3 (some .int), Cond.methodLink RX2 69 yX2_predicted, Cond.instanceMethod yX2_predicted, Cond.selects RX2 yX2_predicted yX2_predicted, Cond.code yX2_predicted cX2_predicted 3 (some .int), Cond.methodLink RX2 65 yX2_planar, Cond.static yX2_planar, Cond.code yX2_planar cX2_planar 4 (some .int), Cond.methodLink RX2 61 yX2_root, Cond.static yX2_root, Cond.code yX2_root cX2_root 8 (some .long), Cond.constantLong RX2 31 (400000), Cond.constantLong RX2 33 (2), Cond.methodLink RX2 77 yX2_plain, Cond.static yX2_plain, Cond.code yX2_plain cX2_plain 2 (some .long), Cond.methodLink RX2 84 yX2_limited]
def wsX2_run_r3 : List Cond := [Cond.static yX2_limited, Cond.code yX2_limited cX2_limited 4 (some .int)]
def wsX2_run : List Cond := .code yX2_run cX2_run 4 (some .int) :: ((wsX2_run_r1 ++ (wsX2_run_r2 ++ wsX2_run_r3)) ++ wsX20)
def wsX2_roundCounter : List Cond := .code yX2_roundCounter cX2_roundCounter 1 (some .int) :: ([.fieldLink RX2 7 "NetworkCoordinatesModel" "state" "[I"] ++ wsX20)
def wsX2_errorOf : List Cond := .code yX2_errorOf cX2_errorOf 5 (some .int) :: ([.fieldLink RX2 7 "NetworkCoordinatesModel" "state" "[I", .constantLong RX2 75 (1000), .methodLink RX2 46 yX2_cell, .static yX2_cell, .initialized RX2, .code yX2_cell cX2_cell 2 (some .int), .methodLink RX2 69 yX2_predicted, .instanceMethod yX2_predicted, .selects RX2 yX2_predicted yX2_predicted, .code yX2_predicted cX2_predicted 3 (some .int), .methodLink RX2 65 yX2_planar, .static yX2_planar, .code yX2_planar cX2_planar 4 (some .int), .methodLink RX2 61 yX2_root, .static yX2_root, .code yX2_root cX2_root 8 (some .long), .constantLong RX2 31 (400000), .constantLong RX2 33 (2), .methodLink RX2 77 yX2_plain, .static yX2_plain, .code yX2_plain cX2_plain 2 (some .long)] ++ wsX20)
def wsX2_meanError_r1 : List Cond := [Cond.fieldLink RX2 7 "NetworkCoordinatesModel" "state" "[I", Cond.constant RX2 111 (-1000005), Cond.methodLink RX2 46 yX2_cell, Cond.static yX2_cell, Cond.initialized RX2, Cond.code yX2_cell cX2_cell 2 (some .int), Cond.methodLink RX2 108 yX2_errorOf, Cond.instanceMethod yX2_errorOf, Cond.selects RX2 yX2_errorOf yX2_errorOf, Cond.code yX2_errorOf cX2_errorOf 5 (some .int), Cond.constantLong RX2 75 (1000), Cond.methodLink RX2 69 yX2_predicted, Cond.instanceMethod yX2_predicted, Cond.selects RX2 yX2_predicted yX2_predicted, Cond.code yX2_predicted cX2_predicted 3 (some .int), Cond.methodLink RX2 65 yX2_planar, Cond.static yX2_planar, Cond.code yX2_planar cX2_planar 4 (some .int), Cond.methodLink RX2 61 yX2_root, Cond.static yX2_root, Cond.code yX2_root cX2_root 8 (some .long), Cond.constantLong RX2 31 (400000), Cond.constantLong RX2 33 (2), Cond.methodLink RX2 77 yX2_plain]
def wsX2_meanError_r2 : List Cond := [Cond.static yX2_plain, Cond.code yX2_plain cX2_plain 2 (some .long)]
def wsX2_meanError : List Cond := .code yX2_meanError cX2_meanError 6 (some .int) :: ((wsX2_meanError_r1 ++ wsX2_meanError_r2) ++ wsX20)
def wsX2_worstPair_r1 : List Cond := [Cond.constant RX2 111 (-1000005), Cond.fieldLink RX2 7 "NetworkCoordinatesModel" "state" "[I", Cond.methodLink RX2 46 yX2_cell, Cond.static yX2_cell, Cond.initialized RX2, Cond.code yX2_cell cX2_cell 2 (some .int), Cond.methodLink RX2 108 yX2_errorOf, Cond.instanceMethod yX2_errorOf, Cond.selects RX2 yX2_errorOf yX2_errorOf, Cond.code yX2_errorOf cX2_errorOf 5 (some .int), Cond.constantLong RX2 75 (1000), Cond.methodLink RX2 69 yX2_predicted, Cond.instanceMethod yX2_predicted, Cond.selects RX2 yX2_predicted yX2_predicted, Cond.code yX2_predicted cX2_predicted 3 (some .int), Cond.methodLink RX2 65 yX2_planar, Cond.static yX2_planar, Cond.code yX2_planar cX2_planar 4 (some .int), Cond.methodLink RX2 61 yX2_root, Cond.static yX2_root, Cond.code yX2_root cX2_root 8 (some .long), Cond.constantLong RX2 31 (400000), Cond.constantLong RX2 33 (2), Cond.methodLink RX2 77 yX2_plain]
def wsX2_worstPair_r2 : List Cond := [Cond.static yX2_plain, Cond.code yX2_plain cX2_plain 2 (some .long)]
def wsX2_worstPair : List Cond := .code yX2_worstPair cX2_worstPair 5 (some .int) :: ((wsX2_worstPair_r1 ++ wsX2_worstPair_r2) ++ wsX20)
def wsX2_relativeError_r1 : List Cond := [Cond.methodLink RX2 53 yX2_wrongKnown, Cond.instanceMethod yX2_wrongKnown, Cond.selects RX2 yX2_wrongKnown yX2_wrongKnown, Cond.initialized RX2, Cond.code yX2_wrongKnown cX2_wrongKnown 4 (some .int), Cond.fieldLink RX2 7 "NetworkCoordinatesModel" "state" "[I", Cond.constant RX2 49 (-1000004), Cond.methodLink RX2 42 yX2_wrongPair, Cond.instanceMethod yX2_wrongPair, Cond.selects RX2 yX2_wrongPair yX2_wrongPair, Cond.code yX2_wrongPair cX2_wrongPair 3 (some .int), Cond.constant RX2 40 (-1000001), Cond.constant RX2 41 (-1000003), Cond.methodLink RX2 36 yX2_isNode, Cond.instanceMethod yX2_isNode, Cond.selects RX2 yX2_isNode yX2_isNode, Cond.code yX2_isNode cX2_isNode 2 (some .boolean), Cond.methodLink RX2 27 yX2_in, Cond.static yX2_in, Cond.code yX2_in cX2_in 3 (some .boolean), Cond.methodLink RX2 46 yX2_cell, Cond.static yX2_cell, Cond.code yX2_cell cX2_cell 2 (some .int), Cond.methodLink RX2 108 yX2_errorOf]
def wsX2_relativeError_r2 : List Cond := [Cond.instanceMethod yX2_errorOf, Cond.selects RX2 yX2_errorOf yX2_errorOf, Cond.code yX2_errorOf cX2_errorOf 5 (some .int), Cond.constantLong RX2 75 (1000), Cond.methodLink RX2 69 yX2_predicted, Cond.instanceMethod yX2_predicted, Cond.selects RX2 yX2_predicted yX2_predicted, Cond.code yX2_predicted cX2_predicted 3 (some .int), Cond.methodLink RX2 65 yX2_planar, Cond.static yX2_planar, Cond.code yX2_planar cX2_planar 4 (some .int), Cond.methodLink RX2 61 yX2_root, Cond.static yX2_root, Cond.code yX2_root cX2_root 8 (some .long), Cond.constantLong RX2 31 (400000), Cond.constantLong RX2 33 (2), Cond.methodLink RX2 77 yX2_plain, Cond.static yX2_plain, Cond.code yX2_plain cX2_plain 2 (some .long)]
def wsX2_relativeError : List Cond := .code yX2_relativeError cX2_relativeError 4 (some .int) :: ((wsX2_relativeError_r1 ++ wsX2_relativeError_r2) ++ wsX20)
def wsX2_rankOf : List Cond := .code yX2_rankOf cX2_rankOf 7 (some .int) :: ([.fieldLink RX2 7 "NetworkCoordinatesModel" "state" "[I", .methodLink RX2 69 yX2_predicted, .instanceMethod yX2_predicted, .selects RX2 yX2_predicted yX2_predicted, .initialized RX2, .code yX2_predicted cX2_predicted 3 (some .int), .methodLink RX2 65 yX2_planar, .static yX2_planar, .code yX2_planar cX2_planar 4 (some .int), .methodLink RX2 61 yX2_root, .static yX2_root, .code yX2_root cX2_root 8 (some .long), .constantLong RX2 31 (400000), .constantLong RX2 33 (2)] ++ wsX20)
def wsX2_nearest_r1 : List Cond := [Cond.constant RX2 40 (-1000001), Cond.fieldLink RX2 7 "NetworkCoordinatesModel" "state" "[I", Cond.constant RX2 35 (-1000002), Cond.methodLink RX2 36 yX2_isNode, Cond.instanceMethod yX2_isNode, Cond.selects RX2 yX2_isNode yX2_isNode, Cond.initialized RX2, Cond.code yX2_isNode cX2_isNode 2 (some .boolean), Cond.methodLink RX2 27 yX2_in, Cond.static yX2_in, Cond.code yX2_in cX2_in 3 (some .boolean), Cond.methodLink RX2 112 yX2_rankOf, Cond.instanceMethod yX2_rankOf, Cond.selects RX2 yX2_rankOf yX2_rankOf, Cond.code yX2_rankOf cX2_rankOf 7 (some .int), Cond.methodLink RX2 69 yX2_predicted, Cond.instanceMethod yX2_predicted, Cond.selects RX2 yX2_predicted yX2_predicted, Cond.code yX2_predicted cX2_predicted 3 (some .int), Cond.methodLink RX2 65 yX2_planar, Cond.static yX2_planar, Cond.code yX2_planar cX2_planar 4 (some .int), Cond.methodLink RX2 61 yX2_root, Cond.static yX2_root]
def wsX2_nearest_r2 : List Cond := [Cond.code yX2_root cX2_root 8 (some .long), Cond.constantLong RX2 31 (400000), Cond.constantLong RX2 33 (2)]
def wsX2_nearest : List Cond := .code yX2_nearest cX2_nearest 5 (some .int) :: ((wsX2_nearest_r1 ++ wsX2_nearest_r2) ++ wsX20)
def wsX2_relay_r1 : List Cond := [Cond.constant RX2 111 (-1000005), Cond.fieldLink RX2 7 "NetworkCoordinatesModel" "state" "[I", Cond.methodLink RX2 42 yX2_wrongPair, Cond.instanceMethod yX2_wrongPair, Cond.selects RX2 yX2_wrongPair yX2_wrongPair, Cond.initialized RX2, Cond.code yX2_wrongPair cX2_wrongPair 3 (some .int), Cond.constant RX2 40 (-1000001), Cond.constant RX2 41 (-1000003), Cond.methodLink RX2 36 yX2_isNode, Cond.instanceMethod yX2_isNode, Cond.selects RX2 yX2_isNode yX2_isNode, Cond.code yX2_isNode cX2_isNode 2 (some .boolean), Cond.methodLink RX2 27 yX2_in, Cond.static yX2_in, Cond.code yX2_in cX2_in 3 (some .boolean), Cond.methodLink RX2 69 yX2_predicted, Cond.instanceMethod yX2_predicted, Cond.selects RX2 yX2_predicted yX2_predicted, Cond.code yX2_predicted cX2_predicted 3 (some .int), Cond.methodLink RX2 65 yX2_planar, Cond.static yX2_planar, Cond.code yX2_planar cX2_planar 4 (some .int), Cond.methodLink RX2 61 yX2_root]
def wsX2_relay_r2 : List Cond := [Cond.static yX2_root, Cond.code yX2_root cX2_root 8 (some .long), Cond.constantLong RX2 31 (400000), Cond.constantLong RX2 33 (2)]
def wsX2_relay : List Cond := .code yX2_relay cX2_relay 8 (some .int) :: ((wsX2_relay_r1 ++ wsX2_relay_r2) ++ wsX20)
def wsX2_isTriangle : List Cond := .code yX2_isTriangle cX2_isTriangle 4 (some .boolean) :: ([.fieldLink RX2 7 "NetworkCoordinatesModel" "state" "[I", .methodLink RX2 46 yX2_cell, .static yX2_cell, .initialized RX2, .code yX2_cell cX2_cell 2 (some .int)] ++ wsX20)
def wsX2_excess : List Cond := .code yX2_excess cX2_excess 8 (some .int) :: ([.fieldLink RX2 7 "NetworkCoordinatesModel" "state" "[I", .methodLink RX2 46 yX2_cell, .static yX2_cell, .initialized RX2, .code yX2_cell cX2_cell 2 (some .int)] ++ wsX20)
def wsX2_countTriangle : List Cond := .code yX2_countTriangle cX2_countTriangle 5 none :: ([.fieldLink RX2 118 "NetworkCoordinatesModel" "triangleMany" "I", .fieldLink RX2 125 "NetworkCoordinatesModel" "violatedMany" "I", .fieldLink RX2 128 "NetworkCoordinatesModel" "mostExcess" "I", .fieldLink RX2 20 "NetworkCoordinatesModel" "often" "[I", .methodLink RX2 115 yX2_isTriangle, .instanceMethod yX2_isTriangle, .selects RX2 yX2_isTriangle yX2_isTriangle, .initialized RX2, .code yX2_isTriangle cX2_isTriangle 4 (some .boolean), .fieldLink RX2 7 "NetworkCoordinatesModel" "state" "[I", .methodLink RX2 46 yX2_cell, .static yX2_cell, .code yX2_cell cX2_cell 2 (some .int), .methodLink RX2 121 yX2_excess, .instanceMethod yX2_excess, .selects RX2 yX2_excess yX2_excess, .code yX2_excess cX2_excess 8 (some .int)] ++ wsX20)
def wsX2_countAll : List Cond := .code yX2_countAll cX2_countAll 4 none :: ([.fieldLink RX2 118 "NetworkCoordinatesModel" "triangleMany" "I", .fieldLink RX2 125 "NetworkCoordinatesModel" "violatedMany" "I", .constant RX2 111 (-1000005), .fieldLink RX2 128 "NetworkCoordinatesModel" "mostExcess" "I", .fieldLink RX2 20 "NetworkCoordinatesModel" "often" "[I", .fieldLink RX2 7 "NetworkCoordinatesModel" "state" "[I", .methodLink RX2 131 yX2_countTriangle, .instanceMethod yX2_countTriangle, .selects RX2 yX2_countTriangle yX2_countTriangle, .initialized RX2, .code yX2_countTriangle cX2_countTriangle 5 none, .methodLink RX2 115 yX2_isTriangle, .instanceMethod yX2_isTriangle, .selects RX2 yX2_isTriangle yX2_isTriangle, .code yX2_isTriangle cX2_isTriangle 4 (some .boolean), .methodLink RX2 46 yX2_cell, .static yX2_cell, .code yX2_cell cX2_cell 2 (some .int), .methodLink RX2 121 yX2_excess, .instanceMethod yX2_excess, .selects RX2 yX2_excess yX2_excess, .code yX2_excess cX2_excess 8 (some .int)] ++ wsX20)
def wsX2_triangles_r1 : List Cond := [Cond.fieldLink RX2 118 "NetworkCoordinatesModel" "triangleMany" "I", Cond.methodLink RX2 135 yX2_countAll, Cond.instanceMethod yX2_countAll, Cond.selects RX2 yX2_countAll yX2_countAll, Cond.initialized RX2, Cond.code yX2_countAll cX2_countAll 4 none, Cond.fieldLink RX2 125 "NetworkCoordinatesModel" "violatedMany" "I", Cond.constant RX2 111 (-1000005), Cond.fieldLink RX2 128 "NetworkCoordinatesModel" "mostExcess" "I", Cond.fieldLink RX2 20 "NetworkCoordinatesModel" "often" "[I", Cond.fieldLink RX2 7 "NetworkCoordinatesModel" "state" "[I", Cond.methodLink RX2 131 yX2_countTriangle, Cond.instanceMethod yX2_countTriangle, Cond.selects RX2 yX2_countTriangle yX2_countTriangle, Cond.code yX2_countTriangle cX2_countTriangle 5 none, Cond.methodLink RX2 115 yX2_isTriangle, Cond.instanceMethod yX2_isTriangle, Cond.selects RX2 yX2_isTriangle yX2_isTriangle, Cond.code yX2_isTriangle cX2_isTriangle 4 (some .boolean), Cond.methodLink RX2 46 yX2_cell, Cond.static yX2_cell, Cond.code yX2_cell cX2_cell 2 (some .int), Cond.methodLink RX2 121 yX2_excess, Cond.instanceMethod yX2_excess]
def wsX2_triangles_r2 : List Cond := [Cond.selects RX2 yX2_excess yX2_excess, Cond.code yX2_excess cX2_excess 8 (some .int)]
def wsX2_triangles : List Cond := .code yX2_triangles cX2_triangles 1 (some .int) :: ((wsX2_triangles_r1 ++ wsX2_triangles_r2) ++ wsX20)
def wsX2_violations_r1 : List Cond := [Cond.fieldLink RX2 125 "NetworkCoordinatesModel" "violatedMany" "I", Cond.methodLink RX2 135 yX2_countAll, Cond.instanceMethod yX2_countAll, Cond.selects RX2 yX2_countAll yX2_countAll, Cond.initialized RX2, Cond.code yX2_countAll cX2_countAll 4 none, Cond.fieldLink RX2 118 "NetworkCoordinatesModel" "triangleMany" "I", Cond.constant RX2 111 (-1000005), Cond.fieldLink RX2 128 "NetworkCoordinatesModel" "mostExcess" "I", Cond.fieldLink RX2 20 "NetworkCoordinatesModel" "often" "[I", Cond.fieldLink RX2 7 "NetworkCoordinatesModel" "state" "[I", Cond.methodLink RX2 131 yX2_countTriangle, Cond.instanceMethod yX2_countTriangle, Cond.selects RX2 yX2_countTriangle yX2_countTriangle, Cond.code yX2_countTriangle cX2_countTriangle 5 none, Cond.methodLink RX2 115 yX2_isTriangle, Cond.instanceMethod yX2_isTriangle, Cond.selects RX2 yX2_isTriangle yX2_isTriangle, Cond.code yX2_isTriangle cX2_isTriangle 4 (some .boolean), Cond.methodLink RX2 46 yX2_cell, Cond.static yX2_cell, Cond.code yX2_cell cX2_cell 2 (some .int), Cond.methodLink RX2 121 yX2_excess, Cond.instanceMethod yX2_excess]
def wsX2_violations_r2 : List Cond := [Cond.selects RX2 yX2_excess yX2_excess, Cond.code yX2_excess cX2_excess 8 (some .int)]
def wsX2_violations : List Cond := .code yX2_violations cX2_violations 1 (some .int) :: ((wsX2_violations_r1 ++ wsX2_violations_r2) ++ wsX20)
def wsX2_worstExcess_r1 : List Cond := [Cond.fieldLink RX2 128 "NetworkCoordinatesModel" "mostExcess" "I", Cond.methodLink RX2 135 yX2_countAll, Cond.instanceMethod yX2_countAll, Cond.selects RX2 yX2_countAll yX2_countAll, Cond.initialized RX2, Cond.code yX2_countAll cX2_countAll 4 none, Cond.fieldLink RX2 118 "NetworkCoordinatesModel" "triangleMany" "I", Cond.fieldLink RX2 125 "NetworkCoordinatesModel" "violatedMany" "I", Cond.constant RX2 111 (-1000005), Cond.fieldLink RX2 20 "NetworkCoordinatesModel" "often" "[I", Cond.fieldLink RX2 7 "NetworkCoordinatesModel" "state" "[I", Cond.methodLink RX2 131 yX2_countTriangle, Cond.instanceMethod yX2_countTriangle, Cond.selects RX2 yX2_countTriangle yX2_countTriangle, Cond.code yX2_countTriangle cX2_countTriangle 5 none, Cond.methodLink RX2 115 yX2_isTriangle, Cond.instanceMethod yX2_isTriangle, Cond.selects RX2 yX2_isTriangle yX2_isTriangle, Cond.code yX2_isTriangle cX2_isTriangle 4 (some .boolean), Cond.methodLink RX2 46 yX2_cell, Cond.static yX2_cell, Cond.code yX2_cell cX2_cell 2 (some .int), Cond.methodLink RX2 121 yX2_excess, Cond.instanceMethod yX2_excess]
def wsX2_worstExcess_r2 : List Cond := [Cond.selects RX2 yX2_excess yX2_excess, Cond.code yX2_excess cX2_excess 8 (some .int)]
def wsX2_worstExcess : List Cond := .code yX2_worstExcess cX2_worstExcess 1 (some .int) :: ((wsX2_worstExcess_r1 ++ wsX2_worstExcess_r2) ++ wsX20)
def wsX2_suspect_r1 : List Cond := [Cond.fieldLink RX2 7 "NetworkCoordinatesModel" "state" "[I", Cond.fieldLink RX2 20 "NetworkCoordinatesModel" "often" "[I", Cond.fieldLink RX2 125 "NetworkCoordinatesModel" "violatedMany" "I", Cond.constant RX2 111 (-1000005), Cond.methodLink RX2 135 yX2_countAll, Cond.instanceMethod yX2_countAll, Cond.selects RX2 yX2_countAll yX2_countAll, Cond.initialized RX2, Cond.code yX2_countAll cX2_countAll 4 none, Cond.fieldLink RX2 118 "NetworkCoordinatesModel" "triangleMany" "I", Cond.fieldLink RX2 128 "NetworkCoordinatesModel" "mostExcess" "I", Cond.methodLink RX2 131 yX2_countTriangle, Cond.instanceMethod yX2_countTriangle, Cond.selects RX2 yX2_countTriangle yX2_countTriangle, Cond.code yX2_countTriangle cX2_countTriangle 5 none, Cond.methodLink RX2 115 yX2_isTriangle, Cond.instanceMethod yX2_isTriangle, Cond.selects RX2 yX2_isTriangle yX2_isTriangle, Cond.code yX2_isTriangle cX2_isTriangle 4 (some .boolean), Cond.methodLink RX2 46 yX2_cell, Cond.static yX2_cell, Cond.code yX2_cell cX2_cell 2 (some .int), Cond.methodLink RX2 121 yX2_excess, Cond.instanceMethod yX2_excess]
def wsX2_suspect_r2 : List Cond := [Cond.selects RX2 yX2_excess yX2_excess, Cond.code yX2_excess cX2_excess 8 (some .int)]
def wsX2_suspect : List Cond := .code yX2_suspect cX2_suspect 3 (some .int) :: ((wsX2_suspect_r1 ++ wsX2_suspect_r2) ++ wsX20)
def wsX2_move_r1 : List Cond := [Cond.fieldLink RX2 88 "NetworkCoordinatesModel" "newX" "I", Cond.fieldLink RX2 7 "NetworkCoordinatesModel" "state" "[I", Cond.fieldLink RX2 91 "NetworkCoordinatesModel" "newY" "I", Cond.methodLink RX2 53 yX2_wrongKnown, Cond.instanceMethod yX2_wrongKnown, Cond.selects RX2 yX2_wrongKnown yX2_wrongKnown, Cond.initialized RX2, Cond.code yX2_wrongKnown cX2_wrongKnown 4 (some .int), Cond.constant RX2 49 (-1000004), Cond.methodLink RX2 42 yX2_wrongPair, Cond.instanceMethod yX2_wrongPair, Cond.selects RX2 yX2_wrongPair yX2_wrongPair, Cond.code yX2_wrongPair cX2_wrongPair 3 (some .int), Cond.constant RX2 40 (-1000001), Cond.constant RX2 41 (-1000003), Cond.methodLink RX2 36 yX2_isNode, Cond.instanceMethod yX2_isNode, Cond.selects RX2 yX2_isNode yX2_isNode, Cond.code yX2_isNode cX2_isNode 2 (some .boolean), Cond.methodLink RX2 27 yX2_in, Cond.static yX2_in, Cond.code yX2_in cX2_in 3 (some .boolean), Cond.methodLink RX2 46 yX2_cell, Cond.static yX2_cell]
def wsX2_move_r2 : List Cond := [Cond.code yX2_cell cX2_cell 2 (some .int), Cond.methodLink RX2 97 yX2_workOut, Cond.instanceMethod yX2_workOut, Cond.selects RX2 yX2_workOut yX2_workOut, Cond.code yX2_workOut cX2_workOut 33 none, Cond.constantLong RX2 75 (1000), Cond.fieldLink RX2 80 "NetworkCoordinatesModel" "newError" "I", Cond.constant RX2 56 (-100000), Cond.constant RX2 57 (100000), Cond.fieldLink RX2 94 "NetworkCoordinatesModel" "newHeight" "I", Cond.methodLink RX2 72 yX2_sample, Cond.instanceMethod yX2_sample, Cond.selects RX2 yX2_sample yX2_sample, Cond.code yX2_sample cX2_sample 3 (some .int), Cond.methodLink RX2 69 yX2_predicted, Cond.instanceMethod yX2_predicted, Cond.selects RX2 yX2_predicted yX2_predicted, Cond.code yX2_predicted cX2_predicted 3 (some .int), Cond.methodLink RX2 65 yX2_planar, Cond.static yX2_planar, Cond.code yX2_planar cX2_planar 4 (some .int), Cond.methodLink RX2 61 yX2_root, Cond.static yX2_root, Cond.code yX2_root cX2_root 8 (some .long)]
def wsX2_move_r3 : List Cond := [Cond.constantLong RX2 31 (400000), Cond.constantLong RX2 33 (2), Cond.methodLink RX2 77 yX2_plain, Cond.static yX2_plain, Cond.code yX2_plain cX2_plain 2 (some .long), Cond.methodLink RX2 84 yX2_limited, Cond.static yX2_limited, Cond.code yX2_limited cX2_limited 4 (some .int)]
def wsX2_move : List Cond := .code yX2_move cX2_move 4 (some .int) :: ((wsX2_move_r1 ++ (wsX2_move_r2 ++ wsX2_move_r3)) ++ wsX20)
def wsX2_save : List Cond := .code yX2_save cX2_save 3 (some .int) :: ([.constant RX2 35 (-1000002), .fieldLink RX2 13 "NetworkCoordinatesModel" "slots" "[I", .fieldLink RX2 7 "NetworkCoordinatesModel" "state" "[I", .fieldLink RX2 16 "NetworkCoordinatesModel" "isSaved" "[Z", .methodLink RX2 27 yX2_in, .static yX2_in, .initialized RX2, .code yX2_in cX2_in 3 (some .boolean)] ++ wsX20)
def wsX2_restore : List Cond := .code yX2_restore cX2_restore 3 (some .int) :: ([.constant RX2 35 (-1000002), .fieldLink RX2 16 "NetworkCoordinatesModel" "isSaved" "[Z", .constant RX2 138 (-1000006), .fieldLink RX2 7 "NetworkCoordinatesModel" "state" "[I", .fieldLink RX2 13 "NetworkCoordinatesModel" "slots" "[I", .methodLink RX2 27 yX2_in, .static yX2_in, .initialized RX2, .code yX2_in cX2_in 3 (some .boolean)] ++ wsX20)
def wsJ9_abs_0f7a4 : List Cond := .code yJ9_abs_0f7a4 cJ9_abs_0f7a4 1 (some .int) :: ([])
def wsJ9_max_7cf53 : List Cond := .code yJ9_max_7cf53 cJ9_max_7cf53 2 (some .int) :: ([])
def wsJ9_max_f86c9 : List Cond := .code yJ9_max_f86c9 cJ9_max_f86c9 4 (some .long) :: ([])
def wsJ9_min_f86c9 : List Cond := .code yJ9_min_f86c9 cJ9_min_f86c9 4 (some .long) :: ([])
def wsL_law_r1 : List Cond := [Cond.classLink RL 7 RX1, Cond.instantiable RX1 2, Cond.initialized RX1, Cond.classLink RL 10 RX2, Cond.instantiable RX2 11, Cond.initialized RX2, Cond.methodLink RL 9 yX1_init, Cond.instanceMethod yX1_init, Cond.code yX1_init cX1_init 1 none, Cond.methodLink RX1 1 objectInit, Cond.instanceMethod objectInit, Cond.code objectInit ⟨#[0xb1]⟩ 1 none, Cond.classLink RX1 7 RX0, Cond.instantiable RX0 11, Cond.initialized RX0, Cond.fieldLink RX1 10 "NetworkCoordinates" "now" "LNetworkCoordinates$State;", Cond.fieldLink RX1 16 "NetworkCoordinates" "slots" "[LNetworkCoordinates$State;", Cond.methodLink RX1 9 yX0_init, Cond.instanceMethod yX0_init, Cond.code yX0_init cX0_init 1 none, Cond.methodLink RX0 3 objectInit, Cond.fieldLink RX0 9 "NetworkCoordinates$State" "errorGain" "I", Cond.fieldLink RX0 15 "NetworkCoordinates$State" "moveGain" "I", Cond.fieldLink RX0 18 "NetworkCoordinates$State" "maxStep" "I"]
def wsL_law_r2 : List Cond := [Cond.arrayClass .int, Cond.fieldLink RX0 21 "NetworkCoordinates$State" "xs" "[I", Cond.fieldLink RX0 25 "NetworkCoordinates$State" "ys" "[I", Cond.fieldLink RX0 28 "NetworkCoordinates$State" "heights" "[I", Cond.fieldLink RX0 31 "NetworkCoordinates$State" "errors" "[I", Cond.fieldLink RX0 34 "NetworkCoordinates$State" "lies" "[I", Cond.fieldLink RX0 37 "NetworkCoordinates$State" "rtts" "[I", Cond.methodLink RX0 40 yX0_begin, Cond.instanceMethod yX0_begin, Cond.selects RX0 yX0_begin yX0_begin, Cond.code yX0_begin cX0_begin 3 none, Cond.fieldLink RX0 44 "NetworkCoordinates$State" "nodes" "I", Cond.fieldLink RX0 47 "NetworkCoordinates$State" "round" "I", Cond.methodLink RX0 50 yX0_settle, Cond.instanceMethod yX0_settle, Cond.selects RX0 yX0_settle yX0_settle, Cond.code yX0_settle cX0_settle 6 none, Cond.methodLink RL 12 yX2_init, Cond.instanceMethod yX2_init, Cond.code yX2_init cX2_init 1 none, Cond.methodLink RX2 1 objectInit, Cond.fieldLink RX2 7 "NetworkCoordinatesModel" "state" "[I", Cond.fieldLink RX2 13 "NetworkCoordinatesModel" "slots" "[I", Cond.arrayClass .boolean]
def wsL_law_r3 : List Cond := [Cond.fieldLink RX2 16 "NetworkCoordinatesModel" "isSaved" "[Z", Cond.fieldLink RX2 20 "NetworkCoordinatesModel" "often" "[I", Cond.methodLink RX2 23 yX2_begin, Cond.instanceMethod yX2_begin, Cond.selects RX2 yX2_begin yX2_begin, Cond.code yX2_begin cX2_begin 3 none, Cond.methodLink RL 13 yX1_reset, Cond.instanceMethod yX1_reset, Cond.selects RX1 yX1_reset yX1_reset, Cond.code yX1_reset cX1_reset 3 (some .int), Cond.constant RX1 24 (-1000002), Cond.methodLink RX1 20 yX1_isWithin, Cond.static yX1_isWithin, Cond.code yX1_isWithin cX1_isWithin 3 (some .boolean), Cond.methodLink RX1 29 yX0_begin, Cond.methodLink RL 17 yX2_reset, Cond.instanceMethod yX2_reset, Cond.selects RX2 yX2_reset yX2_reset, Cond.code yX2_reset cX2_reset 3 (some .int), Cond.constant RX2 35 (-1000002), Cond.methodLink RX2 27 yX2_in, Cond.static yX2_in, Cond.code yX2_in cX2_in 3 (some .boolean), Cond.methodLink RL 18 yX1_setRtt]
def wsL_law_r4 : List Cond := [Cond.instanceMethod yX1_setRtt, Cond.selects RX1 yX1_setRtt yX1_setRtt, Cond.code yX1_setRtt cX1_setRtt 6 (some .int), Cond.methodLink RX1 33 yX1_pairFault, Cond.instanceMethod yX1_pairFault, Cond.selects RX1 yX1_pairFault yX1_pairFault, Cond.code yX1_pairFault cX1_pairFault 3 (some .int), Cond.constant RX1 51 (-1000001), Cond.constant RX1 142 (-1000003), Cond.methodLink RX1 47 yX1_isNode, Cond.instanceMethod yX1_isNode, Cond.selects RX1 yX1_isNode yX1_isNode, Cond.code yX1_isNode cX1_isNode 2 (some .boolean), Cond.methodLink RX1 37 yX0_rttOf, Cond.instanceMethod yX0_rttOf, Cond.selects RX0 yX0_rttOf yX0_rttOf, Cond.code yX0_rttOf cX0_rttOf 3 (some .int), Cond.methodLink RX1 40 yX0_keepRtt, Cond.instanceMethod yX0_keepRtt, Cond.selects RX0 yX0_keepRtt yX0_keepRtt, Cond.code yX0_keepRtt cX0_keepRtt 4 none, Cond.methodLink RL 22 yX2_setRtt, Cond.instanceMethod yX2_setRtt, Cond.selects RX2 yX2_setRtt yX2_setRtt]
def wsL_law_r5 : List Cond := [Cond.code yX2_setRtt cX2_setRtt 5 (some .int), Cond.methodLink RX2 42 yX2_wrongPair, Cond.instanceMethod yX2_wrongPair, Cond.selects RX2 yX2_wrongPair yX2_wrongPair, Cond.code yX2_wrongPair cX2_wrongPair 3 (some .int), Cond.constant RX2 40 (-1000001), Cond.constant RX2 41 (-1000003), Cond.methodLink RX2 36 yX2_isNode, Cond.instanceMethod yX2_isNode, Cond.selects RX2 yX2_isNode yX2_isNode, Cond.code yX2_isNode cX2_isNode 2 (some .boolean), Cond.methodLink RX2 46 yX2_cell, Cond.static yX2_cell, Cond.code yX2_cell cX2_cell 2 (some .int), Cond.methodLink RX2 50 yX2_set, Cond.instanceMethod yX2_set, Cond.selects RX2 yX2_set yX2_set, Cond.code yX2_set cX2_set 4 (some .int), Cond.methodLink RL 23 yX1_rtt, Cond.instanceMethod yX1_rtt, Cond.selects RX1 yX1_rtt yX1_rtt, Cond.code yX1_rtt cX1_rtt 4 (some .int), Cond.methodLink RX1 44 yX1_knownPairFault, Cond.instanceMethod yX1_knownPairFault]
def wsL_law_r6 : List Cond := [Cond.selects RX1 yX1_knownPairFault yX1_knownPairFault, Cond.code yX1_knownPairFault cX1_knownPairFault 4 (some .int), Cond.constant RX1 143 (-1000004), Cond.methodLink RX1 100 yX0_isKnown, Cond.instanceMethod yX0_isKnown, Cond.selects RX0 yX0_isKnown yX0_isKnown, Cond.code yX0_isKnown cX0_isKnown 3 (some .boolean), Cond.methodLink RX0 60 yX0_rttOf, Cond.methodLink RL 27 yX2_rtt, Cond.instanceMethod yX2_rtt, Cond.selects RX2 yX2_rtt yX2_rtt, Cond.code yX2_rtt cX2_rtt 4 (some .int), Cond.methodLink RX2 53 yX2_wrongKnown, Cond.instanceMethod yX2_wrongKnown, Cond.selects RX2 yX2_wrongKnown yX2_wrongKnown, Cond.code yX2_wrongKnown cX2_wrongKnown 4 (some .int), Cond.constant RX2 49 (-1000004), Cond.methodLink RL 28 yX1_setLie, Cond.instanceMethod yX1_setLie, Cond.selects RX1 yX1_setLie yX1_setLie, Cond.code yX1_setLie cX1_setLie 4 (some .int), Cond.methodLink RL 31 yX2_setLie, Cond.instanceMethod yX2_setLie, Cond.selects RX2 yX2_setLie yX2_setLie]
def wsL_law_r7 : List Cond := [Cond.code yX2_setLie cX2_setLie 3 (some .int), Cond.methodLink RL 32 yX1_setGains, Cond.instanceMethod yX1_setGains, Cond.selects RX1 yX1_setGains yX1_setGains, Cond.code yX1_setGains cX1_setGains 4 (some .int), Cond.methodLink RL 35 yX2_setGains, Cond.instanceMethod yX2_setGains, Cond.selects RX2 yX2_setGains yX2_setGains, Cond.code yX2_setGains cX2_setGains 3 (some .int), Cond.methodLink RL 36 yX1_setMaxStep, Cond.instanceMethod yX1_setMaxStep, Cond.selects RX1 yX1_setMaxStep yX1_setMaxStep, Cond.code yX1_setMaxStep cX1_setMaxStep 3 (some .int), Cond.methodLink RL 39 yX2_setMaxStep, Cond.instanceMethod yX2_setMaxStep, Cond.selects RX2 yX2_setMaxStep yX2_setMaxStep, Cond.code yX2_setMaxStep cX2_setMaxStep 2 (some .int), Cond.methodLink RL 40 yX1_place, Cond.instanceMethod yX1_place, Cond.selects RX1 yX1_place yX1_place, Cond.code yX1_place cX1_place 6 (some .int), Cond.constant RX1 65 (-100000), Cond.constant RX1 66 (100000), Cond.methodLink RX1 70 yX0_settle]
def wsL_law_r8 : List Cond := [Cond.methodLink RL 44 yX2_place, Cond.instanceMethod yX2_place, Cond.selects RX2 yX2_place yX2_place, Cond.code yX2_place cX2_place 5 (some .int), Cond.constant RX2 56 (-100000), Cond.constant RX2 57 (100000), Cond.methodLink RL 45 yX1_x, Cond.instanceMethod yX1_x, Cond.selects RX1 yX1_x yX1_x, Cond.code yX1_x cX1_x 2 (some .int), Cond.methodLink RL 48 yX2_x, Cond.instanceMethod yX2_x, Cond.selects RX2 yX2_x yX2_x, Cond.code yX2_x cX2_x 2 (some .int), Cond.methodLink RX2 58 yX2_of, Cond.instanceMethod yX2_of, Cond.selects RX2 yX2_of yX2_of, Cond.code yX2_of cX2_of 3 (some .int), Cond.methodLink RL 49 yX1_y, Cond.instanceMethod yX1_y, Cond.selects RX1 yX1_y yX1_y, Cond.code yX1_y cX1_y 2 (some .int), Cond.methodLink RL 52 yX2_y, Cond.instanceMethod yX2_y]
def wsL_law_r9 : List Cond := [Cond.selects RX2 yX2_y yX2_y, Cond.code yX2_y cX2_y 2 (some .int), Cond.methodLink RL 53 yX1_height, Cond.instanceMethod yX1_height, Cond.selects RX1 yX1_height yX1_height, Cond.code yX1_height cX1_height 2 (some .int), Cond.methodLink RL 56 yX2_height, Cond.instanceMethod yX2_height, Cond.selects RX2 yX2_height yX2_height, Cond.code yX2_height cX2_height 2 (some .int), Cond.methodLink RL 57 yX1_error, Cond.instanceMethod yX1_error, Cond.selects RX1 yX1_error yX1_error, Cond.code yX1_error cX1_error 2 (some .int), Cond.methodLink RL 60 yX2_error, Cond.instanceMethod yX2_error, Cond.selects RX2 yX2_error yX2_error, Cond.code yX2_error cX2_error 2 (some .int), Cond.methodLink RL 61 yX1_predict, Cond.instanceMethod yX1_predict, Cond.selects RX1 yX1_predict yX1_predict, Cond.code yX1_predict cX1_predict 4 (some .int), Cond.methodLink RX1 83 yX0_predicted, Cond.instanceMethod yX0_predicted]
def wsL_law_r10 : List Cond := [Cond.selects RX0 yX0_predicted yX0_predicted, Cond.code yX0_predicted cX0_predicted 3 (some .int), Cond.static yX1_planarDistance, Cond.code yX1_planarDistance cX1_planarDistance 4 (some .int), Cond.methodLink RX1 149 yX1_squareRoot, Cond.static yX1_squareRoot, Cond.code yX1_squareRoot cX1_squareRoot 7 (some .int), Cond.methodLink RL 64 yX2_predict, Cond.instanceMethod yX2_predict, Cond.selects RX2 yX2_predict yX2_predict, Cond.code yX2_predict cX2_predict 4 (some .int), Cond.methodLink RX2 69 yX2_predicted, Cond.instanceMethod yX2_predicted, Cond.selects RX2 yX2_predicted yX2_predicted, Cond.code yX2_predicted cX2_predicted 3 (some .int), Cond.methodLink RX2 65 yX2_planar, Cond.static yX2_planar, Cond.code yX2_planar cX2_planar 4 (some .int), Cond.methodLink RX2 61 yX2_root, Cond.static yX2_root, Cond.code yX2_root cX2_root 8 (some .long), Cond.constantLong RX2 31 (400000), Cond.constantLong RX2 33 (2), Cond.methodLink RL 65 yX1_measure]
def wsL_law_r11 : List Cond := [Cond.instanceMethod yX1_measure, Cond.selects RX1 yX1_measure yX1_measure, Cond.code yX1_measure cX1_measure 4 (some .int), Cond.methodLink RX1 86 yX0_update, Cond.instanceMethod yX0_update, Cond.selects RX0 yX0_update yX0_update, Cond.code yX0_update cX0_update 8 none, Cond.methodLink RX0 81 yX0_predicted, Cond.methodLink RX0 84 yX0_stepOf, Cond.instanceMethod yX0_stepOf, Cond.selects RX0 yX0_stepOf yX0_stepOf, Cond.code yX0_stepOf cX0_stepOf 6 (some .int), Cond.constantLong RX0 101 (1000), Cond.methodLink RX0 117 yX0_weight, Cond.instanceMethod yX0_weight, Cond.selects RX0 yX0_weight yX0_weight, Cond.code yX0_weight cX0_weight 3 (some .long), Cond.static yX1_quotient, Cond.code yX1_quotient cX1_quotient 4 (some .long), Cond.methodLink RX0 107 yX0_sample, Cond.instanceMethod yX0_sample, Cond.selects RX0 yX0_sample yX0_sample, Cond.code yX0_sample cX0_sample 3 (some .int), Cond.static yX1_limited]
def wsL_law_r12 : List Cond := [Cond.code yX1_limited cX1_limited 4 (some .int), Cond.methodLink RX1 144 Lib.MathLoose.min_long.x, Cond.static Lib.MathLoose.min_long.x, Cond.initialized "java/lang/Math", Cond.code Lib.MathLoose.min_long.x Lib.MathLoose.min_long.code 4 (some .long), Cond.methodLink RX1 147 Lib.MathLoose.max_long.x, Cond.static Lib.MathLoose.max_long.x, Cond.code Lib.MathLoose.max_long.x Lib.MathLoose.max_long.code 4 (some .long), Cond.methodLink RX0 88 yX0_xAfter, Cond.instanceMethod yX0_xAfter, Cond.selects RX0 yX0_xAfter yX0_xAfter, Cond.code yX0_xAfter cX0_xAfter 7 (some .int), Cond.constant RX0 132 (-100000), Cond.constant RX0 133 (100000), Cond.static yX1_share, Cond.code yX1_share cX1_share 3 (some .long), Cond.methodLink RX1 108 yX1_quotient, Cond.methodLink RX0 92 yX0_yAfter, Cond.instanceMethod yX0_yAfter, Cond.selects RX0 yX0_yAfter yX0_yAfter, Cond.code yX0_yAfter cX0_yAfter 7 (some .int), Cond.methodLink RX0 95 yX0_heightAfter, Cond.instanceMethod yX0_heightAfter, Cond.selects RX0 yX0_heightAfter yX0_heightAfter]
def wsL_law_r13 : List Cond := [Cond.code yX0_heightAfter cX0_heightAfter 7 (some .int), Cond.methodLink RX0 98 yX0_errorAfter, Cond.instanceMethod yX0_errorAfter, Cond.selects RX0 yX0_errorAfter yX0_errorAfter, Cond.code yX0_errorAfter cX0_errorAfter 11 (some .int), Cond.methodLink RX0 110 Lib.Math.abs.name, Cond.static Lib.Math.abs.name, Cond.code Lib.Math.abs.name Lib.Math.abs.code 1 (some .int), Cond.methodLink RX0 114 Lib.MathLoose.min_long.x, Cond.methodLink RX0 121 Lib.MathLoose.max_long.x, Cond.methodLink RX1 90 yX0_sample, Cond.methodLink RL 68 yX2_measure, Cond.instanceMethod yX2_measure, Cond.selects RX2 yX2_measure yX2_measure, Cond.code yX2_measure cX2_measure 4 (some .int), Cond.methodLink RX2 101 yX2_update, Cond.instanceMethod yX2_update, Cond.selects RX2 yX2_update yX2_update, Cond.code yX2_update cX2_update 3 none, Cond.fieldLink RX2 88 "NetworkCoordinatesModel" "newX" "I", Cond.fieldLink RX2 91 "NetworkCoordinatesModel" "newY" "I", Cond.fieldLink RX2 94 "NetworkCoordinatesModel" "newHeight" "I", Cond.fieldLink RX2 80 "NetworkCoordinatesModel" "newError" "I", Cond.methodLink RX2 97 yX2_workOut]
def wsL_law_r14 : List Cond := [Cond.instanceMethod yX2_workOut, Cond.selects RX2 yX2_workOut yX2_workOut, Cond.code yX2_workOut cX2_workOut 33 none, Cond.constantLong RX2 75 (1000), Cond.methodLink RX2 72 yX2_sample, Cond.instanceMethod yX2_sample, Cond.selects RX2 yX2_sample yX2_sample, Cond.code yX2_sample cX2_sample 3 (some .int), Cond.methodLink RX2 77 yX2_plain, Cond.static yX2_plain, Cond.code yX2_plain cX2_plain 2 (some .long), Cond.methodLink RX2 84 yX2_limited, Cond.static yX2_limited, Cond.code yX2_limited cX2_limited 4 (some .int), Cond.methodLink RL 69 yX1_run, Cond.instanceMethod yX1_run, Cond.selects RX1 yX1_run yX1_run, Cond.code yX1_run cX1_run 4 (some .int), Cond.methodLink RX1 93 yX0_playRound, Cond.instanceMethod yX0_playRound, Cond.selects RX0 yX0_playRound yX0_playRound, Cond.code yX0_playRound cX0_playRound 6 (some .int), Cond.methodLink RX0 68 yJ9_floorMod_7cf53, Cond.static yJ9_floorMod_7cf53]
def wsL_law_r15 : List Cond := [Cond.initialized RJ9, Cond.code yJ9_floorMod_7cf53 cJ9_floorMod_7cf53 3 (some .int), Cond.methodLink RX0 73 yX0_isKnown, Cond.methodLink RX0 77 yX0_update, Cond.methodLink RL 72 yX2_run, Cond.instanceMethod yX2_run, Cond.selects RX2 yX2_run yX2_run, Cond.code yX2_run cX2_run 4 (some .int), Cond.methodLink RX2 104 yX2_round, Cond.instanceMethod yX2_round, Cond.selects RX2 yX2_round yX2_round, Cond.code yX2_round cX2_round 5 (some .int), Cond.methodLink RL 73 yX1_roundCounter, Cond.instanceMethod yX1_roundCounter, Cond.selects RX1 yX1_roundCounter yX1_roundCounter, Cond.code yX1_roundCounter cX1_roundCounter 1 (some .int), Cond.methodLink RL 77 yX2_roundCounter, Cond.instanceMethod yX2_roundCounter, Cond.selects RX2 yX2_roundCounter yX2_roundCounter, Cond.code yX2_roundCounter cX2_roundCounter 1 (some .int), Cond.methodLink RL 78 yX1_meanError, Cond.instanceMethod yX1_meanError, Cond.selects RX1 yX1_meanError yX1_meanError, Cond.code yX1_meanError cX1_meanError 6 (some .int)]
def wsL_law_r16 : List Cond := [Cond.constant RX1 107 (-1000005), Cond.methodLink RX1 104 yX0_relative, Cond.instanceMethod yX0_relative, Cond.selects RX0 yX0_relative yX0_relative, Cond.code yX0_relative cX0_relative 4 (some .int), Cond.methodLink RL 81 yX2_meanError, Cond.instanceMethod yX2_meanError, Cond.selects RX2 yX2_meanError yX2_meanError, Cond.code yX2_meanError cX2_meanError 6 (some .int), Cond.constant RX2 111 (-1000005), Cond.methodLink RX2 108 yX2_errorOf, Cond.instanceMethod yX2_errorOf, Cond.selects RX2 yX2_errorOf yX2_errorOf, Cond.code yX2_errorOf cX2_errorOf 5 (some .int), Cond.methodLink RL 82 yX1_worstPair, Cond.instanceMethod yX1_worstPair, Cond.selects RX1 yX1_worstPair yX1_worstPair, Cond.code yX1_worstPair cX1_worstPair 5 (some .int), Cond.methodLink RL 85 yX2_worstPair, Cond.instanceMethod yX2_worstPair, Cond.selects RX2 yX2_worstPair yX2_worstPair, Cond.code yX2_worstPair cX2_worstPair 5 (some .int), Cond.methodLink RL 86 yX1_relativeError, Cond.instanceMethod yX1_relativeError]
def wsL_law_r17 : List Cond := [Cond.selects RX1 yX1_relativeError yX1_relativeError, Cond.code yX1_relativeError cX1_relativeError 4 (some .int), Cond.methodLink RL 89 yX2_relativeError, Cond.instanceMethod yX2_relativeError, Cond.selects RX2 yX2_relativeError yX2_relativeError, Cond.code yX2_relativeError cX2_relativeError 4 (some .int), Cond.methodLink RL 90 yX1_nearest, Cond.instanceMethod yX1_nearest, Cond.selects RX1 yX1_nearest yX1_nearest, Cond.code yX1_nearest cX1_nearest 5 (some .int), Cond.methodLink RX1 112 yX0_rankOf, Cond.instanceMethod yX0_rankOf, Cond.selects RX0 yX0_rankOf yX0_rankOf, Cond.code yX0_rankOf cX0_rankOf 7 (some .int), Cond.methodLink RL 93 yX2_nearest, Cond.instanceMethod yX2_nearest, Cond.selects RX2 yX2_nearest yX2_nearest, Cond.code yX2_nearest cX2_nearest 5 (some .int), Cond.methodLink RX2 112 yX2_rankOf, Cond.instanceMethod yX2_rankOf, Cond.selects RX2 yX2_rankOf yX2_rankOf, Cond.code yX2_rankOf cX2_rankOf 7 (some .int), Cond.methodLink RL 94 yX1_relay, Cond.instanceMethod yX1_relay]
def wsL_law_r18 : List Cond := [Cond.selects RX1 yX1_relay yX1_relay, Cond.code yX1_relay cX1_relay 8 (some .int), Cond.constant RX1 117 (2147483647), Cond.methodLink RL 97 yX2_relay, Cond.instanceMethod yX2_relay, Cond.selects RX2 yX2_relay yX2_relay, Cond.code yX2_relay cX2_relay 8 (some .int), Cond.methodLink RL 98 yX1_triangles, Cond.instanceMethod yX1_triangles, Cond.selects RX1 yX1_triangles yX1_triangles, Cond.code yX1_triangles cX1_triangles 5 (some .int), Cond.methodLink RX1 118 yX0_isTriangle, Cond.instanceMethod yX0_isTriangle, Cond.selects RX0 yX0_isTriangle yX0_isTriangle, Cond.code yX0_isTriangle cX0_isTriangle 4 (some .boolean), Cond.methodLink RL 101 yX2_triangles, Cond.instanceMethod yX2_triangles, Cond.selects RX2 yX2_triangles yX2_triangles, Cond.code yX2_triangles cX2_triangles 1 (some .int), Cond.fieldLink RX2 118 "NetworkCoordinatesModel" "triangleMany" "I", Cond.methodLink RX2 135 yX2_countAll, Cond.instanceMethod yX2_countAll, Cond.selects RX2 yX2_countAll yX2_countAll, Cond.code yX2_countAll cX2_countAll 4 none]
def wsL_law_r19 : List Cond := [Cond.fieldLink RX2 125 "NetworkCoordinatesModel" "violatedMany" "I", Cond.fieldLink RX2 128 "NetworkCoordinatesModel" "mostExcess" "I", Cond.methodLink RX2 131 yX2_countTriangle, Cond.instanceMethod yX2_countTriangle, Cond.selects RX2 yX2_countTriangle yX2_countTriangle, Cond.code yX2_countTriangle cX2_countTriangle 5 none, Cond.methodLink RX2 115 yX2_isTriangle, Cond.instanceMethod yX2_isTriangle, Cond.selects RX2 yX2_isTriangle yX2_isTriangle, Cond.code yX2_isTriangle cX2_isTriangle 4 (some .boolean), Cond.methodLink RX2 121 yX2_excess, Cond.instanceMethod yX2_excess, Cond.selects RX2 yX2_excess yX2_excess, Cond.code yX2_excess cX2_excess 8 (some .int), Cond.methodLink RL 102 yX1_violations, Cond.instanceMethod yX1_violations, Cond.selects RX1 yX1_violations yX1_violations, Cond.code yX1_violations cX1_violations 3 (some .int), Cond.methodLink RX1 121 yX0_violationsAt, Cond.instanceMethod yX0_violationsAt, Cond.selects RX0 yX0_violationsAt yX0_violationsAt, Cond.code yX0_violationsAt cX0_violationsAt 5 (some .int), Cond.methodLink RX0 140 yX0_excess, Cond.instanceMethod yX0_excess]
def wsL_law_r20 : List Cond := [Cond.selects RX0 yX0_excess yX0_excess, Cond.code yX0_excess cX0_excess 8 (some .int), Cond.methodLink RX0 138 Lib.Math.max.name, Cond.static Lib.Math.max.name, Cond.code Lib.Math.max.name Lib.Math.max.code 2 (some .int), Cond.methodLink RX0 134 yX0_isTriangle, Cond.methodLink RL 105 yX2_violations, Cond.instanceMethod yX2_violations, Cond.selects RX2 yX2_violations yX2_violations, Cond.code yX2_violations cX2_violations 1 (some .int), Cond.methodLink RL 106 yX1_worstExcess, Cond.instanceMethod yX1_worstExcess, Cond.selects RX1 yX1_worstExcess yX1_worstExcess, Cond.code yX1_worstExcess cX1_worstExcess 5 (some .int), Cond.methodLink RX1 129 Lib.Math.max.name, Cond.methodLink RX1 125 yX0_excess, Cond.methodLink RL 109 yX2_worstExcess, Cond.instanceMethod yX2_worstExcess, Cond.selects RX2 yX2_worstExcess yX2_worstExcess, Cond.code yX2_worstExcess cX2_worstExcess 1 (some .int), Cond.methodLink RL 110 yX1_suspect, Cond.instanceMethod yX1_suspect, Cond.selects RX1 yX1_suspect yX1_suspect, Cond.code yX1_suspect cX1_suspect 5 (some .int)]
def wsL_law_r21 : List Cond := [Cond.methodLink RL 113 yX2_suspect, Cond.instanceMethod yX2_suspect, Cond.selects RX2 yX2_suspect yX2_suspect, Cond.code yX2_suspect cX2_suspect 3 (some .int), Cond.methodLink RL 114 yX1_move, Cond.instanceMethod yX1_move, Cond.selects RX1 yX1_move yX1_move, Cond.code yX1_move cX1_move 4 (some .int), Cond.methodLink RX1 134 yX0_distanceMoved, Cond.instanceMethod yX0_distanceMoved, Cond.selects RX0 yX0_distanceMoved yX0_distanceMoved, Cond.code yX0_distanceMoved cX0_distanceMoved 5 (some .int), Cond.methodLink RL 117 yX2_move, Cond.instanceMethod yX2_move, Cond.selects RX2 yX2_move yX2_move, Cond.code yX2_move cX2_move 4 (some .int), Cond.methodLink RL 118 yX1_save, Cond.instanceMethod yX1_save, Cond.selects RX1 yX1_save yX1_save, Cond.code yX1_save cX1_save 3 (some .int), Cond.methodLink RX1 137 yX0_copyFrom, Cond.instanceMethod yX0_copyFrom, Cond.selects RX0 yX0_copyFrom yX0_copyFrom, Cond.code yX0_copyFrom cX0_copyFrom 2 none]
def wsL_law_r22 : List Cond := [Cond.methodLink RX0 54 arraycopyName, Cond.native arraycopyName, Cond.static arraycopyName, Cond.initialized "java/lang/System", Cond.methodLink RL 121 yX2_save, Cond.instanceMethod yX2_save, Cond.selects RX2 yX2_save yX2_save, Cond.code yX2_save cX2_save 3 (some .int), Cond.methodLink RL 122 yX1_restore, Cond.instanceMethod yX1_restore, Cond.selects RX1 yX1_restore yX1_restore, Cond.code yX1_restore cX1_restore 3 (some .int), Cond.constant RX1 141 (-1000006), Cond.methodLink RL 125 yX2_restore, Cond.instanceMethod yX2_restore, Cond.selects RX2 yX2_restore yX2_restore, Cond.code yX2_restore cX2_restore 3 (some .int), Cond.constant RX2 138 (-1000006)]
def wsL_law : List Cond := (wsL_law_r1 ++ (wsL_law_r2 ++ (wsL_law_r3 ++ (wsL_law_r4 ++ (wsL_law_r5 ++ (wsL_law_r6 ++ (wsL_law_r7 ++ (wsL_law_r8 ++ (wsL_law_r9 ++ (wsL_law_r10 ++ (wsL_law_r11 ++ (wsL_law_r12 ++ (wsL_law_r13 ++ (wsL_law_r14 ++ (wsL_law_r15 ++ (wsL_law_r16 ++ (wsL_law_r17 ++ (wsL_law_r18 ++ (wsL_law_r19 ++ (wsL_law_r20 ++ (wsL_law_r21 ++ wsL_law_r22))))))))))))))))))))) ++ wsX10 ++ wsX20 ++ wsX00 ++ ([] : List Cond)
abbrev vwCl : List vw_C := [(RX0, TX0, 11), (RX1, TX1, 2), (RX2, TX2, 11)]
end
section
set_option maxRecDepth 20000 in
theorem ggX0_init_X0_begin : GoodIn wsX0_init wsX0_begin := goodIn_r _ [18, 19, 20, 12, 13, 21, 22, 23, 17, 24, 8, 9, 10, 11, 25, 26, 27, 28, 29, 30, 31, 32, 33, 34, 35] (by decide +kernel) (by decide +kernel)
set_option maxRecDepth 20000 in
theorem gX0_init_X0_begin : GoodIn wsX0_init (wsV RX0 40 RX0 yX0_begin wsX0_begin) := goodIn_app (goodIn_of _ (by decide +kernel)) ggX0_init_X0_begin
theorem dX0_init_0 : decode cX0_init 0 = .ok (.aload_n 0, 1) := by decide +kernel
theorem dX0_init_1 : decode cX0_init 1 = .ok (.invokespecial 3, 3) := by decide +kernel
theorem dX0_init_4 : decode cX0_init 4 = .ok (.aload_n 0, 1) := by decide +kernel
theorem dX0_init_5 : decode cX0_init 5 = .ok (.sipush 250, 3) := by decide +kernel
theorem dX0_init_8 : decode cX0_init 8 = .ok (.putfield 9, 3) := by decide +kernel
theorem dX0_init_11 : decode cX0_init 11 = .ok (.aload_n 0, 1) := by decide +kernel
theorem dX0_init_12 : decode cX0_init 12 = .ok (.sipush 250, 3) := by decide +kernel
theorem dX0_init_15 : decode cX0_init 15 = .ok (.putfield 15, 3) := by decide +kernel
theorem dX0_init_18 : decode cX0_init 18 = .ok (.aload_n 0, 1) := by decide +kernel
theorem dX0_init_19 : decode cX0_init 19 = .ok (.sipush 2000, 3) := by decide +kernel
theorem dX0_init_22 : decode cX0_init 22 = .ok (.putfield 18, 3) := by decide +kernel
theorem dX0_init_25 : decode cX0_init 25 = .ok (.aload_n 0, 1) := by decide +kernel
theorem dX0_init_26 : decode cX0_init 26 = .ok (.bipush 10, 2) := by decide +kernel
theorem dX0_init_28 : decode cX0_init 28 = .ok (.newarray .int, 2) := by decide +kernel
theorem dX0_init_30 : decode cX0_init 30 = .ok (.putfield 21, 3) := by decide +kernel
theorem dX0_init_33 : decode cX0_init 33 = .ok (.aload_n 0, 1) := by decide +kernel
theorem dX0_init_34 : decode cX0_init 34 = .ok (.bipush 10, 2) := by decide +kernel
theorem dX0_init_36 : decode cX0_init 36 = .ok (.newarray .int, 2) := by decide +kernel
theorem dX0_init_38 : decode cX0_init 38 = .ok (.putfield 25, 3) := by decide +kernel
theorem dX0_init_41 : decode cX0_init 41 = .ok (.aload_n 0, 1) := by decide +kernel
theorem dX0_init_42 : decode cX0_init 42 = .ok (.bipush 10, 2) := by decide +kernel
theorem dX0_init_44 : decode cX0_init 44 = .ok (.newarray .int, 2) := by decide +kernel
theorem dX0_init_46 : decode cX0_init 46 = .ok (.putfield 28, 3) := by decide +kernel
theorem dX0_init_49 : decode cX0_init 49 = .ok (.aload_n 0, 1) := by decide +kernel
theorem dX0_init_50 : decode cX0_init 50 = .ok (.bipush 10, 2) := by decide +kernel
theorem dX0_init_52 : decode cX0_init 52 = .ok (.newarray .int, 2) := by decide +kernel
theorem dX0_init_54 : decode cX0_init 54 = .ok (.putfield 31, 3) := by decide +kernel
theorem dX0_init_57 : decode cX0_init 57 = .ok (.aload_n 0, 1) := by decide +kernel
theorem dX0_init_58 : decode cX0_init 58 = .ok (.bipush 10, 2) := by decide +kernel
theorem dX0_init_60 : decode cX0_init 60 = .ok (.newarray .int, 2) := by decide +kernel
theorem dX0_init_62 : decode cX0_init 62 = .ok (.putfield 34, 3) := by decide +kernel
theorem dX0_init_65 : decode cX0_init 65 = .ok (.aload_n 0, 1) := by decide +kernel
theorem dX0_init_66 : decode cX0_init 66 = .ok (.bipush 100, 2) := by decide +kernel
theorem dX0_init_68 : decode cX0_init 68 = .ok (.newarray .int, 2) := by decide +kernel
theorem dX0_init_70 : decode cX0_init 70 = .ok (.putfield 37, 3) := by decide +kernel
theorem dX0_init_73 : decode cX0_init 73 = .ok (.aload_n 0, 1) := by decide +kernel
theorem dX0_init_74 : decode cX0_init 74 = .ok (.iconst 5, 1) := by decide +kernel
theorem dX0_init_75 : decode cX0_init 75 = .ok (.invokevirtual 40, 3) := by decide +kernel
theorem dX0_init_78 : decode cX0_init 78 = .ok (.return_, 1) := by decide +kernel
set_option maxRecDepth 20000 in
theorem ggX0_begin_X0_settle : GoodIn wsX0_begin wsX0_settle := goodIn_r _ [9, 10, 11, 12, 13, 14, 15, 16, 17, 18, 19, 20, 21, 22, 23, 24] (by decide +kernel) (by decide +kernel)
set_option maxRecDepth 20000 in
theorem gX0_begin_X0_settle : GoodIn wsX0_begin (wsV RX0 50 RX0 yX0_settle wsX0_settle) := goodIn_app (goodIn_of _ (by decide +kernel)) ggX0_begin_X0_settle
theorem dX0_begin_0 : decode cX0_begin 0 = .ok (.aload_n 0, 1) := by decide +kernel
theorem dX0_begin_1 : decode cX0_begin 1 = .ok (.iload_n 1, 1) := by decide +kernel
theorem dX0_begin_2 : decode cX0_begin 2 = .ok (.putfield 44, 3) := by decide +kernel
theorem dX0_begin_5 : decode cX0_begin 5 = .ok (.aload_n 0, 1) := by decide +kernel
theorem dX0_begin_6 : decode cX0_begin 6 = .ok (.iconst 0, 1) := by decide +kernel
theorem dX0_begin_7 : decode cX0_begin 7 = .ok (.putfield 47, 3) := by decide +kernel
theorem dX0_begin_10 : decode cX0_begin 10 = .ok (.iconst 0, 1) := by decide +kernel
theorem dX0_begin_11 : decode cX0_begin 11 = .ok (.istore_n 2, 1) := by decide +kernel
theorem dX0_begin_12 : decode cX0_begin 12 = .ok (.iload_n 2, 1) := by decide +kernel
theorem dX0_begin_13 : decode cX0_begin 13 = .ok (.bipush 10, 2) := by decide +kernel
theorem dX0_begin_15 : decode cX0_begin 15 = .ok (.if_icmp .ge 27, 3) := by decide +kernel
theorem dX0_begin_18 : decode cX0_begin 18 = .ok (.aload_n 0, 1) := by decide +kernel
theorem dX0_begin_19 : decode cX0_begin 19 = .ok (.iload_n 2, 1) := by decide +kernel
theorem dX0_begin_20 : decode cX0_begin 20 = .ok (.iconst 0, 1) := by decide +kernel
theorem dX0_begin_21 : decode cX0_begin 21 = .ok (.iconst 0, 1) := by decide +kernel
theorem dX0_begin_22 : decode cX0_begin 22 = .ok (.iconst 0, 1) := by decide +kernel
theorem dX0_begin_23 : decode cX0_begin 23 = .ok (.sipush 1000, 3) := by decide +kernel
theorem dX0_begin_26 : decode cX0_begin 26 = .ok (.invokevirtual 50, 3) := by decide +kernel
theorem dX0_begin_29 : decode cX0_begin 29 = .ok (.aload_n 0, 1) := by decide +kernel
theorem dX0_begin_30 : decode cX0_begin 30 = .ok (.getfield 34, 3) := by decide +kernel
theorem dX0_begin_33 : decode cX0_begin 33 = .ok (.iload_n 2, 1) := by decide +kernel
theorem dX0_begin_34 : decode cX0_begin 34 = .ok (.iconst 0, 1) := by decide +kernel
theorem dX0_begin_35 : decode cX0_begin 35 = .ok (.iastore, 1) := by decide +kernel
theorem dX0_begin_36 : decode cX0_begin 36 = .ok (.iinc 2 1, 3) := by decide +kernel
theorem dX0_begin_39 : decode cX0_begin 39 = .ok (.goto (-27), 3) := by decide +kernel
theorem dX0_begin_42 : decode cX0_begin 42 = .ok (.iconst 0, 1) := by decide +kernel
theorem dX0_begin_43 : decode cX0_begin 43 = .ok (.istore_n 2, 1) := by decide +kernel
theorem dX0_begin_44 : decode cX0_begin 44 = .ok (.iload_n 2, 1) := by decide +kernel
theorem dX0_begin_45 : decode cX0_begin 45 = .ok (.aload_n 0, 1) := by decide +kernel
theorem dX0_begin_46 : decode cX0_begin 46 = .ok (.getfield 37, 3) := by decide +kernel
theorem dX0_begin_49 : decode cX0_begin 49 = .ok (.arraylength, 1) := by decide +kernel
theorem dX0_begin_50 : decode cX0_begin 50 = .ok (.if_icmp .ge 16, 3) := by decide +kernel
theorem dX0_begin_53 : decode cX0_begin 53 = .ok (.aload_n 0, 1) := by decide +kernel
theorem dX0_begin_54 : decode cX0_begin 54 = .ok (.getfield 37, 3) := by decide +kernel
theorem dX0_begin_57 : decode cX0_begin 57 = .ok (.iload_n 2, 1) := by decide +kernel
theorem dX0_begin_58 : decode cX0_begin 58 = .ok (.iconst 0, 1) := by decide +kernel
theorem dX0_begin_59 : decode cX0_begin 59 = .ok (.iastore, 1) := by decide +kernel
theorem dX0_begin_60 : decode cX0_begin 60 = .ok (.iinc 2 1, 3) := by decide +kernel
theorem dX0_begin_63 : decode cX0_begin 63 = .ok (.goto (-19), 3) := by decide +kernel
theorem dX0_begin_66 : decode cX0_begin 66 = .ok (.return_, 1) := by decide +kernel
theorem dX0_copyFrom_0 : decode cX0_copyFrom 0 = .ok (.aload_n 0, 1) := by decide +kernel
theorem dX0_copyFrom_1 : decode cX0_copyFrom 1 = .ok (.aload_n 1, 1) := by decide +kernel
theorem dX0_copyFrom_2 : decode cX0_copyFrom 2 = .ok (.getfield 44, 3) := by decide +kernel
theorem dX0_copyFrom_5 : decode cX0_copyFrom 5 = .ok (.putfield 44, 3) := by decide +kernel
theorem dX0_copyFrom_8 : decode cX0_copyFrom 8 = .ok (.aload_n 0, 1) := by decide +kernel
theorem dX0_copyFrom_9 : decode cX0_copyFrom 9 = .ok (.aload_n 1, 1) := by decide +kernel
theorem dX0_copyFrom_10 : decode cX0_copyFrom 10 = .ok (.getfield 47, 3) := by decide +kernel
theorem dX0_copyFrom_13 : decode cX0_copyFrom 13 = .ok (.putfield 47, 3) := by decide +kernel
theorem dX0_copyFrom_16 : decode cX0_copyFrom 16 = .ok (.aload_n 0, 1) := by decide +kernel
theorem dX0_copyFrom_17 : decode cX0_copyFrom 17 = .ok (.aload_n 1, 1) := by decide +kernel
theorem dX0_copyFrom_18 : decode cX0_copyFrom 18 = .ok (.getfield 9, 3) := by decide +kernel
theorem dX0_copyFrom_21 : decode cX0_copyFrom 21 = .ok (.putfield 9, 3) := by decide +kernel
theorem dX0_copyFrom_24 : decode cX0_copyFrom 24 = .ok (.aload_n 0, 1) := by decide +kernel
theorem dX0_copyFrom_25 : decode cX0_copyFrom 25 = .ok (.aload_n 1, 1) := by decide +kernel
theorem dX0_copyFrom_26 : decode cX0_copyFrom 26 = .ok (.getfield 15, 3) := by decide +kernel
theorem dX0_copyFrom_29 : decode cX0_copyFrom 29 = .ok (.putfield 15, 3) := by decide +kernel
theorem dX0_copyFrom_32 : decode cX0_copyFrom 32 = .ok (.aload_n 0, 1) := by decide +kernel
theorem dX0_copyFrom_33 : decode cX0_copyFrom 33 = .ok (.aload_n 1, 1) := by decide +kernel
theorem dX0_copyFrom_34 : decode cX0_copyFrom 34 = .ok (.getfield 18, 3) := by decide +kernel
theorem dX0_copyFrom_37 : decode cX0_copyFrom 37 = .ok (.putfield 18, 3) := by decide +kernel
theorem dX0_copyFrom_40 : decode cX0_copyFrom 40 = .ok (.aload_n 1, 1) := by decide +kernel
theorem dX0_copyFrom_41 : decode cX0_copyFrom 41 = .ok (.getfield 21, 3) := by decide +kernel
theorem dX0_copyFrom_44 : decode cX0_copyFrom 44 = .ok (.iconst 0, 1) := by decide +kernel
theorem dX0_copyFrom_45 : decode cX0_copyFrom 45 = .ok (.aload_n 0, 1) := by decide +kernel
theorem dX0_copyFrom_46 : decode cX0_copyFrom 46 = .ok (.getfield 21, 3) := by decide +kernel
theorem dX0_copyFrom_49 : decode cX0_copyFrom 49 = .ok (.iconst 0, 1) := by decide +kernel
theorem dX0_copyFrom_50 : decode cX0_copyFrom 50 = .ok (.bipush 10, 2) := by decide +kernel
theorem dX0_copyFrom_52 : decode cX0_copyFrom 52 = .ok (.invokestatic 54, 3) := by decide +kernel
theorem dX0_copyFrom_55 : decode cX0_copyFrom 55 = .ok (.aload_n 1, 1) := by decide +kernel
theorem dX0_copyFrom_56 : decode cX0_copyFrom 56 = .ok (.getfield 25, 3) := by decide +kernel
theorem dX0_copyFrom_59 : decode cX0_copyFrom 59 = .ok (.iconst 0, 1) := by decide +kernel
theorem dX0_copyFrom_60 : decode cX0_copyFrom 60 = .ok (.aload_n 0, 1) := by decide +kernel
theorem dX0_copyFrom_61 : decode cX0_copyFrom 61 = .ok (.getfield 25, 3) := by decide +kernel
theorem dX0_copyFrom_64 : decode cX0_copyFrom 64 = .ok (.iconst 0, 1) := by decide +kernel
theorem dX0_copyFrom_65 : decode cX0_copyFrom 65 = .ok (.bipush 10, 2) := by decide +kernel
theorem dX0_copyFrom_67 : decode cX0_copyFrom 67 = .ok (.invokestatic 54, 3) := by decide +kernel
theorem dX0_copyFrom_70 : decode cX0_copyFrom 70 = .ok (.aload_n 1, 1) := by decide +kernel
theorem dX0_copyFrom_71 : decode cX0_copyFrom 71 = .ok (.getfield 28, 3) := by decide +kernel
theorem dX0_copyFrom_74 : decode cX0_copyFrom 74 = .ok (.iconst 0, 1) := by decide +kernel
theorem dX0_copyFrom_75 : decode cX0_copyFrom 75 = .ok (.aload_n 0, 1) := by decide +kernel
theorem dX0_copyFrom_76 : decode cX0_copyFrom 76 = .ok (.getfield 28, 3) := by decide +kernel
theorem dX0_copyFrom_79 : decode cX0_copyFrom 79 = .ok (.iconst 0, 1) := by decide +kernel
theorem dX0_copyFrom_80 : decode cX0_copyFrom 80 = .ok (.bipush 10, 2) := by decide +kernel
theorem dX0_copyFrom_82 : decode cX0_copyFrom 82 = .ok (.invokestatic 54, 3) := by decide +kernel
theorem dX0_copyFrom_85 : decode cX0_copyFrom 85 = .ok (.aload_n 1, 1) := by decide +kernel
theorem dX0_copyFrom_86 : decode cX0_copyFrom 86 = .ok (.getfield 31, 3) := by decide +kernel
theorem dX0_copyFrom_89 : decode cX0_copyFrom 89 = .ok (.iconst 0, 1) := by decide +kernel
theorem dX0_copyFrom_90 : decode cX0_copyFrom 90 = .ok (.aload_n 0, 1) := by decide +kernel
theorem dX0_copyFrom_91 : decode cX0_copyFrom 91 = .ok (.getfield 31, 3) := by decide +kernel
theorem dX0_copyFrom_94 : decode cX0_copyFrom 94 = .ok (.iconst 0, 1) := by decide +kernel
theorem dX0_copyFrom_95 : decode cX0_copyFrom 95 = .ok (.bipush 10, 2) := by decide +kernel
theorem dX0_copyFrom_97 : decode cX0_copyFrom 97 = .ok (.invokestatic 54, 3) := by decide +kernel
theorem dX0_copyFrom_100 : decode cX0_copyFrom 100 = .ok (.aload_n 1, 1) := by decide +kernel
theorem dX0_copyFrom_101 : decode cX0_copyFrom 101 = .ok (.getfield 34, 3) := by decide +kernel
theorem dX0_copyFrom_104 : decode cX0_copyFrom 104 = .ok (.iconst 0, 1) := by decide +kernel
theorem dX0_copyFrom_105 : decode cX0_copyFrom 105 = .ok (.aload_n 0, 1) := by decide +kernel
theorem dX0_copyFrom_106 : decode cX0_copyFrom 106 = .ok (.getfield 34, 3) := by decide +kernel
theorem dX0_copyFrom_109 : decode cX0_copyFrom 109 = .ok (.iconst 0, 1) := by decide +kernel
theorem dX0_copyFrom_110 : decode cX0_copyFrom 110 = .ok (.bipush 10, 2) := by decide +kernel
theorem dX0_copyFrom_112 : decode cX0_copyFrom 112 = .ok (.invokestatic 54, 3) := by decide +kernel
theorem dX0_copyFrom_115 : decode cX0_copyFrom 115 = .ok (.aload_n 1, 1) := by decide +kernel
theorem dX0_copyFrom_116 : decode cX0_copyFrom 116 = .ok (.getfield 37, 3) := by decide +kernel
theorem dX0_copyFrom_119 : decode cX0_copyFrom 119 = .ok (.iconst 0, 1) := by decide +kernel
theorem dX0_copyFrom_120 : decode cX0_copyFrom 120 = .ok (.aload_n 0, 1) := by decide +kernel
theorem dX0_copyFrom_121 : decode cX0_copyFrom 121 = .ok (.getfield 37, 3) := by decide +kernel
theorem dX0_copyFrom_124 : decode cX0_copyFrom 124 = .ok (.iconst 0, 1) := by decide +kernel
theorem dX0_copyFrom_125 : decode cX0_copyFrom 125 = .ok (.bipush 100, 2) := by decide +kernel
theorem dX0_copyFrom_127 : decode cX0_copyFrom 127 = .ok (.invokestatic 54, 3) := by decide +kernel
theorem dX0_copyFrom_130 : decode cX0_copyFrom 130 = .ok (.return_, 1) := by decide +kernel
theorem dX0_settle_0 : decode cX0_settle 0 = .ok (.aload_n 0, 1) := by decide +kernel
theorem dX0_settle_1 : decode cX0_settle 1 = .ok (.getfield 21, 3) := by decide +kernel
theorem dX0_settle_4 : decode cX0_settle 4 = .ok (.iload_n 1, 1) := by decide +kernel
theorem dX0_settle_5 : decode cX0_settle 5 = .ok (.iload_n 2, 1) := by decide +kernel
theorem dX0_settle_6 : decode cX0_settle 6 = .ok (.iastore, 1) := by decide +kernel
theorem dX0_settle_7 : decode cX0_settle 7 = .ok (.aload_n 0, 1) := by decide +kernel
theorem dX0_settle_8 : decode cX0_settle 8 = .ok (.getfield 25, 3) := by decide +kernel
theorem dX0_settle_11 : decode cX0_settle 11 = .ok (.iload_n 1, 1) := by decide +kernel
theorem dX0_settle_12 : decode cX0_settle 12 = .ok (.iload_n 3, 1) := by decide +kernel
theorem dX0_settle_13 : decode cX0_settle 13 = .ok (.iastore, 1) := by decide +kernel
theorem dX0_settle_14 : decode cX0_settle 14 = .ok (.aload_n 0, 1) := by decide +kernel
theorem dX0_settle_15 : decode cX0_settle 15 = .ok (.getfield 28, 3) := by decide +kernel
theorem dX0_settle_18 : decode cX0_settle 18 = .ok (.iload_n 1, 1) := by decide +kernel
theorem dX0_settle_19 : decode cX0_settle 19 = .ok (.iload 4, 2) := by decide +kernel
theorem dX0_settle_21 : decode cX0_settle 21 = .ok (.iastore, 1) := by decide +kernel
theorem dX0_settle_22 : decode cX0_settle 22 = .ok (.aload_n 0, 1) := by decide +kernel
theorem dX0_settle_23 : decode cX0_settle 23 = .ok (.getfield 31, 3) := by decide +kernel
theorem dX0_settle_26 : decode cX0_settle 26 = .ok (.iload_n 1, 1) := by decide +kernel
theorem dX0_settle_27 : decode cX0_settle 27 = .ok (.iload 5, 2) := by decide +kernel
theorem dX0_settle_29 : decode cX0_settle 29 = .ok (.iastore, 1) := by decide +kernel
theorem dX0_settle_30 : decode cX0_settle 30 = .ok (.return_, 1) := by decide +kernel
theorem dX0_rttOf_0 : decode cX0_rttOf 0 = .ok (.aload_n 0, 1) := by decide +kernel
theorem dX0_rttOf_1 : decode cX0_rttOf 1 = .ok (.getfield 37, 3) := by decide +kernel
theorem dX0_rttOf_4 : decode cX0_rttOf 4 = .ok (.bipush 10, 2) := by decide +kernel
theorem dX0_rttOf_6 : decode cX0_rttOf 6 = .ok (.iload_n 1, 1) := by decide +kernel
theorem dX0_rttOf_7 : decode cX0_rttOf 7 = .ok (.imul, 1) := by decide +kernel
theorem dX0_rttOf_8 : decode cX0_rttOf 8 = .ok (.iload_n 2, 1) := by decide +kernel
theorem dX0_rttOf_9 : decode cX0_rttOf 9 = .ok (.iadd, 1) := by decide +kernel
theorem dX0_rttOf_10 : decode cX0_rttOf 10 = .ok (.iaload, 1) := by decide +kernel
theorem dX0_rttOf_11 : decode cX0_rttOf 11 = .ok (.ireturn, 1) := by decide +kernel
theorem dX0_keepRtt_0 : decode cX0_keepRtt 0 = .ok (.aload_n 0, 1) := by decide +kernel
theorem dX0_keepRtt_1 : decode cX0_keepRtt 1 = .ok (.getfield 37, 3) := by decide +kernel
theorem dX0_keepRtt_4 : decode cX0_keepRtt 4 = .ok (.bipush 10, 2) := by decide +kernel
theorem dX0_keepRtt_6 : decode cX0_keepRtt 6 = .ok (.iload_n 1, 1) := by decide +kernel
theorem dX0_keepRtt_7 : decode cX0_keepRtt 7 = .ok (.imul, 1) := by decide +kernel
theorem dX0_keepRtt_8 : decode cX0_keepRtt 8 = .ok (.iload_n 2, 1) := by decide +kernel
theorem dX0_keepRtt_9 : decode cX0_keepRtt 9 = .ok (.iadd, 1) := by decide +kernel
theorem dX0_keepRtt_10 : decode cX0_keepRtt 10 = .ok (.iload_n 3, 1) := by decide +kernel
theorem dX0_keepRtt_11 : decode cX0_keepRtt 11 = .ok (.iastore, 1) := by decide +kernel
theorem dX0_keepRtt_12 : decode cX0_keepRtt 12 = .ok (.aload_n 0, 1) := by decide +kernel
theorem dX0_keepRtt_13 : decode cX0_keepRtt 13 = .ok (.getfield 37, 3) := by decide +kernel
theorem dX0_keepRtt_16 : decode cX0_keepRtt 16 = .ok (.bipush 10, 2) := by decide +kernel
theorem dX0_keepRtt_18 : decode cX0_keepRtt 18 = .ok (.iload_n 2, 1) := by decide +kernel
theorem dX0_keepRtt_19 : decode cX0_keepRtt 19 = .ok (.imul, 1) := by decide +kernel
theorem dX0_keepRtt_20 : decode cX0_keepRtt 20 = .ok (.iload_n 1, 1) := by decide +kernel
theorem dX0_keepRtt_21 : decode cX0_keepRtt 21 = .ok (.iadd, 1) := by decide +kernel
theorem dX0_keepRtt_22 : decode cX0_keepRtt 22 = .ok (.iload_n 3, 1) := by decide +kernel
theorem dX0_keepRtt_23 : decode cX0_keepRtt 23 = .ok (.iastore, 1) := by decide +kernel
theorem dX0_keepRtt_24 : decode cX0_keepRtt 24 = .ok (.return_, 1) := by decide +kernel
set_option maxRecDepth 20000 in
theorem ggX0_isKnown_X0_rttOf : GoodIn wsX0_isKnown wsX0_rttOf := goodIn_r _ [5, 6, 7, 8, 9, 10, 11, 12, 13, 14, 15, 16, 17] (by decide +kernel) (by decide +kernel)
set_option maxRecDepth 20000 in
theorem gX0_isKnown_X0_rttOf : GoodIn wsX0_isKnown (wsV RX0 60 RX0 yX0_rttOf wsX0_rttOf) := goodIn_app (goodIn_of _ (by decide +kernel)) ggX0_isKnown_X0_rttOf
theorem dX0_isKnown_0 : decode cX0_isKnown 0 = .ok (.aload_n 0, 1) := by decide +kernel
theorem dX0_isKnown_1 : decode cX0_isKnown 1 = .ok (.iload_n 1, 1) := by decide +kernel
theorem dX0_isKnown_2 : decode cX0_isKnown 2 = .ok (.iload_n 2, 1) := by decide +kernel
theorem dX0_isKnown_3 : decode cX0_isKnown 3 = .ok (.invokevirtual 60, 3) := by decide +kernel
theorem dX0_isKnown_6 : decode cX0_isKnown 6 = .ok (.ifCond .eq 7, 3) := by decide +kernel
theorem dX0_isKnown_9 : decode cX0_isKnown 9 = .ok (.iconst 1, 1) := by decide +kernel
theorem dX0_isKnown_10 : decode cX0_isKnown 10 = .ok (.goto 4, 3) := by decide +kernel
theorem dX0_isKnown_13 : decode cX0_isKnown 13 = .ok (.iconst 0, 1) := by decide +kernel
theorem dX0_isKnown_14 : decode cX0_isKnown 14 = .ok (.ireturn, 1) := by decide +kernel
set_option maxRecDepth 20000 in
theorem ggX0_sample_X0_rttOf : GoodIn wsX0_sample wsX0_rttOf := goodIn_r _ [6, 7, 8, 9, 10, 11, 12, 13, 14, 15, 16, 17, 18] (by decide +kernel) (by decide +kernel)
set_option maxRecDepth 20000 in
theorem gX0_sample_X0_rttOf : GoodIn wsX0_sample (wsV RX0 60 RX0 yX0_rttOf wsX0_rttOf) := goodIn_app (goodIn_of _ (by decide +kernel)) ggX0_sample_X0_rttOf
theorem dX0_sample_0 : decode cX0_sample 0 = .ok (.aload_n 0, 1) := by decide +kernel
theorem dX0_sample_1 : decode cX0_sample 1 = .ok (.iload_n 1, 1) := by decide +kernel
theorem dX0_sample_2 : decode cX0_sample 2 = .ok (.iload_n 2, 1) := by decide +kernel
theorem dX0_sample_3 : decode cX0_sample 3 = .ok (.invokevirtual 60, 3) := by decide +kernel
theorem dX0_sample_6 : decode cX0_sample 6 = .ok (.aload_n 0, 1) := by decide +kernel
theorem dX0_sample_7 : decode cX0_sample 7 = .ok (.getfield 34, 3) := by decide +kernel
theorem dX0_sample_10 : decode cX0_sample 10 = .ok (.iload_n 2, 1) := by decide +kernel
theorem dX0_sample_11 : decode cX0_sample 11 = .ok (.iaload, 1) := by decide +kernel
theorem dX0_sample_12 : decode cX0_sample 12 = .ok (.iadd, 1) := by decide +kernel
theorem dX0_sample_13 : decode cX0_sample 13 = .ok (.ireturn, 1) := by decide +kernel
set_option maxRecDepth 20000 in
theorem ggX0_predicted_X1_planarDistance : GoodIn wsX0_predicted wsX1_planarDistance := goodIn_r _ [6, 7, 8, 5, 9] (by decide +kernel) (by decide +kernel)
set_option maxRecDepth 20000 in
theorem gX0_predicted_X1_planarDistance_n64 : GoodIn wsX0_predicted (wsX1_planarDistance) := ggX0_predicted_X1_planarDistance
theorem dX0_predicted_0 : decode cX0_predicted 0 = .ok (.aload_n 0, 1) := by decide +kernel
theorem dX0_predicted_1 : decode cX0_predicted 1 = .ok (.getfield 21, 3) := by decide +kernel
theorem dX0_predicted_4 : decode cX0_predicted 4 = .ok (.iload_n 1, 1) := by decide +kernel
theorem dX0_predicted_5 : decode cX0_predicted 5 = .ok (.iaload, 1) := by decide +kernel
theorem dX0_predicted_6 : decode cX0_predicted 6 = .ok (.aload_n 0, 1) := by decide +kernel
theorem dX0_predicted_7 : decode cX0_predicted 7 = .ok (.getfield 21, 3) := by decide +kernel
theorem dX0_predicted_10 : decode cX0_predicted 10 = .ok (.iload_n 2, 1) := by decide +kernel
theorem dX0_predicted_11 : decode cX0_predicted 11 = .ok (.iaload, 1) := by decide +kernel
theorem dX0_predicted_12 : decode cX0_predicted 12 = .ok (.isub, 1) := by decide +kernel
theorem dX0_predicted_13 : decode cX0_predicted 13 = .ok (.i2l, 1) := by decide +kernel
theorem dX0_predicted_14 : decode cX0_predicted 14 = .ok (.aload_n 0, 1) := by decide +kernel
theorem dX0_predicted_15 : decode cX0_predicted 15 = .ok (.getfield 25, 3) := by decide +kernel
theorem dX0_predicted_18 : decode cX0_predicted 18 = .ok (.iload_n 1, 1) := by decide +kernel
theorem dX0_predicted_19 : decode cX0_predicted 19 = .ok (.iaload, 1) := by decide +kernel
theorem dX0_predicted_20 : decode cX0_predicted 20 = .ok (.aload_n 0, 1) := by decide +kernel
theorem dX0_predicted_21 : decode cX0_predicted 21 = .ok (.getfield 25, 3) := by decide +kernel
theorem dX0_predicted_24 : decode cX0_predicted 24 = .ok (.iload_n 2, 1) := by decide +kernel
theorem dX0_predicted_25 : decode cX0_predicted 25 = .ok (.iaload, 1) := by decide +kernel
theorem dX0_predicted_26 : decode cX0_predicted 26 = .ok (.isub, 1) := by decide +kernel
theorem dX0_predicted_27 : decode cX0_predicted 27 = .ok (.i2l, 1) := by decide +kernel
theorem dX0_predicted_28 : decode cX0_predicted 28 = .ok (.invokestatic 64, 3) := by decide +kernel
theorem dX0_predicted_31 : decode cX0_predicted 31 = .ok (.aload_n 0, 1) := by decide +kernel
theorem dX0_predicted_32 : decode cX0_predicted 32 = .ok (.getfield 28, 3) := by decide +kernel
theorem dX0_predicted_35 : decode cX0_predicted 35 = .ok (.iload_n 1, 1) := by decide +kernel
theorem dX0_predicted_36 : decode cX0_predicted 36 = .ok (.iaload, 1) := by decide +kernel
theorem dX0_predicted_37 : decode cX0_predicted 37 = .ok (.iadd, 1) := by decide +kernel
theorem dX0_predicted_38 : decode cX0_predicted 38 = .ok (.aload_n 0, 1) := by decide +kernel
theorem dX0_predicted_39 : decode cX0_predicted 39 = .ok (.getfield 28, 3) := by decide +kernel
theorem dX0_predicted_42 : decode cX0_predicted 42 = .ok (.iload_n 2, 1) := by decide +kernel
theorem dX0_predicted_43 : decode cX0_predicted 43 = .ok (.iaload, 1) := by decide +kernel
theorem dX0_predicted_44 : decode cX0_predicted 44 = .ok (.iadd, 1) := by decide +kernel
theorem dX0_predicted_45 : decode cX0_predicted 45 = .ok (.ireturn, 1) := by decide +kernel
set_option maxRecDepth 20000 in
theorem ggX0_playRound_J9_floorMod_7cf53 : GoodIn wsX0_playRound wsJ9_floorMod_7cf53 := goodIn_r _ [6] (by decide +kernel) (by decide +kernel)
set_option maxRecDepth 20000 in
theorem gX0_playRound_J9_floorMod_7cf53 : GoodIn wsX0_playRound (va_wsS RX0 68 yJ9_floorMod_7cf53 wsJ9_floorMod_7cf53) := goodIn_app (goodIn_of _ (by decide +kernel)) ggX0_playRound_J9_floorMod_7cf53
set_option maxRecDepth 20000 in
theorem ggX0_playRound_X0_isKnown : GoodIn wsX0_playRound wsX0_isKnown := goodIn_r _ [11, 12, 13, 14, 10, 15, 16, 93, 94, 95, 96, 97, 98, 99, 100, 101, 102, 103] (by decide +kernel) (by decide +kernel)
set_option maxRecDepth 20000 in
theorem gX0_playRound_X0_isKnown : GoodIn wsX0_playRound (wsV RX0 73 RX0 yX0_isKnown wsX0_isKnown) := goodIn_app (goodIn_of _ (by decide +kernel)) ggX0_playRound_X0_isKnown
set_option maxRecDepth 20000 in
theorem ggX0_playRound_X0_update : GoodIn wsX0_playRound wsX0_update := goodIn_r _ [20, 21, 22, 23, 10, 24, 25, 26, 27, 28, 29, 30, 31, 32, 33, 34, 35, 36, 37, 38, 39, 40, 41, 42, 43, 44, 45, 46, 47, 48, 49, 50, 51, 52, 12, 13, 14, 15, 16, 53, 54, 55, 56, 57, 58, 59, 60, 61, 62, 63, 64, 65, 66, 67, 68, 69, 70, 71, 72, 73, 74, 75, 76, 77, 78, 79, 80, 81, 82, 83, 84, 85, 86, 87, 88, 89, 90, 91, 92, 93, 94, 95, 96, 97, 98, 99, 100, 101, 102, 103] (by decide +kernel) (by decide +kernel)
set_option maxRecDepth 20000 in
theorem gX0_playRound_X0_update : GoodIn wsX0_playRound (wsV RX0 77 RX0 yX0_update wsX0_update) := goodIn_app (goodIn_of _ (by decide +kernel)) ggX0_playRound_X0_update
theorem dX0_playRound_0 : decode cX0_playRound 0 = .ok (.aload_n 0, 1) := by decide +kernel
theorem dX0_playRound_1 : decode cX0_playRound 1 = .ok (.getfield 44, 3) := by decide +kernel
theorem dX0_playRound_4 : decode cX0_playRound 4 = .ok (.iconst 1, 1) := by decide +kernel
theorem dX0_playRound_5 : decode cX0_playRound 5 = .ok (.isub, 1) := by decide +kernel
theorem dX0_playRound_6 : decode cX0_playRound 6 = .ok (.istore_n 1, 1) := by decide +kernel
theorem dX0_playRound_7 : decode cX0_playRound 7 = .ok (.iload_n 1, 1) := by decide +kernel
theorem dX0_playRound_8 : decode cX0_playRound 8 = .ok (.iconst 1, 1) := by decide +kernel
theorem dX0_playRound_9 : decode cX0_playRound 9 = .ok (.if_icmp .ge 5, 3) := by decide +kernel
theorem dX0_playRound_12 : decode cX0_playRound 12 = .ok (.iconst 0, 1) := by decide +kernel
theorem dX0_playRound_13 : decode cX0_playRound 13 = .ok (.ireturn, 1) := by decide +kernel
theorem dX0_playRound_14 : decode cX0_playRound 14 = .ok (.iconst 1, 1) := by decide +kernel
theorem dX0_playRound_15 : decode cX0_playRound 15 = .ok (.aload_n 0, 1) := by decide +kernel
theorem dX0_playRound_16 : decode cX0_playRound 16 = .ok (.getfield 47, 3) := by decide +kernel
theorem dX0_playRound_19 : decode cX0_playRound 19 = .ok (.iload_n 1, 1) := by decide +kernel
theorem dX0_playRound_20 : decode cX0_playRound 20 = .ok (.invokestatic 68, 3) := by decide +kernel
theorem dX0_playRound_23 : decode cX0_playRound 23 = .ok (.iadd, 1) := by decide +kernel
theorem dX0_playRound_24 : decode cX0_playRound 24 = .ok (.istore_n 2, 1) := by decide +kernel
theorem dX0_playRound_25 : decode cX0_playRound 25 = .ok (.iconst 0, 1) := by decide +kernel
theorem dX0_playRound_26 : decode cX0_playRound 26 = .ok (.istore_n 3, 1) := by decide +kernel
theorem dX0_playRound_27 : decode cX0_playRound 27 = .ok (.iconst 0, 1) := by decide +kernel
theorem dX0_playRound_28 : decode cX0_playRound 28 = .ok (.istore 4, 2) := by decide +kernel
theorem dX0_playRound_30 : decode cX0_playRound 30 = .ok (.iload 4, 2) := by decide +kernel
theorem dX0_playRound_32 : decode cX0_playRound 32 = .ok (.aload_n 0, 1) := by decide +kernel
theorem dX0_playRound_33 : decode cX0_playRound 33 = .ok (.getfield 44, 3) := by decide +kernel
theorem dX0_playRound_36 : decode cX0_playRound 36 = .ok (.if_icmp .ge 60, 3) := by decide +kernel
theorem dX0_playRound_39 : decode cX0_playRound 39 = .ok (.iload 4, 2) := by decide +kernel
theorem dX0_playRound_41 : decode cX0_playRound 41 = .ok (.iload_n 2, 1) := by decide +kernel
theorem dX0_playRound_42 : decode cX0_playRound 42 = .ok (.iadd, 1) := by decide +kernel
theorem dX0_playRound_43 : decode cX0_playRound 43 = .ok (.aload_n 0, 1) := by decide +kernel
theorem dX0_playRound_44 : decode cX0_playRound 44 = .ok (.getfield 44, 3) := by decide +kernel
theorem dX0_playRound_47 : decode cX0_playRound 47 = .ok (.if_icmp .ge 10, 3) := by decide +kernel
theorem dX0_playRound_50 : decode cX0_playRound 50 = .ok (.iload 4, 2) := by decide +kernel
theorem dX0_playRound_52 : decode cX0_playRound 52 = .ok (.iload_n 2, 1) := by decide +kernel
theorem dX0_playRound_53 : decode cX0_playRound 53 = .ok (.iadd, 1) := by decide +kernel
theorem dX0_playRound_54 : decode cX0_playRound 54 = .ok (.goto 12, 3) := by decide +kernel
theorem dX0_playRound_57 : decode cX0_playRound 57 = .ok (.iload 4, 2) := by decide +kernel
theorem dX0_playRound_59 : decode cX0_playRound 59 = .ok (.iload_n 2, 1) := by decide +kernel
theorem dX0_playRound_60 : decode cX0_playRound 60 = .ok (.iadd, 1) := by decide +kernel
theorem dX0_playRound_61 : decode cX0_playRound 61 = .ok (.aload_n 0, 1) := by decide +kernel
theorem dX0_playRound_62 : decode cX0_playRound 62 = .ok (.getfield 44, 3) := by decide +kernel
theorem dX0_playRound_65 : decode cX0_playRound 65 = .ok (.isub, 1) := by decide +kernel
theorem dX0_playRound_66 : decode cX0_playRound 66 = .ok (.istore 5, 2) := by decide +kernel
theorem dX0_playRound_68 : decode cX0_playRound 68 = .ok (.aload_n 0, 1) := by decide +kernel
theorem dX0_playRound_69 : decode cX0_playRound 69 = .ok (.iload 4, 2) := by decide +kernel
theorem dX0_playRound_71 : decode cX0_playRound 71 = .ok (.iload 5, 2) := by decide +kernel
theorem dX0_playRound_73 : decode cX0_playRound 73 = .ok (.invokevirtual 73, 3) := by decide +kernel
theorem dX0_playRound_76 : decode cX0_playRound 76 = .ok (.ifCond .eq 14, 3) := by decide +kernel
theorem dX0_playRound_79 : decode cX0_playRound 79 = .ok (.aload_n 0, 1) := by decide +kernel
theorem dX0_playRound_80 : decode cX0_playRound 80 = .ok (.iload 4, 2) := by decide +kernel
theorem dX0_playRound_82 : decode cX0_playRound 82 = .ok (.iload 5, 2) := by decide +kernel
theorem dX0_playRound_84 : decode cX0_playRound 84 = .ok (.invokevirtual 77, 3) := by decide +kernel
theorem dX0_playRound_87 : decode cX0_playRound 87 = .ok (.iinc 3 1, 3) := by decide +kernel
theorem dX0_playRound_90 : decode cX0_playRound 90 = .ok (.iinc 4 1, 3) := by decide +kernel
theorem dX0_playRound_93 : decode cX0_playRound 93 = .ok (.goto (-63), 3) := by decide +kernel
theorem dX0_playRound_96 : decode cX0_playRound 96 = .ok (.aload_n 0, 1) := by decide +kernel
theorem dX0_playRound_97 : decode cX0_playRound 97 = .ok (.dup, 1) := by decide +kernel
theorem dX0_playRound_98 : decode cX0_playRound 98 = .ok (.getfield 47, 3) := by decide +kernel
theorem dX0_playRound_101 : decode cX0_playRound 101 = .ok (.iconst 1, 1) := by decide +kernel
theorem dX0_playRound_102 : decode cX0_playRound 102 = .ok (.iadd, 1) := by decide +kernel
theorem dX0_playRound_103 : decode cX0_playRound 103 = .ok (.putfield 47, 3) := by decide +kernel
theorem dX0_playRound_106 : decode cX0_playRound 106 = .ok (.iload_n 3, 1) := by decide +kernel
theorem dX0_playRound_107 : decode cX0_playRound 107 = .ok (.ireturn, 1) := by decide +kernel
set_option maxRecDepth 20000 in
theorem ggX0_update_X0_predicted : GoodIn wsX0_update wsX0_predicted := goodIn_r _ [5, 6, 7, 8, 9, 10, 11, 12, 13, 14, 79, 80, 81, 82, 83, 84, 85, 86, 87, 88, 89] (by decide +kernel) (by decide +kernel)
set_option maxRecDepth 20000 in
theorem gX0_update_X0_predicted : GoodIn wsX0_update (wsV RX0 81 RX0 yX0_predicted wsX0_predicted) := goodIn_app (goodIn_of _ (by decide +kernel)) ggX0_update_X0_predicted
set_option maxRecDepth 20000 in
theorem ggX0_update_X0_stepOf : GoodIn wsX0_update wsX0_stepOf := goodIn_r _ [18, 19, 20, 21, 22, 23, 24, 4, 25, 26, 27, 10, 28, 29, 30, 31, 32, 33, 34, 35, 36, 37, 38, 39, 40, 41, 42, 43, 44, 45, 46, 47, 79, 80, 81, 82, 83, 84, 85, 86, 87, 88, 89] (by decide +kernel) (by decide +kernel)
set_option maxRecDepth 20000 in
theorem gX0_update_X0_stepOf : GoodIn wsX0_update (wsV RX0 84 RX0 yX0_stepOf wsX0_stepOf) := goodIn_app (goodIn_of _ (by decide +kernel)) ggX0_update_X0_stepOf
set_option maxRecDepth 20000 in
theorem ggX0_update_X0_xAfter : GoodIn wsX0_update wsX0_xAfter := goodIn_r _ [51, 6, 52, 53, 54, 10, 55, 56, 27, 28, 39, 40, 41, 42, 43, 44, 45, 46, 47, 79, 80, 81, 82, 83, 84, 85, 86, 87, 88, 89] (by decide +kernel) (by decide +kernel)
set_option maxRecDepth 20000 in
theorem gX0_update_X0_xAfter : GoodIn wsX0_update (wsV RX0 88 RX0 yX0_xAfter wsX0_xAfter) := goodIn_app (goodIn_of _ (by decide +kernel)) ggX0_update_X0_xAfter
set_option maxRecDepth 20000 in
theorem ggX0_update_X0_yAfter : GoodIn wsX0_update wsX0_yAfter := goodIn_r _ [60, 7, 52, 53, 54, 10, 55, 56, 27, 28, 39, 40, 41, 42, 43, 44, 45, 46, 47, 79, 80, 81, 82, 83, 84, 85, 86, 87, 88, 89] (by decide +kernel) (by decide +kernel)
set_option maxRecDepth 20000 in
theorem gX0_update_X0_yAfter : GoodIn wsX0_update (wsV RX0 92 RX0 yX0_yAfter wsX0_yAfter) := goodIn_app (goodIn_of _ (by decide +kernel)) ggX0_update_X0_yAfter
set_option maxRecDepth 20000 in
theorem ggX0_update_X0_heightAfter : GoodIn wsX0_update wsX0_heightAfter := goodIn_r _ [64, 8, 53, 54, 10, 55, 56, 27, 28, 39, 40, 41, 42, 43, 44, 45, 46, 47, 79, 80, 81, 82, 83, 84, 85, 86, 87, 88, 89] (by decide +kernel) (by decide +kernel)
set_option maxRecDepth 20000 in
theorem gX0_update_X0_heightAfter : GoodIn wsX0_update (wsV RX0 95 RX0 yX0_heightAfter wsX0_heightAfter) := goodIn_app (goodIn_of _ (by decide +kernel)) ggX0_update_X0_heightAfter
set_option maxRecDepth 20000 in
theorem ggX0_update_X0_errorAfter : GoodIn wsX0_update wsX0_errorAfter := goodIn_r _ [68, 20, 69, 70, 43, 71, 72, 42, 44, 73, 26, 74, 46, 47, 29, 30, 31, 4, 32, 33, 34, 35, 36, 37, 38, 27, 10, 28, 22, 23, 24, 25, 79, 80, 81, 82, 83, 84, 85, 86, 87, 88, 89] (by decide +kernel) (by decide +kernel)
set_option maxRecDepth 20000 in
theorem gX0_update_X0_errorAfter : GoodIn wsX0_update (wsV RX0 98 RX0 yX0_errorAfter wsX0_errorAfter) := goodIn_app (goodIn_of _ (by decide +kernel)) ggX0_update_X0_errorAfter
set_option maxRecDepth 20000 in
theorem ggX0_update_X0_settle : GoodIn wsX0_update wsX0_settle := goodIn_r _ [78, 6, 7, 8, 26, 79, 80, 81, 82, 83, 84, 85, 86, 87, 88, 89] (by decide +kernel) (by decide +kernel)
set_option maxRecDepth 20000 in
theorem gX0_update_X0_settle : GoodIn wsX0_update (wsV RX0 50 RX0 yX0_settle wsX0_settle) := goodIn_app (goodIn_of _ (by decide +kernel)) ggX0_update_X0_settle
theorem dX0_update_0 : decode cX0_update 0 = .ok (.aload_n 0, 1) := by decide +kernel
theorem dX0_update_1 : decode cX0_update 1 = .ok (.iload_n 1, 1) := by decide +kernel
theorem dX0_update_2 : decode cX0_update 2 = .ok (.iload_n 2, 1) := by decide +kernel
theorem dX0_update_3 : decode cX0_update 3 = .ok (.invokevirtual 81, 3) := by decide +kernel
theorem dX0_update_6 : decode cX0_update 6 = .ok (.istore_n 3, 1) := by decide +kernel
theorem dX0_update_7 : decode cX0_update 7 = .ok (.aload_n 0, 1) := by decide +kernel
theorem dX0_update_8 : decode cX0_update 8 = .ok (.iload_n 1, 1) := by decide +kernel
theorem dX0_update_9 : decode cX0_update 9 = .ok (.iload_n 2, 1) := by decide +kernel
theorem dX0_update_10 : decode cX0_update 10 = .ok (.iload_n 3, 1) := by decide +kernel
theorem dX0_update_11 : decode cX0_update 11 = .ok (.invokevirtual 84, 3) := by decide +kernel
theorem dX0_update_14 : decode cX0_update 14 = .ok (.istore 4, 2) := by decide +kernel
theorem dX0_update_16 : decode cX0_update 16 = .ok (.aload_n 0, 1) := by decide +kernel
theorem dX0_update_17 : decode cX0_update 17 = .ok (.iload_n 1, 1) := by decide +kernel
theorem dX0_update_18 : decode cX0_update 18 = .ok (.iload_n 2, 1) := by decide +kernel
theorem dX0_update_19 : decode cX0_update 19 = .ok (.iload 4, 2) := by decide +kernel
theorem dX0_update_21 : decode cX0_update 21 = .ok (.iload_n 3, 1) := by decide +kernel
theorem dX0_update_22 : decode cX0_update 22 = .ok (.invokevirtual 88, 3) := by decide +kernel
theorem dX0_update_25 : decode cX0_update 25 = .ok (.istore 5, 2) := by decide +kernel
theorem dX0_update_27 : decode cX0_update 27 = .ok (.aload_n 0, 1) := by decide +kernel
theorem dX0_update_28 : decode cX0_update 28 = .ok (.iload_n 1, 1) := by decide +kernel
theorem dX0_update_29 : decode cX0_update 29 = .ok (.iload_n 2, 1) := by decide +kernel
theorem dX0_update_30 : decode cX0_update 30 = .ok (.iload 4, 2) := by decide +kernel
theorem dX0_update_32 : decode cX0_update 32 = .ok (.iload_n 3, 1) := by decide +kernel
theorem dX0_update_33 : decode cX0_update 33 = .ok (.invokevirtual 92, 3) := by decide +kernel
theorem dX0_update_36 : decode cX0_update 36 = .ok (.istore 6, 2) := by decide +kernel
theorem dX0_update_38 : decode cX0_update 38 = .ok (.aload_n 0, 1) := by decide +kernel
theorem dX0_update_39 : decode cX0_update 39 = .ok (.iload_n 1, 1) := by decide +kernel
theorem dX0_update_40 : decode cX0_update 40 = .ok (.iload_n 2, 1) := by decide +kernel
theorem dX0_update_41 : decode cX0_update 41 = .ok (.iload 4, 2) := by decide +kernel
theorem dX0_update_43 : decode cX0_update 43 = .ok (.iload_n 3, 1) := by decide +kernel
theorem dX0_update_44 : decode cX0_update 44 = .ok (.invokevirtual 95, 3) := by decide +kernel
theorem dX0_update_47 : decode cX0_update 47 = .ok (.istore 7, 2) := by decide +kernel
theorem dX0_update_49 : decode cX0_update 49 = .ok (.aload_n 0, 1) := by decide +kernel
theorem dX0_update_50 : decode cX0_update 50 = .ok (.iload_n 1, 1) := by decide +kernel
theorem dX0_update_51 : decode cX0_update 51 = .ok (.iload 5, 2) := by decide +kernel
theorem dX0_update_53 : decode cX0_update 53 = .ok (.iload 6, 2) := by decide +kernel
theorem dX0_update_55 : decode cX0_update 55 = .ok (.iload 7, 2) := by decide +kernel
theorem dX0_update_57 : decode cX0_update 57 = .ok (.aload_n 0, 1) := by decide +kernel
theorem dX0_update_58 : decode cX0_update 58 = .ok (.iload_n 1, 1) := by decide +kernel
theorem dX0_update_59 : decode cX0_update 59 = .ok (.iload_n 2, 1) := by decide +kernel
theorem dX0_update_60 : decode cX0_update 60 = .ok (.iload_n 3, 1) := by decide +kernel
theorem dX0_update_61 : decode cX0_update 61 = .ok (.invokevirtual 98, 3) := by decide +kernel
theorem dX0_update_64 : decode cX0_update 64 = .ok (.invokevirtual 50, 3) := by decide +kernel
theorem dX0_update_67 : decode cX0_update 67 = .ok (.return_, 1) := by decide +kernel
set_option maxRecDepth 20000 in
theorem ggX0_distanceMoved_X0_predicted : GoodIn wsX0_distanceMoved wsX0_predicted := goodIn_r _ [7, 1, 2, 8, 9, 10, 11, 12, 13, 14, 61, 62, 63, 64, 65, 66, 67, 68, 69, 70, 71] (by decide +kernel) (by decide +kernel)
set_option maxRecDepth 20000 in
theorem gX0_distanceMoved_X0_predicted : GoodIn wsX0_distanceMoved (wsV RX0 81 RX0 yX0_predicted wsX0_predicted) := goodIn_app (goodIn_of _ (by decide +kernel)) ggX0_distanceMoved_X0_predicted
set_option maxRecDepth 20000 in
theorem ggX0_distanceMoved_X0_stepOf : GoodIn wsX0_distanceMoved wsX0_stepOf := goodIn_r _ [18, 19, 20, 21, 22, 23, 24, 6, 25, 26, 27, 10, 28, 29, 30, 31, 32, 33, 34, 35, 36, 37, 38, 39, 40, 41, 42, 43, 44, 45, 46, 47, 61, 62, 63, 64, 65, 66, 67, 68, 69, 70, 71] (by decide +kernel) (by decide +kernel)
set_option maxRecDepth 20000 in
theorem gX0_distanceMoved_X0_stepOf : GoodIn wsX0_distanceMoved (wsV RX0 84 RX0 yX0_stepOf wsX0_stepOf) := goodIn_app (goodIn_of _ (by decide +kernel)) ggX0_distanceMoved_X0_stepOf
set_option maxRecDepth 20000 in
theorem ggX0_distanceMoved_X0_xAfter : GoodIn wsX0_distanceMoved wsX0_xAfter := goodIn_r _ [51, 1, 52, 53, 54, 10, 55, 56, 27, 28, 39, 40, 41, 42, 43, 44, 45, 46, 47, 61, 62, 63, 64, 65, 66, 67, 68, 69, 70, 71] (by decide +kernel) (by decide +kernel)
set_option maxRecDepth 20000 in
theorem gX0_distanceMoved_X0_xAfter : GoodIn wsX0_distanceMoved (wsV RX0 88 RX0 yX0_xAfter wsX0_xAfter) := goodIn_app (goodIn_of _ (by decide +kernel)) ggX0_distanceMoved_X0_xAfter
set_option maxRecDepth 20000 in
theorem ggX0_distanceMoved_X0_yAfter : GoodIn wsX0_distanceMoved wsX0_yAfter := goodIn_r _ [60, 2, 52, 53, 54, 10, 55, 56, 27, 28, 39, 40, 41, 42, 43, 44, 45, 46, 47, 61, 62, 63, 64, 65, 66, 67, 68, 69, 70, 71] (by decide +kernel) (by decide +kernel)
set_option maxRecDepth 20000 in
theorem gX0_distanceMoved_X0_yAfter : GoodIn wsX0_distanceMoved (wsV RX0 92 RX0 yX0_yAfter wsX0_yAfter) := goodIn_app (goodIn_of _ (by decide +kernel)) ggX0_distanceMoved_X0_yAfter
set_option maxRecDepth 20000 in
theorem ggX0_distanceMoved_X1_planarDistance : GoodIn wsX0_distanceMoved wsX1_planarDistance := goodIn_r _ [11, 12, 13, 10, 14] (by decide +kernel) (by decide +kernel)
set_option maxRecDepth 20000 in
theorem gX0_distanceMoved_X1_planarDistance_n64 : GoodIn wsX0_distanceMoved (wsX1_planarDistance) := ggX0_distanceMoved_X1_planarDistance
theorem dX0_distanceMoved_0 : decode cX0_distanceMoved 0 = .ok (.aload_n 0, 1) := by decide +kernel
theorem dX0_distanceMoved_1 : decode cX0_distanceMoved 1 = .ok (.iload_n 1, 1) := by decide +kernel
theorem dX0_distanceMoved_2 : decode cX0_distanceMoved 2 = .ok (.iload_n 2, 1) := by decide +kernel
theorem dX0_distanceMoved_3 : decode cX0_distanceMoved 3 = .ok (.invokevirtual 81, 3) := by decide +kernel
theorem dX0_distanceMoved_6 : decode cX0_distanceMoved 6 = .ok (.istore_n 3, 1) := by decide +kernel
theorem dX0_distanceMoved_7 : decode cX0_distanceMoved 7 = .ok (.aload_n 0, 1) := by decide +kernel
theorem dX0_distanceMoved_8 : decode cX0_distanceMoved 8 = .ok (.iload_n 1, 1) := by decide +kernel
theorem dX0_distanceMoved_9 : decode cX0_distanceMoved 9 = .ok (.iload_n 2, 1) := by decide +kernel
theorem dX0_distanceMoved_10 : decode cX0_distanceMoved 10 = .ok (.iload_n 3, 1) := by decide +kernel
theorem dX0_distanceMoved_11 : decode cX0_distanceMoved 11 = .ok (.invokevirtual 84, 3) := by decide +kernel
theorem dX0_distanceMoved_14 : decode cX0_distanceMoved 14 = .ok (.istore 4, 2) := by decide +kernel
theorem dX0_distanceMoved_16 : decode cX0_distanceMoved 16 = .ok (.aload_n 0, 1) := by decide +kernel
theorem dX0_distanceMoved_17 : decode cX0_distanceMoved 17 = .ok (.iload_n 1, 1) := by decide +kernel
theorem dX0_distanceMoved_18 : decode cX0_distanceMoved 18 = .ok (.iload_n 2, 1) := by decide +kernel
theorem dX0_distanceMoved_19 : decode cX0_distanceMoved 19 = .ok (.iload 4, 2) := by decide +kernel
theorem dX0_distanceMoved_21 : decode cX0_distanceMoved 21 = .ok (.iload_n 3, 1) := by decide +kernel
theorem dX0_distanceMoved_22 : decode cX0_distanceMoved 22 = .ok (.invokevirtual 88, 3) := by decide +kernel
theorem dX0_distanceMoved_25 : decode cX0_distanceMoved 25 = .ok (.aload_n 0, 1) := by decide +kernel
theorem dX0_distanceMoved_26 : decode cX0_distanceMoved 26 = .ok (.getfield 21, 3) := by decide +kernel
theorem dX0_distanceMoved_29 : decode cX0_distanceMoved 29 = .ok (.iload_n 1, 1) := by decide +kernel
theorem dX0_distanceMoved_30 : decode cX0_distanceMoved 30 = .ok (.iaload, 1) := by decide +kernel
theorem dX0_distanceMoved_31 : decode cX0_distanceMoved 31 = .ok (.isub, 1) := by decide +kernel
theorem dX0_distanceMoved_32 : decode cX0_distanceMoved 32 = .ok (.i2l, 1) := by decide +kernel
theorem dX0_distanceMoved_33 : decode cX0_distanceMoved 33 = .ok (.aload_n 0, 1) := by decide +kernel
theorem dX0_distanceMoved_34 : decode cX0_distanceMoved 34 = .ok (.iload_n 1, 1) := by decide +kernel
theorem dX0_distanceMoved_35 : decode cX0_distanceMoved 35 = .ok (.iload_n 2, 1) := by decide +kernel
theorem dX0_distanceMoved_36 : decode cX0_distanceMoved 36 = .ok (.iload 4, 2) := by decide +kernel
theorem dX0_distanceMoved_38 : decode cX0_distanceMoved 38 = .ok (.iload_n 3, 1) := by decide +kernel
theorem dX0_distanceMoved_39 : decode cX0_distanceMoved 39 = .ok (.invokevirtual 92, 3) := by decide +kernel
theorem dX0_distanceMoved_42 : decode cX0_distanceMoved 42 = .ok (.aload_n 0, 1) := by decide +kernel
theorem dX0_distanceMoved_43 : decode cX0_distanceMoved 43 = .ok (.getfield 25, 3) := by decide +kernel
theorem dX0_distanceMoved_46 : decode cX0_distanceMoved 46 = .ok (.iload_n 1, 1) := by decide +kernel
theorem dX0_distanceMoved_47 : decode cX0_distanceMoved 47 = .ok (.iaload, 1) := by decide +kernel
theorem dX0_distanceMoved_48 : decode cX0_distanceMoved 48 = .ok (.isub, 1) := by decide +kernel
theorem dX0_distanceMoved_49 : decode cX0_distanceMoved 49 = .ok (.i2l, 1) := by decide +kernel
theorem dX0_distanceMoved_50 : decode cX0_distanceMoved 50 = .ok (.invokestatic 64, 3) := by decide +kernel
theorem dX0_distanceMoved_53 : decode cX0_distanceMoved 53 = .ok (.ireturn, 1) := by decide +kernel
set_option maxRecDepth 20000 in
theorem ggX0_weight_X1_quotient : GoodIn wsX0_weight wsX1_quotient := goodIn_r _ [5] (by decide +kernel) (by decide +kernel)
set_option maxRecDepth 20000 in
theorem gX0_weight_X1_quotient_n103 : GoodIn wsX0_weight (wsX1_quotient) := ggX0_weight_X1_quotient
theorem dX0_weight_0 : decode cX0_weight 0 = .ok (.ldc2_w 101, 3) := by decide +kernel
theorem dX0_weight_3 : decode cX0_weight 3 = .ok (.aload_n 0, 1) := by decide +kernel
theorem dX0_weight_4 : decode cX0_weight 4 = .ok (.getfield 31, 3) := by decide +kernel
theorem dX0_weight_7 : decode cX0_weight 7 = .ok (.iload_n 1, 1) := by decide +kernel
theorem dX0_weight_8 : decode cX0_weight 8 = .ok (.iaload, 1) := by decide +kernel
theorem dX0_weight_9 : decode cX0_weight 9 = .ok (.i2l, 1) := by decide +kernel
theorem dX0_weight_10 : decode cX0_weight 10 = .ok (.lmul, 1) := by decide +kernel
theorem dX0_weight_11 : decode cX0_weight 11 = .ok (.aload_n 0, 1) := by decide +kernel
theorem dX0_weight_12 : decode cX0_weight 12 = .ok (.getfield 31, 3) := by decide +kernel
theorem dX0_weight_15 : decode cX0_weight 15 = .ok (.iload_n 1, 1) := by decide +kernel
theorem dX0_weight_16 : decode cX0_weight 16 = .ok (.iaload, 1) := by decide +kernel
theorem dX0_weight_17 : decode cX0_weight 17 = .ok (.aload_n 0, 1) := by decide +kernel
theorem dX0_weight_18 : decode cX0_weight 18 = .ok (.getfield 31, 3) := by decide +kernel
theorem dX0_weight_21 : decode cX0_weight 21 = .ok (.iload_n 2, 1) := by decide +kernel
theorem dX0_weight_22 : decode cX0_weight 22 = .ok (.iaload, 1) := by decide +kernel
theorem dX0_weight_23 : decode cX0_weight 23 = .ok (.iadd, 1) := by decide +kernel
theorem dX0_weight_24 : decode cX0_weight 24 = .ok (.i2l, 1) := by decide +kernel
theorem dX0_weight_25 : decode cX0_weight 25 = .ok (.invokestatic 103, 3) := by decide +kernel
theorem dX0_weight_28 : decode cX0_weight 28 = .ok (.lreturn, 1) := by decide +kernel
set_option maxRecDepth 20000 in
theorem ggX0_errorAfter_X0_sample : GoodIn wsX0_errorAfter wsX0_sample := goodIn_r _ [18, 19, 20, 21, 22, 17, 23, 24, 32, 33, 34, 35, 36, 37, 38, 39, 40, 41, 42] (by decide +kernel) (by decide +kernel)
set_option maxRecDepth 20000 in
theorem gX0_errorAfter_X0_sample : GoodIn wsX0_errorAfter (wsV RX0 107 RX0 yX0_sample wsX0_sample) := goodIn_app (goodIn_of _ (by decide +kernel)) ggX0_errorAfter_X0_sample
set_option maxRecDepth 20000 in
theorem ggX0_errorAfter_X1_quotient : GoodIn wsX0_errorAfter wsX1_quotient := goodIn_r _ [27] (by decide +kernel) (by decide +kernel)
set_option maxRecDepth 20000 in
theorem gX0_errorAfter_X1_quotient_n103 : GoodIn wsX0_errorAfter (wsX1_quotient) := ggX0_errorAfter_X1_quotient
set_option maxRecDepth 20000 in
theorem ggX0_errorAfter_X0_weight : GoodIn wsX0_errorAfter wsX0_weight := goodIn_r _ [31, 1, 10, 25, 26, 27, 32, 33, 34, 35, 36, 37, 38, 39, 40, 41, 42] (by decide +kernel) (by decide +kernel)
set_option maxRecDepth 20000 in
theorem gX0_errorAfter_X0_weight : GoodIn wsX0_errorAfter (wsV RX0 117 RX0 yX0_weight wsX0_weight) := goodIn_app (goodIn_of _ (by decide +kernel)) ggX0_errorAfter_X0_weight
theorem dX0_errorAfter_0 : decode cX0_errorAfter 0 = .ok (.aload_n 0, 1) := by decide +kernel
theorem dX0_errorAfter_1 : decode cX0_errorAfter 1 = .ok (.iload_n 1, 1) := by decide +kernel
theorem dX0_errorAfter_2 : decode cX0_errorAfter 2 = .ok (.iload_n 2, 1) := by decide +kernel
theorem dX0_errorAfter_3 : decode cX0_errorAfter 3 = .ok (.invokevirtual 107, 3) := by decide +kernel
theorem dX0_errorAfter_6 : decode cX0_errorAfter 6 = .ok (.istore 4, 2) := by decide +kernel
theorem dX0_errorAfter_8 : decode cX0_errorAfter 8 = .ok (.ldc2_w 101, 3) := by decide +kernel
theorem dX0_errorAfter_11 : decode cX0_errorAfter 11 = .ok (.ldc2_w 101, 3) := by decide +kernel
theorem dX0_errorAfter_14 : decode cX0_errorAfter 14 = .ok (.iload_n 3, 1) := by decide +kernel
theorem dX0_errorAfter_15 : decode cX0_errorAfter 15 = .ok (.iload 4, 2) := by decide +kernel
theorem dX0_errorAfter_17 : decode cX0_errorAfter 17 = .ok (.isub, 1) := by decide +kernel
theorem dX0_errorAfter_18 : decode cX0_errorAfter 18 = .ok (.invokestatic 110, 3) := by decide +kernel
theorem dX0_errorAfter_21 : decode cX0_errorAfter 21 = .ok (.i2l, 1) := by decide +kernel
theorem dX0_errorAfter_22 : decode cX0_errorAfter 22 = .ok (.lmul, 1) := by decide +kernel
theorem dX0_errorAfter_23 : decode cX0_errorAfter 23 = .ok (.iload 4, 2) := by decide +kernel
theorem dX0_errorAfter_25 : decode cX0_errorAfter 25 = .ok (.i2l, 1) := by decide +kernel
theorem dX0_errorAfter_26 : decode cX0_errorAfter 26 = .ok (.invokestatic 103, 3) := by decide +kernel
theorem dX0_errorAfter_29 : decode cX0_errorAfter 29 = .ok (.invokestatic 114, 3) := by decide +kernel
theorem dX0_errorAfter_32 : decode cX0_errorAfter 32 = .ok (.lstore 5, 2) := by decide +kernel
theorem dX0_errorAfter_34 : decode cX0_errorAfter 34 = .ok (.aload_n 0, 1) := by decide +kernel
theorem dX0_errorAfter_35 : decode cX0_errorAfter 35 = .ok (.getfield 9, 3) := by decide +kernel
theorem dX0_errorAfter_38 : decode cX0_errorAfter 38 = .ok (.i2l, 1) := by decide +kernel
theorem dX0_errorAfter_39 : decode cX0_errorAfter 39 = .ok (.aload_n 0, 1) := by decide +kernel
theorem dX0_errorAfter_40 : decode cX0_errorAfter 40 = .ok (.iload_n 1, 1) := by decide +kernel
theorem dX0_errorAfter_41 : decode cX0_errorAfter 41 = .ok (.iload_n 2, 1) := by decide +kernel
theorem dX0_errorAfter_42 : decode cX0_errorAfter 42 = .ok (.invokevirtual 117, 3) := by decide +kernel
theorem dX0_errorAfter_45 : decode cX0_errorAfter 45 = .ok (.lmul, 1) := by decide +kernel
theorem dX0_errorAfter_46 : decode cX0_errorAfter 46 = .ok (.ldc2_w 101, 3) := by decide +kernel
theorem dX0_errorAfter_49 : decode cX0_errorAfter 49 = .ok (.ldiv, 1) := by decide +kernel
theorem dX0_errorAfter_50 : decode cX0_errorAfter 50 = .ok (.lstore 7, 2) := by decide +kernel
theorem dX0_errorAfter_52 : decode cX0_errorAfter 52 = .ok (.lload 5, 2) := by decide +kernel
theorem dX0_errorAfter_54 : decode cX0_errorAfter 54 = .ok (.lload 7, 2) := by decide +kernel
theorem dX0_errorAfter_56 : decode cX0_errorAfter 56 = .ok (.lmul, 1) := by decide +kernel
theorem dX0_errorAfter_57 : decode cX0_errorAfter 57 = .ok (.aload_n 0, 1) := by decide +kernel
theorem dX0_errorAfter_58 : decode cX0_errorAfter 58 = .ok (.getfield 31, 3) := by decide +kernel
theorem dX0_errorAfter_61 : decode cX0_errorAfter 61 = .ok (.iload_n 1, 1) := by decide +kernel
theorem dX0_errorAfter_62 : decode cX0_errorAfter 62 = .ok (.iaload, 1) := by decide +kernel
theorem dX0_errorAfter_63 : decode cX0_errorAfter 63 = .ok (.i2l, 1) := by decide +kernel
theorem dX0_errorAfter_64 : decode cX0_errorAfter 64 = .ok (.ldc2_w 101, 3) := by decide +kernel
theorem dX0_errorAfter_67 : decode cX0_errorAfter 67 = .ok (.lload 7, 2) := by decide +kernel
theorem dX0_errorAfter_69 : decode cX0_errorAfter 69 = .ok (.lsub, 1) := by decide +kernel
theorem dX0_errorAfter_70 : decode cX0_errorAfter 70 = .ok (.lmul, 1) := by decide +kernel
theorem dX0_errorAfter_71 : decode cX0_errorAfter 71 = .ok (.ladd, 1) := by decide +kernel
theorem dX0_errorAfter_72 : decode cX0_errorAfter 72 = .ok (.ldc2_w 101, 3) := by decide +kernel
theorem dX0_errorAfter_75 : decode cX0_errorAfter 75 = .ok (.ldiv, 1) := by decide +kernel
theorem dX0_errorAfter_76 : decode cX0_errorAfter 76 = .ok (.lstore 9, 2) := by decide +kernel
theorem dX0_errorAfter_78 : decode cX0_errorAfter 78 = .ok (.lconst 1, 1) := by decide +kernel
theorem dX0_errorAfter_79 : decode cX0_errorAfter 79 = .ok (.lload 9, 2) := by decide +kernel
theorem dX0_errorAfter_81 : decode cX0_errorAfter 81 = .ok (.invokestatic 121, 3) := by decide +kernel
theorem dX0_errorAfter_84 : decode cX0_errorAfter 84 = .ok (.l2i, 1) := by decide +kernel
theorem dX0_errorAfter_85 : decode cX0_errorAfter 85 = .ok (.ireturn, 1) := by decide +kernel
set_option maxRecDepth 20000 in
theorem ggX0_stepOf_X0_weight : GoodIn wsX0_stepOf wsX0_weight := goodIn_r _ [8, 2, 9, 10, 11, 12, 32, 33, 34, 35, 36, 37, 38, 39, 40, 41, 42] (by decide +kernel) (by decide +kernel)
set_option maxRecDepth 20000 in
theorem gX0_stepOf_X0_weight : GoodIn wsX0_stepOf (wsV RX0 117 RX0 yX0_weight wsX0_weight) := goodIn_app (goodIn_of _ (by decide +kernel)) ggX0_stepOf_X0_weight
set_option maxRecDepth 20000 in
theorem ggX0_stepOf_X0_sample : GoodIn wsX0_stepOf wsX0_sample := goodIn_r _ [16, 17, 18, 19, 20, 7, 21, 22, 32, 33, 34, 35, 36, 37, 38, 39, 40, 41, 42] (by decide +kernel) (by decide +kernel)
set_option maxRecDepth 20000 in
theorem gX0_stepOf_X0_sample : GoodIn wsX0_stepOf (wsV RX0 107 RX0 yX0_sample wsX0_sample) := goodIn_app (goodIn_of _ (by decide +kernel)) ggX0_stepOf_X0_sample
set_option maxRecDepth 20000 in
theorem ggX0_stepOf_X1_limited : GoodIn wsX0_stepOf wsX1_limited := goodIn_r _ [24, 25, 26, 27, 28, 29, 30, 31] (by decide +kernel) (by decide +kernel)
set_option maxRecDepth 20000 in
theorem gX0_stepOf_X1_limited_n124 : GoodIn wsX0_stepOf (wsX1_limited) := ggX0_stepOf_X1_limited
theorem dX0_stepOf_0 : decode cX0_stepOf 0 = .ok (.aload_n 0, 1) := by decide +kernel
theorem dX0_stepOf_1 : decode cX0_stepOf 1 = .ok (.getfield 15, 3) := by decide +kernel
theorem dX0_stepOf_4 : decode cX0_stepOf 4 = .ok (.i2l, 1) := by decide +kernel
theorem dX0_stepOf_5 : decode cX0_stepOf 5 = .ok (.aload_n 0, 1) := by decide +kernel
theorem dX0_stepOf_6 : decode cX0_stepOf 6 = .ok (.iload_n 1, 1) := by decide +kernel
theorem dX0_stepOf_7 : decode cX0_stepOf 7 = .ok (.iload_n 2, 1) := by decide +kernel
theorem dX0_stepOf_8 : decode cX0_stepOf 8 = .ok (.invokevirtual 117, 3) := by decide +kernel
theorem dX0_stepOf_11 : decode cX0_stepOf 11 = .ok (.lmul, 1) := by decide +kernel
theorem dX0_stepOf_12 : decode cX0_stepOf 12 = .ok (.ldc2_w 101, 3) := by decide +kernel
theorem dX0_stepOf_15 : decode cX0_stepOf 15 = .ok (.ldiv, 1) := by decide +kernel
theorem dX0_stepOf_16 : decode cX0_stepOf 16 = .ok (.lstore 4, 2) := by decide +kernel
theorem dX0_stepOf_18 : decode cX0_stepOf 18 = .ok (.aload_n 0, 1) := by decide +kernel
theorem dX0_stepOf_19 : decode cX0_stepOf 19 = .ok (.iload_n 1, 1) := by decide +kernel
theorem dX0_stepOf_20 : decode cX0_stepOf 20 = .ok (.iload_n 2, 1) := by decide +kernel
theorem dX0_stepOf_21 : decode cX0_stepOf 21 = .ok (.invokevirtual 107, 3) := by decide +kernel
theorem dX0_stepOf_24 : decode cX0_stepOf 24 = .ok (.iload_n 3, 1) := by decide +kernel
theorem dX0_stepOf_25 : decode cX0_stepOf 25 = .ok (.isub, 1) := by decide +kernel
theorem dX0_stepOf_26 : decode cX0_stepOf 26 = .ok (.i2l, 1) := by decide +kernel
theorem dX0_stepOf_27 : decode cX0_stepOf 27 = .ok (.lload 4, 2) := by decide +kernel
theorem dX0_stepOf_29 : decode cX0_stepOf 29 = .ok (.lmul, 1) := by decide +kernel
theorem dX0_stepOf_30 : decode cX0_stepOf 30 = .ok (.ldc2_w 101, 3) := by decide +kernel
theorem dX0_stepOf_33 : decode cX0_stepOf 33 = .ok (.ldiv, 1) := by decide +kernel
theorem dX0_stepOf_34 : decode cX0_stepOf 34 = .ok (.aload_n 0, 1) := by decide +kernel
theorem dX0_stepOf_35 : decode cX0_stepOf 35 = .ok (.getfield 18, 3) := by decide +kernel
theorem dX0_stepOf_38 : decode cX0_stepOf 38 = .ok (.ineg, 1) := by decide +kernel
theorem dX0_stepOf_39 : decode cX0_stepOf 39 = .ok (.aload_n 0, 1) := by decide +kernel
theorem dX0_stepOf_40 : decode cX0_stepOf 40 = .ok (.getfield 18, 3) := by decide +kernel
theorem dX0_stepOf_43 : decode cX0_stepOf 43 = .ok (.invokestatic 124, 3) := by decide +kernel
theorem dX0_stepOf_46 : decode cX0_stepOf 46 = .ok (.ireturn, 1) := by decide +kernel
set_option maxRecDepth 20000 in
theorem ggX0_xAfter_X1_share : GoodIn wsX0_xAfter wsX1_share := goodIn_r _ [6, 7, 8, 5, 9] (by decide +kernel) (by decide +kernel)
set_option maxRecDepth 20000 in
theorem gX0_xAfter_X1_share_n128 : GoodIn wsX0_xAfter (wsX1_share) := ggX0_xAfter_X1_share
set_option maxRecDepth 20000 in
theorem ggX0_xAfter_X1_limited : GoodIn wsX0_xAfter wsX1_limited := goodIn_r _ [11, 12, 13, 14, 15, 16, 17, 18] (by decide +kernel) (by decide +kernel)
set_option maxRecDepth 20000 in
theorem gX0_xAfter_X1_limited_n124 : GoodIn wsX0_xAfter (wsX1_limited) := ggX0_xAfter_X1_limited
theorem dX0_xAfter_0 : decode cX0_xAfter 0 = .ok (.iload 4, 2) := by decide +kernel
theorem dX0_xAfter_2 : decode cX0_xAfter 2 = .ok (.ifCond .ne 8, 3) := by decide +kernel
theorem dX0_xAfter_5 : decode cX0_xAfter 5 = .ok (.iload_n 3, 1) := by decide +kernel
theorem dX0_xAfter_6 : decode cX0_xAfter 6 = .ok (.i2l, 1) := by decide +kernel
theorem dX0_xAfter_7 : decode cX0_xAfter 7 = .ok (.goto 22, 3) := by decide +kernel
theorem dX0_xAfter_10 : decode cX0_xAfter 10 = .ok (.iload_n 3, 1) := by decide +kernel
theorem dX0_xAfter_11 : decode cX0_xAfter 11 = .ok (.aload_n 0, 1) := by decide +kernel
theorem dX0_xAfter_12 : decode cX0_xAfter 12 = .ok (.getfield 21, 3) := by decide +kernel
theorem dX0_xAfter_15 : decode cX0_xAfter 15 = .ok (.iload_n 1, 1) := by decide +kernel
theorem dX0_xAfter_16 : decode cX0_xAfter 16 = .ok (.iaload, 1) := by decide +kernel
theorem dX0_xAfter_17 : decode cX0_xAfter 17 = .ok (.aload_n 0, 1) := by decide +kernel
theorem dX0_xAfter_18 : decode cX0_xAfter 18 = .ok (.getfield 21, 3) := by decide +kernel
theorem dX0_xAfter_21 : decode cX0_xAfter 21 = .ok (.iload_n 2, 1) := by decide +kernel
theorem dX0_xAfter_22 : decode cX0_xAfter 22 = .ok (.iaload, 1) := by decide +kernel
theorem dX0_xAfter_23 : decode cX0_xAfter 23 = .ok (.isub, 1) := by decide +kernel
theorem dX0_xAfter_24 : decode cX0_xAfter 24 = .ok (.iload 4, 2) := by decide +kernel
theorem dX0_xAfter_26 : decode cX0_xAfter 26 = .ok (.invokestatic 128, 3) := by decide +kernel
theorem dX0_xAfter_29 : decode cX0_xAfter 29 = .ok (.lstore 5, 2) := by decide +kernel
theorem dX0_xAfter_31 : decode cX0_xAfter 31 = .ok (.aload_n 0, 1) := by decide +kernel
theorem dX0_xAfter_32 : decode cX0_xAfter 32 = .ok (.getfield 21, 3) := by decide +kernel
theorem dX0_xAfter_35 : decode cX0_xAfter 35 = .ok (.iload_n 1, 1) := by decide +kernel
theorem dX0_xAfter_36 : decode cX0_xAfter 36 = .ok (.iaload, 1) := by decide +kernel
theorem dX0_xAfter_37 : decode cX0_xAfter 37 = .ok (.i2l, 1) := by decide +kernel
theorem dX0_xAfter_38 : decode cX0_xAfter 38 = .ok (.lload 5, 2) := by decide +kernel
theorem dX0_xAfter_40 : decode cX0_xAfter 40 = .ok (.ladd, 1) := by decide +kernel
theorem dX0_xAfter_41 : decode cX0_xAfter 41 = .ok (.ldc 132, 2) := by decide +kernel
theorem dX0_xAfter_43 : decode cX0_xAfter 43 = .ok (.ldc 133, 2) := by decide +kernel
theorem dX0_xAfter_45 : decode cX0_xAfter 45 = .ok (.invokestatic 124, 3) := by decide +kernel
theorem dX0_xAfter_48 : decode cX0_xAfter 48 = .ok (.ireturn, 1) := by decide +kernel
set_option maxRecDepth 20000 in
theorem ggX0_yAfter_X1_share : GoodIn wsX0_yAfter wsX1_share := goodIn_r _ [6, 7, 8, 5, 9] (by decide +kernel) (by decide +kernel)
set_option maxRecDepth 20000 in
theorem gX0_yAfter_X1_share_n128 : GoodIn wsX0_yAfter (wsX1_share) := ggX0_yAfter_X1_share
set_option maxRecDepth 20000 in
theorem ggX0_yAfter_X1_limited : GoodIn wsX0_yAfter wsX1_limited := goodIn_r _ [11, 12, 13, 14, 15, 16, 17, 18] (by decide +kernel) (by decide +kernel)
set_option maxRecDepth 20000 in
theorem gX0_yAfter_X1_limited_n124 : GoodIn wsX0_yAfter (wsX1_limited) := ggX0_yAfter_X1_limited
theorem dX0_yAfter_0 : decode cX0_yAfter 0 = .ok (.iload_n 3, 1) := by decide +kernel
theorem dX0_yAfter_1 : decode cX0_yAfter 1 = .ok (.aload_n 0, 1) := by decide +kernel
theorem dX0_yAfter_2 : decode cX0_yAfter 2 = .ok (.getfield 25, 3) := by decide +kernel
theorem dX0_yAfter_5 : decode cX0_yAfter 5 = .ok (.iload_n 1, 1) := by decide +kernel
theorem dX0_yAfter_6 : decode cX0_yAfter 6 = .ok (.iaload, 1) := by decide +kernel
theorem dX0_yAfter_7 : decode cX0_yAfter 7 = .ok (.aload_n 0, 1) := by decide +kernel
theorem dX0_yAfter_8 : decode cX0_yAfter 8 = .ok (.getfield 25, 3) := by decide +kernel
theorem dX0_yAfter_11 : decode cX0_yAfter 11 = .ok (.iload_n 2, 1) := by decide +kernel
theorem dX0_yAfter_12 : decode cX0_yAfter 12 = .ok (.iaload, 1) := by decide +kernel
theorem dX0_yAfter_13 : decode cX0_yAfter 13 = .ok (.isub, 1) := by decide +kernel
theorem dX0_yAfter_14 : decode cX0_yAfter 14 = .ok (.iload 4, 2) := by decide +kernel
theorem dX0_yAfter_16 : decode cX0_yAfter 16 = .ok (.invokestatic 128, 3) := by decide +kernel
theorem dX0_yAfter_19 : decode cX0_yAfter 19 = .ok (.lstore 5, 2) := by decide +kernel
theorem dX0_yAfter_21 : decode cX0_yAfter 21 = .ok (.aload_n 0, 1) := by decide +kernel
theorem dX0_yAfter_22 : decode cX0_yAfter 22 = .ok (.getfield 25, 3) := by decide +kernel
theorem dX0_yAfter_25 : decode cX0_yAfter 25 = .ok (.iload_n 1, 1) := by decide +kernel
theorem dX0_yAfter_26 : decode cX0_yAfter 26 = .ok (.iaload, 1) := by decide +kernel
theorem dX0_yAfter_27 : decode cX0_yAfter 27 = .ok (.i2l, 1) := by decide +kernel
theorem dX0_yAfter_28 : decode cX0_yAfter 28 = .ok (.lload 5, 2) := by decide +kernel
theorem dX0_yAfter_30 : decode cX0_yAfter 30 = .ok (.ladd, 1) := by decide +kernel
theorem dX0_yAfter_31 : decode cX0_yAfter 31 = .ok (.ldc 132, 2) := by decide +kernel
theorem dX0_yAfter_33 : decode cX0_yAfter 33 = .ok (.ldc 133, 2) := by decide +kernel
theorem dX0_yAfter_35 : decode cX0_yAfter 35 = .ok (.invokestatic 124, 3) := by decide +kernel
theorem dX0_yAfter_38 : decode cX0_yAfter 38 = .ok (.ireturn, 1) := by decide +kernel
set_option maxRecDepth 20000 in
theorem ggX0_heightAfter_X1_share : GoodIn wsX0_heightAfter wsX1_share := goodIn_r _ [5, 6, 7, 4, 8] (by decide +kernel) (by decide +kernel)
set_option maxRecDepth 20000 in
theorem gX0_heightAfter_X1_share_n128 : GoodIn wsX0_heightAfter (wsX1_share) := ggX0_heightAfter_X1_share
set_option maxRecDepth 20000 in
theorem ggX0_heightAfter_X1_limited : GoodIn wsX0_heightAfter wsX1_limited := goodIn_r _ [10, 11, 12, 13, 14, 15, 16, 17] (by decide +kernel) (by decide +kernel)
set_option maxRecDepth 20000 in
theorem gX0_heightAfter_X1_limited_n124 : GoodIn wsX0_heightAfter (wsX1_limited) := ggX0_heightAfter_X1_limited
theorem dX0_heightAfter_0 : decode cX0_heightAfter 0 = .ok (.iload_n 3, 1) := by decide +kernel
theorem dX0_heightAfter_1 : decode cX0_heightAfter 1 = .ok (.aload_n 0, 1) := by decide +kernel
theorem dX0_heightAfter_2 : decode cX0_heightAfter 2 = .ok (.getfield 28, 3) := by decide +kernel
theorem dX0_heightAfter_5 : decode cX0_heightAfter 5 = .ok (.iload_n 1, 1) := by decide +kernel
theorem dX0_heightAfter_6 : decode cX0_heightAfter 6 = .ok (.iaload, 1) := by decide +kernel
theorem dX0_heightAfter_7 : decode cX0_heightAfter 7 = .ok (.aload_n 0, 1) := by decide +kernel
theorem dX0_heightAfter_8 : decode cX0_heightAfter 8 = .ok (.getfield 28, 3) := by decide +kernel
theorem dX0_heightAfter_11 : decode cX0_heightAfter 11 = .ok (.iload_n 2, 1) := by decide +kernel
theorem dX0_heightAfter_12 : decode cX0_heightAfter 12 = .ok (.iaload, 1) := by decide +kernel
theorem dX0_heightAfter_13 : decode cX0_heightAfter 13 = .ok (.iadd, 1) := by decide +kernel
theorem dX0_heightAfter_14 : decode cX0_heightAfter 14 = .ok (.iload 4, 2) := by decide +kernel
theorem dX0_heightAfter_16 : decode cX0_heightAfter 16 = .ok (.invokestatic 128, 3) := by decide +kernel
theorem dX0_heightAfter_19 : decode cX0_heightAfter 19 = .ok (.lstore 5, 2) := by decide +kernel
theorem dX0_heightAfter_21 : decode cX0_heightAfter 21 = .ok (.aload_n 0, 1) := by decide +kernel
theorem dX0_heightAfter_22 : decode cX0_heightAfter 22 = .ok (.getfield 28, 3) := by decide +kernel
theorem dX0_heightAfter_25 : decode cX0_heightAfter 25 = .ok (.iload_n 1, 1) := by decide +kernel
theorem dX0_heightAfter_26 : decode cX0_heightAfter 26 = .ok (.iaload, 1) := by decide +kernel
theorem dX0_heightAfter_27 : decode cX0_heightAfter 27 = .ok (.i2l, 1) := by decide +kernel
theorem dX0_heightAfter_28 : decode cX0_heightAfter 28 = .ok (.lload 5, 2) := by decide +kernel
theorem dX0_heightAfter_30 : decode cX0_heightAfter 30 = .ok (.ladd, 1) := by decide +kernel
theorem dX0_heightAfter_31 : decode cX0_heightAfter 31 = .ok (.iconst 0, 1) := by decide +kernel
theorem dX0_heightAfter_32 : decode cX0_heightAfter 32 = .ok (.ldc 133, 2) := by decide +kernel
theorem dX0_heightAfter_34 : decode cX0_heightAfter 34 = .ok (.invokestatic 124, 3) := by decide +kernel
theorem dX0_heightAfter_37 : decode cX0_heightAfter 37 = .ok (.ireturn, 1) := by decide +kernel
set_option maxRecDepth 20000 in
theorem ggX0_relative_X0_rttOf : GoodIn wsX0_relative wsX0_rttOf := goodIn_r _ [10, 11, 27, 28, 29, 30, 31, 32, 33, 34, 35, 36, 37] (by decide +kernel) (by decide +kernel)
set_option maxRecDepth 20000 in
theorem gX0_relative_X0_rttOf : GoodIn wsX0_relative (wsV RX0 60 RX0 yX0_rttOf wsX0_rttOf) := goodIn_app (goodIn_of _ (by decide +kernel)) ggX0_relative_X0_rttOf
set_option maxRecDepth 20000 in
theorem ggX0_relative_X0_predicted : GoodIn wsX0_relative wsX0_predicted := goodIn_r _ [15, 16, 17, 18, 19, 20, 21, 22, 23, 24, 27, 28, 29, 30, 31, 32, 33, 34, 35, 36, 37] (by decide +kernel) (by decide +kernel)
set_option maxRecDepth 20000 in
theorem gX0_relative_X0_predicted : GoodIn wsX0_relative (wsV RX0 81 RX0 yX0_predicted wsX0_predicted) := goodIn_app (goodIn_of _ (by decide +kernel)) ggX0_relative_X0_predicted
set_option maxRecDepth 20000 in
theorem ggX0_relative_X1_quotient : GoodIn wsX0_relative wsX1_quotient := goodIn_r _ [26] (by decide +kernel) (by decide +kernel)
set_option maxRecDepth 20000 in
theorem gX0_relative_X1_quotient_n103 : GoodIn wsX0_relative (wsX1_quotient) := ggX0_relative_X1_quotient
theorem dX0_relative_0 : decode cX0_relative 0 = .ok (.aload_n 0, 1) := by decide +kernel
theorem dX0_relative_1 : decode cX0_relative 1 = .ok (.iload_n 1, 1) := by decide +kernel
theorem dX0_relative_2 : decode cX0_relative 2 = .ok (.iload_n 2, 1) := by decide +kernel
theorem dX0_relative_3 : decode cX0_relative 3 = .ok (.invokevirtual 60, 3) := by decide +kernel
theorem dX0_relative_6 : decode cX0_relative 6 = .ok (.istore_n 3, 1) := by decide +kernel
theorem dX0_relative_7 : decode cX0_relative 7 = .ok (.ldc2_w 101, 3) := by decide +kernel
theorem dX0_relative_10 : decode cX0_relative 10 = .ok (.aload_n 0, 1) := by decide +kernel
theorem dX0_relative_11 : decode cX0_relative 11 = .ok (.iload_n 1, 1) := by decide +kernel
theorem dX0_relative_12 : decode cX0_relative 12 = .ok (.iload_n 2, 1) := by decide +kernel
theorem dX0_relative_13 : decode cX0_relative 13 = .ok (.invokevirtual 81, 3) := by decide +kernel
theorem dX0_relative_16 : decode cX0_relative 16 = .ok (.iload_n 3, 1) := by decide +kernel
theorem dX0_relative_17 : decode cX0_relative 17 = .ok (.isub, 1) := by decide +kernel
theorem dX0_relative_18 : decode cX0_relative 18 = .ok (.invokestatic 110, 3) := by decide +kernel
theorem dX0_relative_21 : decode cX0_relative 21 = .ok (.i2l, 1) := by decide +kernel
theorem dX0_relative_22 : decode cX0_relative 22 = .ok (.lmul, 1) := by decide +kernel
theorem dX0_relative_23 : decode cX0_relative 23 = .ok (.iload_n 3, 1) := by decide +kernel
theorem dX0_relative_24 : decode cX0_relative 24 = .ok (.i2l, 1) := by decide +kernel
theorem dX0_relative_25 : decode cX0_relative 25 = .ok (.invokestatic 103, 3) := by decide +kernel
theorem dX0_relative_28 : decode cX0_relative 28 = .ok (.l2i, 1) := by decide +kernel
theorem dX0_relative_29 : decode cX0_relative 29 = .ok (.ireturn, 1) := by decide +kernel
set_option maxRecDepth 20000 in
theorem ggX0_rankOf_X0_predicted : GoodIn wsX0_rankOf wsX0_predicted := goodIn_r _ [6, 7, 8, 9, 10, 11, 12, 13, 14, 15, 16, 17, 18, 19, 20, 21, 22, 23, 24, 25, 26] (by decide +kernel) (by decide +kernel)
set_option maxRecDepth 20000 in
theorem gX0_rankOf_X0_predicted : GoodIn wsX0_rankOf (wsV RX0 81 RX0 yX0_predicted wsX0_predicted) := goodIn_app (goodIn_of _ (by decide +kernel)) ggX0_rankOf_X0_predicted
theorem dX0_rankOf_0 : decode cX0_rankOf 0 = .ok (.aload_n 0, 1) := by decide +kernel
theorem dX0_rankOf_1 : decode cX0_rankOf 1 = .ok (.iload_n 1, 1) := by decide +kernel
theorem dX0_rankOf_2 : decode cX0_rankOf 2 = .ok (.iload_n 2, 1) := by decide +kernel
theorem dX0_rankOf_3 : decode cX0_rankOf 3 = .ok (.invokevirtual 81, 3) := by decide +kernel
theorem dX0_rankOf_6 : decode cX0_rankOf 6 = .ok (.istore_n 3, 1) := by decide +kernel
theorem dX0_rankOf_7 : decode cX0_rankOf 7 = .ok (.iconst 0, 1) := by decide +kernel
theorem dX0_rankOf_8 : decode cX0_rankOf 8 = .ok (.istore 4, 2) := by decide +kernel
theorem dX0_rankOf_10 : decode cX0_rankOf 10 = .ok (.iconst 0, 1) := by decide +kernel
theorem dX0_rankOf_11 : decode cX0_rankOf 11 = .ok (.istore 5, 2) := by decide +kernel
theorem dX0_rankOf_13 : decode cX0_rankOf 13 = .ok (.iload 5, 2) := by decide +kernel
theorem dX0_rankOf_15 : decode cX0_rankOf 15 = .ok (.aload_n 0, 1) := by decide +kernel
theorem dX0_rankOf_16 : decode cX0_rankOf 16 = .ok (.getfield 44, 3) := by decide +kernel
theorem dX0_rankOf_19 : decode cX0_rankOf 19 = .ok (.if_icmp .ge 51, 3) := by decide +kernel
theorem dX0_rankOf_22 : decode cX0_rankOf 22 = .ok (.iload 5, 2) := by decide +kernel
theorem dX0_rankOf_24 : decode cX0_rankOf 24 = .ok (.iload_n 1, 1) := by decide +kernel
theorem dX0_rankOf_25 : decode cX0_rankOf 25 = .ok (.if_icmp .eq 39, 3) := by decide +kernel
theorem dX0_rankOf_28 : decode cX0_rankOf 28 = .ok (.iload 5, 2) := by decide +kernel
theorem dX0_rankOf_30 : decode cX0_rankOf 30 = .ok (.iload_n 2, 1) := by decide +kernel
theorem dX0_rankOf_31 : decode cX0_rankOf 31 = .ok (.if_icmp .eq 33, 3) := by decide +kernel
theorem dX0_rankOf_34 : decode cX0_rankOf 34 = .ok (.aload_n 0, 1) := by decide +kernel
theorem dX0_rankOf_35 : decode cX0_rankOf 35 = .ok (.iload_n 1, 1) := by decide +kernel
theorem dX0_rankOf_36 : decode cX0_rankOf 36 = .ok (.iload 5, 2) := by decide +kernel
theorem dX0_rankOf_38 : decode cX0_rankOf 38 = .ok (.invokevirtual 81, 3) := by decide +kernel
theorem dX0_rankOf_41 : decode cX0_rankOf 41 = .ok (.istore 6, 2) := by decide +kernel
theorem dX0_rankOf_43 : decode cX0_rankOf 43 = .ok (.iload 6, 2) := by decide +kernel
theorem dX0_rankOf_45 : decode cX0_rankOf 45 = .ok (.iload_n 3, 1) := by decide +kernel
theorem dX0_rankOf_46 : decode cX0_rankOf 46 = .ok (.if_icmp .lt 15, 3) := by decide +kernel
theorem dX0_rankOf_49 : decode cX0_rankOf 49 = .ok (.iload 6, 2) := by decide +kernel
theorem dX0_rankOf_51 : decode cX0_rankOf 51 = .ok (.iload_n 3, 1) := by decide +kernel
theorem dX0_rankOf_52 : decode cX0_rankOf 52 = .ok (.if_icmp .ne 12, 3) := by decide +kernel
theorem dX0_rankOf_55 : decode cX0_rankOf 55 = .ok (.iload 5, 2) := by decide +kernel
theorem dX0_rankOf_57 : decode cX0_rankOf 57 = .ok (.iload_n 2, 1) := by decide +kernel
theorem dX0_rankOf_58 : decode cX0_rankOf 58 = .ok (.if_icmp .ge 6, 3) := by decide +kernel
theorem dX0_rankOf_61 : decode cX0_rankOf 61 = .ok (.iinc 4 1, 3) := by decide +kernel
theorem dX0_rankOf_64 : decode cX0_rankOf 64 = .ok (.iinc 5 1, 3) := by decide +kernel
theorem dX0_rankOf_67 : decode cX0_rankOf 67 = .ok (.goto (-54), 3) := by decide +kernel
theorem dX0_rankOf_70 : decode cX0_rankOf 70 = .ok (.iload 4, 2) := by decide +kernel
theorem dX0_rankOf_72 : decode cX0_rankOf 72 = .ok (.ireturn, 1) := by decide +kernel
set_option maxRecDepth 20000 in
theorem ggX0_isTriangle_X0_isKnown : GoodIn wsX0_isTriangle wsX0_isKnown := goodIn_r _ [5, 6, 7, 8, 4, 9, 10, 11, 12, 13, 14, 15, 16, 17, 18, 19, 20, 21] (by decide +kernel) (by decide +kernel)
set_option maxRecDepth 20000 in
theorem gX0_isTriangle_X0_isKnown : GoodIn wsX0_isTriangle (wsV RX0 73 RX0 yX0_isKnown wsX0_isKnown) := goodIn_app (goodIn_of _ (by decide +kernel)) ggX0_isTriangle_X0_isKnown
theorem dX0_isTriangle_0 : decode cX0_isTriangle 0 = .ok (.aload_n 0, 1) := by decide +kernel
theorem dX0_isTriangle_1 : decode cX0_isTriangle 1 = .ok (.iload_n 1, 1) := by decide +kernel
theorem dX0_isTriangle_2 : decode cX0_isTriangle 2 = .ok (.iload_n 2, 1) := by decide +kernel
theorem dX0_isTriangle_3 : decode cX0_isTriangle 3 = .ok (.invokevirtual 73, 3) := by decide +kernel
theorem dX0_isTriangle_6 : decode cX0_isTriangle 6 = .ok (.ifCond .eq 25, 3) := by decide +kernel
theorem dX0_isTriangle_9 : decode cX0_isTriangle 9 = .ok (.aload_n 0, 1) := by decide +kernel
theorem dX0_isTriangle_10 : decode cX0_isTriangle 10 = .ok (.iload_n 2, 1) := by decide +kernel
theorem dX0_isTriangle_11 : decode cX0_isTriangle 11 = .ok (.iload_n 3, 1) := by decide +kernel
theorem dX0_isTriangle_12 : decode cX0_isTriangle 12 = .ok (.invokevirtual 73, 3) := by decide +kernel
theorem dX0_isTriangle_15 : decode cX0_isTriangle 15 = .ok (.ifCond .eq 16, 3) := by decide +kernel
theorem dX0_isTriangle_18 : decode cX0_isTriangle 18 = .ok (.aload_n 0, 1) := by decide +kernel
theorem dX0_isTriangle_19 : decode cX0_isTriangle 19 = .ok (.iload_n 1, 1) := by decide +kernel
theorem dX0_isTriangle_20 : decode cX0_isTriangle 20 = .ok (.iload_n 3, 1) := by decide +kernel
theorem dX0_isTriangle_21 : decode cX0_isTriangle 21 = .ok (.invokevirtual 73, 3) := by decide +kernel
theorem dX0_isTriangle_24 : decode cX0_isTriangle 24 = .ok (.ifCond .eq 7, 3) := by decide +kernel
theorem dX0_isTriangle_27 : decode cX0_isTriangle 27 = .ok (.iconst 1, 1) := by decide +kernel
theorem dX0_isTriangle_28 : decode cX0_isTriangle 28 = .ok (.goto 4, 3) := by decide +kernel
theorem dX0_isTriangle_31 : decode cX0_isTriangle 31 = .ok (.iconst 0, 1) := by decide +kernel
theorem dX0_isTriangle_32 : decode cX0_isTriangle 32 = .ok (.ireturn, 1) := by decide +kernel
set_option maxRecDepth 20000 in
theorem ggX0_excess_X0_isTriangle : GoodIn wsX0_excess wsX0_isTriangle := goodIn_r _ [9, 10, 11, 12, 8, 13, 14, 15, 16, 17, 18, 19, 20, 21, 22, 23, 24, 25, 26, 27, 28, 29] (by decide +kernel) (by decide +kernel)
set_option maxRecDepth 20000 in
theorem gX0_excess_X0_isTriangle : GoodIn wsX0_excess (wsV RX0 134 RX0 yX0_isTriangle wsX0_isTriangle) := goodIn_app (goodIn_of _ (by decide +kernel)) ggX0_excess_X0_isTriangle
set_option maxRecDepth 20000 in
theorem ggX0_excess_X0_rttOf : GoodIn wsX0_excess wsX0_rttOf := goodIn_r _ [17, 18, 19, 20, 21, 22, 23, 24, 25, 26, 27, 28, 29] (by decide +kernel) (by decide +kernel)
set_option maxRecDepth 20000 in
theorem gX0_excess_X0_rttOf : GoodIn wsX0_excess (wsV RX0 60 RX0 yX0_rttOf wsX0_rttOf) := goodIn_app (goodIn_of _ (by decide +kernel)) ggX0_excess_X0_rttOf
theorem dX0_excess_0 : decode cX0_excess 0 = .ok (.aload_n 0, 1) := by decide +kernel
theorem dX0_excess_1 : decode cX0_excess 1 = .ok (.iload_n 1, 1) := by decide +kernel
theorem dX0_excess_2 : decode cX0_excess 2 = .ok (.iload_n 2, 1) := by decide +kernel
theorem dX0_excess_3 : decode cX0_excess 3 = .ok (.iload_n 3, 1) := by decide +kernel
theorem dX0_excess_4 : decode cX0_excess 4 = .ok (.invokevirtual 134, 3) := by decide +kernel
theorem dX0_excess_7 : decode cX0_excess 7 = .ok (.ifCond .ne 5, 3) := by decide +kernel
theorem dX0_excess_10 : decode cX0_excess 10 = .ok (.iconst 0, 1) := by decide +kernel
theorem dX0_excess_11 : decode cX0_excess 11 = .ok (.ireturn, 1) := by decide +kernel
theorem dX0_excess_12 : decode cX0_excess 12 = .ok (.aload_n 0, 1) := by decide +kernel
theorem dX0_excess_13 : decode cX0_excess 13 = .ok (.iload_n 1, 1) := by decide +kernel
theorem dX0_excess_14 : decode cX0_excess 14 = .ok (.iload_n 2, 1) := by decide +kernel
theorem dX0_excess_15 : decode cX0_excess 15 = .ok (.invokevirtual 60, 3) := by decide +kernel
theorem dX0_excess_18 : decode cX0_excess 18 = .ok (.istore 4, 2) := by decide +kernel
theorem dX0_excess_20 : decode cX0_excess 20 = .ok (.aload_n 0, 1) := by decide +kernel
theorem dX0_excess_21 : decode cX0_excess 21 = .ok (.iload_n 2, 1) := by decide +kernel
theorem dX0_excess_22 : decode cX0_excess 22 = .ok (.iload_n 3, 1) := by decide +kernel
theorem dX0_excess_23 : decode cX0_excess 23 = .ok (.invokevirtual 60, 3) := by decide +kernel
theorem dX0_excess_26 : decode cX0_excess 26 = .ok (.istore 5, 2) := by decide +kernel
theorem dX0_excess_28 : decode cX0_excess 28 = .ok (.aload_n 0, 1) := by decide +kernel
theorem dX0_excess_29 : decode cX0_excess 29 = .ok (.iload_n 1, 1) := by decide +kernel
theorem dX0_excess_30 : decode cX0_excess 30 = .ok (.iload_n 3, 1) := by decide +kernel
theorem dX0_excess_31 : decode cX0_excess 31 = .ok (.invokevirtual 60, 3) := by decide +kernel
theorem dX0_excess_34 : decode cX0_excess 34 = .ok (.istore 6, 2) := by decide +kernel
theorem dX0_excess_36 : decode cX0_excess 36 = .ok (.iload 4, 2) := by decide +kernel
theorem dX0_excess_38 : decode cX0_excess 38 = .ok (.iload 5, 2) := by decide +kernel
theorem dX0_excess_40 : decode cX0_excess 40 = .ok (.iload 6, 2) := by decide +kernel
theorem dX0_excess_42 : decode cX0_excess 42 = .ok (.invokestatic 138, 3) := by decide +kernel
theorem dX0_excess_45 : decode cX0_excess 45 = .ok (.invokestatic 138, 3) := by decide +kernel
theorem dX0_excess_48 : decode cX0_excess 48 = .ok (.istore 7, 2) := by decide +kernel
theorem dX0_excess_50 : decode cX0_excess 50 = .ok (.iconst 0, 1) := by decide +kernel
theorem dX0_excess_51 : decode cX0_excess 51 = .ok (.iload 7, 2) := by decide +kernel
theorem dX0_excess_53 : decode cX0_excess 53 = .ok (.iload 4, 2) := by decide +kernel
theorem dX0_excess_55 : decode cX0_excess 55 = .ok (.iload 5, 2) := by decide +kernel
theorem dX0_excess_57 : decode cX0_excess 57 = .ok (.iadd, 1) := by decide +kernel
theorem dX0_excess_58 : decode cX0_excess 58 = .ok (.iload 6, 2) := by decide +kernel
theorem dX0_excess_60 : decode cX0_excess 60 = .ok (.iadd, 1) := by decide +kernel
theorem dX0_excess_61 : decode cX0_excess 61 = .ok (.iload 7, 2) := by decide +kernel
theorem dX0_excess_63 : decode cX0_excess 63 = .ok (.isub, 1) := by decide +kernel
theorem dX0_excess_64 : decode cX0_excess 64 = .ok (.isub, 1) := by decide +kernel
theorem dX0_excess_65 : decode cX0_excess 65 = .ok (.invokestatic 138, 3) := by decide +kernel
theorem dX0_excess_68 : decode cX0_excess 68 = .ok (.ireturn, 1) := by decide +kernel
set_option maxRecDepth 20000 in
theorem ggX0_violationsAt_X0_excess : GoodIn wsX0_violationsAt wsX0_excess := goodIn_r _ [6, 7, 8, 9, 10, 11, 12, 13, 5, 14, 15, 16, 17, 18, 19, 20, 21, 22, 23, 24, 25, 26, 27, 28, 29, 30, 31, 32, 33, 34] (by decide +kernel) (by decide +kernel)
set_option maxRecDepth 20000 in
theorem gX0_violationsAt_X0_excess : GoodIn wsX0_violationsAt (wsV RX0 140 RX0 yX0_excess wsX0_excess) := goodIn_app (goodIn_of _ (by decide +kernel)) ggX0_violationsAt_X0_excess
theorem dX0_violationsAt_0 : decode cX0_violationsAt 0 = .ok (.iconst 0, 1) := by decide +kernel
theorem dX0_violationsAt_1 : decode cX0_violationsAt 1 = .ok (.istore_n 2, 1) := by decide +kernel
theorem dX0_violationsAt_2 : decode cX0_violationsAt 2 = .ok (.iconst 0, 1) := by decide +kernel
theorem dX0_violationsAt_3 : decode cX0_violationsAt 3 = .ok (.istore_n 3, 1) := by decide +kernel
theorem dX0_violationsAt_4 : decode cX0_violationsAt 4 = .ok (.iload_n 3, 1) := by decide +kernel
theorem dX0_violationsAt_5 : decode cX0_violationsAt 5 = .ok (.aload_n 0, 1) := by decide +kernel
theorem dX0_violationsAt_6 : decode cX0_violationsAt 6 = .ok (.getfield 44, 3) := by decide +kernel
theorem dX0_violationsAt_9 : decode cX0_violationsAt 9 = .ok (.if_icmp .ge 54, 3) := by decide +kernel
theorem dX0_violationsAt_12 : decode cX0_violationsAt 12 = .ok (.iload_n 3, 1) := by decide +kernel
theorem dX0_violationsAt_13 : decode cX0_violationsAt 13 = .ok (.iconst 1, 1) := by decide +kernel
theorem dX0_violationsAt_14 : decode cX0_violationsAt 14 = .ok (.iadd, 1) := by decide +kernel
theorem dX0_violationsAt_15 : decode cX0_violationsAt 15 = .ok (.istore 4, 2) := by decide +kernel
theorem dX0_violationsAt_17 : decode cX0_violationsAt 17 = .ok (.iload 4, 2) := by decide +kernel
theorem dX0_violationsAt_19 : decode cX0_violationsAt 19 = .ok (.aload_n 0, 1) := by decide +kernel
theorem dX0_violationsAt_20 : decode cX0_violationsAt 20 = .ok (.getfield 44, 3) := by decide +kernel
theorem dX0_violationsAt_23 : decode cX0_violationsAt 23 = .ok (.if_icmp .ge 34, 3) := by decide +kernel
theorem dX0_violationsAt_26 : decode cX0_violationsAt 26 = .ok (.iload_n 3, 1) := by decide +kernel
theorem dX0_violationsAt_27 : decode cX0_violationsAt 27 = .ok (.iload_n 1, 1) := by decide +kernel
theorem dX0_violationsAt_28 : decode cX0_violationsAt 28 = .ok (.if_icmp .eq 23, 3) := by decide +kernel
theorem dX0_violationsAt_31 : decode cX0_violationsAt 31 = .ok (.iload 4, 2) := by decide +kernel
theorem dX0_violationsAt_33 : decode cX0_violationsAt 33 = .ok (.iload_n 1, 1) := by decide +kernel
theorem dX0_violationsAt_34 : decode cX0_violationsAt 34 = .ok (.if_icmp .eq 17, 3) := by decide +kernel
theorem dX0_violationsAt_37 : decode cX0_violationsAt 37 = .ok (.aload_n 0, 1) := by decide +kernel
theorem dX0_violationsAt_38 : decode cX0_violationsAt 38 = .ok (.iload_n 1, 1) := by decide +kernel
theorem dX0_violationsAt_39 : decode cX0_violationsAt 39 = .ok (.iload_n 3, 1) := by decide +kernel
theorem dX0_violationsAt_40 : decode cX0_violationsAt 40 = .ok (.iload 4, 2) := by decide +kernel
theorem dX0_violationsAt_42 : decode cX0_violationsAt 42 = .ok (.invokevirtual 140, 3) := by decide +kernel
theorem dX0_violationsAt_45 : decode cX0_violationsAt 45 = .ok (.ifCond .le 6, 3) := by decide +kernel
theorem dX0_violationsAt_48 : decode cX0_violationsAt 48 = .ok (.iinc 2 1, 3) := by decide +kernel
theorem dX0_violationsAt_51 : decode cX0_violationsAt 51 = .ok (.iinc 4 1, 3) := by decide +kernel
theorem dX0_violationsAt_54 : decode cX0_violationsAt 54 = .ok (.goto (-37), 3) := by decide +kernel
theorem dX0_violationsAt_57 : decode cX0_violationsAt 57 = .ok (.iinc 3 1, 3) := by decide +kernel
theorem dX0_violationsAt_60 : decode cX0_violationsAt 60 = .ok (.goto (-56), 3) := by decide +kernel
theorem dX0_violationsAt_63 : decode cX0_violationsAt 63 = .ok (.iload_n 2, 1) := by decide +kernel
theorem dX0_violationsAt_64 : decode cX0_violationsAt 64 = .ok (.ireturn, 1) := by decide +kernel
theorem dJ9_floorMod_7cf53_0 : decode cJ9_floorMod_7cf53 0 = .ok (.iload_n 0, 1) := by decide +kernel
theorem dJ9_floorMod_7cf53_1 : decode cJ9_floorMod_7cf53 1 = .ok (.iload_n 1, 1) := by decide +kernel
theorem dJ9_floorMod_7cf53_2 : decode cJ9_floorMod_7cf53 2 = .ok (.irem, 1) := by decide +kernel
theorem dJ9_floorMod_7cf53_3 : decode cJ9_floorMod_7cf53 3 = .ok (.istore_n 2, 1) := by decide +kernel
theorem dJ9_floorMod_7cf53_4 : decode cJ9_floorMod_7cf53 4 = .ok (.iload_n 0, 1) := by decide +kernel
theorem dJ9_floorMod_7cf53_5 : decode cJ9_floorMod_7cf53 5 = .ok (.iload_n 1, 1) := by decide +kernel
theorem dJ9_floorMod_7cf53_6 : decode cJ9_floorMod_7cf53 6 = .ok (.ixor, 1) := by decide +kernel
theorem dJ9_floorMod_7cf53_7 : decode cJ9_floorMod_7cf53 7 = .ok (.ifCond .ge 11, 3) := by decide +kernel
theorem dJ9_floorMod_7cf53_10 : decode cJ9_floorMod_7cf53 10 = .ok (.iload_n 2, 1) := by decide +kernel
theorem dJ9_floorMod_7cf53_11 : decode cJ9_floorMod_7cf53 11 = .ok (.ifCond .eq 7, 3) := by decide +kernel
theorem dJ9_floorMod_7cf53_14 : decode cJ9_floorMod_7cf53 14 = .ok (.iload_n 2, 1) := by decide +kernel
theorem dJ9_floorMod_7cf53_15 : decode cJ9_floorMod_7cf53 15 = .ok (.iload_n 1, 1) := by decide +kernel
theorem dJ9_floorMod_7cf53_16 : decode cJ9_floorMod_7cf53 16 = .ok (.iadd, 1) := by decide +kernel
theorem dJ9_floorMod_7cf53_17 : decode cJ9_floorMod_7cf53 17 = .ok (.ireturn, 1) := by decide +kernel
theorem dJ9_floorMod_7cf53_18 : decode cJ9_floorMod_7cf53 18 = .ok (.iload_n 2, 1) := by decide +kernel
theorem dJ9_floorMod_7cf53_19 : decode cJ9_floorMod_7cf53 19 = .ok (.ireturn, 1) := by decide +kernel
theorem dJ9_abs_0f7a4_0 : decode cJ9_abs_0f7a4 0 = .ok (.iload_n 0, 1) := by decide +kernel
theorem dJ9_abs_0f7a4_1 : decode cJ9_abs_0f7a4 1 = .ok (.ifCond .ge 8, 3) := by decide +kernel
theorem dJ9_abs_0f7a4_4 : decode cJ9_abs_0f7a4 4 = .ok (.iload_n 0, 1) := by decide +kernel
theorem dJ9_abs_0f7a4_5 : decode cJ9_abs_0f7a4 5 = .ok (.ineg, 1) := by decide +kernel
theorem dJ9_abs_0f7a4_6 : decode cJ9_abs_0f7a4 6 = .ok (.goto 4, 3) := by decide +kernel
theorem dJ9_abs_0f7a4_9 : decode cJ9_abs_0f7a4 9 = .ok (.iload_n 0, 1) := by decide +kernel
theorem dJ9_abs_0f7a4_10 : decode cJ9_abs_0f7a4 10 = .ok (.ireturn, 1) := by decide +kernel
theorem dJ9_max_7cf53_0 : decode cJ9_max_7cf53 0 = .ok (.iload_n 0, 1) := by decide +kernel
theorem dJ9_max_7cf53_1 : decode cJ9_max_7cf53 1 = .ok (.iload_n 1, 1) := by decide +kernel
theorem dJ9_max_7cf53_2 : decode cJ9_max_7cf53 2 = .ok (.if_icmp .lt 7, 3) := by decide +kernel
theorem dJ9_max_7cf53_5 : decode cJ9_max_7cf53 5 = .ok (.iload_n 0, 1) := by decide +kernel
theorem dJ9_max_7cf53_6 : decode cJ9_max_7cf53 6 = .ok (.goto 4, 3) := by decide +kernel
theorem dJ9_max_7cf53_9 : decode cJ9_max_7cf53 9 = .ok (.iload_n 1, 1) := by decide +kernel
theorem dJ9_max_7cf53_10 : decode cJ9_max_7cf53 10 = .ok (.ireturn, 1) := by decide +kernel
theorem dJ9_max_f86c9_0 : decode cJ9_max_f86c9 0 = .ok (.lload_n 0, 1) := by decide +kernel
theorem dJ9_max_f86c9_1 : decode cJ9_max_f86c9 1 = .ok (.lload_n 2, 1) := by decide +kernel
theorem dJ9_max_f86c9_2 : decode cJ9_max_f86c9 2 = .ok (.lcmp, 1) := by decide +kernel
theorem dJ9_max_f86c9_3 : decode cJ9_max_f86c9 3 = .ok (.ifCond .lt 7, 3) := by decide +kernel
theorem dJ9_max_f86c9_6 : decode cJ9_max_f86c9 6 = .ok (.lload_n 0, 1) := by decide +kernel
theorem dJ9_max_f86c9_7 : decode cJ9_max_f86c9 7 = .ok (.goto 4, 3) := by decide +kernel
theorem dJ9_max_f86c9_10 : decode cJ9_max_f86c9 10 = .ok (.lload_n 2, 1) := by decide +kernel
theorem dJ9_max_f86c9_11 : decode cJ9_max_f86c9 11 = .ok (.lreturn, 1) := by decide +kernel
theorem dJ9_min_f86c9_0 : decode cJ9_min_f86c9 0 = .ok (.lload_n 0, 1) := by decide +kernel
theorem dJ9_min_f86c9_1 : decode cJ9_min_f86c9 1 = .ok (.lload_n 2, 1) := by decide +kernel
theorem dJ9_min_f86c9_2 : decode cJ9_min_f86c9 2 = .ok (.lcmp, 1) := by decide +kernel
theorem dJ9_min_f86c9_3 : decode cJ9_min_f86c9 3 = .ok (.ifCond .gt 7, 3) := by decide +kernel
theorem dJ9_min_f86c9_6 : decode cJ9_min_f86c9 6 = .ok (.lload_n 0, 1) := by decide +kernel
theorem dJ9_min_f86c9_7 : decode cJ9_min_f86c9 7 = .ok (.goto 4, 3) := by decide +kernel
theorem dJ9_min_f86c9_10 : decode cJ9_min_f86c9 10 = .ok (.lload_n 2, 1) := by decide +kernel
theorem dJ9_min_f86c9_11 : decode cJ9_min_f86c9 11 = .ok (.lreturn, 1) := by decide +kernel
end
section
set_option maxRecDepth 20000 in
theorem ggX1_init_X0_init : GoodIn wsX1_init wsX0_init := goodIn_r _ [11, 12, 2, 3, 13, 14, 15, 16, 17, 18, 19, 20, 21, 22, 23, 24, 25, 6, 26, 27, 28, 29, 30, 31, 32, 33, 34, 35, 36, 37, 38, 39, 40, 41, 42, 43] (by decide +kernel) (by decide +kernel)
set_option maxRecDepth 20000 in
theorem gX1_init_X0_init : GoodIn wsX1_init (wsX0_init) := ggX1_init_X0_init
theorem dX1_init_0 : decode cX1_init 0 = .ok (.aload_n 0, 1) := by decide +kernel
theorem dX1_init_1 : decode cX1_init 1 = .ok (.invokespecial 1, 3) := by decide +kernel
theorem dX1_init_4 : decode cX1_init 4 = .ok (.aload_n 0, 1) := by decide +kernel
theorem dX1_init_5 : decode cX1_init 5 = .ok (.new 7, 3) := by decide +kernel
theorem dX1_init_8 : decode cX1_init 8 = .ok (.dup, 1) := by decide +kernel
theorem dX1_init_9 : decode cX1_init 9 = .ok (.invokespecial 9, 3) := by decide +kernel
theorem dX1_init_12 : decode cX1_init 12 = .ok (.putfield 10, 3) := by decide +kernel
theorem dX1_init_15 : decode cX1_init 15 = .ok (.aload_n 0, 1) := by decide +kernel
theorem dX1_init_16 : decode cX1_init 16 = .ok (.iconst 2, 1) := by decide +kernel
theorem dX1_init_17 : decode cX1_init 17 = .ok (.anewarray 7, 3) := by decide +kernel
theorem dX1_init_20 : decode cX1_init 20 = .ok (.putfield 16, 3) := by decide +kernel
theorem dX1_init_23 : decode cX1_init 23 = .ok (.return_, 1) := by decide +kernel
set_option maxRecDepth 20000 in
theorem ggX1_reset_X1_isWithin : GoodIn wsX1_reset wsX1_isWithin := goodIn_r _ [6] (by decide +kernel) (by decide +kernel)
set_option maxRecDepth 20000 in
theorem gX1_reset_X1_isWithin : GoodIn wsX1_reset (va_wsS RX1 20 yX1_isWithin wsX1_isWithin) := goodIn_app (goodIn_of _ (by decide +kernel)) ggX1_reset_X1_isWithin
set_option maxRecDepth 20000 in
theorem ggX1_reset_X0_begin : GoodIn wsX1_reset wsX0_begin := goodIn_r _ [11, 12, 13, 14, 15, 16, 17, 18, 10, 19, 20, 21, 22, 23, 26, 27, 28, 29, 30, 31, 32, 33, 34, 35, 36] (by decide +kernel) (by decide +kernel)
set_option maxRecDepth 20000 in
theorem gX1_reset_X0_begin : GoodIn wsX1_reset (wsV RX1 29 RX0 yX0_begin wsX0_begin) := goodIn_app (goodIn_of _ (by decide +kernel)) ggX1_reset_X0_begin
theorem dX1_reset_0 : decode cX1_reset 0 = .ok (.iload_n 1, 1) := by decide +kernel
theorem dX1_reset_1 : decode cX1_reset 1 = .ok (.iconst 2, 1) := by decide +kernel
theorem dX1_reset_2 : decode cX1_reset 2 = .ok (.bipush 10, 2) := by decide +kernel
theorem dX1_reset_4 : decode cX1_reset 4 = .ok (.invokestatic 20, 3) := by decide +kernel
theorem dX1_reset_7 : decode cX1_reset 7 = .ok (.ifCond .ne 6, 3) := by decide +kernel
theorem dX1_reset_10 : decode cX1_reset 10 = .ok (.ldc 24, 2) := by decide +kernel
theorem dX1_reset_12 : decode cX1_reset 12 = .ok (.ireturn, 1) := by decide +kernel
theorem dX1_reset_13 : decode cX1_reset 13 = .ok (.aload_n 0, 1) := by decide +kernel
theorem dX1_reset_14 : decode cX1_reset 14 = .ok (.getfield 10, 3) := by decide +kernel
theorem dX1_reset_17 : decode cX1_reset 17 = .ok (.getfield 25, 3) := by decide +kernel
theorem dX1_reset_20 : decode cX1_reset 20 = .ok (.istore_n 2, 1) := by decide +kernel
theorem dX1_reset_21 : decode cX1_reset 21 = .ok (.aload_n 0, 1) := by decide +kernel
theorem dX1_reset_22 : decode cX1_reset 22 = .ok (.getfield 10, 3) := by decide +kernel
theorem dX1_reset_25 : decode cX1_reset 25 = .ok (.iload_n 1, 1) := by decide +kernel
theorem dX1_reset_26 : decode cX1_reset 26 = .ok (.invokevirtual 29, 3) := by decide +kernel
theorem dX1_reset_29 : decode cX1_reset 29 = .ok (.iload_n 2, 1) := by decide +kernel
theorem dX1_reset_30 : decode cX1_reset 30 = .ok (.ireturn, 1) := by decide +kernel
set_option maxRecDepth 20000 in
theorem ggX1_setRtt_X1_pairFault : GoodIn wsX1_setRtt wsX1_pairFault := goodIn_r _ [7, 8, 9, 10, 11, 12, 6, 13, 2, 14, 15, 16, 27, 28, 29, 30, 31, 32, 33, 34, 35, 36, 37, 38, 39] (by decide +kernel) (by decide +kernel)
set_option maxRecDepth 20000 in
theorem gX1_setRtt_X1_pairFault : GoodIn wsX1_setRtt (wsV RX1 33 RX1 yX1_pairFault wsX1_pairFault) := goodIn_app (goodIn_of _ (by decide +kernel)) ggX1_setRtt_X1_pairFault
set_option maxRecDepth 20000 in
theorem ggX1_setRtt_X1_isWithin : GoodIn wsX1_setRtt wsX1_isWithin := goodIn_r _ [16] (by decide +kernel) (by decide +kernel)
set_option maxRecDepth 20000 in
theorem gX1_setRtt_X1_isWithin : GoodIn wsX1_setRtt (va_wsS RX1 20 yX1_isWithin wsX1_isWithin) := goodIn_app (goodIn_of _ (by decide +kernel)) ggX1_setRtt_X1_isWithin
set_option maxRecDepth 20000 in
theorem ggX1_setRtt_X0_rttOf : GoodIn wsX1_setRtt wsX0_rttOf := goodIn_r _ [21, 22, 29, 30, 31, 32, 33, 34, 35, 36, 37, 38, 39] (by decide +kernel) (by decide +kernel)
set_option maxRecDepth 20000 in
theorem gX1_setRtt_X0_rttOf : GoodIn wsX1_setRtt (wsV RX1 37 RX0 yX0_rttOf wsX0_rttOf) := goodIn_app (goodIn_of _ (by decide +kernel)) ggX1_setRtt_X0_rttOf
set_option maxRecDepth 20000 in
theorem ggX1_setRtt_X0_keepRtt : GoodIn wsX1_setRtt wsX0_keepRtt := goodIn_r _ [26, 22, 29, 30, 31, 32, 33, 34, 35, 36, 37, 38, 39] (by decide +kernel) (by decide +kernel)
set_option maxRecDepth 20000 in
theorem gX1_setRtt_X0_keepRtt : GoodIn wsX1_setRtt (wsV RX1 40 RX0 yX0_keepRtt wsX0_keepRtt) := goodIn_app (goodIn_of _ (by decide +kernel)) ggX1_setRtt_X0_keepRtt
theorem dX1_setRtt_0 : decode cX1_setRtt 0 = .ok (.aload_n 0, 1) := by decide +kernel
theorem dX1_setRtt_1 : decode cX1_setRtt 1 = .ok (.iload_n 1, 1) := by decide +kernel
theorem dX1_setRtt_2 : decode cX1_setRtt 2 = .ok (.iload_n 2, 1) := by decide +kernel
theorem dX1_setRtt_3 : decode cX1_setRtt 3 = .ok (.invokevirtual 33, 3) := by decide +kernel
theorem dX1_setRtt_6 : decode cX1_setRtt 6 = .ok (.istore 4, 2) := by decide +kernel
theorem dX1_setRtt_8 : decode cX1_setRtt 8 = .ok (.iload 4, 2) := by decide +kernel
theorem dX1_setRtt_10 : decode cX1_setRtt 10 = .ok (.ifCond .eq 6, 3) := by decide +kernel
theorem dX1_setRtt_13 : decode cX1_setRtt 13 = .ok (.iload 4, 2) := by decide +kernel
theorem dX1_setRtt_15 : decode cX1_setRtt 15 = .ok (.ireturn, 1) := by decide +kernel
theorem dX1_setRtt_16 : decode cX1_setRtt 16 = .ok (.iload_n 3, 1) := by decide +kernel
theorem dX1_setRtt_17 : decode cX1_setRtt 17 = .ok (.iconst 0, 1) := by decide +kernel
theorem dX1_setRtt_18 : decode cX1_setRtt 18 = .ok (.sipush 20000, 3) := by decide +kernel
theorem dX1_setRtt_21 : decode cX1_setRtt 21 = .ok (.invokestatic 20, 3) := by decide +kernel
theorem dX1_setRtt_24 : decode cX1_setRtt 24 = .ok (.ifCond .ne 6, 3) := by decide +kernel
theorem dX1_setRtt_27 : decode cX1_setRtt 27 = .ok (.ldc 24, 2) := by decide +kernel
theorem dX1_setRtt_29 : decode cX1_setRtt 29 = .ok (.ireturn, 1) := by decide +kernel
theorem dX1_setRtt_30 : decode cX1_setRtt 30 = .ok (.aload_n 0, 1) := by decide +kernel
theorem dX1_setRtt_31 : decode cX1_setRtt 31 = .ok (.getfield 10, 3) := by decide +kernel
theorem dX1_setRtt_34 : decode cX1_setRtt 34 = .ok (.iload_n 1, 1) := by decide +kernel
theorem dX1_setRtt_35 : decode cX1_setRtt 35 = .ok (.iload_n 2, 1) := by decide +kernel
theorem dX1_setRtt_36 : decode cX1_setRtt 36 = .ok (.invokevirtual 37, 3) := by decide +kernel
theorem dX1_setRtt_39 : decode cX1_setRtt 39 = .ok (.istore 5, 2) := by decide +kernel
theorem dX1_setRtt_41 : decode cX1_setRtt 41 = .ok (.aload_n 0, 1) := by decide +kernel
theorem dX1_setRtt_42 : decode cX1_setRtt 42 = .ok (.getfield 10, 3) := by decide +kernel
theorem dX1_setRtt_45 : decode cX1_setRtt 45 = .ok (.iload_n 1, 1) := by decide +kernel
theorem dX1_setRtt_46 : decode cX1_setRtt 46 = .ok (.iload_n 2, 1) := by decide +kernel
theorem dX1_setRtt_47 : decode cX1_setRtt 47 = .ok (.iload_n 3, 1) := by decide +kernel
theorem dX1_setRtt_48 : decode cX1_setRtt 48 = .ok (.invokevirtual 40, 3) := by decide +kernel
theorem dX1_setRtt_51 : decode cX1_setRtt 51 = .ok (.iload 5, 2) := by decide +kernel
theorem dX1_setRtt_53 : decode cX1_setRtt 53 = .ok (.ireturn, 1) := by decide +kernel
set_option maxRecDepth 20000 in
theorem ggX1_rtt_X1_knownPairFault : GoodIn wsX1_rtt wsX1_knownPairFault := goodIn_r _ [6, 1, 7, 8, 9, 10, 5, 11, 12, 13, 14, 15, 16, 17, 18, 19, 20, 21, 22, 23, 24, 25, 26, 27, 28, 29, 30, 32, 33, 34, 35, 36, 37, 38, 39, 40, 41, 42, 43, 44] (by decide +kernel) (by decide +kernel)
set_option maxRecDepth 20000 in
theorem gX1_rtt_X1_knownPairFault : GoodIn wsX1_rtt (wsV RX1 44 RX1 yX1_knownPairFault wsX1_knownPairFault) := goodIn_app (goodIn_of _ (by decide +kernel)) ggX1_rtt_X1_knownPairFault
set_option maxRecDepth 20000 in
theorem ggX1_rtt_X0_rttOf : GoodIn wsX1_rtt wsX0_rttOf := goodIn_r _ [29, 30, 34, 35, 36, 37, 38, 39, 40, 41, 42, 43, 44] (by decide +kernel) (by decide +kernel)
set_option maxRecDepth 20000 in
theorem gX1_rtt_X0_rttOf : GoodIn wsX1_rtt (wsV RX1 37 RX0 yX0_rttOf wsX0_rttOf) := goodIn_app (goodIn_of _ (by decide +kernel)) ggX1_rtt_X0_rttOf
theorem dX1_rtt_0 : decode cX1_rtt 0 = .ok (.aload_n 0, 1) := by decide +kernel
theorem dX1_rtt_1 : decode cX1_rtt 1 = .ok (.iload_n 1, 1) := by decide +kernel
theorem dX1_rtt_2 : decode cX1_rtt 2 = .ok (.iload_n 2, 1) := by decide +kernel
theorem dX1_rtt_3 : decode cX1_rtt 3 = .ok (.invokevirtual 44, 3) := by decide +kernel
theorem dX1_rtt_6 : decode cX1_rtt 6 = .ok (.istore_n 3, 1) := by decide +kernel
theorem dX1_rtt_7 : decode cX1_rtt 7 = .ok (.iload_n 3, 1) := by decide +kernel
theorem dX1_rtt_8 : decode cX1_rtt 8 = .ok (.ifCond .eq 7, 3) := by decide +kernel
theorem dX1_rtt_11 : decode cX1_rtt 11 = .ok (.iload_n 3, 1) := by decide +kernel
theorem dX1_rtt_12 : decode cX1_rtt 12 = .ok (.goto 12, 3) := by decide +kernel
theorem dX1_rtt_15 : decode cX1_rtt 15 = .ok (.aload_n 0, 1) := by decide +kernel
theorem dX1_rtt_16 : decode cX1_rtt 16 = .ok (.getfield 10, 3) := by decide +kernel
theorem dX1_rtt_19 : decode cX1_rtt 19 = .ok (.iload_n 1, 1) := by decide +kernel
theorem dX1_rtt_20 : decode cX1_rtt 20 = .ok (.iload_n 2, 1) := by decide +kernel
theorem dX1_rtt_21 : decode cX1_rtt 21 = .ok (.invokevirtual 37, 3) := by decide +kernel
theorem dX1_rtt_24 : decode cX1_rtt 24 = .ok (.ireturn, 1) := by decide +kernel
set_option maxRecDepth 20000 in
theorem ggX1_setLie_X1_isNode : GoodIn wsX1_setLie wsX1_isNode := goodIn_r _ [8, 3, 9, 10, 7, 11, 12, 13, 14, 15, 16, 17, 18, 19, 20, 21, 22, 23, 24] (by decide +kernel) (by decide +kernel)
set_option maxRecDepth 20000 in
theorem gX1_setLie_X1_isNode : GoodIn wsX1_setLie (wsV RX1 47 RX1 yX1_isNode wsX1_isNode) := goodIn_app (goodIn_of _ (by decide +kernel)) ggX1_setLie_X1_isNode
set_option maxRecDepth 20000 in
theorem ggX1_setLie_X1_isWithin : GoodIn wsX1_setLie wsX1_isWithin := goodIn_r _ [11] (by decide +kernel) (by decide +kernel)
set_option maxRecDepth 20000 in
theorem gX1_setLie_X1_isWithin : GoodIn wsX1_setLie (va_wsS RX1 20 yX1_isWithin wsX1_isWithin) := goodIn_app (goodIn_of _ (by decide +kernel)) ggX1_setLie_X1_isWithin
theorem dX1_setLie_0 : decode cX1_setLie 0 = .ok (.aload_n 0, 1) := by decide +kernel
theorem dX1_setLie_1 : decode cX1_setLie 1 = .ok (.iload_n 1, 1) := by decide +kernel
theorem dX1_setLie_2 : decode cX1_setLie 2 = .ok (.invokevirtual 47, 3) := by decide +kernel
theorem dX1_setLie_5 : decode cX1_setLie 5 = .ok (.ifCond .ne 6, 3) := by decide +kernel
theorem dX1_setLie_8 : decode cX1_setLie 8 = .ok (.ldc 51, 2) := by decide +kernel
theorem dX1_setLie_10 : decode cX1_setLie 10 = .ok (.ireturn, 1) := by decide +kernel
theorem dX1_setLie_11 : decode cX1_setLie 11 = .ok (.iload_n 2, 1) := by decide +kernel
theorem dX1_setLie_12 : decode cX1_setLie 12 = .ok (.iconst 0, 1) := by decide +kernel
theorem dX1_setLie_13 : decode cX1_setLie 13 = .ok (.sipush 20000, 3) := by decide +kernel
theorem dX1_setLie_16 : decode cX1_setLie 16 = .ok (.invokestatic 20, 3) := by decide +kernel
theorem dX1_setLie_19 : decode cX1_setLie 19 = .ok (.ifCond .ne 6, 3) := by decide +kernel
theorem dX1_setLie_22 : decode cX1_setLie 22 = .ok (.ldc 24, 2) := by decide +kernel
theorem dX1_setLie_24 : decode cX1_setLie 24 = .ok (.ireturn, 1) := by decide +kernel
theorem dX1_setLie_25 : decode cX1_setLie 25 = .ok (.aload_n 0, 1) := by decide +kernel
theorem dX1_setLie_26 : decode cX1_setLie 26 = .ok (.getfield 10, 3) := by decide +kernel
theorem dX1_setLie_29 : decode cX1_setLie 29 = .ok (.getfield 52, 3) := by decide +kernel
theorem dX1_setLie_32 : decode cX1_setLie 32 = .ok (.iload_n 1, 1) := by decide +kernel
theorem dX1_setLie_33 : decode cX1_setLie 33 = .ok (.iaload, 1) := by decide +kernel
theorem dX1_setLie_34 : decode cX1_setLie 34 = .ok (.istore_n 3, 1) := by decide +kernel
theorem dX1_setLie_35 : decode cX1_setLie 35 = .ok (.aload_n 0, 1) := by decide +kernel
theorem dX1_setLie_36 : decode cX1_setLie 36 = .ok (.getfield 10, 3) := by decide +kernel
theorem dX1_setLie_39 : decode cX1_setLie 39 = .ok (.getfield 52, 3) := by decide +kernel
theorem dX1_setLie_42 : decode cX1_setLie 42 = .ok (.iload_n 1, 1) := by decide +kernel
theorem dX1_setLie_43 : decode cX1_setLie 43 = .ok (.iload_n 2, 1) := by decide +kernel
theorem dX1_setLie_44 : decode cX1_setLie 44 = .ok (.iastore, 1) := by decide +kernel
theorem dX1_setLie_45 : decode cX1_setLie 45 = .ok (.iload_n 3, 1) := by decide +kernel
theorem dX1_setLie_46 : decode cX1_setLie 46 = .ok (.ireturn, 1) := by decide +kernel
set_option maxRecDepth 20000 in
theorem ggX1_setGains_X1_isWithin : GoodIn wsX1_setGains wsX1_isWithin := goodIn_r _ [6] (by decide +kernel) (by decide +kernel)
set_option maxRecDepth 20000 in
theorem gX1_setGains_X1_isWithin : GoodIn wsX1_setGains (va_wsS RX1 20 yX1_isWithin wsX1_isWithin) := goodIn_app (goodIn_of _ (by decide +kernel)) ggX1_setGains_X1_isWithin
theorem dX1_setGains_0 : decode cX1_setGains 0 = .ok (.iload_n 1, 1) := by decide +kernel
theorem dX1_setGains_1 : decode cX1_setGains 1 = .ok (.iconst 1, 1) := by decide +kernel
theorem dX1_setGains_2 : decode cX1_setGains 2 = .ok (.sipush 1000, 3) := by decide +kernel
theorem dX1_setGains_5 : decode cX1_setGains 5 = .ok (.invokestatic 20, 3) := by decide +kernel
theorem dX1_setGains_8 : decode cX1_setGains 8 = .ok (.ifCond .eq 14, 3) := by decide +kernel
theorem dX1_setGains_11 : decode cX1_setGains 11 = .ok (.iload_n 2, 1) := by decide +kernel
theorem dX1_setGains_12 : decode cX1_setGains 12 = .ok (.iconst 1, 1) := by decide +kernel
theorem dX1_setGains_13 : decode cX1_setGains 13 = .ok (.sipush 1000, 3) := by decide +kernel
theorem dX1_setGains_16 : decode cX1_setGains 16 = .ok (.invokestatic 20, 3) := by decide +kernel
theorem dX1_setGains_19 : decode cX1_setGains 19 = .ok (.ifCond .ne 6, 3) := by decide +kernel
theorem dX1_setGains_22 : decode cX1_setGains 22 = .ok (.ldc 24, 2) := by decide +kernel
theorem dX1_setGains_24 : decode cX1_setGains 24 = .ok (.ireturn, 1) := by decide +kernel
theorem dX1_setGains_25 : decode cX1_setGains 25 = .ok (.sipush 10000, 3) := by decide +kernel
theorem dX1_setGains_28 : decode cX1_setGains 28 = .ok (.aload_n 0, 1) := by decide +kernel
theorem dX1_setGains_29 : decode cX1_setGains 29 = .ok (.getfield 10, 3) := by decide +kernel
theorem dX1_setGains_32 : decode cX1_setGains 32 = .ok (.getfield 56, 3) := by decide +kernel
theorem dX1_setGains_35 : decode cX1_setGains 35 = .ok (.imul, 1) := by decide +kernel
theorem dX1_setGains_36 : decode cX1_setGains 36 = .ok (.aload_n 0, 1) := by decide +kernel
theorem dX1_setGains_37 : decode cX1_setGains 37 = .ok (.getfield 10, 3) := by decide +kernel
theorem dX1_setGains_40 : decode cX1_setGains 40 = .ok (.getfield 59, 3) := by decide +kernel
theorem dX1_setGains_43 : decode cX1_setGains 43 = .ok (.iadd, 1) := by decide +kernel
theorem dX1_setGains_44 : decode cX1_setGains 44 = .ok (.istore_n 3, 1) := by decide +kernel
theorem dX1_setGains_45 : decode cX1_setGains 45 = .ok (.aload_n 0, 1) := by decide +kernel
theorem dX1_setGains_46 : decode cX1_setGains 46 = .ok (.getfield 10, 3) := by decide +kernel
theorem dX1_setGains_49 : decode cX1_setGains 49 = .ok (.iload_n 1, 1) := by decide +kernel
theorem dX1_setGains_50 : decode cX1_setGains 50 = .ok (.putfield 56, 3) := by decide +kernel
theorem dX1_setGains_53 : decode cX1_setGains 53 = .ok (.aload_n 0, 1) := by decide +kernel
theorem dX1_setGains_54 : decode cX1_setGains 54 = .ok (.getfield 10, 3) := by decide +kernel
theorem dX1_setGains_57 : decode cX1_setGains 57 = .ok (.iload_n 2, 1) := by decide +kernel
theorem dX1_setGains_58 : decode cX1_setGains 58 = .ok (.putfield 59, 3) := by decide +kernel
theorem dX1_setGains_61 : decode cX1_setGains 61 = .ok (.iload_n 3, 1) := by decide +kernel
theorem dX1_setGains_62 : decode cX1_setGains 62 = .ok (.ireturn, 1) := by decide +kernel
set_option maxRecDepth 20000 in
theorem ggX1_setMaxStep_X1_isWithin : GoodIn wsX1_setMaxStep wsX1_isWithin := goodIn_r _ [6] (by decide +kernel) (by decide +kernel)
set_option maxRecDepth 20000 in
theorem gX1_setMaxStep_X1_isWithin : GoodIn wsX1_setMaxStep (va_wsS RX1 20 yX1_isWithin wsX1_isWithin) := goodIn_app (goodIn_of _ (by decide +kernel)) ggX1_setMaxStep_X1_isWithin
theorem dX1_setMaxStep_0 : decode cX1_setMaxStep 0 = .ok (.iload_n 1, 1) := by decide +kernel
theorem dX1_setMaxStep_1 : decode cX1_setMaxStep 1 = .ok (.iconst 1, 1) := by decide +kernel
theorem dX1_setMaxStep_2 : decode cX1_setMaxStep 2 = .ok (.sipush 20000, 3) := by decide +kernel
theorem dX1_setMaxStep_5 : decode cX1_setMaxStep 5 = .ok (.invokestatic 20, 3) := by decide +kernel
theorem dX1_setMaxStep_8 : decode cX1_setMaxStep 8 = .ok (.ifCond .ne 6, 3) := by decide +kernel
theorem dX1_setMaxStep_11 : decode cX1_setMaxStep 11 = .ok (.ldc 24, 2) := by decide +kernel
theorem dX1_setMaxStep_13 : decode cX1_setMaxStep 13 = .ok (.ireturn, 1) := by decide +kernel
theorem dX1_setMaxStep_14 : decode cX1_setMaxStep 14 = .ok (.aload_n 0, 1) := by decide +kernel
theorem dX1_setMaxStep_15 : decode cX1_setMaxStep 15 = .ok (.getfield 10, 3) := by decide +kernel
theorem dX1_setMaxStep_18 : decode cX1_setMaxStep 18 = .ok (.getfield 62, 3) := by decide +kernel
theorem dX1_setMaxStep_21 : decode cX1_setMaxStep 21 = .ok (.istore_n 2, 1) := by decide +kernel
theorem dX1_setMaxStep_22 : decode cX1_setMaxStep 22 = .ok (.aload_n 0, 1) := by decide +kernel
theorem dX1_setMaxStep_23 : decode cX1_setMaxStep 23 = .ok (.getfield 10, 3) := by decide +kernel
theorem dX1_setMaxStep_26 : decode cX1_setMaxStep 26 = .ok (.iload_n 1, 1) := by decide +kernel
theorem dX1_setMaxStep_27 : decode cX1_setMaxStep 27 = .ok (.putfield 62, 3) := by decide +kernel
theorem dX1_setMaxStep_30 : decode cX1_setMaxStep 30 = .ok (.iload_n 2, 1) := by decide +kernel
theorem dX1_setMaxStep_31 : decode cX1_setMaxStep 31 = .ok (.ireturn, 1) := by decide +kernel
set_option maxRecDepth 20000 in
theorem ggX1_place_X1_isNode : GoodIn wsX1_place wsX1_isNode := goodIn_r _ [10, 5, 11, 12, 9, 13, 23, 24, 25, 26, 27, 28, 29, 30, 31, 32, 33, 34, 35] (by decide +kernel) (by decide +kernel)
set_option maxRecDepth 20000 in
theorem gX1_place_X1_isNode : GoodIn wsX1_place (wsV RX1 47 RX1 yX1_isNode wsX1_isNode) := goodIn_app (goodIn_of _ (by decide +kernel)) ggX1_place_X1_isNode
set_option maxRecDepth 20000 in
theorem ggX1_place_X1_isWithin : GoodIn wsX1_place wsX1_isWithin := goodIn_r _ [13] (by decide +kernel) (by decide +kernel)
set_option maxRecDepth 20000 in
theorem gX1_place_X1_isWithin : GoodIn wsX1_place (va_wsS RX1 20 yX1_isWithin wsX1_isWithin) := goodIn_app (goodIn_of _ (by decide +kernel)) ggX1_place_X1_isWithin
set_option maxRecDepth 20000 in
theorem ggX1_place_X0_settle : GoodIn wsX1_place wsX0_settle := goodIn_r _ [18, 19, 20, 21, 22, 25, 26, 27, 28, 29, 30, 31, 32, 33, 34, 35] (by decide +kernel) (by decide +kernel)
set_option maxRecDepth 20000 in
theorem gX1_place_X0_settle : GoodIn wsX1_place (wsV RX1 70 RX0 yX0_settle wsX0_settle) := goodIn_app (goodIn_of _ (by decide +kernel)) ggX1_place_X0_settle
theorem dX1_place_0 : decode cX1_place 0 = .ok (.aload_n 0, 1) := by decide +kernel
theorem dX1_place_1 : decode cX1_place 1 = .ok (.iload_n 1, 1) := by decide +kernel
theorem dX1_place_2 : decode cX1_place 2 = .ok (.invokevirtual 47, 3) := by decide +kernel
theorem dX1_place_5 : decode cX1_place 5 = .ok (.ifCond .ne 6, 3) := by decide +kernel
theorem dX1_place_8 : decode cX1_place 8 = .ok (.ldc 51, 2) := by decide +kernel
theorem dX1_place_10 : decode cX1_place 10 = .ok (.ireturn, 1) := by decide +kernel
theorem dX1_place_11 : decode cX1_place 11 = .ok (.iload_n 2, 1) := by decide +kernel
theorem dX1_place_12 : decode cX1_place 12 = .ok (.ldc 65, 2) := by decide +kernel
theorem dX1_place_14 : decode cX1_place 14 = .ok (.ldc 66, 2) := by decide +kernel
theorem dX1_place_16 : decode cX1_place 16 = .ok (.invokestatic 20, 3) := by decide +kernel
theorem dX1_place_19 : decode cX1_place 19 = .ok (.ifCond .eq 25, 3) := by decide +kernel
theorem dX1_place_22 : decode cX1_place 22 = .ok (.iload_n 3, 1) := by decide +kernel
theorem dX1_place_23 : decode cX1_place 23 = .ok (.ldc 65, 2) := by decide +kernel
theorem dX1_place_25 : decode cX1_place 25 = .ok (.ldc 66, 2) := by decide +kernel
theorem dX1_place_27 : decode cX1_place 27 = .ok (.invokestatic 20, 3) := by decide +kernel
theorem dX1_place_30 : decode cX1_place 30 = .ok (.ifCond .eq 14, 3) := by decide +kernel
theorem dX1_place_33 : decode cX1_place 33 = .ok (.iload 4, 2) := by decide +kernel
theorem dX1_place_35 : decode cX1_place 35 = .ok (.iconst 0, 1) := by decide +kernel
theorem dX1_place_36 : decode cX1_place 36 = .ok (.ldc 66, 2) := by decide +kernel
theorem dX1_place_38 : decode cX1_place 38 = .ok (.invokestatic 20, 3) := by decide +kernel
theorem dX1_place_41 : decode cX1_place 41 = .ok (.ifCond .ne 6, 3) := by decide +kernel
theorem dX1_place_44 : decode cX1_place 44 = .ok (.ldc 24, 2) := by decide +kernel
theorem dX1_place_46 : decode cX1_place 46 = .ok (.ireturn, 1) := by decide +kernel
theorem dX1_place_47 : decode cX1_place 47 = .ok (.aload_n 0, 1) := by decide +kernel
theorem dX1_place_48 : decode cX1_place 48 = .ok (.getfield 10, 3) := by decide +kernel
theorem dX1_place_51 : decode cX1_place 51 = .ok (.getfield 67, 3) := by decide +kernel
theorem dX1_place_54 : decode cX1_place 54 = .ok (.iload_n 1, 1) := by decide +kernel
theorem dX1_place_55 : decode cX1_place 55 = .ok (.iaload, 1) := by decide +kernel
theorem dX1_place_56 : decode cX1_place 56 = .ok (.istore 5, 2) := by decide +kernel
theorem dX1_place_58 : decode cX1_place 58 = .ok (.aload_n 0, 1) := by decide +kernel
theorem dX1_place_59 : decode cX1_place 59 = .ok (.getfield 10, 3) := by decide +kernel
theorem dX1_place_62 : decode cX1_place 62 = .ok (.iload_n 1, 1) := by decide +kernel
theorem dX1_place_63 : decode cX1_place 63 = .ok (.iload_n 2, 1) := by decide +kernel
theorem dX1_place_64 : decode cX1_place 64 = .ok (.iload_n 3, 1) := by decide +kernel
theorem dX1_place_65 : decode cX1_place 65 = .ok (.iload 4, 2) := by decide +kernel
theorem dX1_place_67 : decode cX1_place 67 = .ok (.sipush 1000, 3) := by decide +kernel
theorem dX1_place_70 : decode cX1_place 70 = .ok (.invokevirtual 70, 3) := by decide +kernel
theorem dX1_place_73 : decode cX1_place 73 = .ok (.iload 5, 2) := by decide +kernel
theorem dX1_place_75 : decode cX1_place 75 = .ok (.ireturn, 1) := by decide +kernel
set_option maxRecDepth 20000 in
theorem ggX1_x_X1_isNode : GoodIn wsX1_x wsX1_isNode := goodIn_r _ [7, 1, 8, 9, 6, 10, 11, 12, 13, 14, 15, 16, 17, 18, 19, 20, 21, 22, 23] (by decide +kernel) (by decide +kernel)
set_option maxRecDepth 20000 in
theorem gX1_x_X1_isNode : GoodIn wsX1_x (wsV RX1 47 RX1 yX1_isNode wsX1_isNode) := goodIn_app (goodIn_of _ (by decide +kernel)) ggX1_x_X1_isNode
theorem dX1_x_0 : decode cX1_x 0 = .ok (.aload_n 0, 1) := by decide +kernel
theorem dX1_x_1 : decode cX1_x 1 = .ok (.iload_n 1, 1) := by decide +kernel
theorem dX1_x_2 : decode cX1_x 2 = .ok (.invokevirtual 47, 3) := by decide +kernel
theorem dX1_x_5 : decode cX1_x 5 = .ok (.ifCond .eq 15, 3) := by decide +kernel
theorem dX1_x_8 : decode cX1_x 8 = .ok (.aload_n 0, 1) := by decide +kernel
theorem dX1_x_9 : decode cX1_x 9 = .ok (.getfield 10, 3) := by decide +kernel
theorem dX1_x_12 : decode cX1_x 12 = .ok (.getfield 74, 3) := by decide +kernel
theorem dX1_x_15 : decode cX1_x 15 = .ok (.iload_n 1, 1) := by decide +kernel
theorem dX1_x_16 : decode cX1_x 16 = .ok (.iaload, 1) := by decide +kernel
theorem dX1_x_17 : decode cX1_x 17 = .ok (.goto 5, 3) := by decide +kernel
theorem dX1_x_20 : decode cX1_x 20 = .ok (.ldc 51, 2) := by decide +kernel
theorem dX1_x_22 : decode cX1_x 22 = .ok (.ireturn, 1) := by decide +kernel
set_option maxRecDepth 20000 in
theorem ggX1_y_X1_isNode : GoodIn wsX1_y wsX1_isNode := goodIn_r _ [7, 1, 8, 9, 6, 10, 11, 12, 13, 14, 15, 16, 17, 18, 19, 20, 21, 22, 23] (by decide +kernel) (by decide +kernel)
set_option maxRecDepth 20000 in
theorem gX1_y_X1_isNode : GoodIn wsX1_y (wsV RX1 47 RX1 yX1_isNode wsX1_isNode) := goodIn_app (goodIn_of _ (by decide +kernel)) ggX1_y_X1_isNode
theorem dX1_y_0 : decode cX1_y 0 = .ok (.aload_n 0, 1) := by decide +kernel
theorem dX1_y_1 : decode cX1_y 1 = .ok (.iload_n 1, 1) := by decide +kernel
theorem dX1_y_2 : decode cX1_y 2 = .ok (.invokevirtual 47, 3) := by decide +kernel
theorem dX1_y_5 : decode cX1_y 5 = .ok (.ifCond .eq 15, 3) := by decide +kernel
theorem dX1_y_8 : decode cX1_y 8 = .ok (.aload_n 0, 1) := by decide +kernel
theorem dX1_y_9 : decode cX1_y 9 = .ok (.getfield 10, 3) := by decide +kernel
theorem dX1_y_12 : decode cX1_y 12 = .ok (.getfield 77, 3) := by decide +kernel
theorem dX1_y_15 : decode cX1_y 15 = .ok (.iload_n 1, 1) := by decide +kernel
theorem dX1_y_16 : decode cX1_y 16 = .ok (.iaload, 1) := by decide +kernel
theorem dX1_y_17 : decode cX1_y 17 = .ok (.goto 5, 3) := by decide +kernel
theorem dX1_y_20 : decode cX1_y 20 = .ok (.ldc 51, 2) := by decide +kernel
theorem dX1_y_22 : decode cX1_y 22 = .ok (.ireturn, 1) := by decide +kernel
set_option maxRecDepth 20000 in
theorem ggX1_height_X1_isNode : GoodIn wsX1_height wsX1_isNode := goodIn_r _ [7, 1, 8, 9, 6, 10, 11, 12, 13, 14, 15, 16, 17, 18, 19, 20, 21, 22, 23] (by decide +kernel) (by decide +kernel)
set_option maxRecDepth 20000 in
theorem gX1_height_X1_isNode : GoodIn wsX1_height (wsV RX1 47 RX1 yX1_isNode wsX1_isNode) := goodIn_app (goodIn_of _ (by decide +kernel)) ggX1_height_X1_isNode
theorem dX1_height_0 : decode cX1_height 0 = .ok (.aload_n 0, 1) := by decide +kernel
theorem dX1_height_1 : decode cX1_height 1 = .ok (.iload_n 1, 1) := by decide +kernel
theorem dX1_height_2 : decode cX1_height 2 = .ok (.invokevirtual 47, 3) := by decide +kernel
theorem dX1_height_5 : decode cX1_height 5 = .ok (.ifCond .eq 15, 3) := by decide +kernel
theorem dX1_height_8 : decode cX1_height 8 = .ok (.aload_n 0, 1) := by decide +kernel
theorem dX1_height_9 : decode cX1_height 9 = .ok (.getfield 10, 3) := by decide +kernel
theorem dX1_height_12 : decode cX1_height 12 = .ok (.getfield 80, 3) := by decide +kernel
theorem dX1_height_15 : decode cX1_height 15 = .ok (.iload_n 1, 1) := by decide +kernel
theorem dX1_height_16 : decode cX1_height 16 = .ok (.iaload, 1) := by decide +kernel
theorem dX1_height_17 : decode cX1_height 17 = .ok (.goto 5, 3) := by decide +kernel
theorem dX1_height_20 : decode cX1_height 20 = .ok (.ldc 51, 2) := by decide +kernel
theorem dX1_height_22 : decode cX1_height 22 = .ok (.ireturn, 1) := by decide +kernel
set_option maxRecDepth 20000 in
theorem ggX1_error_X1_isNode : GoodIn wsX1_error wsX1_isNode := goodIn_r _ [7, 1, 8, 9, 6, 10, 11, 12, 13, 14, 15, 16, 17, 18, 19, 20, 21, 22, 23] (by decide +kernel) (by decide +kernel)
set_option maxRecDepth 20000 in
theorem gX1_error_X1_isNode : GoodIn wsX1_error (wsV RX1 47 RX1 yX1_isNode wsX1_isNode) := goodIn_app (goodIn_of _ (by decide +kernel)) ggX1_error_X1_isNode
theorem dX1_error_0 : decode cX1_error 0 = .ok (.aload_n 0, 1) := by decide +kernel
theorem dX1_error_1 : decode cX1_error 1 = .ok (.iload_n 1, 1) := by decide +kernel
theorem dX1_error_2 : decode cX1_error 2 = .ok (.invokevirtual 47, 3) := by decide +kernel
theorem dX1_error_5 : decode cX1_error 5 = .ok (.ifCond .eq 15, 3) := by decide +kernel
theorem dX1_error_8 : decode cX1_error 8 = .ok (.aload_n 0, 1) := by decide +kernel
theorem dX1_error_9 : decode cX1_error 9 = .ok (.getfield 10, 3) := by decide +kernel
theorem dX1_error_12 : decode cX1_error 12 = .ok (.getfield 67, 3) := by decide +kernel
theorem dX1_error_15 : decode cX1_error 15 = .ok (.iload_n 1, 1) := by decide +kernel
theorem dX1_error_16 : decode cX1_error 16 = .ok (.iaload, 1) := by decide +kernel
theorem dX1_error_17 : decode cX1_error 17 = .ok (.goto 5, 3) := by decide +kernel
theorem dX1_error_20 : decode cX1_error 20 = .ok (.ldc 51, 2) := by decide +kernel
theorem dX1_error_22 : decode cX1_error 22 = .ok (.ireturn, 1) := by decide +kernel
set_option maxRecDepth 20000 in
theorem ggX1_predict_X1_pairFault : GoodIn wsX1_predict wsX1_pairFault := goodIn_r _ [6, 7, 8, 9, 10, 11, 5, 12, 1, 13, 14, 15, 29, 30, 31, 32, 33, 34, 35, 36, 37, 38, 39, 40, 41] (by decide +kernel) (by decide +kernel)
set_option maxRecDepth 20000 in
theorem gX1_predict_X1_pairFault : GoodIn wsX1_predict (wsV RX1 33 RX1 yX1_pairFault wsX1_pairFault) := goodIn_app (goodIn_of _ (by decide +kernel)) ggX1_predict_X1_pairFault
set_option maxRecDepth 20000 in
theorem ggX1_predict_X0_predicted : GoodIn wsX1_predict wsX0_predicted := goodIn_r _ [20, 21, 22, 23, 24, 5, 25, 26, 27, 28, 31, 32, 33, 34, 35, 36, 37, 38, 39, 40, 41] (by decide +kernel) (by decide +kernel)
set_option maxRecDepth 20000 in
theorem gX1_predict_X0_predicted : GoodIn wsX1_predict (wsV RX1 83 RX0 yX0_predicted wsX0_predicted) := goodIn_app (goodIn_of _ (by decide +kernel)) ggX1_predict_X0_predicted
theorem dX1_predict_0 : decode cX1_predict 0 = .ok (.aload_n 0, 1) := by decide +kernel
theorem dX1_predict_1 : decode cX1_predict 1 = .ok (.iload_n 1, 1) := by decide +kernel
theorem dX1_predict_2 : decode cX1_predict 2 = .ok (.iload_n 2, 1) := by decide +kernel
theorem dX1_predict_3 : decode cX1_predict 3 = .ok (.invokevirtual 33, 3) := by decide +kernel
theorem dX1_predict_6 : decode cX1_predict 6 = .ok (.istore_n 3, 1) := by decide +kernel
theorem dX1_predict_7 : decode cX1_predict 7 = .ok (.iload_n 3, 1) := by decide +kernel
theorem dX1_predict_8 : decode cX1_predict 8 = .ok (.ifCond .eq 7, 3) := by decide +kernel
theorem dX1_predict_11 : decode cX1_predict 11 = .ok (.iload_n 3, 1) := by decide +kernel
theorem dX1_predict_12 : decode cX1_predict 12 = .ok (.goto 12, 3) := by decide +kernel
theorem dX1_predict_15 : decode cX1_predict 15 = .ok (.aload_n 0, 1) := by decide +kernel
theorem dX1_predict_16 : decode cX1_predict 16 = .ok (.getfield 10, 3) := by decide +kernel
theorem dX1_predict_19 : decode cX1_predict 19 = .ok (.iload_n 1, 1) := by decide +kernel
theorem dX1_predict_20 : decode cX1_predict 20 = .ok (.iload_n 2, 1) := by decide +kernel
theorem dX1_predict_21 : decode cX1_predict 21 = .ok (.invokevirtual 83, 3) := by decide +kernel
theorem dX1_predict_24 : decode cX1_predict 24 = .ok (.ireturn, 1) := by decide +kernel
set_option maxRecDepth 20000 in
theorem ggX1_measure_X1_knownPairFault : GoodIn wsX1_measure wsX1_knownPairFault := goodIn_r _ [6, 1, 7, 8, 9, 10, 5, 11, 12, 13, 14, 15, 16, 17, 18, 19, 20, 21, 22, 23, 24, 25, 26, 27, 28, 29, 30, 107, 108, 109, 110, 111, 112, 113, 114, 115, 116, 117, 118, 119] (by decide +kernel) (by decide +kernel)
set_option maxRecDepth 20000 in
theorem gX1_measure_X1_knownPairFault : GoodIn wsX1_measure (wsV RX1 44 RX1 yX1_knownPairFault wsX1_knownPairFault) := goodIn_app (goodIn_of _ (by decide +kernel)) ggX1_measure_X1_knownPairFault
set_option maxRecDepth 20000 in
theorem ggX1_measure_X0_update : GoodIn wsX1_measure wsX0_update := goodIn_r _ [34, 35, 36, 37, 24, 38, 39, 40, 41, 42, 5, 43, 44, 45, 46, 47, 48, 49, 50, 51, 52, 53, 54, 55, 56, 57, 58, 59, 60, 61, 62, 63, 64, 65, 26, 27, 28, 29, 30, 66, 67, 68, 69, 70, 71, 72, 73, 74, 75, 76, 77, 78, 79, 80, 81, 82, 83, 84, 85, 86, 87, 88, 89, 90, 91, 92, 93, 94, 95, 96, 97, 98, 99, 100, 101, 102, 103, 104, 105, 109, 110, 111, 112, 113, 114, 115, 116, 117, 118, 119] (by decide +kernel) (by decide +kernel)
set_option maxRecDepth 20000 in
theorem gX1_measure_X0_update : GoodIn wsX1_measure (wsV RX1 86 RX0 yX0_update wsX0_update) := goodIn_app (goodIn_of _ (by decide +kernel)) ggX1_measure_X0_update
set_option maxRecDepth 20000 in
theorem ggX1_measure_X0_sample : GoodIn wsX1_measure wsX0_sample := goodIn_r _ [64, 65, 26, 27, 28, 24, 29, 30, 109, 110, 111, 112, 113, 114, 115, 116, 117, 118, 119] (by decide +kernel) (by decide +kernel)
set_option maxRecDepth 20000 in
theorem gX1_measure_X0_sample : GoodIn wsX1_measure (wsV RX1 90 RX0 yX0_sample wsX0_sample) := goodIn_app (goodIn_of _ (by decide +kernel)) ggX1_measure_X0_sample
theorem dX1_measure_0 : decode cX1_measure 0 = .ok (.aload_n 0, 1) := by decide +kernel
theorem dX1_measure_1 : decode cX1_measure 1 = .ok (.iload_n 1, 1) := by decide +kernel
theorem dX1_measure_2 : decode cX1_measure 2 = .ok (.iload_n 2, 1) := by decide +kernel
theorem dX1_measure_3 : decode cX1_measure 3 = .ok (.invokevirtual 44, 3) := by decide +kernel
theorem dX1_measure_6 : decode cX1_measure 6 = .ok (.istore_n 3, 1) := by decide +kernel
theorem dX1_measure_7 : decode cX1_measure 7 = .ok (.iload_n 3, 1) := by decide +kernel
theorem dX1_measure_8 : decode cX1_measure 8 = .ok (.ifCond .eq 5, 3) := by decide +kernel
theorem dX1_measure_11 : decode cX1_measure 11 = .ok (.iload_n 3, 1) := by decide +kernel
theorem dX1_measure_12 : decode cX1_measure 12 = .ok (.ireturn, 1) := by decide +kernel
theorem dX1_measure_13 : decode cX1_measure 13 = .ok (.aload_n 0, 1) := by decide +kernel
theorem dX1_measure_14 : decode cX1_measure 14 = .ok (.getfield 10, 3) := by decide +kernel
theorem dX1_measure_17 : decode cX1_measure 17 = .ok (.iload_n 1, 1) := by decide +kernel
theorem dX1_measure_18 : decode cX1_measure 18 = .ok (.iload_n 2, 1) := by decide +kernel
theorem dX1_measure_19 : decode cX1_measure 19 = .ok (.invokevirtual 86, 3) := by decide +kernel
theorem dX1_measure_22 : decode cX1_measure 22 = .ok (.aload_n 0, 1) := by decide +kernel
theorem dX1_measure_23 : decode cX1_measure 23 = .ok (.getfield 10, 3) := by decide +kernel
theorem dX1_measure_26 : decode cX1_measure 26 = .ok (.iload_n 1, 1) := by decide +kernel
theorem dX1_measure_27 : decode cX1_measure 27 = .ok (.iload_n 2, 1) := by decide +kernel
theorem dX1_measure_28 : decode cX1_measure 28 = .ok (.invokevirtual 90, 3) := by decide +kernel
theorem dX1_measure_31 : decode cX1_measure 31 = .ok (.ireturn, 1) := by decide +kernel
set_option maxRecDepth 20000 in
theorem ggX1_run_X1_isWithin : GoodIn wsX1_run wsX1_isWithin := goodIn_r _ [6] (by decide +kernel) (by decide +kernel)
set_option maxRecDepth 20000 in
theorem gX1_run_X1_isWithin : GoodIn wsX1_run (va_wsS RX1 20 yX1_isWithin wsX1_isWithin) := goodIn_app (goodIn_of _ (by decide +kernel)) ggX1_run_X1_isWithin
set_option maxRecDepth 20000 in
theorem ggX1_run_X0_playRound : GoodIn wsX1_run wsX0_playRound := goodIn_r _ [11, 12, 13, 14, 15, 16, 17, 18, 19, 20, 10, 21, 22, 23, 24, 25, 26, 27, 28, 29, 30, 31, 32, 33, 34, 35, 36, 37, 38, 5, 39, 40, 41, 42, 43, 44, 45, 46, 47, 48, 49, 50, 51, 52, 53, 54, 55, 56, 57, 58, 59, 60, 61, 62, 63, 64, 65, 66, 67, 68, 69, 70, 71, 72, 73, 74, 75, 76, 77, 78, 79, 80, 81, 82, 83, 84, 85, 86, 87, 88, 89, 90, 91, 92, 93, 94, 95, 96, 97, 98, 99, 100, 101, 104, 105, 106, 107, 108, 109, 110, 111, 112, 113, 114] (by decide +kernel) (by decide +kernel)
set_option maxRecDepth 20000 in
theorem gX1_run_X0_playRound : GoodIn wsX1_run (wsV RX1 93 RX0 yX0_playRound wsX0_playRound) := goodIn_app (goodIn_of _ (by decide +kernel)) ggX1_run_X0_playRound
theorem dX1_run_0 : decode cX1_run 0 = .ok (.iload_n 1, 1) := by decide +kernel
theorem dX1_run_1 : decode cX1_run 1 = .ok (.iconst 1, 1) := by decide +kernel
theorem dX1_run_2 : decode cX1_run 2 = .ok (.bipush 100, 2) := by decide +kernel
theorem dX1_run_4 : decode cX1_run 4 = .ok (.invokestatic 20, 3) := by decide +kernel
theorem dX1_run_7 : decode cX1_run 7 = .ok (.ifCond .ne 6, 3) := by decide +kernel
theorem dX1_run_10 : decode cX1_run 10 = .ok (.ldc 24, 2) := by decide +kernel
theorem dX1_run_12 : decode cX1_run 12 = .ok (.ireturn, 1) := by decide +kernel
theorem dX1_run_13 : decode cX1_run 13 = .ok (.iconst 0, 1) := by decide +kernel
theorem dX1_run_14 : decode cX1_run 14 = .ok (.istore_n 2, 1) := by decide +kernel
theorem dX1_run_15 : decode cX1_run 15 = .ok (.iconst 0, 1) := by decide +kernel
theorem dX1_run_16 : decode cX1_run 16 = .ok (.istore_n 3, 1) := by decide +kernel
theorem dX1_run_17 : decode cX1_run 17 = .ok (.iload_n 3, 1) := by decide +kernel
theorem dX1_run_18 : decode cX1_run 18 = .ok (.iload_n 1, 1) := by decide +kernel
theorem dX1_run_19 : decode cX1_run 19 = .ok (.if_icmp .ge 19, 3) := by decide +kernel
theorem dX1_run_22 : decode cX1_run 22 = .ok (.iload_n 2, 1) := by decide +kernel
theorem dX1_run_23 : decode cX1_run 23 = .ok (.aload_n 0, 1) := by decide +kernel
theorem dX1_run_24 : decode cX1_run 24 = .ok (.getfield 10, 3) := by decide +kernel
theorem dX1_run_27 : decode cX1_run 27 = .ok (.invokevirtual 93, 3) := by decide +kernel
theorem dX1_run_30 : decode cX1_run 30 = .ok (.iadd, 1) := by decide +kernel
theorem dX1_run_31 : decode cX1_run 31 = .ok (.istore_n 2, 1) := by decide +kernel
theorem dX1_run_32 : decode cX1_run 32 = .ok (.iinc 3 1, 3) := by decide +kernel
theorem dX1_run_35 : decode cX1_run 35 = .ok (.goto (-18), 3) := by decide +kernel
theorem dX1_run_38 : decode cX1_run 38 = .ok (.iload_n 2, 1) := by decide +kernel
theorem dX1_run_39 : decode cX1_run 39 = .ok (.ireturn, 1) := by decide +kernel
theorem dX1_roundCounter_0 : decode cX1_roundCounter 0 = .ok (.aload_n 0, 1) := by decide +kernel
theorem dX1_roundCounter_1 : decode cX1_roundCounter 1 = .ok (.getfield 10, 3) := by decide +kernel
theorem dX1_roundCounter_4 : decode cX1_roundCounter 4 = .ok (.getfield 97, 3) := by decide +kernel
theorem dX1_roundCounter_7 : decode cX1_roundCounter 7 = .ok (.ireturn, 1) := by decide +kernel
set_option maxRecDepth 20000 in
theorem ggX1_meanError_X0_isKnown : GoodIn wsX1_meanError wsX0_isKnown := goodIn_r _ [7, 8, 9, 10, 6, 11, 12, 40, 41, 42, 43, 44, 45, 46, 47, 48, 49, 50] (by decide +kernel) (by decide +kernel)
set_option maxRecDepth 20000 in
theorem gX1_meanError_X0_isKnown : GoodIn wsX1_meanError (wsV RX1 100 RX0 yX0_isKnown wsX0_isKnown) := goodIn_app (goodIn_of _ (by decide +kernel)) ggX1_meanError_X0_isKnown
set_option maxRecDepth 20000 in
theorem ggX1_meanError_X0_relative : GoodIn wsX1_meanError wsX0_relative := goodIn_r _ [16, 17, 18, 19, 20, 21, 8, 9, 10, 6, 11, 12, 22, 23, 24, 25, 26, 27, 28, 29, 30, 31, 32, 33, 34, 35, 36, 40, 41, 42, 43, 44, 45, 46, 47, 48, 49, 50] (by decide +kernel) (by decide +kernel)
set_option maxRecDepth 20000 in
theorem gX1_meanError_X0_relative : GoodIn wsX1_meanError (wsV RX1 104 RX0 yX0_relative wsX0_relative) := goodIn_app (goodIn_of _ (by decide +kernel)) ggX1_meanError_X0_relative
set_option maxRecDepth 20000 in
theorem ggX1_meanError_X1_quotient : GoodIn wsX1_meanError wsX1_quotient := goodIn_r _ [36] (by decide +kernel) (by decide +kernel)
set_option maxRecDepth 20000 in
theorem gX1_meanError_X1_quotient : GoodIn wsX1_meanError (va_wsS RX1 108 yX1_quotient wsX1_quotient) := goodIn_app (goodIn_of _ (by decide +kernel)) ggX1_meanError_X1_quotient
theorem dX1_meanError_0 : decode cX1_meanError 0 = .ok (.lconst 0, 1) := by decide +kernel
theorem dX1_meanError_1 : decode cX1_meanError 1 = .ok (.lstore_n 1, 1) := by decide +kernel
theorem dX1_meanError_2 : decode cX1_meanError 2 = .ok (.iconst 0, 1) := by decide +kernel
theorem dX1_meanError_3 : decode cX1_meanError 3 = .ok (.istore_n 3, 1) := by decide +kernel
theorem dX1_meanError_4 : decode cX1_meanError 4 = .ok (.iconst 0, 1) := by decide +kernel
theorem dX1_meanError_5 : decode cX1_meanError 5 = .ok (.istore 4, 2) := by decide +kernel
theorem dX1_meanError_7 : decode cX1_meanError 7 = .ok (.iload 4, 2) := by decide +kernel
theorem dX1_meanError_9 : decode cX1_meanError 9 = .ok (.aload_n 0, 1) := by decide +kernel
theorem dX1_meanError_10 : decode cX1_meanError 10 = .ok (.getfield 10, 3) := by decide +kernel
theorem dX1_meanError_13 : decode cX1_meanError 13 = .ok (.getfield 25, 3) := by decide +kernel
theorem dX1_meanError_16 : decode cX1_meanError 16 = .ok (.if_icmp .ge 65, 3) := by decide +kernel
theorem dX1_meanError_19 : decode cX1_meanError 19 = .ok (.iload 4, 2) := by decide +kernel
theorem dX1_meanError_21 : decode cX1_meanError 21 = .ok (.iconst 1, 1) := by decide +kernel
theorem dX1_meanError_22 : decode cX1_meanError 22 = .ok (.iadd, 1) := by decide +kernel
theorem dX1_meanError_23 : decode cX1_meanError 23 = .ok (.istore 5, 2) := by decide +kernel
theorem dX1_meanError_25 : decode cX1_meanError 25 = .ok (.iload 5, 2) := by decide +kernel
theorem dX1_meanError_27 : decode cX1_meanError 27 = .ok (.aload_n 0, 1) := by decide +kernel
theorem dX1_meanError_28 : decode cX1_meanError 28 = .ok (.getfield 10, 3) := by decide +kernel
theorem dX1_meanError_31 : decode cX1_meanError 31 = .ok (.getfield 25, 3) := by decide +kernel
theorem dX1_meanError_34 : decode cX1_meanError 34 = .ok (.if_icmp .ge 41, 3) := by decide +kernel
theorem dX1_meanError_37 : decode cX1_meanError 37 = .ok (.aload_n 0, 1) := by decide +kernel
theorem dX1_meanError_38 : decode cX1_meanError 38 = .ok (.getfield 10, 3) := by decide +kernel
theorem dX1_meanError_41 : decode cX1_meanError 41 = .ok (.iload 4, 2) := by decide +kernel
theorem dX1_meanError_43 : decode cX1_meanError 43 = .ok (.iload 5, 2) := by decide +kernel
theorem dX1_meanError_45 : decode cX1_meanError 45 = .ok (.invokevirtual 100, 3) := by decide +kernel
theorem dX1_meanError_48 : decode cX1_meanError 48 = .ok (.ifCond .eq 21, 3) := by decide +kernel
theorem dX1_meanError_51 : decode cX1_meanError 51 = .ok (.lload_n 1, 1) := by decide +kernel
theorem dX1_meanError_52 : decode cX1_meanError 52 = .ok (.aload_n 0, 1) := by decide +kernel
theorem dX1_meanError_53 : decode cX1_meanError 53 = .ok (.getfield 10, 3) := by decide +kernel
theorem dX1_meanError_56 : decode cX1_meanError 56 = .ok (.iload 4, 2) := by decide +kernel
theorem dX1_meanError_58 : decode cX1_meanError 58 = .ok (.iload 5, 2) := by decide +kernel
theorem dX1_meanError_60 : decode cX1_meanError 60 = .ok (.invokevirtual 104, 3) := by decide +kernel
theorem dX1_meanError_63 : decode cX1_meanError 63 = .ok (.i2l, 1) := by decide +kernel
theorem dX1_meanError_64 : decode cX1_meanError 64 = .ok (.ladd, 1) := by decide +kernel
theorem dX1_meanError_65 : decode cX1_meanError 65 = .ok (.lstore_n 1, 1) := by decide +kernel
theorem dX1_meanError_66 : decode cX1_meanError 66 = .ok (.iinc 3 1, 3) := by decide +kernel
theorem dX1_meanError_69 : decode cX1_meanError 69 = .ok (.iinc 5 1, 3) := by decide +kernel
theorem dX1_meanError_72 : decode cX1_meanError 72 = .ok (.goto (-47), 3) := by decide +kernel
theorem dX1_meanError_75 : decode cX1_meanError 75 = .ok (.iinc 4 1, 3) := by decide +kernel
theorem dX1_meanError_78 : decode cX1_meanError 78 = .ok (.goto (-71), 3) := by decide +kernel
theorem dX1_meanError_81 : decode cX1_meanError 81 = .ok (.iload_n 3, 1) := by decide +kernel
theorem dX1_meanError_82 : decode cX1_meanError 82 = .ok (.ifCond .ne 8, 3) := by decide +kernel
theorem dX1_meanError_85 : decode cX1_meanError 85 = .ok (.ldc 107, 2) := by decide +kernel
theorem dX1_meanError_87 : decode cX1_meanError 87 = .ok (.goto 10, 3) := by decide +kernel
theorem dX1_meanError_90 : decode cX1_meanError 90 = .ok (.lload_n 1, 1) := by decide +kernel
theorem dX1_meanError_91 : decode cX1_meanError 91 = .ok (.iload_n 3, 1) := by decide +kernel
theorem dX1_meanError_92 : decode cX1_meanError 92 = .ok (.i2l, 1) := by decide +kernel
theorem dX1_meanError_93 : decode cX1_meanError 93 = .ok (.invokestatic 108, 3) := by decide +kernel
theorem dX1_meanError_96 : decode cX1_meanError 96 = .ok (.l2i, 1) := by decide +kernel
theorem dX1_meanError_97 : decode cX1_meanError 97 = .ok (.ireturn, 1) := by decide +kernel
set_option maxRecDepth 20000 in
theorem ggX1_worstPair_X0_isKnown : GoodIn wsX1_worstPair wsX0_isKnown := goodIn_r _ [7, 8, 9, 10, 6, 11, 12, 39, 40, 41, 42, 43, 44, 45, 46, 47, 48, 49] (by decide +kernel) (by decide +kernel)
set_option maxRecDepth 20000 in
theorem gX1_worstPair_X0_isKnown : GoodIn wsX1_worstPair (wsV RX1 100 RX0 yX0_isKnown wsX0_isKnown) := goodIn_app (goodIn_of _ (by decide +kernel)) ggX1_worstPair_X0_isKnown
set_option maxRecDepth 20000 in
theorem ggX1_worstPair_X0_relative : GoodIn wsX1_worstPair wsX0_relative := goodIn_r _ [16, 17, 18, 19, 20, 21, 8, 9, 10, 6, 11, 12, 22, 23, 24, 25, 26, 27, 28, 29, 30, 31, 32, 33, 34, 35, 36, 39, 40, 41, 42, 43, 44, 45, 46, 47, 48, 49] (by decide +kernel) (by decide +kernel)
set_option maxRecDepth 20000 in
theorem gX1_worstPair_X0_relative : GoodIn wsX1_worstPair (wsV RX1 104 RX0 yX0_relative wsX0_relative) := goodIn_app (goodIn_of _ (by decide +kernel)) ggX1_worstPair_X0_relative
theorem dX1_worstPair_0 : decode cX1_worstPair 0 = .ok (.ldc 107, 2) := by decide +kernel
theorem dX1_worstPair_2 : decode cX1_worstPair 2 = .ok (.istore_n 1, 1) := by decide +kernel
theorem dX1_worstPair_3 : decode cX1_worstPair 3 = .ok (.iconst (-1), 1) := by decide +kernel
theorem dX1_worstPair_4 : decode cX1_worstPair 4 = .ok (.istore_n 2, 1) := by decide +kernel
theorem dX1_worstPair_5 : decode cX1_worstPair 5 = .ok (.iconst 0, 1) := by decide +kernel
theorem dX1_worstPair_6 : decode cX1_worstPair 6 = .ok (.istore_n 3, 1) := by decide +kernel
theorem dX1_worstPair_7 : decode cX1_worstPair 7 = .ok (.iload_n 3, 1) := by decide +kernel
theorem dX1_worstPair_8 : decode cX1_worstPair 8 = .ok (.aload_n 0, 1) := by decide +kernel
theorem dX1_worstPair_9 : decode cX1_worstPair 9 = .ok (.getfield 10, 3) := by decide +kernel
theorem dX1_worstPair_12 : decode cX1_worstPair 12 = .ok (.getfield 25, 3) := by decide +kernel
theorem dX1_worstPair_15 : decode cX1_worstPair 15 = .ok (.if_icmp .ge 78, 3) := by decide +kernel
theorem dX1_worstPair_18 : decode cX1_worstPair 18 = .ok (.iload_n 3, 1) := by decide +kernel
theorem dX1_worstPair_19 : decode cX1_worstPair 19 = .ok (.iconst 1, 1) := by decide +kernel
theorem dX1_worstPair_20 : decode cX1_worstPair 20 = .ok (.iadd, 1) := by decide +kernel
theorem dX1_worstPair_21 : decode cX1_worstPair 21 = .ok (.istore 4, 2) := by decide +kernel
theorem dX1_worstPair_23 : decode cX1_worstPair 23 = .ok (.iload 4, 2) := by decide +kernel
theorem dX1_worstPair_25 : decode cX1_worstPair 25 = .ok (.aload_n 0, 1) := by decide +kernel
theorem dX1_worstPair_26 : decode cX1_worstPair 26 = .ok (.getfield 10, 3) := by decide +kernel
theorem dX1_worstPair_29 : decode cX1_worstPair 29 = .ok (.getfield 25, 3) := by decide +kernel
theorem dX1_worstPair_32 : decode cX1_worstPair 32 = .ok (.if_icmp .ge 55, 3) := by decide +kernel
theorem dX1_worstPair_35 : decode cX1_worstPair 35 = .ok (.aload_n 0, 1) := by decide +kernel
theorem dX1_worstPair_36 : decode cX1_worstPair 36 = .ok (.getfield 10, 3) := by decide +kernel
theorem dX1_worstPair_39 : decode cX1_worstPair 39 = .ok (.iload_n 3, 1) := by decide +kernel
theorem dX1_worstPair_40 : decode cX1_worstPair 40 = .ok (.iload 4, 2) := by decide +kernel
theorem dX1_worstPair_42 : decode cX1_worstPair 42 = .ok (.invokevirtual 100, 3) := by decide +kernel
theorem dX1_worstPair_45 : decode cX1_worstPair 45 = .ok (.ifCond .eq 36, 3) := by decide +kernel
theorem dX1_worstPair_48 : decode cX1_worstPair 48 = .ok (.aload_n 0, 1) := by decide +kernel
theorem dX1_worstPair_49 : decode cX1_worstPair 49 = .ok (.getfield 10, 3) := by decide +kernel
theorem dX1_worstPair_52 : decode cX1_worstPair 52 = .ok (.iload_n 3, 1) := by decide +kernel
theorem dX1_worstPair_53 : decode cX1_worstPair 53 = .ok (.iload 4, 2) := by decide +kernel
theorem dX1_worstPair_55 : decode cX1_worstPair 55 = .ok (.invokevirtual 104, 3) := by decide +kernel
theorem dX1_worstPair_58 : decode cX1_worstPair 58 = .ok (.iload_n 2, 1) := by decide +kernel
theorem dX1_worstPair_59 : decode cX1_worstPair 59 = .ok (.if_icmp .le 22, 3) := by decide +kernel
theorem dX1_worstPair_62 : decode cX1_worstPair 62 = .ok (.aload_n 0, 1) := by decide +kernel
theorem dX1_worstPair_63 : decode cX1_worstPair 63 = .ok (.getfield 10, 3) := by decide +kernel
theorem dX1_worstPair_66 : decode cX1_worstPair 66 = .ok (.iload_n 3, 1) := by decide +kernel
theorem dX1_worstPair_67 : decode cX1_worstPair 67 = .ok (.iload 4, 2) := by decide +kernel
theorem dX1_worstPair_69 : decode cX1_worstPair 69 = .ok (.invokevirtual 104, 3) := by decide +kernel
theorem dX1_worstPair_72 : decode cX1_worstPair 72 = .ok (.istore_n 2, 1) := by decide +kernel
theorem dX1_worstPair_73 : decode cX1_worstPair 73 = .ok (.bipush 10, 2) := by decide +kernel
theorem dX1_worstPair_75 : decode cX1_worstPair 75 = .ok (.iload_n 3, 1) := by decide +kernel
theorem dX1_worstPair_76 : decode cX1_worstPair 76 = .ok (.imul, 1) := by decide +kernel
theorem dX1_worstPair_77 : decode cX1_worstPair 77 = .ok (.iload 4, 2) := by decide +kernel
theorem dX1_worstPair_79 : decode cX1_worstPair 79 = .ok (.iadd, 1) := by decide +kernel
theorem dX1_worstPair_80 : decode cX1_worstPair 80 = .ok (.istore_n 1, 1) := by decide +kernel
theorem dX1_worstPair_81 : decode cX1_worstPair 81 = .ok (.iinc 4 1, 3) := by decide +kernel
theorem dX1_worstPair_84 : decode cX1_worstPair 84 = .ok (.goto (-61), 3) := by decide +kernel
theorem dX1_worstPair_87 : decode cX1_worstPair 87 = .ok (.iinc 3 1, 3) := by decide +kernel
theorem dX1_worstPair_90 : decode cX1_worstPair 90 = .ok (.goto (-83), 3) := by decide +kernel
theorem dX1_worstPair_93 : decode cX1_worstPair 93 = .ok (.iload_n 1, 1) := by decide +kernel
theorem dX1_worstPair_94 : decode cX1_worstPair 94 = .ok (.ireturn, 1) := by decide +kernel
set_option maxRecDepth 20000 in
theorem ggX1_relativeError_X1_knownPairFault : GoodIn wsX1_relativeError wsX1_knownPairFault := goodIn_r _ [6, 1, 7, 8, 9, 10, 5, 11, 12, 13, 14, 15, 16, 17, 18, 19, 20, 21, 22, 23, 24, 25, 26, 27, 28, 29, 30, 54, 55, 56, 57, 58, 59, 60, 61, 62, 63, 64, 65, 66] (by decide +kernel) (by decide +kernel)
set_option maxRecDepth 20000 in
theorem gX1_relativeError_X1_knownPairFault : GoodIn wsX1_relativeError (wsV RX1 44 RX1 yX1_knownPairFault wsX1_knownPairFault) := goodIn_app (goodIn_of _ (by decide +kernel)) ggX1_relativeError_X1_knownPairFault
set_option maxRecDepth 20000 in
theorem ggX1_relativeError_X0_relative : GoodIn wsX1_relativeError wsX0_relative := goodIn_r _ [34, 35, 36, 37, 38, 39, 26, 27, 28, 24, 29, 30, 40, 41, 42, 43, 44, 45, 46, 47, 5, 48, 49, 50, 51, 52, 53, 56, 57, 58, 59, 60, 61, 62, 63, 64, 65, 66] (by decide +kernel) (by decide +kernel)
set_option maxRecDepth 20000 in
theorem gX1_relativeError_X0_relative : GoodIn wsX1_relativeError (wsV RX1 104 RX0 yX0_relative wsX0_relative) := goodIn_app (goodIn_of _ (by decide +kernel)) ggX1_relativeError_X0_relative
theorem dX1_relativeError_0 : decode cX1_relativeError 0 = .ok (.aload_n 0, 1) := by decide +kernel
theorem dX1_relativeError_1 : decode cX1_relativeError 1 = .ok (.iload_n 1, 1) := by decide +kernel
theorem dX1_relativeError_2 : decode cX1_relativeError 2 = .ok (.iload_n 2, 1) := by decide +kernel
theorem dX1_relativeError_3 : decode cX1_relativeError 3 = .ok (.invokevirtual 44, 3) := by decide +kernel
theorem dX1_relativeError_6 : decode cX1_relativeError 6 = .ok (.istore_n 3, 1) := by decide +kernel
theorem dX1_relativeError_7 : decode cX1_relativeError 7 = .ok (.iload_n 3, 1) := by decide +kernel
theorem dX1_relativeError_8 : decode cX1_relativeError 8 = .ok (.ifCond .eq 7, 3) := by decide +kernel
theorem dX1_relativeError_11 : decode cX1_relativeError 11 = .ok (.iload_n 3, 1) := by decide +kernel
theorem dX1_relativeError_12 : decode cX1_relativeError 12 = .ok (.goto 12, 3) := by decide +kernel
theorem dX1_relativeError_15 : decode cX1_relativeError 15 = .ok (.aload_n 0, 1) := by decide +kernel
theorem dX1_relativeError_16 : decode cX1_relativeError 16 = .ok (.getfield 10, 3) := by decide +kernel
theorem dX1_relativeError_19 : decode cX1_relativeError 19 = .ok (.iload_n 1, 1) := by decide +kernel
theorem dX1_relativeError_20 : decode cX1_relativeError 20 = .ok (.iload_n 2, 1) := by decide +kernel
theorem dX1_relativeError_21 : decode cX1_relativeError 21 = .ok (.invokevirtual 104, 3) := by decide +kernel
theorem dX1_relativeError_24 : decode cX1_relativeError 24 = .ok (.ireturn, 1) := by decide +kernel
set_option maxRecDepth 20000 in
theorem ggX1_nearest_X1_isNode : GoodIn wsX1_nearest wsX1_isNode := goodIn_r _ [9, 2, 10, 11, 8, 12, 31, 32, 33, 34, 35, 36, 37, 38, 39, 40, 41, 42, 43] (by decide +kernel) (by decide +kernel)
set_option maxRecDepth 20000 in
theorem gX1_nearest_X1_isNode : GoodIn wsX1_nearest (wsV RX1 47 RX1 yX1_isNode wsX1_isNode) := goodIn_app (goodIn_of _ (by decide +kernel)) ggX1_nearest_X1_isNode
set_option maxRecDepth 20000 in
theorem ggX1_nearest_X1_isWithin : GoodIn wsX1_nearest wsX1_isWithin := goodIn_r _ [12] (by decide +kernel) (by decide +kernel)
set_option maxRecDepth 20000 in
theorem gX1_nearest_X1_isWithin : GoodIn wsX1_nearest (va_wsS RX1 20 yX1_isWithin wsX1_isWithin) := goodIn_app (goodIn_of _ (by decide +kernel)) ggX1_nearest_X1_isWithin
set_option maxRecDepth 20000 in
theorem ggX1_nearest_X0_rankOf : GoodIn wsX1_nearest wsX0_rankOf := goodIn_r _ [17, 18, 19, 20, 21, 16, 22, 23, 24, 25, 26, 8, 27, 28, 29, 30, 33, 34, 35, 36, 37, 38, 39, 40, 41, 42, 43] (by decide +kernel) (by decide +kernel)
set_option maxRecDepth 20000 in
theorem gX1_nearest_X0_rankOf : GoodIn wsX1_nearest (wsV RX1 112 RX0 yX0_rankOf wsX0_rankOf) := goodIn_app (goodIn_of _ (by decide +kernel)) ggX1_nearest_X0_rankOf
theorem dX1_nearest_0 : decode cX1_nearest 0 = .ok (.aload_n 0, 1) := by decide +kernel
theorem dX1_nearest_1 : decode cX1_nearest 1 = .ok (.iload_n 1, 1) := by decide +kernel
theorem dX1_nearest_2 : decode cX1_nearest 2 = .ok (.invokevirtual 47, 3) := by decide +kernel
theorem dX1_nearest_5 : decode cX1_nearest 5 = .ok (.ifCond .ne 6, 3) := by decide +kernel
theorem dX1_nearest_8 : decode cX1_nearest 8 = .ok (.ldc 51, 2) := by decide +kernel
theorem dX1_nearest_10 : decode cX1_nearest 10 = .ok (.ireturn, 1) := by decide +kernel
theorem dX1_nearest_11 : decode cX1_nearest 11 = .ok (.iload_n 2, 1) := by decide +kernel
theorem dX1_nearest_12 : decode cX1_nearest 12 = .ok (.iconst 0, 1) := by decide +kernel
theorem dX1_nearest_13 : decode cX1_nearest 13 = .ok (.aload_n 0, 1) := by decide +kernel
theorem dX1_nearest_14 : decode cX1_nearest 14 = .ok (.getfield 10, 3) := by decide +kernel
theorem dX1_nearest_17 : decode cX1_nearest 17 = .ok (.getfield 25, 3) := by decide +kernel
theorem dX1_nearest_20 : decode cX1_nearest 20 = .ok (.iconst 2, 1) := by decide +kernel
theorem dX1_nearest_21 : decode cX1_nearest 21 = .ok (.isub, 1) := by decide +kernel
theorem dX1_nearest_22 : decode cX1_nearest 22 = .ok (.invokestatic 20, 3) := by decide +kernel
theorem dX1_nearest_25 : decode cX1_nearest 25 = .ok (.ifCond .ne 6, 3) := by decide +kernel
theorem dX1_nearest_28 : decode cX1_nearest 28 = .ok (.ldc 24, 2) := by decide +kernel
theorem dX1_nearest_30 : decode cX1_nearest 30 = .ok (.ireturn, 1) := by decide +kernel
theorem dX1_nearest_31 : decode cX1_nearest 31 = .ok (.ldc 107, 2) := by decide +kernel
theorem dX1_nearest_33 : decode cX1_nearest 33 = .ok (.istore_n 3, 1) := by decide +kernel
theorem dX1_nearest_34 : decode cX1_nearest 34 = .ok (.iconst 0, 1) := by decide +kernel
theorem dX1_nearest_35 : decode cX1_nearest 35 = .ok (.istore 4, 2) := by decide +kernel
theorem dX1_nearest_37 : decode cX1_nearest 37 = .ok (.iload 4, 2) := by decide +kernel
theorem dX1_nearest_39 : decode cX1_nearest 39 = .ok (.aload_n 0, 1) := by decide +kernel
theorem dX1_nearest_40 : decode cX1_nearest 40 = .ok (.getfield 10, 3) := by decide +kernel
theorem dX1_nearest_43 : decode cX1_nearest 43 = .ok (.getfield 25, 3) := by decide +kernel
theorem dX1_nearest_46 : decode cX1_nearest 46 = .ok (.if_icmp .ge 32, 3) := by decide +kernel
theorem dX1_nearest_49 : decode cX1_nearest 49 = .ok (.iload 4, 2) := by decide +kernel
theorem dX1_nearest_51 : decode cX1_nearest 51 = .ok (.iload_n 1, 1) := by decide +kernel
theorem dX1_nearest_52 : decode cX1_nearest 52 = .ok (.if_icmp .eq 20, 3) := by decide +kernel
theorem dX1_nearest_55 : decode cX1_nearest 55 = .ok (.aload_n 0, 1) := by decide +kernel
theorem dX1_nearest_56 : decode cX1_nearest 56 = .ok (.getfield 10, 3) := by decide +kernel
theorem dX1_nearest_59 : decode cX1_nearest 59 = .ok (.iload_n 1, 1) := by decide +kernel
theorem dX1_nearest_60 : decode cX1_nearest 60 = .ok (.iload 4, 2) := by decide +kernel
theorem dX1_nearest_62 : decode cX1_nearest 62 = .ok (.invokevirtual 112, 3) := by decide +kernel
theorem dX1_nearest_65 : decode cX1_nearest 65 = .ok (.iload_n 2, 1) := by decide +kernel
theorem dX1_nearest_66 : decode cX1_nearest 66 = .ok (.if_icmp .ne 6, 3) := by decide +kernel
theorem dX1_nearest_69 : decode cX1_nearest 69 = .ok (.iload 4, 2) := by decide +kernel
theorem dX1_nearest_71 : decode cX1_nearest 71 = .ok (.istore_n 3, 1) := by decide +kernel
theorem dX1_nearest_72 : decode cX1_nearest 72 = .ok (.iinc 4 1, 3) := by decide +kernel
theorem dX1_nearest_75 : decode cX1_nearest 75 = .ok (.goto (-38), 3) := by decide +kernel
theorem dX1_nearest_78 : decode cX1_nearest 78 = .ok (.iload_n 3, 1) := by decide +kernel
theorem dX1_nearest_79 : decode cX1_nearest 79 = .ok (.ireturn, 1) := by decide +kernel
set_option maxRecDepth 20000 in
theorem ggX1_relay_X1_pairFault : GoodIn wsX1_relay wsX1_pairFault := goodIn_r _ [8, 9, 10, 11, 12, 13, 7, 14, 3, 15, 16, 17, 31, 32, 33, 34, 35, 36, 37, 38, 39, 40, 41, 42, 43] (by decide +kernel) (by decide +kernel)
set_option maxRecDepth 20000 in
theorem gX1_relay_X1_pairFault : GoodIn wsX1_relay (wsV RX1 33 RX1 yX1_pairFault wsX1_pairFault) := goodIn_app (goodIn_of _ (by decide +kernel)) ggX1_relay_X1_pairFault
set_option maxRecDepth 20000 in
theorem ggX1_relay_X0_predicted : GoodIn wsX1_relay wsX0_predicted := goodIn_r _ [22, 23, 24, 25, 26, 7, 27, 28, 29, 30, 33, 34, 35, 36, 37, 38, 39, 40, 41, 42, 43] (by decide +kernel) (by decide +kernel)
set_option maxRecDepth 20000 in
theorem gX1_relay_X0_predicted : GoodIn wsX1_relay (wsV RX1 83 RX0 yX0_predicted wsX0_predicted) := goodIn_app (goodIn_of _ (by decide +kernel)) ggX1_relay_X0_predicted
theorem dX1_relay_0 : decode cX1_relay 0 = .ok (.aload_n 0, 1) := by decide +kernel
theorem dX1_relay_1 : decode cX1_relay 1 = .ok (.iload_n 1, 1) := by decide +kernel
theorem dX1_relay_2 : decode cX1_relay 2 = .ok (.iload_n 2, 1) := by decide +kernel
theorem dX1_relay_3 : decode cX1_relay 3 = .ok (.invokevirtual 33, 3) := by decide +kernel
theorem dX1_relay_6 : decode cX1_relay 6 = .ok (.istore_n 3, 1) := by decide +kernel
theorem dX1_relay_7 : decode cX1_relay 7 = .ok (.iload_n 3, 1) := by decide +kernel
theorem dX1_relay_8 : decode cX1_relay 8 = .ok (.ifCond .eq 5, 3) := by decide +kernel
theorem dX1_relay_11 : decode cX1_relay 11 = .ok (.iload_n 3, 1) := by decide +kernel
theorem dX1_relay_12 : decode cX1_relay 12 = .ok (.ireturn, 1) := by decide +kernel
theorem dX1_relay_13 : decode cX1_relay 13 = .ok (.ldc 107, 2) := by decide +kernel
theorem dX1_relay_15 : decode cX1_relay 15 = .ok (.istore 4, 2) := by decide +kernel
theorem dX1_relay_17 : decode cX1_relay 17 = .ok (.ldc 117, 2) := by decide +kernel
theorem dX1_relay_19 : decode cX1_relay 19 = .ok (.istore 5, 2) := by decide +kernel
theorem dX1_relay_21 : decode cX1_relay 21 = .ok (.iconst 0, 1) := by decide +kernel
theorem dX1_relay_22 : decode cX1_relay 22 = .ok (.istore 6, 2) := by decide +kernel
theorem dX1_relay_24 : decode cX1_relay 24 = .ok (.iload 6, 2) := by decide +kernel
theorem dX1_relay_26 : decode cX1_relay 26 = .ok (.aload_n 0, 1) := by decide +kernel
theorem dX1_relay_27 : decode cX1_relay 27 = .ok (.getfield 10, 3) := by decide +kernel
theorem dX1_relay_30 : decode cX1_relay 30 = .ok (.getfield 25, 3) := by decide +kernel
theorem dX1_relay_33 : decode cX1_relay 33 = .ok (.if_icmp .ge 59, 3) := by decide +kernel
theorem dX1_relay_36 : decode cX1_relay 36 = .ok (.iload 6, 2) := by decide +kernel
theorem dX1_relay_38 : decode cX1_relay 38 = .ok (.iload_n 1, 1) := by decide +kernel
theorem dX1_relay_39 : decode cX1_relay 39 = .ok (.if_icmp .eq 47, 3) := by decide +kernel
theorem dX1_relay_42 : decode cX1_relay 42 = .ok (.iload 6, 2) := by decide +kernel
theorem dX1_relay_44 : decode cX1_relay 44 = .ok (.iload_n 2, 1) := by decide +kernel
theorem dX1_relay_45 : decode cX1_relay 45 = .ok (.if_icmp .eq 41, 3) := by decide +kernel
theorem dX1_relay_48 : decode cX1_relay 48 = .ok (.aload_n 0, 1) := by decide +kernel
theorem dX1_relay_49 : decode cX1_relay 49 = .ok (.getfield 10, 3) := by decide +kernel
theorem dX1_relay_52 : decode cX1_relay 52 = .ok (.iload_n 1, 1) := by decide +kernel
theorem dX1_relay_53 : decode cX1_relay 53 = .ok (.iload 6, 2) := by decide +kernel
theorem dX1_relay_55 : decode cX1_relay 55 = .ok (.invokevirtual 83, 3) := by decide +kernel
theorem dX1_relay_58 : decode cX1_relay 58 = .ok (.aload_n 0, 1) := by decide +kernel
theorem dX1_relay_59 : decode cX1_relay 59 = .ok (.getfield 10, 3) := by decide +kernel
theorem dX1_relay_62 : decode cX1_relay 62 = .ok (.iload 6, 2) := by decide +kernel
theorem dX1_relay_64 : decode cX1_relay 64 = .ok (.iload_n 2, 1) := by decide +kernel
theorem dX1_relay_65 : decode cX1_relay 65 = .ok (.invokevirtual 83, 3) := by decide +kernel
theorem dX1_relay_68 : decode cX1_relay 68 = .ok (.iadd, 1) := by decide +kernel
theorem dX1_relay_69 : decode cX1_relay 69 = .ok (.istore 7, 2) := by decide +kernel
theorem dX1_relay_71 : decode cX1_relay 71 = .ok (.iload 7, 2) := by decide +kernel
theorem dX1_relay_73 : decode cX1_relay 73 = .ok (.iload 5, 2) := by decide +kernel
theorem dX1_relay_75 : decode cX1_relay 75 = .ok (.if_icmp .ge 11, 3) := by decide +kernel
theorem dX1_relay_78 : decode cX1_relay 78 = .ok (.iload 7, 2) := by decide +kernel
theorem dX1_relay_80 : decode cX1_relay 80 = .ok (.istore 5, 2) := by decide +kernel
theorem dX1_relay_82 : decode cX1_relay 82 = .ok (.iload 6, 2) := by decide +kernel
theorem dX1_relay_84 : decode cX1_relay 84 = .ok (.istore 4, 2) := by decide +kernel
theorem dX1_relay_86 : decode cX1_relay 86 = .ok (.iinc 6 1, 3) := by decide +kernel
theorem dX1_relay_89 : decode cX1_relay 89 = .ok (.goto (-65), 3) := by decide +kernel
theorem dX1_relay_92 : decode cX1_relay 92 = .ok (.iload 4, 2) := by decide +kernel
theorem dX1_relay_94 : decode cX1_relay 94 = .ok (.ireturn, 1) := by decide +kernel
set_option maxRecDepth 20000 in
theorem ggX1_triangles_X0_isTriangle : GoodIn wsX1_triangles wsX0_isTriangle := goodIn_r _ [6, 7, 8, 9, 5, 10, 11, 12, 13, 14, 15, 18, 19, 20, 21, 22, 23, 24, 25, 26, 27, 28] (by decide +kernel) (by decide +kernel)
set_option maxRecDepth 20000 in
theorem gX1_triangles_X0_isTriangle : GoodIn wsX1_triangles (wsV RX1 118 RX0 yX0_isTriangle wsX0_isTriangle) := goodIn_app (goodIn_of _ (by decide +kernel)) ggX1_triangles_X0_isTriangle
theorem dX1_triangles_0 : decode cX1_triangles 0 = .ok (.iconst 0, 1) := by decide +kernel
theorem dX1_triangles_1 : decode cX1_triangles 1 = .ok (.istore_n 1, 1) := by decide +kernel
theorem dX1_triangles_2 : decode cX1_triangles 2 = .ok (.iconst 0, 1) := by decide +kernel
theorem dX1_triangles_3 : decode cX1_triangles 3 = .ok (.istore_n 2, 1) := by decide +kernel
theorem dX1_triangles_4 : decode cX1_triangles 4 = .ok (.iload_n 2, 1) := by decide +kernel
theorem dX1_triangles_5 : decode cX1_triangles 5 = .ok (.aload_n 0, 1) := by decide +kernel
theorem dX1_triangles_6 : decode cX1_triangles 6 = .ok (.getfield 10, 3) := by decide +kernel
theorem dX1_triangles_9 : decode cX1_triangles 9 = .ok (.getfield 25, 3) := by decide +kernel
theorem dX1_triangles_12 : decode cX1_triangles 12 = .ok (.if_icmp .ge 70, 3) := by decide +kernel
theorem dX1_triangles_15 : decode cX1_triangles 15 = .ok (.iload_n 2, 1) := by decide +kernel
theorem dX1_triangles_16 : decode cX1_triangles 16 = .ok (.iconst 1, 1) := by decide +kernel
theorem dX1_triangles_17 : decode cX1_triangles 17 = .ok (.iadd, 1) := by decide +kernel
theorem dX1_triangles_18 : decode cX1_triangles 18 = .ok (.istore_n 3, 1) := by decide +kernel
theorem dX1_triangles_19 : decode cX1_triangles 19 = .ok (.iload_n 3, 1) := by decide +kernel
theorem dX1_triangles_20 : decode cX1_triangles 20 = .ok (.aload_n 0, 1) := by decide +kernel
theorem dX1_triangles_21 : decode cX1_triangles 21 = .ok (.getfield 10, 3) := by decide +kernel
theorem dX1_triangles_24 : decode cX1_triangles 24 = .ok (.getfield 25, 3) := by decide +kernel
theorem dX1_triangles_27 : decode cX1_triangles 27 = .ok (.if_icmp .ge 49, 3) := by decide +kernel
theorem dX1_triangles_30 : decode cX1_triangles 30 = .ok (.iload_n 3, 1) := by decide +kernel
theorem dX1_triangles_31 : decode cX1_triangles 31 = .ok (.iconst 1, 1) := by decide +kernel
theorem dX1_triangles_32 : decode cX1_triangles 32 = .ok (.iadd, 1) := by decide +kernel
theorem dX1_triangles_33 : decode cX1_triangles 33 = .ok (.istore 4, 2) := by decide +kernel
theorem dX1_triangles_35 : decode cX1_triangles 35 = .ok (.iload 4, 2) := by decide +kernel
theorem dX1_triangles_37 : decode cX1_triangles 37 = .ok (.aload_n 0, 1) := by decide +kernel
theorem dX1_triangles_38 : decode cX1_triangles 38 = .ok (.getfield 10, 3) := by decide +kernel
theorem dX1_triangles_41 : decode cX1_triangles 41 = .ok (.getfield 25, 3) := by decide +kernel
theorem dX1_triangles_44 : decode cX1_triangles 44 = .ok (.if_icmp .ge 26, 3) := by decide +kernel
theorem dX1_triangles_47 : decode cX1_triangles 47 = .ok (.aload_n 0, 1) := by decide +kernel
theorem dX1_triangles_48 : decode cX1_triangles 48 = .ok (.getfield 10, 3) := by decide +kernel
theorem dX1_triangles_51 : decode cX1_triangles 51 = .ok (.iload_n 2, 1) := by decide +kernel
theorem dX1_triangles_52 : decode cX1_triangles 52 = .ok (.iload_n 3, 1) := by decide +kernel
theorem dX1_triangles_53 : decode cX1_triangles 53 = .ok (.iload 4, 2) := by decide +kernel
theorem dX1_triangles_55 : decode cX1_triangles 55 = .ok (.invokevirtual 118, 3) := by decide +kernel
theorem dX1_triangles_58 : decode cX1_triangles 58 = .ok (.ifCond .eq 6, 3) := by decide +kernel
theorem dX1_triangles_61 : decode cX1_triangles 61 = .ok (.iinc 1 1, 3) := by decide +kernel
theorem dX1_triangles_64 : decode cX1_triangles 64 = .ok (.iinc 4 1, 3) := by decide +kernel
theorem dX1_triangles_67 : decode cX1_triangles 67 = .ok (.goto (-32), 3) := by decide +kernel
theorem dX1_triangles_70 : decode cX1_triangles 70 = .ok (.iinc 3 1, 3) := by decide +kernel
theorem dX1_triangles_73 : decode cX1_triangles 73 = .ok (.goto (-54), 3) := by decide +kernel
theorem dX1_triangles_76 : decode cX1_triangles 76 = .ok (.iinc 2 1, 3) := by decide +kernel
theorem dX1_triangles_79 : decode cX1_triangles 79 = .ok (.goto (-75), 3) := by decide +kernel
theorem dX1_triangles_82 : decode cX1_triangles 82 = .ok (.iload_n 1, 1) := by decide +kernel
theorem dX1_triangles_83 : decode cX1_triangles 83 = .ok (.ireturn, 1) := by decide +kernel
set_option maxRecDepth 20000 in
theorem ggX1_violations_X0_violationsAt : GoodIn wsX1_violations wsX0_violationsAt := goodIn_r _ [6, 7, 8, 9, 10, 5, 11, 12, 13, 14, 15, 16, 17, 18, 19, 20, 21, 22, 23, 24, 25, 26, 27, 28, 31, 32, 33, 34, 35, 36, 37, 38, 39, 40, 41] (by decide +kernel) (by decide +kernel)
set_option maxRecDepth 20000 in
theorem gX1_violations_X0_violationsAt : GoodIn wsX1_violations (wsV RX1 121 RX0 yX0_violationsAt wsX0_violationsAt) := goodIn_app (goodIn_of _ (by decide +kernel)) ggX1_violations_X0_violationsAt
theorem dX1_violations_0 : decode cX1_violations 0 = .ok (.iconst 0, 1) := by decide +kernel
theorem dX1_violations_1 : decode cX1_violations 1 = .ok (.istore_n 1, 1) := by decide +kernel
theorem dX1_violations_2 : decode cX1_violations 2 = .ok (.iconst 0, 1) := by decide +kernel
theorem dX1_violations_3 : decode cX1_violations 3 = .ok (.istore_n 2, 1) := by decide +kernel
theorem dX1_violations_4 : decode cX1_violations 4 = .ok (.iload_n 2, 1) := by decide +kernel
theorem dX1_violations_5 : decode cX1_violations 5 = .ok (.aload_n 0, 1) := by decide +kernel
theorem dX1_violations_6 : decode cX1_violations 6 = .ok (.getfield 10, 3) := by decide +kernel
theorem dX1_violations_9 : decode cX1_violations 9 = .ok (.getfield 25, 3) := by decide +kernel
theorem dX1_violations_12 : decode cX1_violations 12 = .ok (.if_icmp .ge 20, 3) := by decide +kernel
theorem dX1_violations_15 : decode cX1_violations 15 = .ok (.iload_n 1, 1) := by decide +kernel
theorem dX1_violations_16 : decode cX1_violations 16 = .ok (.aload_n 0, 1) := by decide +kernel
theorem dX1_violations_17 : decode cX1_violations 17 = .ok (.getfield 10, 3) := by decide +kernel
theorem dX1_violations_20 : decode cX1_violations 20 = .ok (.iload_n 2, 1) := by decide +kernel
theorem dX1_violations_21 : decode cX1_violations 21 = .ok (.invokevirtual 121, 3) := by decide +kernel
theorem dX1_violations_24 : decode cX1_violations 24 = .ok (.iadd, 1) := by decide +kernel
theorem dX1_violations_25 : decode cX1_violations 25 = .ok (.istore_n 1, 1) := by decide +kernel
theorem dX1_violations_26 : decode cX1_violations 26 = .ok (.iinc 2 1, 3) := by decide +kernel
theorem dX1_violations_29 : decode cX1_violations 29 = .ok (.goto (-25), 3) := by decide +kernel
theorem dX1_violations_32 : decode cX1_violations 32 = .ok (.iload_n 1, 1) := by decide +kernel
theorem dX1_violations_33 : decode cX1_violations 33 = .ok (.iconst 3, 1) := by decide +kernel
theorem dX1_violations_34 : decode cX1_violations 34 = .ok (.idiv, 1) := by decide +kernel
theorem dX1_violations_35 : decode cX1_violations 35 = .ok (.ireturn, 1) := by decide +kernel
set_option maxRecDepth 20000 in
theorem ggX1_worstExcess_X0_excess : GoodIn wsX1_worstExcess wsX0_excess := goodIn_r _ [11, 12, 3, 4, 5, 13, 14, 15, 10, 16, 17, 18, 19, 20, 21, 22, 23, 24, 25, 28, 29, 30, 31, 32, 33, 34, 35, 36, 37, 38] (by decide +kernel) (by decide +kernel)
set_option maxRecDepth 20000 in
theorem gX1_worstExcess_X0_excess : GoodIn wsX1_worstExcess (wsV RX1 125 RX0 yX0_excess wsX0_excess) := goodIn_app (goodIn_of _ (by decide +kernel)) ggX1_worstExcess_X0_excess
theorem dX1_worstExcess_0 : decode cX1_worstExcess 0 = .ok (.iconst 0, 1) := by decide +kernel
theorem dX1_worstExcess_1 : decode cX1_worstExcess 1 = .ok (.istore_n 1, 1) := by decide +kernel
theorem dX1_worstExcess_2 : decode cX1_worstExcess 2 = .ok (.iconst 0, 1) := by decide +kernel
theorem dX1_worstExcess_3 : decode cX1_worstExcess 3 = .ok (.istore_n 2, 1) := by decide +kernel
theorem dX1_worstExcess_4 : decode cX1_worstExcess 4 = .ok (.iload_n 2, 1) := by decide +kernel
theorem dX1_worstExcess_5 : decode cX1_worstExcess 5 = .ok (.aload_n 0, 1) := by decide +kernel
theorem dX1_worstExcess_6 : decode cX1_worstExcess 6 = .ok (.getfield 10, 3) := by decide +kernel
theorem dX1_worstExcess_9 : decode cX1_worstExcess 9 = .ok (.getfield 25, 3) := by decide +kernel
theorem dX1_worstExcess_12 : decode cX1_worstExcess 12 = .ok (.if_icmp .ge 69, 3) := by decide +kernel
theorem dX1_worstExcess_15 : decode cX1_worstExcess 15 = .ok (.iload_n 2, 1) := by decide +kernel
theorem dX1_worstExcess_16 : decode cX1_worstExcess 16 = .ok (.iconst 1, 1) := by decide +kernel
theorem dX1_worstExcess_17 : decode cX1_worstExcess 17 = .ok (.iadd, 1) := by decide +kernel
theorem dX1_worstExcess_18 : decode cX1_worstExcess 18 = .ok (.istore_n 3, 1) := by decide +kernel
theorem dX1_worstExcess_19 : decode cX1_worstExcess 19 = .ok (.iload_n 3, 1) := by decide +kernel
theorem dX1_worstExcess_20 : decode cX1_worstExcess 20 = .ok (.aload_n 0, 1) := by decide +kernel
theorem dX1_worstExcess_21 : decode cX1_worstExcess 21 = .ok (.getfield 10, 3) := by decide +kernel
theorem dX1_worstExcess_24 : decode cX1_worstExcess 24 = .ok (.getfield 25, 3) := by decide +kernel
theorem dX1_worstExcess_27 : decode cX1_worstExcess 27 = .ok (.if_icmp .ge 48, 3) := by decide +kernel
theorem dX1_worstExcess_30 : decode cX1_worstExcess 30 = .ok (.iload_n 3, 1) := by decide +kernel
theorem dX1_worstExcess_31 : decode cX1_worstExcess 31 = .ok (.iconst 1, 1) := by decide +kernel
theorem dX1_worstExcess_32 : decode cX1_worstExcess 32 = .ok (.iadd, 1) := by decide +kernel
theorem dX1_worstExcess_33 : decode cX1_worstExcess 33 = .ok (.istore 4, 2) := by decide +kernel
theorem dX1_worstExcess_35 : decode cX1_worstExcess 35 = .ok (.iload 4, 2) := by decide +kernel
theorem dX1_worstExcess_37 : decode cX1_worstExcess 37 = .ok (.aload_n 0, 1) := by decide +kernel
theorem dX1_worstExcess_38 : decode cX1_worstExcess 38 = .ok (.getfield 10, 3) := by decide +kernel
theorem dX1_worstExcess_41 : decode cX1_worstExcess 41 = .ok (.getfield 25, 3) := by decide +kernel
theorem dX1_worstExcess_44 : decode cX1_worstExcess 44 = .ok (.if_icmp .ge 25, 3) := by decide +kernel
theorem dX1_worstExcess_47 : decode cX1_worstExcess 47 = .ok (.iload_n 1, 1) := by decide +kernel
theorem dX1_worstExcess_48 : decode cX1_worstExcess 48 = .ok (.aload_n 0, 1) := by decide +kernel
theorem dX1_worstExcess_49 : decode cX1_worstExcess 49 = .ok (.getfield 10, 3) := by decide +kernel
theorem dX1_worstExcess_52 : decode cX1_worstExcess 52 = .ok (.iload_n 2, 1) := by decide +kernel
theorem dX1_worstExcess_53 : decode cX1_worstExcess 53 = .ok (.iload_n 3, 1) := by decide +kernel
theorem dX1_worstExcess_54 : decode cX1_worstExcess 54 = .ok (.iload 4, 2) := by decide +kernel
theorem dX1_worstExcess_56 : decode cX1_worstExcess 56 = .ok (.invokevirtual 125, 3) := by decide +kernel
theorem dX1_worstExcess_59 : decode cX1_worstExcess 59 = .ok (.invokestatic 129, 3) := by decide +kernel
theorem dX1_worstExcess_62 : decode cX1_worstExcess 62 = .ok (.istore_n 1, 1) := by decide +kernel
theorem dX1_worstExcess_63 : decode cX1_worstExcess 63 = .ok (.iinc 4 1, 3) := by decide +kernel
theorem dX1_worstExcess_66 : decode cX1_worstExcess 66 = .ok (.goto (-31), 3) := by decide +kernel
theorem dX1_worstExcess_69 : decode cX1_worstExcess 69 = .ok (.iinc 3 1, 3) := by decide +kernel
theorem dX1_worstExcess_72 : decode cX1_worstExcess 72 = .ok (.goto (-53), 3) := by decide +kernel
theorem dX1_worstExcess_75 : decode cX1_worstExcess 75 = .ok (.iinc 2 1, 3) := by decide +kernel
theorem dX1_worstExcess_78 : decode cX1_worstExcess 78 = .ok (.goto (-74), 3) := by decide +kernel
theorem dX1_worstExcess_81 : decode cX1_worstExcess 81 = .ok (.iload_n 1, 1) := by decide +kernel
theorem dX1_worstExcess_82 : decode cX1_worstExcess 82 = .ok (.ifCond .ne 8, 3) := by decide +kernel
theorem dX1_worstExcess_85 : decode cX1_worstExcess 85 = .ok (.ldc 107, 2) := by decide +kernel
theorem dX1_worstExcess_87 : decode cX1_worstExcess 87 = .ok (.goto 4, 3) := by decide +kernel
theorem dX1_worstExcess_90 : decode cX1_worstExcess 90 = .ok (.iload_n 1, 1) := by decide +kernel
theorem dX1_worstExcess_91 : decode cX1_worstExcess 91 = .ok (.ireturn, 1) := by decide +kernel
set_option maxRecDepth 20000 in
theorem ggX1_suspect_X0_violationsAt : GoodIn wsX1_suspect wsX0_violationsAt := goodIn_r _ [7, 8, 9, 10, 11, 6, 12, 13, 14, 15, 16, 17, 18, 19, 20, 21, 22, 23, 24, 25, 26, 27, 28, 29, 32, 33, 34, 35, 36, 37, 38, 39, 40, 41, 42] (by decide +kernel) (by decide +kernel)
set_option maxRecDepth 20000 in
theorem gX1_suspect_X0_violationsAt : GoodIn wsX1_suspect (wsV RX1 121 RX0 yX0_violationsAt wsX0_violationsAt) := goodIn_app (goodIn_of _ (by decide +kernel)) ggX1_suspect_X0_violationsAt
theorem dX1_suspect_0 : decode cX1_suspect 0 = .ok (.ldc 107, 2) := by decide +kernel
theorem dX1_suspect_2 : decode cX1_suspect 2 = .ok (.istore_n 1, 1) := by decide +kernel
theorem dX1_suspect_3 : decode cX1_suspect 3 = .ok (.iconst 0, 1) := by decide +kernel
theorem dX1_suspect_4 : decode cX1_suspect 4 = .ok (.istore_n 2, 1) := by decide +kernel
theorem dX1_suspect_5 : decode cX1_suspect 5 = .ok (.iconst 0, 1) := by decide +kernel
theorem dX1_suspect_6 : decode cX1_suspect 6 = .ok (.istore_n 3, 1) := by decide +kernel
theorem dX1_suspect_7 : decode cX1_suspect 7 = .ok (.iload_n 3, 1) := by decide +kernel
theorem dX1_suspect_8 : decode cX1_suspect 8 = .ok (.aload_n 0, 1) := by decide +kernel
theorem dX1_suspect_9 : decode cX1_suspect 9 = .ok (.getfield 10, 3) := by decide +kernel
theorem dX1_suspect_12 : decode cX1_suspect 12 = .ok (.getfield 25, 3) := by decide +kernel
theorem dX1_suspect_15 : decode cX1_suspect 15 = .ok (.if_icmp .ge 30, 3) := by decide +kernel
theorem dX1_suspect_18 : decode cX1_suspect 18 = .ok (.aload_n 0, 1) := by decide +kernel
theorem dX1_suspect_19 : decode cX1_suspect 19 = .ok (.getfield 10, 3) := by decide +kernel
theorem dX1_suspect_22 : decode cX1_suspect 22 = .ok (.iload_n 3, 1) := by decide +kernel
theorem dX1_suspect_23 : decode cX1_suspect 23 = .ok (.invokevirtual 121, 3) := by decide +kernel
theorem dX1_suspect_26 : decode cX1_suspect 26 = .ok (.istore 4, 2) := by decide +kernel
theorem dX1_suspect_28 : decode cX1_suspect 28 = .ok (.iload 4, 2) := by decide +kernel
theorem dX1_suspect_30 : decode cX1_suspect 30 = .ok (.iload_n 2, 1) := by decide +kernel
theorem dX1_suspect_31 : decode cX1_suspect 31 = .ok (.if_icmp .le 8, 3) := by decide +kernel
theorem dX1_suspect_34 : decode cX1_suspect 34 = .ok (.iload 4, 2) := by decide +kernel
theorem dX1_suspect_36 : decode cX1_suspect 36 = .ok (.istore_n 2, 1) := by decide +kernel
theorem dX1_suspect_37 : decode cX1_suspect 37 = .ok (.iload_n 3, 1) := by decide +kernel
theorem dX1_suspect_38 : decode cX1_suspect 38 = .ok (.istore_n 1, 1) := by decide +kernel
theorem dX1_suspect_39 : decode cX1_suspect 39 = .ok (.iinc 3 1, 3) := by decide +kernel
theorem dX1_suspect_42 : decode cX1_suspect 42 = .ok (.goto (-35), 3) := by decide +kernel
theorem dX1_suspect_45 : decode cX1_suspect 45 = .ok (.iload_n 1, 1) := by decide +kernel
theorem dX1_suspect_46 : decode cX1_suspect 46 = .ok (.ireturn, 1) := by decide +kernel
set_option maxRecDepth 20000 in
theorem ggX1_move_X1_knownPairFault : GoodIn wsX1_move wsX1_knownPairFault := goodIn_r _ [6, 1, 7, 8, 9, 10, 5, 11, 12, 13, 14, 15, 16, 17, 18, 19, 20, 21, 22, 23, 24, 25, 26, 27, 28, 29, 30, 88, 89, 90, 91, 92, 93, 94, 95, 96, 97, 98, 99, 100] (by decide +kernel) (by decide +kernel)
set_option maxRecDepth 20000 in
theorem gX1_move_X1_knownPairFault : GoodIn wsX1_move (wsV RX1 44 RX1 yX1_knownPairFault wsX1_knownPairFault) := goodIn_app (goodIn_of _ (by decide +kernel)) ggX1_move_X1_knownPairFault
set_option maxRecDepth 20000 in
theorem ggX1_move_X0_distanceMoved : GoodIn wsX1_move wsX0_distanceMoved := goodIn_r _ [34, 35, 36, 37, 38, 39, 24, 40, 41, 42, 5, 43, 44, 45, 46, 47, 48, 49, 50, 51, 52, 53, 54, 55, 56, 57, 58, 59, 60, 61, 62, 63, 64, 65, 26, 27, 28, 29, 30, 66, 67, 68, 69, 70, 71, 72, 73, 74, 75, 76, 77, 78, 79, 80, 81, 82, 83, 84, 85, 86, 87, 90, 91, 92, 93, 94, 95, 96, 97, 98, 99, 100] (by decide +kernel) (by decide +kernel)
set_option maxRecDepth 20000 in
theorem gX1_move_X0_distanceMoved : GoodIn wsX1_move (wsV RX1 134 RX0 yX0_distanceMoved wsX0_distanceMoved) := goodIn_app (goodIn_of _ (by decide +kernel)) ggX1_move_X0_distanceMoved
theorem dX1_move_0 : decode cX1_move 0 = .ok (.aload_n 0, 1) := by decide +kernel
theorem dX1_move_1 : decode cX1_move 1 = .ok (.iload_n 1, 1) := by decide +kernel
theorem dX1_move_2 : decode cX1_move 2 = .ok (.iload_n 2, 1) := by decide +kernel
theorem dX1_move_3 : decode cX1_move 3 = .ok (.invokevirtual 44, 3) := by decide +kernel
theorem dX1_move_6 : decode cX1_move 6 = .ok (.istore_n 3, 1) := by decide +kernel
theorem dX1_move_7 : decode cX1_move 7 = .ok (.iload_n 3, 1) := by decide +kernel
theorem dX1_move_8 : decode cX1_move 8 = .ok (.ifCond .eq 7, 3) := by decide +kernel
theorem dX1_move_11 : decode cX1_move 11 = .ok (.iload_n 3, 1) := by decide +kernel
theorem dX1_move_12 : decode cX1_move 12 = .ok (.goto 12, 3) := by decide +kernel
theorem dX1_move_15 : decode cX1_move 15 = .ok (.aload_n 0, 1) := by decide +kernel
theorem dX1_move_16 : decode cX1_move 16 = .ok (.getfield 10, 3) := by decide +kernel
theorem dX1_move_19 : decode cX1_move 19 = .ok (.iload_n 1, 1) := by decide +kernel
theorem dX1_move_20 : decode cX1_move 20 = .ok (.iload_n 2, 1) := by decide +kernel
theorem dX1_move_21 : decode cX1_move 21 = .ok (.invokevirtual 134, 3) := by decide +kernel
theorem dX1_move_24 : decode cX1_move 24 = .ok (.ireturn, 1) := by decide +kernel
set_option maxRecDepth 20000 in
theorem ggX1_save_X1_isWithin : GoodIn wsX1_save wsX1_isWithin := goodIn_r _ [10] (by decide +kernel) (by decide +kernel)
set_option maxRecDepth 20000 in
theorem gX1_save_X1_isWithin : GoodIn wsX1_save (va_wsS RX1 20 yX1_isWithin wsX1_isWithin) := goodIn_app (goodIn_of _ (by decide +kernel)) ggX1_save_X1_isWithin
set_option maxRecDepth 20000 in
theorem ggX1_save_X0_init : GoodIn wsX1_save wsX0_init := goodIn_r _ [13, 14, 15, 16, 17, 18, 19, 20, 21, 22, 23, 24, 25, 26, 27, 28, 29, 5, 30, 31, 32, 33, 34, 35, 36, 47, 48, 49, 50, 51, 52, 53, 54, 55, 56, 57] (by decide +kernel) (by decide +kernel)
set_option maxRecDepth 20000 in
theorem gX1_save_X0_init : GoodIn wsX1_save (wsX0_init) := ggX1_save_X0_init
set_option maxRecDepth 20000 in
theorem ggX1_save_X0_copyFrom : GoodIn wsX1_save wsX0_copyFrom := goodIn_r _ [40, 31, 32, 17, 18, 19, 21, 41, 42, 43, 44, 22, 23, 24, 25, 26, 47, 48, 49, 50, 51, 52, 53, 54, 55, 56, 57] (by decide +kernel) (by decide +kernel)
set_option maxRecDepth 20000 in
theorem gX1_save_X0_copyFrom : GoodIn wsX1_save (wsV RX1 137 RX0 yX0_copyFrom wsX0_copyFrom) := goodIn_app (goodIn_of _ (by decide +kernel)) ggX1_save_X0_copyFrom
theorem dX1_save_0 : decode cX1_save 0 = .ok (.iload_n 1, 1) := by decide +kernel
theorem dX1_save_1 : decode cX1_save 1 = .ok (.iconst 0, 1) := by decide +kernel
theorem dX1_save_2 : decode cX1_save 2 = .ok (.iconst 1, 1) := by decide +kernel
theorem dX1_save_3 : decode cX1_save 3 = .ok (.invokestatic 20, 3) := by decide +kernel
theorem dX1_save_6 : decode cX1_save 6 = .ok (.ifCond .ne 6, 3) := by decide +kernel
theorem dX1_save_9 : decode cX1_save 9 = .ok (.ldc 24, 2) := by decide +kernel
theorem dX1_save_11 : decode cX1_save 11 = .ok (.ireturn, 1) := by decide +kernel
theorem dX1_save_12 : decode cX1_save 12 = .ok (.aload_n 0, 1) := by decide +kernel
theorem dX1_save_13 : decode cX1_save 13 = .ok (.getfield 16, 3) := by decide +kernel
theorem dX1_save_16 : decode cX1_save 16 = .ok (.iload_n 1, 1) := by decide +kernel
theorem dX1_save_17 : decode cX1_save 17 = .ok (.aaload, 1) := by decide +kernel
theorem dX1_save_18 : decode cX1_save 18 = .ok (.astore_n 2, 1) := by decide +kernel
theorem dX1_save_19 : decode cX1_save 19 = .ok (.aload_n 2, 1) := by decide +kernel
theorem dX1_save_20 : decode cX1_save 20 = .ok (.ifnonnull 18, 3) := by decide +kernel
theorem dX1_save_23 : decode cX1_save 23 = .ok (.new 7, 3) := by decide +kernel
theorem dX1_save_26 : decode cX1_save 26 = .ok (.dup, 1) := by decide +kernel
theorem dX1_save_27 : decode cX1_save 27 = .ok (.invokespecial 9, 3) := by decide +kernel
theorem dX1_save_30 : decode cX1_save 30 = .ok (.astore_n 2, 1) := by decide +kernel
theorem dX1_save_31 : decode cX1_save 31 = .ok (.aload_n 0, 1) := by decide +kernel
theorem dX1_save_32 : decode cX1_save 32 = .ok (.getfield 16, 3) := by decide +kernel
theorem dX1_save_35 : decode cX1_save 35 = .ok (.iload_n 1, 1) := by decide +kernel
theorem dX1_save_36 : decode cX1_save 36 = .ok (.aload_n 2, 1) := by decide +kernel
theorem dX1_save_37 : decode cX1_save 37 = .ok (.aastore, 1) := by decide +kernel
theorem dX1_save_38 : decode cX1_save 38 = .ok (.aload_n 2, 1) := by decide +kernel
theorem dX1_save_39 : decode cX1_save 39 = .ok (.aload_n 0, 1) := by decide +kernel
theorem dX1_save_40 : decode cX1_save 40 = .ok (.getfield 10, 3) := by decide +kernel
theorem dX1_save_43 : decode cX1_save 43 = .ok (.invokevirtual 137, 3) := by decide +kernel
theorem dX1_save_46 : decode cX1_save 46 = .ok (.iconst 1, 1) := by decide +kernel
theorem dX1_save_47 : decode cX1_save 47 = .ok (.ireturn, 1) := by decide +kernel
set_option maxRecDepth 20000 in
theorem ggX1_restore_X1_isWithin : GoodIn wsX1_restore wsX1_isWithin := goodIn_r _ [8] (by decide +kernel) (by decide +kernel)
set_option maxRecDepth 20000 in
theorem gX1_restore_X1_isWithin : GoodIn wsX1_restore (va_wsS RX1 20 yX1_isWithin wsX1_isWithin) := goodIn_app (goodIn_of _ (by decide +kernel)) ggX1_restore_X1_isWithin
set_option maxRecDepth 20000 in
theorem ggX1_restore_X0_copyFrom : GoodIn wsX1_restore wsX0_copyFrom := goodIn_r _ [13, 14, 15, 16, 17, 18, 19, 20, 21, 22, 23, 24, 25, 26, 27, 28, 31, 32, 33, 34, 35, 36, 37, 38, 39, 40, 41] (by decide +kernel) (by decide +kernel)
set_option maxRecDepth 20000 in
theorem gX1_restore_X0_copyFrom : GoodIn wsX1_restore (wsV RX1 137 RX0 yX0_copyFrom wsX0_copyFrom) := goodIn_app (goodIn_of _ (by decide +kernel)) ggX1_restore_X0_copyFrom
theorem dX1_restore_0 : decode cX1_restore 0 = .ok (.iload_n 1, 1) := by decide +kernel
theorem dX1_restore_1 : decode cX1_restore 1 = .ok (.iconst 0, 1) := by decide +kernel
theorem dX1_restore_2 : decode cX1_restore 2 = .ok (.iconst 1, 1) := by decide +kernel
theorem dX1_restore_3 : decode cX1_restore 3 = .ok (.invokestatic 20, 3) := by decide +kernel
theorem dX1_restore_6 : decode cX1_restore 6 = .ok (.ifCond .ne 6, 3) := by decide +kernel
theorem dX1_restore_9 : decode cX1_restore 9 = .ok (.ldc 24, 2) := by decide +kernel
theorem dX1_restore_11 : decode cX1_restore 11 = .ok (.ireturn, 1) := by decide +kernel
theorem dX1_restore_12 : decode cX1_restore 12 = .ok (.aload_n 0, 1) := by decide +kernel
theorem dX1_restore_13 : decode cX1_restore 13 = .ok (.getfield 16, 3) := by decide +kernel
theorem dX1_restore_16 : decode cX1_restore 16 = .ok (.iload_n 1, 1) := by decide +kernel
theorem dX1_restore_17 : decode cX1_restore 17 = .ok (.aaload, 1) := by decide +kernel
theorem dX1_restore_18 : decode cX1_restore 18 = .ok (.astore_n 2, 1) := by decide +kernel
theorem dX1_restore_19 : decode cX1_restore 19 = .ok (.aload_n 2, 1) := by decide +kernel
theorem dX1_restore_20 : decode cX1_restore 20 = .ok (.ifnonnull 6, 3) := by decide +kernel
theorem dX1_restore_23 : decode cX1_restore 23 = .ok (.ldc 141, 2) := by decide +kernel
theorem dX1_restore_25 : decode cX1_restore 25 = .ok (.ireturn, 1) := by decide +kernel
theorem dX1_restore_26 : decode cX1_restore 26 = .ok (.aload_n 0, 1) := by decide +kernel
theorem dX1_restore_27 : decode cX1_restore 27 = .ok (.getfield 10, 3) := by decide +kernel
theorem dX1_restore_30 : decode cX1_restore 30 = .ok (.aload_n 2, 1) := by decide +kernel
theorem dX1_restore_31 : decode cX1_restore 31 = .ok (.invokevirtual 137, 3) := by decide +kernel
theorem dX1_restore_34 : decode cX1_restore 34 = .ok (.iconst 1, 1) := by decide +kernel
theorem dX1_restore_35 : decode cX1_restore 35 = .ok (.ireturn, 1) := by decide +kernel
set_option maxRecDepth 20000 in
theorem ggX1_isNode_X1_isWithin : GoodIn wsX1_isNode wsX1_isWithin := goodIn_r _ [5] (by decide +kernel) (by decide +kernel)
set_option maxRecDepth 20000 in
theorem gX1_isNode_X1_isWithin : GoodIn wsX1_isNode (va_wsS RX1 20 yX1_isWithin wsX1_isWithin) := goodIn_app (goodIn_of _ (by decide +kernel)) ggX1_isNode_X1_isWithin
theorem dX1_isNode_0 : decode cX1_isNode 0 = .ok (.iload_n 1, 1) := by decide +kernel
theorem dX1_isNode_1 : decode cX1_isNode 1 = .ok (.iconst 0, 1) := by decide +kernel
theorem dX1_isNode_2 : decode cX1_isNode 2 = .ok (.aload_n 0, 1) := by decide +kernel
theorem dX1_isNode_3 : decode cX1_isNode 3 = .ok (.getfield 10, 3) := by decide +kernel
theorem dX1_isNode_6 : decode cX1_isNode 6 = .ok (.getfield 25, 3) := by decide +kernel
theorem dX1_isNode_9 : decode cX1_isNode 9 = .ok (.iconst 1, 1) := by decide +kernel
theorem dX1_isNode_10 : decode cX1_isNode 10 = .ok (.isub, 1) := by decide +kernel
theorem dX1_isNode_11 : decode cX1_isNode 11 = .ok (.invokestatic 20, 3) := by decide +kernel
theorem dX1_isNode_14 : decode cX1_isNode 14 = .ok (.ireturn, 1) := by decide +kernel
set_option maxRecDepth 20000 in
theorem ggX1_pairFault_X1_isNode : GoodIn wsX1_pairFault wsX1_isNode := goodIn_r _ [7, 8, 9, 10, 6, 11, 12, 13, 14, 15, 16, 17, 18, 19, 20, 21, 22, 23, 24] (by decide +kernel) (by decide +kernel)
set_option maxRecDepth 20000 in
theorem gX1_pairFault_X1_isNode : GoodIn wsX1_pairFault (wsV RX1 47 RX1 yX1_isNode wsX1_isNode) := goodIn_app (goodIn_of _ (by decide +kernel)) ggX1_pairFault_X1_isNode
theorem dX1_pairFault_0 : decode cX1_pairFault 0 = .ok (.aload_n 0, 1) := by decide +kernel
theorem dX1_pairFault_1 : decode cX1_pairFault 1 = .ok (.iload_n 1, 1) := by decide +kernel
theorem dX1_pairFault_2 : decode cX1_pairFault 2 = .ok (.invokevirtual 47, 3) := by decide +kernel
theorem dX1_pairFault_5 : decode cX1_pairFault 5 = .ok (.ifCond .eq 11, 3) := by decide +kernel
theorem dX1_pairFault_8 : decode cX1_pairFault 8 = .ok (.aload_n 0, 1) := by decide +kernel
theorem dX1_pairFault_9 : decode cX1_pairFault 9 = .ok (.iload_n 2, 1) := by decide +kernel
theorem dX1_pairFault_10 : decode cX1_pairFault 10 = .ok (.invokevirtual 47, 3) := by decide +kernel
theorem dX1_pairFault_13 : decode cX1_pairFault 13 = .ok (.ifCond .ne 6, 3) := by decide +kernel
theorem dX1_pairFault_16 : decode cX1_pairFault 16 = .ok (.ldc 51, 2) := by decide +kernel
theorem dX1_pairFault_18 : decode cX1_pairFault 18 = .ok (.ireturn, 1) := by decide +kernel
theorem dX1_pairFault_19 : decode cX1_pairFault 19 = .ok (.iload_n 1, 1) := by decide +kernel
theorem dX1_pairFault_20 : decode cX1_pairFault 20 = .ok (.iload_n 2, 1) := by decide +kernel
theorem dX1_pairFault_21 : decode cX1_pairFault 21 = .ok (.if_icmp .ne 8, 3) := by decide +kernel
theorem dX1_pairFault_24 : decode cX1_pairFault 24 = .ok (.ldc 142, 2) := by decide +kernel
theorem dX1_pairFault_26 : decode cX1_pairFault 26 = .ok (.goto 4, 3) := by decide +kernel
theorem dX1_pairFault_29 : decode cX1_pairFault 29 = .ok (.iconst 0, 1) := by decide +kernel
theorem dX1_pairFault_30 : decode cX1_pairFault 30 = .ok (.ireturn, 1) := by decide +kernel
set_option maxRecDepth 20000 in
theorem ggX1_knownPairFault_X1_pairFault : GoodIn wsX1_knownPairFault wsX1_pairFault := goodIn_r _ [7, 8, 9, 10, 11, 12, 6, 13, 1, 14, 15, 16, 27, 28, 29, 30, 31, 32, 33, 34, 35, 36, 37, 38, 39] (by decide +kernel) (by decide +kernel)
set_option maxRecDepth 20000 in
theorem gX1_knownPairFault_X1_pairFault : GoodIn wsX1_knownPairFault (wsV RX1 33 RX1 yX1_pairFault wsX1_pairFault) := goodIn_app (goodIn_of _ (by decide +kernel)) ggX1_knownPairFault_X1_pairFault
set_option maxRecDepth 20000 in
theorem ggX1_knownPairFault_X0_isKnown : GoodIn wsX1_knownPairFault wsX0_isKnown := goodIn_r _ [21, 22, 23, 24, 20, 25, 26, 29, 30, 31, 32, 33, 34, 35, 36, 37, 38, 39] (by decide +kernel) (by decide +kernel)
set_option maxRecDepth 20000 in
theorem gX1_knownPairFault_X0_isKnown : GoodIn wsX1_knownPairFault (wsV RX1 100 RX0 yX0_isKnown wsX0_isKnown) := goodIn_app (goodIn_of _ (by decide +kernel)) ggX1_knownPairFault_X0_isKnown
theorem dX1_knownPairFault_0 : decode cX1_knownPairFault 0 = .ok (.aload_n 0, 1) := by decide +kernel
theorem dX1_knownPairFault_1 : decode cX1_knownPairFault 1 = .ok (.iload_n 1, 1) := by decide +kernel
theorem dX1_knownPairFault_2 : decode cX1_knownPairFault 2 = .ok (.iload_n 2, 1) := by decide +kernel
theorem dX1_knownPairFault_3 : decode cX1_knownPairFault 3 = .ok (.invokevirtual 33, 3) := by decide +kernel
theorem dX1_knownPairFault_6 : decode cX1_knownPairFault 6 = .ok (.istore_n 3, 1) := by decide +kernel
theorem dX1_knownPairFault_7 : decode cX1_knownPairFault 7 = .ok (.iload_n 3, 1) := by decide +kernel
theorem dX1_knownPairFault_8 : decode cX1_knownPairFault 8 = .ok (.ifCond .eq 5, 3) := by decide +kernel
theorem dX1_knownPairFault_11 : decode cX1_knownPairFault 11 = .ok (.iload_n 3, 1) := by decide +kernel
theorem dX1_knownPairFault_12 : decode cX1_knownPairFault 12 = .ok (.ireturn, 1) := by decide +kernel
theorem dX1_knownPairFault_13 : decode cX1_knownPairFault 13 = .ok (.aload_n 0, 1) := by decide +kernel
theorem dX1_knownPairFault_14 : decode cX1_knownPairFault 14 = .ok (.getfield 10, 3) := by decide +kernel
theorem dX1_knownPairFault_17 : decode cX1_knownPairFault 17 = .ok (.iload_n 1, 1) := by decide +kernel
theorem dX1_knownPairFault_18 : decode cX1_knownPairFault 18 = .ok (.iload_n 2, 1) := by decide +kernel
theorem dX1_knownPairFault_19 : decode cX1_knownPairFault 19 = .ok (.invokevirtual 100, 3) := by decide +kernel
theorem dX1_knownPairFault_22 : decode cX1_knownPairFault 22 = .ok (.ifCond .eq 7, 3) := by decide +kernel
theorem dX1_knownPairFault_25 : decode cX1_knownPairFault 25 = .ok (.iconst 0, 1) := by decide +kernel
theorem dX1_knownPairFault_26 : decode cX1_knownPairFault 26 = .ok (.goto 5, 3) := by decide +kernel
theorem dX1_knownPairFault_29 : decode cX1_knownPairFault 29 = .ok (.ldc 143, 2) := by decide +kernel
theorem dX1_knownPairFault_31 : decode cX1_knownPairFault 31 = .ok (.ireturn, 1) := by decide +kernel
theorem dX1_isWithin_0 : decode cX1_isWithin 0 = .ok (.iload_n 1, 1) := by decide +kernel
theorem dX1_isWithin_1 : decode cX1_isWithin 1 = .ok (.iload_n 0, 1) := by decide +kernel
theorem dX1_isWithin_2 : decode cX1_isWithin 2 = .ok (.if_icmp .gt 12, 3) := by decide +kernel
theorem dX1_isWithin_5 : decode cX1_isWithin 5 = .ok (.iload_n 0, 1) := by decide +kernel
theorem dX1_isWithin_6 : decode cX1_isWithin 6 = .ok (.iload_n 2, 1) := by decide +kernel
theorem dX1_isWithin_7 : decode cX1_isWithin 7 = .ok (.if_icmp .gt 7, 3) := by decide +kernel
theorem dX1_isWithin_10 : decode cX1_isWithin 10 = .ok (.iconst 1, 1) := by decide +kernel
theorem dX1_isWithin_11 : decode cX1_isWithin 11 = .ok (.goto 4, 3) := by decide +kernel
theorem dX1_isWithin_14 : decode cX1_isWithin 14 = .ok (.iconst 0, 1) := by decide +kernel
theorem dX1_isWithin_15 : decode cX1_isWithin 15 = .ok (.ireturn, 1) := by decide +kernel
theorem dX1_limited_0 : decode cX1_limited 0 = .ok (.iload_n 2, 1) := by decide +kernel
theorem dX1_limited_1 : decode cX1_limited 1 = .ok (.i2l, 1) := by decide +kernel
theorem dX1_limited_2 : decode cX1_limited 2 = .ok (.iload_n 3, 1) := by decide +kernel
theorem dX1_limited_3 : decode cX1_limited 3 = .ok (.i2l, 1) := by decide +kernel
theorem dX1_limited_4 : decode cX1_limited 4 = .ok (.lload_n 0, 1) := by decide +kernel
theorem dX1_limited_5 : decode cX1_limited 5 = .ok (.invokestatic 144, 3) := by decide +kernel
theorem dX1_limited_8 : decode cX1_limited 8 = .ok (.invokestatic 147, 3) := by decide +kernel
theorem dX1_limited_11 : decode cX1_limited 11 = .ok (.l2i, 1) := by decide +kernel
theorem dX1_limited_12 : decode cX1_limited 12 = .ok (.ireturn, 1) := by decide +kernel
theorem dX1_quotient_0 : decode cX1_quotient 0 = .ok (.lload_n 2, 1) := by decide +kernel
theorem dX1_quotient_1 : decode cX1_quotient 1 = .ok (.lconst 1, 1) := by decide +kernel
theorem dX1_quotient_2 : decode cX1_quotient 2 = .ok (.lcmp, 1) := by decide +kernel
theorem dX1_quotient_3 : decode cX1_quotient 3 = .ok (.ifCond .ge 7, 3) := by decide +kernel
theorem dX1_quotient_6 : decode cX1_quotient 6 = .ok (.lconst 0, 1) := by decide +kernel
theorem dX1_quotient_7 : decode cX1_quotient 7 = .ok (.goto 6, 3) := by decide +kernel
theorem dX1_quotient_10 : decode cX1_quotient 10 = .ok (.lload_n 0, 1) := by decide +kernel
theorem dX1_quotient_11 : decode cX1_quotient 11 = .ok (.lload_n 2, 1) := by decide +kernel
theorem dX1_quotient_12 : decode cX1_quotient 12 = .ok (.ldiv, 1) := by decide +kernel
theorem dX1_quotient_13 : decode cX1_quotient 13 = .ok (.lreturn, 1) := by decide +kernel
set_option maxRecDepth 20000 in
theorem ggX1_share_X1_quotient : GoodIn wsX1_share wsX1_quotient := goodIn_r _ [4] (by decide +kernel) (by decide +kernel)
set_option maxRecDepth 20000 in
theorem gX1_share_X1_quotient : GoodIn wsX1_share (va_wsS RX1 108 yX1_quotient wsX1_quotient) := goodIn_app (goodIn_of _ (by decide +kernel)) ggX1_share_X1_quotient
theorem dX1_share_0 : decode cX1_share 0 = .ok (.iload_n 2, 1) := by decide +kernel
theorem dX1_share_1 : decode cX1_share 1 = .ok (.ifCond .ne 7, 3) := by decide +kernel
theorem dX1_share_4 : decode cX1_share 4 = .ok (.lconst 0, 1) := by decide +kernel
theorem dX1_share_5 : decode cX1_share 5 = .ok (.goto 13, 3) := by decide +kernel
theorem dX1_share_8 : decode cX1_share 8 = .ok (.iload_n 0, 1) := by decide +kernel
theorem dX1_share_9 : decode cX1_share 9 = .ok (.i2l, 1) := by decide +kernel
theorem dX1_share_10 : decode cX1_share 10 = .ok (.iload_n 1, 1) := by decide +kernel
theorem dX1_share_11 : decode cX1_share 11 = .ok (.i2l, 1) := by decide +kernel
theorem dX1_share_12 : decode cX1_share 12 = .ok (.lmul, 1) := by decide +kernel
theorem dX1_share_13 : decode cX1_share 13 = .ok (.iload_n 2, 1) := by decide +kernel
theorem dX1_share_14 : decode cX1_share 14 = .ok (.i2l, 1) := by decide +kernel
theorem dX1_share_15 : decode cX1_share 15 = .ok (.invokestatic 108, 3) := by decide +kernel
theorem dX1_share_18 : decode cX1_share 18 = .ok (.lreturn, 1) := by decide +kernel
theorem dX1_squareRoot_0 : decode cX1_squareRoot 0 = .ok (.lconst 0, 1) := by decide +kernel
theorem dX1_squareRoot_1 : decode cX1_squareRoot 1 = .ok (.lstore_n 2, 1) := by decide +kernel
theorem dX1_squareRoot_2 : decode cX1_squareRoot 2 = .ok (.bipush 18, 2) := by decide +kernel
theorem dX1_squareRoot_4 : decode cX1_squareRoot 4 = .ok (.istore 4, 2) := by decide +kernel
theorem dX1_squareRoot_6 : decode cX1_squareRoot 6 = .ok (.iload 4, 2) := by decide +kernel
theorem dX1_squareRoot_8 : decode cX1_squareRoot 8 = .ok (.ifCond .lt 30, 3) := by decide +kernel
theorem dX1_squareRoot_11 : decode cX1_squareRoot 11 = .ok (.lload_n 2, 1) := by decide +kernel
theorem dX1_squareRoot_12 : decode cX1_squareRoot 12 = .ok (.lconst 1, 1) := by decide +kernel
theorem dX1_squareRoot_13 : decode cX1_squareRoot 13 = .ok (.iload 4, 2) := by decide +kernel
theorem dX1_squareRoot_15 : decode cX1_squareRoot 15 = .ok (.lshl, 1) := by decide +kernel
theorem dX1_squareRoot_16 : decode cX1_squareRoot 16 = .ok (.ladd, 1) := by decide +kernel
theorem dX1_squareRoot_17 : decode cX1_squareRoot 17 = .ok (.lstore 5, 2) := by decide +kernel
theorem dX1_squareRoot_19 : decode cX1_squareRoot 19 = .ok (.lload 5, 2) := by decide +kernel
theorem dX1_squareRoot_21 : decode cX1_squareRoot 21 = .ok (.lload 5, 2) := by decide +kernel
theorem dX1_squareRoot_23 : decode cX1_squareRoot 23 = .ok (.lmul, 1) := by decide +kernel
theorem dX1_squareRoot_24 : decode cX1_squareRoot 24 = .ok (.lload_n 0, 1) := by decide +kernel
theorem dX1_squareRoot_25 : decode cX1_squareRoot 25 = .ok (.lcmp, 1) := by decide +kernel
theorem dX1_squareRoot_26 : decode cX1_squareRoot 26 = .ok (.ifCond .gt 6, 3) := by decide +kernel
theorem dX1_squareRoot_29 : decode cX1_squareRoot 29 = .ok (.lload 5, 2) := by decide +kernel
theorem dX1_squareRoot_31 : decode cX1_squareRoot 31 = .ok (.lstore_n 2, 1) := by decide +kernel
theorem dX1_squareRoot_32 : decode cX1_squareRoot 32 = .ok (.iinc 4 (-1), 3) := by decide +kernel
theorem dX1_squareRoot_35 : decode cX1_squareRoot 35 = .ok (.goto (-29), 3) := by decide +kernel
theorem dX1_squareRoot_38 : decode cX1_squareRoot 38 = .ok (.lload_n 2, 1) := by decide +kernel
theorem dX1_squareRoot_39 : decode cX1_squareRoot 39 = .ok (.l2i, 1) := by decide +kernel
theorem dX1_squareRoot_40 : decode cX1_squareRoot 40 = .ok (.ireturn, 1) := by decide +kernel
set_option maxRecDepth 20000 in
theorem ggX1_planarDistance_X1_squareRoot : GoodIn wsX1_planarDistance wsX1_squareRoot := goodIn_r _ [4] (by decide +kernel) (by decide +kernel)
set_option maxRecDepth 20000 in
theorem gX1_planarDistance_X1_squareRoot : GoodIn wsX1_planarDistance (va_wsS RX1 149 yX1_squareRoot wsX1_squareRoot) := goodIn_app (goodIn_of _ (by decide +kernel)) ggX1_planarDistance_X1_squareRoot
theorem dX1_planarDistance_0 : decode cX1_planarDistance 0 = .ok (.lload_n 0, 1) := by decide +kernel
theorem dX1_planarDistance_1 : decode cX1_planarDistance 1 = .ok (.lload_n 0, 1) := by decide +kernel
theorem dX1_planarDistance_2 : decode cX1_planarDistance 2 = .ok (.lmul, 1) := by decide +kernel
theorem dX1_planarDistance_3 : decode cX1_planarDistance 3 = .ok (.lload_n 2, 1) := by decide +kernel
theorem dX1_planarDistance_4 : decode cX1_planarDistance 4 = .ok (.lload_n 2, 1) := by decide +kernel
theorem dX1_planarDistance_5 : decode cX1_planarDistance 5 = .ok (.lmul, 1) := by decide +kernel
theorem dX1_planarDistance_6 : decode cX1_planarDistance 6 = .ok (.ladd, 1) := by decide +kernel
theorem dX1_planarDistance_7 : decode cX1_planarDistance 7 = .ok (.invokestatic 149, 3) := by decide +kernel
theorem dX1_planarDistance_10 : decode cX1_planarDistance 10 = .ok (.ireturn, 1) := by decide +kernel
end
section
set_option maxRecDepth 20000 in
theorem ggX2_init_X2_begin : GoodIn wsX2_init wsX2_begin := goodIn_r _ [14, 5, 15, 16, 17, 18, 19, 20, 21, 22, 23, 24, 25] (by decide +kernel) (by decide +kernel)
set_option maxRecDepth 20000 in
theorem gX2_init_X2_begin : GoodIn wsX2_init (wsV RX2 23 RX2 yX2_begin wsX2_begin) := goodIn_app (goodIn_of _ (by decide +kernel)) ggX2_init_X2_begin
theorem dX2_init_0 : decode cX2_init 0 = .ok (.aload_n 0, 1) := by decide +kernel
theorem dX2_init_1 : decode cX2_init 1 = .ok (.invokespecial 1, 3) := by decide +kernel
theorem dX2_init_4 : decode cX2_init 4 = .ok (.aload_n 0, 1) := by decide +kernel
theorem dX2_init_5 : decode cX2_init 5 = .ok (.sipush 155, 3) := by decide +kernel
theorem dX2_init_8 : decode cX2_init 8 = .ok (.newarray .int, 2) := by decide +kernel
theorem dX2_init_10 : decode cX2_init 10 = .ok (.putfield 7, 3) := by decide +kernel
theorem dX2_init_13 : decode cX2_init 13 = .ok (.aload_n 0, 1) := by decide +kernel
theorem dX2_init_14 : decode cX2_init 14 = .ok (.sipush 310, 3) := by decide +kernel
theorem dX2_init_17 : decode cX2_init 17 = .ok (.newarray .int, 2) := by decide +kernel
theorem dX2_init_19 : decode cX2_init 19 = .ok (.putfield 13, 3) := by decide +kernel
theorem dX2_init_22 : decode cX2_init 22 = .ok (.aload_n 0, 1) := by decide +kernel
theorem dX2_init_23 : decode cX2_init 23 = .ok (.iconst 2, 1) := by decide +kernel
theorem dX2_init_24 : decode cX2_init 24 = .ok (.newarray .boolean, 2) := by decide +kernel
theorem dX2_init_26 : decode cX2_init 26 = .ok (.putfield 16, 3) := by decide +kernel
theorem dX2_init_29 : decode cX2_init 29 = .ok (.aload_n 0, 1) := by decide +kernel
theorem dX2_init_30 : decode cX2_init 30 = .ok (.bipush 10, 2) := by decide +kernel
theorem dX2_init_32 : decode cX2_init 32 = .ok (.newarray .int, 2) := by decide +kernel
theorem dX2_init_34 : decode cX2_init 34 = .ok (.putfield 20, 3) := by decide +kernel
theorem dX2_init_37 : decode cX2_init 37 = .ok (.aload_n 0, 1) := by decide +kernel
theorem dX2_init_38 : decode cX2_init 38 = .ok (.getfield 7, 3) := by decide +kernel
theorem dX2_init_41 : decode cX2_init 41 = .ok (.iconst 2, 1) := by decide +kernel
theorem dX2_init_42 : decode cX2_init 42 = .ok (.sipush 250, 3) := by decide +kernel
theorem dX2_init_45 : decode cX2_init 45 = .ok (.iastore, 1) := by decide +kernel
theorem dX2_init_46 : decode cX2_init 46 = .ok (.aload_n 0, 1) := by decide +kernel
theorem dX2_init_47 : decode cX2_init 47 = .ok (.getfield 7, 3) := by decide +kernel
theorem dX2_init_50 : decode cX2_init 50 = .ok (.iconst 3, 1) := by decide +kernel
theorem dX2_init_51 : decode cX2_init 51 = .ok (.sipush 250, 3) := by decide +kernel
theorem dX2_init_54 : decode cX2_init 54 = .ok (.iastore, 1) := by decide +kernel
theorem dX2_init_55 : decode cX2_init 55 = .ok (.aload_n 0, 1) := by decide +kernel
theorem dX2_init_56 : decode cX2_init 56 = .ok (.getfield 7, 3) := by decide +kernel
theorem dX2_init_59 : decode cX2_init 59 = .ok (.iconst 4, 1) := by decide +kernel
theorem dX2_init_60 : decode cX2_init 60 = .ok (.sipush 2000, 3) := by decide +kernel
theorem dX2_init_63 : decode cX2_init 63 = .ok (.iastore, 1) := by decide +kernel
theorem dX2_init_64 : decode cX2_init 64 = .ok (.aload_n 0, 1) := by decide +kernel
theorem dX2_init_65 : decode cX2_init 65 = .ok (.iconst 5, 1) := by decide +kernel
theorem dX2_init_66 : decode cX2_init 66 = .ok (.invokevirtual 23, 3) := by decide +kernel
theorem dX2_init_69 : decode cX2_init 69 = .ok (.return_, 1) := by decide +kernel
theorem dX2_begin_0 : decode cX2_begin 0 = .ok (.aload_n 0, 1) := by decide +kernel
theorem dX2_begin_1 : decode cX2_begin 1 = .ok (.getfield 7, 3) := by decide +kernel
theorem dX2_begin_4 : decode cX2_begin 4 = .ok (.iconst 0, 1) := by decide +kernel
theorem dX2_begin_5 : decode cX2_begin 5 = .ok (.iload_n 1, 1) := by decide +kernel
theorem dX2_begin_6 : decode cX2_begin 6 = .ok (.iastore, 1) := by decide +kernel
theorem dX2_begin_7 : decode cX2_begin 7 = .ok (.aload_n 0, 1) := by decide +kernel
theorem dX2_begin_8 : decode cX2_begin 8 = .ok (.getfield 7, 3) := by decide +kernel
theorem dX2_begin_11 : decode cX2_begin 11 = .ok (.iconst 1, 1) := by decide +kernel
theorem dX2_begin_12 : decode cX2_begin 12 = .ok (.iconst 0, 1) := by decide +kernel
theorem dX2_begin_13 : decode cX2_begin 13 = .ok (.iastore, 1) := by decide +kernel
theorem dX2_begin_14 : decode cX2_begin 14 = .ok (.iconst 5, 1) := by decide +kernel
theorem dX2_begin_15 : decode cX2_begin 15 = .ok (.istore_n 2, 1) := by decide +kernel
theorem dX2_begin_16 : decode cX2_begin 16 = .ok (.iload_n 2, 1) := by decide +kernel
theorem dX2_begin_17 : decode cX2_begin 17 = .ok (.sipush 155, 3) := by decide +kernel
theorem dX2_begin_20 : decode cX2_begin 20 = .ok (.if_icmp .ge 34, 3) := by decide +kernel
theorem dX2_begin_23 : decode cX2_begin 23 = .ok (.aload_n 0, 1) := by decide +kernel
theorem dX2_begin_24 : decode cX2_begin 24 = .ok (.getfield 7, 3) := by decide +kernel
theorem dX2_begin_27 : decode cX2_begin 27 = .ok (.iload_n 2, 1) := by decide +kernel
theorem dX2_begin_28 : decode cX2_begin 28 = .ok (.iload_n 2, 1) := by decide +kernel
theorem dX2_begin_29 : decode cX2_begin 29 = .ok (.bipush 35, 2) := by decide +kernel
theorem dX2_begin_31 : decode cX2_begin 31 = .ok (.if_icmp .lt 15, 3) := by decide +kernel
theorem dX2_begin_34 : decode cX2_begin 34 = .ok (.iload_n 2, 1) := by decide +kernel
theorem dX2_begin_35 : decode cX2_begin 35 = .ok (.bipush 45, 2) := by decide +kernel
theorem dX2_begin_37 : decode cX2_begin 37 = .ok (.if_icmp .ge 9, 3) := by decide +kernel
theorem dX2_begin_40 : decode cX2_begin 40 = .ok (.sipush 1000, 3) := by decide +kernel
theorem dX2_begin_43 : decode cX2_begin 43 = .ok (.goto 4, 3) := by decide +kernel
theorem dX2_begin_46 : decode cX2_begin 46 = .ok (.iconst 0, 1) := by decide +kernel
theorem dX2_begin_47 : decode cX2_begin 47 = .ok (.iastore, 1) := by decide +kernel
theorem dX2_begin_48 : decode cX2_begin 48 = .ok (.iinc 2 1, 3) := by decide +kernel
theorem dX2_begin_51 : decode cX2_begin 51 = .ok (.goto (-35), 3) := by decide +kernel
theorem dX2_begin_54 : decode cX2_begin 54 = .ok (.return_, 1) := by decide +kernel
theorem dX2_in_0 : decode cX2_in 0 = .ok (.iload_n 0, 1) := by decide +kernel
theorem dX2_in_1 : decode cX2_in 1 = .ok (.iload_n 1, 1) := by decide +kernel
theorem dX2_in_2 : decode cX2_in 2 = .ok (.if_icmp .lt 12, 3) := by decide +kernel
theorem dX2_in_5 : decode cX2_in 5 = .ok (.iload_n 0, 1) := by decide +kernel
theorem dX2_in_6 : decode cX2_in 6 = .ok (.iload_n 2, 1) := by decide +kernel
theorem dX2_in_7 : decode cX2_in 7 = .ok (.if_icmp .gt 7, 3) := by decide +kernel
theorem dX2_in_10 : decode cX2_in 10 = .ok (.iconst 1, 1) := by decide +kernel
theorem dX2_in_11 : decode cX2_in 11 = .ok (.goto 4, 3) := by decide +kernel
theorem dX2_in_14 : decode cX2_in 14 = .ok (.iconst 0, 1) := by decide +kernel
theorem dX2_in_15 : decode cX2_in 15 = .ok (.ireturn, 1) := by decide +kernel
set_option maxRecDepth 20000 in
theorem ggX2_isNode_X2_in : GoodIn wsX2_isNode wsX2_in := goodIn_r _ [5] (by decide +kernel) (by decide +kernel)
set_option maxRecDepth 20000 in
theorem gX2_isNode_X2_in : GoodIn wsX2_isNode (va_wsS RX2 27 yX2_in wsX2_in) := goodIn_app (goodIn_of _ (by decide +kernel)) ggX2_isNode_X2_in
theorem dX2_isNode_0 : decode cX2_isNode 0 = .ok (.iload_n 1, 1) := by decide +kernel
theorem dX2_isNode_1 : decode cX2_isNode 1 = .ok (.iconst 0, 1) := by decide +kernel
theorem dX2_isNode_2 : decode cX2_isNode 2 = .ok (.aload_n 0, 1) := by decide +kernel
theorem dX2_isNode_3 : decode cX2_isNode 3 = .ok (.getfield 7, 3) := by decide +kernel
theorem dX2_isNode_6 : decode cX2_isNode 6 = .ok (.iconst 0, 1) := by decide +kernel
theorem dX2_isNode_7 : decode cX2_isNode 7 = .ok (.iaload, 1) := by decide +kernel
theorem dX2_isNode_8 : decode cX2_isNode 8 = .ok (.iconst 1, 1) := by decide +kernel
theorem dX2_isNode_9 : decode cX2_isNode 9 = .ok (.isub, 1) := by decide +kernel
theorem dX2_isNode_10 : decode cX2_isNode 10 = .ok (.invokestatic 27, 3) := by decide +kernel
theorem dX2_isNode_13 : decode cX2_isNode 13 = .ok (.ireturn, 1) := by decide +kernel
theorem dX2_plain_0 : decode cX2_plain 0 = .ok (.lload_n 0, 1) := by decide +kernel
theorem dX2_plain_1 : decode cX2_plain 1 = .ok (.lconst 0, 1) := by decide +kernel
theorem dX2_plain_2 : decode cX2_plain 2 = .ok (.lcmp, 1) := by decide +kernel
theorem dX2_plain_3 : decode cX2_plain 3 = .ok (.ifCond .ge 8, 3) := by decide +kernel
theorem dX2_plain_6 : decode cX2_plain 6 = .ok (.lload_n 0, 1) := by decide +kernel
theorem dX2_plain_7 : decode cX2_plain 7 = .ok (.lneg, 1) := by decide +kernel
theorem dX2_plain_8 : decode cX2_plain 8 = .ok (.goto 4, 3) := by decide +kernel
theorem dX2_plain_11 : decode cX2_plain 11 = .ok (.lload_n 0, 1) := by decide +kernel
theorem dX2_plain_12 : decode cX2_plain 12 = .ok (.lreturn, 1) := by decide +kernel
theorem dX2_limited_0 : decode cX2_limited 0 = .ok (.lload_n 0, 1) := by decide +kernel
theorem dX2_limited_1 : decode cX2_limited 1 = .ok (.iload_n 2, 1) := by decide +kernel
theorem dX2_limited_2 : decode cX2_limited 2 = .ok (.i2l, 1) := by decide +kernel
theorem dX2_limited_3 : decode cX2_limited 3 = .ok (.lcmp, 1) := by decide +kernel
theorem dX2_limited_4 : decode cX2_limited 4 = .ok (.ifCond .ge 8, 3) := by decide +kernel
theorem dX2_limited_7 : decode cX2_limited 7 = .ok (.iload_n 2, 1) := by decide +kernel
theorem dX2_limited_8 : decode cX2_limited 8 = .ok (.i2l, 1) := by decide +kernel
theorem dX2_limited_9 : decode cX2_limited 9 = .ok (.goto 16, 3) := by decide +kernel
theorem dX2_limited_12 : decode cX2_limited 12 = .ok (.lload_n 0, 1) := by decide +kernel
theorem dX2_limited_13 : decode cX2_limited 13 = .ok (.iload_n 3, 1) := by decide +kernel
theorem dX2_limited_14 : decode cX2_limited 14 = .ok (.i2l, 1) := by decide +kernel
theorem dX2_limited_15 : decode cX2_limited 15 = .ok (.lcmp, 1) := by decide +kernel
theorem dX2_limited_16 : decode cX2_limited 16 = .ok (.ifCond .le 8, 3) := by decide +kernel
theorem dX2_limited_19 : decode cX2_limited 19 = .ok (.iload_n 3, 1) := by decide +kernel
theorem dX2_limited_20 : decode cX2_limited 20 = .ok (.i2l, 1) := by decide +kernel
theorem dX2_limited_21 : decode cX2_limited 21 = .ok (.goto 4, 3) := by decide +kernel
theorem dX2_limited_24 : decode cX2_limited 24 = .ok (.lload_n 0, 1) := by decide +kernel
theorem dX2_limited_25 : decode cX2_limited 25 = .ok (.l2i, 1) := by decide +kernel
theorem dX2_limited_26 : decode cX2_limited 26 = .ok (.ireturn, 1) := by decide +kernel
theorem dX2_root_0 : decode cX2_root 0 = .ok (.lconst 0, 1) := by decide +kernel
theorem dX2_root_1 : decode cX2_root 1 = .ok (.lstore_n 2, 1) := by decide +kernel
theorem dX2_root_2 : decode cX2_root 2 = .ok (.ldc2_w 31, 3) := by decide +kernel
theorem dX2_root_5 : decode cX2_root 5 = .ok (.lstore 4, 2) := by decide +kernel
theorem dX2_root_7 : decode cX2_root 7 = .ok (.lload_n 2, 1) := by decide +kernel
theorem dX2_root_8 : decode cX2_root 8 = .ok (.lload 4, 2) := by decide +kernel
theorem dX2_root_10 : decode cX2_root 10 = .ok (.lcmp, 1) := by decide +kernel
theorem dX2_root_11 : decode cX2_root 11 = .ok (.ifCond .ge 40, 3) := by decide +kernel
theorem dX2_root_14 : decode cX2_root 14 = .ok (.lload_n 2, 1) := by decide +kernel
theorem dX2_root_15 : decode cX2_root 15 = .ok (.lload 4, 2) := by decide +kernel
theorem dX2_root_17 : decode cX2_root 17 = .ok (.ladd, 1) := by decide +kernel
theorem dX2_root_18 : decode cX2_root 18 = .ok (.lconst 1, 1) := by decide +kernel
theorem dX2_root_19 : decode cX2_root 19 = .ok (.ladd, 1) := by decide +kernel
theorem dX2_root_20 : decode cX2_root 20 = .ok (.ldc2_w 33, 3) := by decide +kernel
theorem dX2_root_23 : decode cX2_root 23 = .ok (.ldiv, 1) := by decide +kernel
theorem dX2_root_24 : decode cX2_root 24 = .ok (.lstore 6, 2) := by decide +kernel
theorem dX2_root_26 : decode cX2_root 26 = .ok (.lload 6, 2) := by decide +kernel
theorem dX2_root_28 : decode cX2_root 28 = .ok (.lload 6, 2) := by decide +kernel
theorem dX2_root_30 : decode cX2_root 30 = .ok (.lmul, 1) := by decide +kernel
theorem dX2_root_31 : decode cX2_root 31 = .ok (.lload_n 0, 1) := by decide +kernel
theorem dX2_root_32 : decode cX2_root 32 = .ok (.lcmp, 1) := by decide +kernel
theorem dX2_root_33 : decode cX2_root 33 = .ok (.ifCond .gt 9, 3) := by decide +kernel
theorem dX2_root_36 : decode cX2_root 36 = .ok (.lload 6, 2) := by decide +kernel
theorem dX2_root_38 : decode cX2_root 38 = .ok (.lstore_n 2, 1) := by decide +kernel
theorem dX2_root_39 : decode cX2_root 39 = .ok (.goto 9, 3) := by decide +kernel
theorem dX2_root_42 : decode cX2_root 42 = .ok (.lload 6, 2) := by decide +kernel
theorem dX2_root_44 : decode cX2_root 44 = .ok (.lconst 1, 1) := by decide +kernel
theorem dX2_root_45 : decode cX2_root 45 = .ok (.lsub, 1) := by decide +kernel
theorem dX2_root_46 : decode cX2_root 46 = .ok (.lstore 4, 2) := by decide +kernel
theorem dX2_root_48 : decode cX2_root 48 = .ok (.goto (-41), 3) := by decide +kernel
theorem dX2_root_51 : decode cX2_root 51 = .ok (.lload_n 2, 1) := by decide +kernel
theorem dX2_root_52 : decode cX2_root 52 = .ok (.lreturn, 1) := by decide +kernel
set_option maxRecDepth 20000 in
theorem ggX2_reset_X2_in : GoodIn wsX2_reset wsX2_in := goodIn_r _ [6] (by decide +kernel) (by decide +kernel)
set_option maxRecDepth 20000 in
theorem gX2_reset_X2_in : GoodIn wsX2_reset (va_wsS RX2 27 yX2_in wsX2_in) := goodIn_app (goodIn_of _ (by decide +kernel)) ggX2_reset_X2_in
set_option maxRecDepth 20000 in
theorem ggX2_reset_X2_begin : GoodIn wsX2_reset wsX2_begin := goodIn_r _ [10, 2, 11, 12, 13, 14, 15, 16, 17, 18, 19, 20, 21] (by decide +kernel) (by decide +kernel)
set_option maxRecDepth 20000 in
theorem gX2_reset_X2_begin : GoodIn wsX2_reset (wsV RX2 23 RX2 yX2_begin wsX2_begin) := goodIn_app (goodIn_of _ (by decide +kernel)) ggX2_reset_X2_begin
theorem dX2_reset_0 : decode cX2_reset 0 = .ok (.iload_n 1, 1) := by decide +kernel
theorem dX2_reset_1 : decode cX2_reset 1 = .ok (.iconst 2, 1) := by decide +kernel
theorem dX2_reset_2 : decode cX2_reset 2 = .ok (.bipush 10, 2) := by decide +kernel
theorem dX2_reset_4 : decode cX2_reset 4 = .ok (.invokestatic 27, 3) := by decide +kernel
theorem dX2_reset_7 : decode cX2_reset 7 = .ok (.ifCond .ne 6, 3) := by decide +kernel
theorem dX2_reset_10 : decode cX2_reset 10 = .ok (.ldc 35, 2) := by decide +kernel
theorem dX2_reset_12 : decode cX2_reset 12 = .ok (.ireturn, 1) := by decide +kernel
theorem dX2_reset_13 : decode cX2_reset 13 = .ok (.aload_n 0, 1) := by decide +kernel
theorem dX2_reset_14 : decode cX2_reset 14 = .ok (.getfield 7, 3) := by decide +kernel
theorem dX2_reset_17 : decode cX2_reset 17 = .ok (.iconst 0, 1) := by decide +kernel
theorem dX2_reset_18 : decode cX2_reset 18 = .ok (.iaload, 1) := by decide +kernel
theorem dX2_reset_19 : decode cX2_reset 19 = .ok (.istore_n 2, 1) := by decide +kernel
theorem dX2_reset_20 : decode cX2_reset 20 = .ok (.aload_n 0, 1) := by decide +kernel
theorem dX2_reset_21 : decode cX2_reset 21 = .ok (.iload_n 1, 1) := by decide +kernel
theorem dX2_reset_22 : decode cX2_reset 22 = .ok (.invokevirtual 23, 3) := by decide +kernel
theorem dX2_reset_25 : decode cX2_reset 25 = .ok (.iload_n 2, 1) := by decide +kernel
theorem dX2_reset_26 : decode cX2_reset 26 = .ok (.ireturn, 1) := by decide +kernel
theorem dX2_set_0 : decode cX2_set 0 = .ok (.aload_n 0, 1) := by decide +kernel
theorem dX2_set_1 : decode cX2_set 1 = .ok (.getfield 7, 3) := by decide +kernel
theorem dX2_set_4 : decode cX2_set 4 = .ok (.iload_n 1, 1) := by decide +kernel
theorem dX2_set_5 : decode cX2_set 5 = .ok (.iaload, 1) := by decide +kernel
theorem dX2_set_6 : decode cX2_set 6 = .ok (.istore_n 3, 1) := by decide +kernel
theorem dX2_set_7 : decode cX2_set 7 = .ok (.aload_n 0, 1) := by decide +kernel
theorem dX2_set_8 : decode cX2_set 8 = .ok (.getfield 7, 3) := by decide +kernel
theorem dX2_set_11 : decode cX2_set 11 = .ok (.iload_n 1, 1) := by decide +kernel
theorem dX2_set_12 : decode cX2_set 12 = .ok (.iload_n 2, 1) := by decide +kernel
theorem dX2_set_13 : decode cX2_set 13 = .ok (.iastore, 1) := by decide +kernel
theorem dX2_set_14 : decode cX2_set 14 = .ok (.iload_n 3, 1) := by decide +kernel
theorem dX2_set_15 : decode cX2_set 15 = .ok (.ireturn, 1) := by decide +kernel
theorem dX2_cell_0 : decode cX2_cell 0 = .ok (.bipush 55, 2) := by decide +kernel
theorem dX2_cell_2 : decode cX2_cell 2 = .ok (.bipush 10, 2) := by decide +kernel
theorem dX2_cell_4 : decode cX2_cell 4 = .ok (.iload_n 0, 1) := by decide +kernel
theorem dX2_cell_5 : decode cX2_cell 5 = .ok (.imul, 1) := by decide +kernel
theorem dX2_cell_6 : decode cX2_cell 6 = .ok (.iadd, 1) := by decide +kernel
theorem dX2_cell_7 : decode cX2_cell 7 = .ok (.iload_n 1, 1) := by decide +kernel
theorem dX2_cell_8 : decode cX2_cell 8 = .ok (.iadd, 1) := by decide +kernel
theorem dX2_cell_9 : decode cX2_cell 9 = .ok (.ireturn, 1) := by decide +kernel
set_option maxRecDepth 20000 in
theorem ggX2_wrongPair_X2_isNode : GoodIn wsX2_wrongPair wsX2_isNode := goodIn_r _ [7, 8, 9, 10, 6, 11, 12, 13, 14, 15, 16, 17, 18, 19, 20, 21, 22] (by decide +kernel) (by decide +kernel)
set_option maxRecDepth 20000 in
theorem gX2_wrongPair_X2_isNode : GoodIn wsX2_wrongPair (wsV RX2 36 RX2 yX2_isNode wsX2_isNode) := goodIn_app (goodIn_of _ (by decide +kernel)) ggX2_wrongPair_X2_isNode
theorem dX2_wrongPair_0 : decode cX2_wrongPair 0 = .ok (.aload_n 0, 1) := by decide +kernel
theorem dX2_wrongPair_1 : decode cX2_wrongPair 1 = .ok (.iload_n 1, 1) := by decide +kernel
theorem dX2_wrongPair_2 : decode cX2_wrongPair 2 = .ok (.invokevirtual 36, 3) := by decide +kernel
theorem dX2_wrongPair_5 : decode cX2_wrongPair 5 = .ok (.ifCond .eq 11, 3) := by decide +kernel
theorem dX2_wrongPair_8 : decode cX2_wrongPair 8 = .ok (.aload_n 0, 1) := by decide +kernel
theorem dX2_wrongPair_9 : decode cX2_wrongPair 9 = .ok (.iload_n 2, 1) := by decide +kernel
theorem dX2_wrongPair_10 : decode cX2_wrongPair 10 = .ok (.invokevirtual 36, 3) := by decide +kernel
theorem dX2_wrongPair_13 : decode cX2_wrongPair 13 = .ok (.ifCond .ne 8, 3) := by decide +kernel
theorem dX2_wrongPair_16 : decode cX2_wrongPair 16 = .ok (.ldc 40, 2) := by decide +kernel
theorem dX2_wrongPair_18 : decode cX2_wrongPair 18 = .ok (.goto 14, 3) := by decide +kernel
theorem dX2_wrongPair_21 : decode cX2_wrongPair 21 = .ok (.iload_n 1, 1) := by decide +kernel
theorem dX2_wrongPair_22 : decode cX2_wrongPair 22 = .ok (.iload_n 2, 1) := by decide +kernel
theorem dX2_wrongPair_23 : decode cX2_wrongPair 23 = .ok (.if_icmp .ne 8, 3) := by decide +kernel
theorem dX2_wrongPair_26 : decode cX2_wrongPair 26 = .ok (.ldc 41, 2) := by decide +kernel
theorem dX2_wrongPair_28 : decode cX2_wrongPair 28 = .ok (.goto 4, 3) := by decide +kernel
theorem dX2_wrongPair_31 : decode cX2_wrongPair 31 = .ok (.iconst 0, 1) := by decide +kernel
theorem dX2_wrongPair_32 : decode cX2_wrongPair 32 = .ok (.ireturn, 1) := by decide +kernel
set_option maxRecDepth 20000 in
theorem ggX2_wrongKnown_X2_wrongPair : GoodIn wsX2_wrongKnown wsX2_wrongPair := goodIn_r _ [7, 8, 9, 10, 11, 12, 6, 13, 1, 14, 15, 16, 20, 21, 22, 23, 24, 25, 26, 27, 28, 29, 30] (by decide +kernel) (by decide +kernel)
set_option maxRecDepth 20000 in
theorem gX2_wrongKnown_X2_wrongPair : GoodIn wsX2_wrongKnown (wsV RX2 42 RX2 yX2_wrongPair wsX2_wrongPair) := goodIn_app (goodIn_of _ (by decide +kernel)) ggX2_wrongKnown_X2_wrongPair
set_option maxRecDepth 20000 in
theorem ggX2_wrongKnown_X2_cell : GoodIn wsX2_wrongKnown wsX2_cell := goodIn_r _ [19] (by decide +kernel) (by decide +kernel)
set_option maxRecDepth 20000 in
theorem gX2_wrongKnown_X2_cell : GoodIn wsX2_wrongKnown (va_wsS RX2 46 yX2_cell wsX2_cell) := goodIn_app (goodIn_of _ (by decide +kernel)) ggX2_wrongKnown_X2_cell
theorem dX2_wrongKnown_0 : decode cX2_wrongKnown 0 = .ok (.aload_n 0, 1) := by decide +kernel
theorem dX2_wrongKnown_1 : decode cX2_wrongKnown 1 = .ok (.iload_n 1, 1) := by decide +kernel
theorem dX2_wrongKnown_2 : decode cX2_wrongKnown 2 = .ok (.iload_n 2, 1) := by decide +kernel
theorem dX2_wrongKnown_3 : decode cX2_wrongKnown 3 = .ok (.invokevirtual 42, 3) := by decide +kernel
theorem dX2_wrongKnown_6 : decode cX2_wrongKnown 6 = .ok (.istore_n 3, 1) := by decide +kernel
theorem dX2_wrongKnown_7 : decode cX2_wrongKnown 7 = .ok (.iload_n 3, 1) := by decide +kernel
theorem dX2_wrongKnown_8 : decode cX2_wrongKnown 8 = .ok (.ifCond .eq 7, 3) := by decide +kernel
theorem dX2_wrongKnown_11 : decode cX2_wrongKnown 11 = .ok (.iload_n 3, 1) := by decide +kernel
theorem dX2_wrongKnown_12 : decode cX2_wrongKnown 12 = .ok (.goto 22, 3) := by decide +kernel
theorem dX2_wrongKnown_15 : decode cX2_wrongKnown 15 = .ok (.aload_n 0, 1) := by decide +kernel
theorem dX2_wrongKnown_16 : decode cX2_wrongKnown 16 = .ok (.getfield 7, 3) := by decide +kernel
theorem dX2_wrongKnown_19 : decode cX2_wrongKnown 19 = .ok (.iload_n 1, 1) := by decide +kernel
theorem dX2_wrongKnown_20 : decode cX2_wrongKnown 20 = .ok (.iload_n 2, 1) := by decide +kernel
theorem dX2_wrongKnown_21 : decode cX2_wrongKnown 21 = .ok (.invokestatic 46, 3) := by decide +kernel
theorem dX2_wrongKnown_24 : decode cX2_wrongKnown 24 = .ok (.iaload, 1) := by decide +kernel
theorem dX2_wrongKnown_25 : decode cX2_wrongKnown 25 = .ok (.ifCond .ne 8, 3) := by decide +kernel
theorem dX2_wrongKnown_28 : decode cX2_wrongKnown 28 = .ok (.ldc 49, 2) := by decide +kernel
theorem dX2_wrongKnown_30 : decode cX2_wrongKnown 30 = .ok (.goto 4, 3) := by decide +kernel
theorem dX2_wrongKnown_33 : decode cX2_wrongKnown 33 = .ok (.iconst 0, 1) := by decide +kernel
theorem dX2_wrongKnown_34 : decode cX2_wrongKnown 34 = .ok (.ireturn, 1) := by decide +kernel
set_option maxRecDepth 20000 in
theorem ggX2_setRtt_X2_wrongPair : GoodIn wsX2_setRtt wsX2_wrongPair := goodIn_r _ [7, 8, 9, 10, 11, 12, 6, 13, 2, 14, 15, 16, 24, 25, 26, 27, 28, 29, 30, 31, 32, 33, 34] (by decide +kernel) (by decide +kernel)
set_option maxRecDepth 20000 in
theorem gX2_setRtt_X2_wrongPair : GoodIn wsX2_setRtt (wsV RX2 42 RX2 yX2_wrongPair wsX2_wrongPair) := goodIn_app (goodIn_of _ (by decide +kernel)) ggX2_setRtt_X2_wrongPair
set_option maxRecDepth 20000 in
theorem ggX2_setRtt_X2_in : GoodIn wsX2_setRtt wsX2_in := goodIn_r _ [16] (by decide +kernel) (by decide +kernel)
set_option maxRecDepth 20000 in
theorem gX2_setRtt_X2_in : GoodIn wsX2_setRtt (va_wsS RX2 27 yX2_in wsX2_in) := goodIn_app (goodIn_of _ (by decide +kernel)) ggX2_setRtt_X2_in
set_option maxRecDepth 20000 in
theorem ggX2_setRtt_X2_cell : GoodIn wsX2_setRtt wsX2_cell := goodIn_r _ [19] (by decide +kernel) (by decide +kernel)
set_option maxRecDepth 20000 in
theorem gX2_setRtt_X2_cell : GoodIn wsX2_setRtt (va_wsS RX2 46 yX2_cell wsX2_cell) := goodIn_app (goodIn_of _ (by decide +kernel)) ggX2_setRtt_X2_cell
set_option maxRecDepth 20000 in
theorem ggX2_setRtt_X2_set : GoodIn wsX2_setRtt wsX2_set := goodIn_r _ [23, 2, 24, 25, 26, 27, 28, 29, 30, 31, 32, 33, 34] (by decide +kernel) (by decide +kernel)
set_option maxRecDepth 20000 in
theorem gX2_setRtt_X2_set : GoodIn wsX2_setRtt (wsV RX2 50 RX2 yX2_set wsX2_set) := goodIn_app (goodIn_of _ (by decide +kernel)) ggX2_setRtt_X2_set
theorem dX2_setRtt_0 : decode cX2_setRtt 0 = .ok (.aload_n 0, 1) := by decide +kernel
theorem dX2_setRtt_1 : decode cX2_setRtt 1 = .ok (.iload_n 1, 1) := by decide +kernel
theorem dX2_setRtt_2 : decode cX2_setRtt 2 = .ok (.iload_n 2, 1) := by decide +kernel
theorem dX2_setRtt_3 : decode cX2_setRtt 3 = .ok (.invokevirtual 42, 3) := by decide +kernel
theorem dX2_setRtt_6 : decode cX2_setRtt 6 = .ok (.istore 4, 2) := by decide +kernel
theorem dX2_setRtt_8 : decode cX2_setRtt 8 = .ok (.iload 4, 2) := by decide +kernel
theorem dX2_setRtt_10 : decode cX2_setRtt 10 = .ok (.ifCond .eq 6, 3) := by decide +kernel
theorem dX2_setRtt_13 : decode cX2_setRtt 13 = .ok (.iload 4, 2) := by decide +kernel
theorem dX2_setRtt_15 : decode cX2_setRtt 15 = .ok (.ireturn, 1) := by decide +kernel
theorem dX2_setRtt_16 : decode cX2_setRtt 16 = .ok (.iload_n 3, 1) := by decide +kernel
theorem dX2_setRtt_17 : decode cX2_setRtt 17 = .ok (.iconst 0, 1) := by decide +kernel
theorem dX2_setRtt_18 : decode cX2_setRtt 18 = .ok (.sipush 20000, 3) := by decide +kernel
theorem dX2_setRtt_21 : decode cX2_setRtt 21 = .ok (.invokestatic 27, 3) := by decide +kernel
theorem dX2_setRtt_24 : decode cX2_setRtt 24 = .ok (.ifCond .ne 6, 3) := by decide +kernel
theorem dX2_setRtt_27 : decode cX2_setRtt 27 = .ok (.ldc 35, 2) := by decide +kernel
theorem dX2_setRtt_29 : decode cX2_setRtt 29 = .ok (.ireturn, 1) := by decide +kernel
theorem dX2_setRtt_30 : decode cX2_setRtt 30 = .ok (.aload_n 0, 1) := by decide +kernel
theorem dX2_setRtt_31 : decode cX2_setRtt 31 = .ok (.getfield 7, 3) := by decide +kernel
theorem dX2_setRtt_34 : decode cX2_setRtt 34 = .ok (.iload_n 2, 1) := by decide +kernel
theorem dX2_setRtt_35 : decode cX2_setRtt 35 = .ok (.iload_n 1, 1) := by decide +kernel
theorem dX2_setRtt_36 : decode cX2_setRtt 36 = .ok (.invokestatic 46, 3) := by decide +kernel
theorem dX2_setRtt_39 : decode cX2_setRtt 39 = .ok (.iload_n 3, 1) := by decide +kernel
theorem dX2_setRtt_40 : decode cX2_setRtt 40 = .ok (.iastore, 1) := by decide +kernel
theorem dX2_setRtt_41 : decode cX2_setRtt 41 = .ok (.aload_n 0, 1) := by decide +kernel
theorem dX2_setRtt_42 : decode cX2_setRtt 42 = .ok (.iload_n 1, 1) := by decide +kernel
theorem dX2_setRtt_43 : decode cX2_setRtt 43 = .ok (.iload_n 2, 1) := by decide +kernel
theorem dX2_setRtt_44 : decode cX2_setRtt 44 = .ok (.invokestatic 46, 3) := by decide +kernel
theorem dX2_setRtt_47 : decode cX2_setRtt 47 = .ok (.iload_n 3, 1) := by decide +kernel
theorem dX2_setRtt_48 : decode cX2_setRtt 48 = .ok (.invokevirtual 50, 3) := by decide +kernel
theorem dX2_setRtt_51 : decode cX2_setRtt 51 = .ok (.ireturn, 1) := by decide +kernel
set_option maxRecDepth 20000 in
theorem ggX2_rtt_X2_wrongKnown : GoodIn wsX2_rtt wsX2_wrongKnown := goodIn_r _ [6, 1, 7, 8, 9, 10, 5, 11, 12, 13, 14, 15, 16, 17, 18, 19, 20, 21, 22, 23, 24, 25, 26, 27, 28, 29, 30, 31, 32, 33, 34] (by decide +kernel) (by decide +kernel)
set_option maxRecDepth 20000 in
theorem gX2_rtt_X2_wrongKnown : GoodIn wsX2_rtt (wsV RX2 53 RX2 yX2_wrongKnown wsX2_wrongKnown) := goodIn_app (goodIn_of _ (by decide +kernel)) ggX2_rtt_X2_wrongKnown
set_option maxRecDepth 20000 in
theorem ggX2_rtt_X2_cell : GoodIn wsX2_rtt wsX2_cell := goodIn_r _ [23] (by decide +kernel) (by decide +kernel)
set_option maxRecDepth 20000 in
theorem gX2_rtt_X2_cell : GoodIn wsX2_rtt (va_wsS RX2 46 yX2_cell wsX2_cell) := goodIn_app (goodIn_of _ (by decide +kernel)) ggX2_rtt_X2_cell
theorem dX2_rtt_0 : decode cX2_rtt 0 = .ok (.aload_n 0, 1) := by decide +kernel
theorem dX2_rtt_1 : decode cX2_rtt 1 = .ok (.iload_n 1, 1) := by decide +kernel
theorem dX2_rtt_2 : decode cX2_rtt 2 = .ok (.iload_n 2, 1) := by decide +kernel
theorem dX2_rtt_3 : decode cX2_rtt 3 = .ok (.invokevirtual 53, 3) := by decide +kernel
theorem dX2_rtt_6 : decode cX2_rtt 6 = .ok (.istore_n 3, 1) := by decide +kernel
theorem dX2_rtt_7 : decode cX2_rtt 7 = .ok (.iload_n 3, 1) := by decide +kernel
theorem dX2_rtt_8 : decode cX2_rtt 8 = .ok (.ifCond .eq 7, 3) := by decide +kernel
theorem dX2_rtt_11 : decode cX2_rtt 11 = .ok (.iload_n 3, 1) := by decide +kernel
theorem dX2_rtt_12 : decode cX2_rtt 12 = .ok (.goto 13, 3) := by decide +kernel
theorem dX2_rtt_15 : decode cX2_rtt 15 = .ok (.aload_n 0, 1) := by decide +kernel
theorem dX2_rtt_16 : decode cX2_rtt 16 = .ok (.getfield 7, 3) := by decide +kernel
theorem dX2_rtt_19 : decode cX2_rtt 19 = .ok (.iload_n 1, 1) := by decide +kernel
theorem dX2_rtt_20 : decode cX2_rtt 20 = .ok (.iload_n 2, 1) := by decide +kernel
theorem dX2_rtt_21 : decode cX2_rtt 21 = .ok (.invokestatic 46, 3) := by decide +kernel
theorem dX2_rtt_24 : decode cX2_rtt 24 = .ok (.iaload, 1) := by decide +kernel
theorem dX2_rtt_25 : decode cX2_rtt 25 = .ok (.ireturn, 1) := by decide +kernel
set_option maxRecDepth 20000 in
theorem ggX2_setLie_X2_isNode : GoodIn wsX2_setLie wsX2_isNode := goodIn_r _ [7, 8, 9, 10, 6, 11, 16, 17, 18, 19, 20, 21, 22, 23, 24, 25, 26] (by decide +kernel) (by decide +kernel)
set_option maxRecDepth 20000 in
theorem gX2_setLie_X2_isNode : GoodIn wsX2_setLie (wsV RX2 36 RX2 yX2_isNode wsX2_isNode) := goodIn_app (goodIn_of _ (by decide +kernel)) ggX2_setLie_X2_isNode
set_option maxRecDepth 20000 in
theorem ggX2_setLie_X2_in : GoodIn wsX2_setLie wsX2_in := goodIn_r _ [11] (by decide +kernel) (by decide +kernel)
set_option maxRecDepth 20000 in
theorem gX2_setLie_X2_in : GoodIn wsX2_setLie (va_wsS RX2 27 yX2_in wsX2_in) := goodIn_app (goodIn_of _ (by decide +kernel)) ggX2_setLie_X2_in
set_option maxRecDepth 20000 in
theorem ggX2_setLie_X2_set : GoodIn wsX2_setLie wsX2_set := goodIn_r _ [15, 8, 16, 17, 18, 19, 20, 21, 22, 23, 24, 25, 26] (by decide +kernel) (by decide +kernel)
set_option maxRecDepth 20000 in
theorem gX2_setLie_X2_set : GoodIn wsX2_setLie (wsV RX2 50 RX2 yX2_set wsX2_set) := goodIn_app (goodIn_of _ (by decide +kernel)) ggX2_setLie_X2_set
theorem dX2_setLie_0 : decode cX2_setLie 0 = .ok (.aload_n 0, 1) := by decide +kernel
theorem dX2_setLie_1 : decode cX2_setLie 1 = .ok (.iload_n 1, 1) := by decide +kernel
theorem dX2_setLie_2 : decode cX2_setLie 2 = .ok (.invokevirtual 36, 3) := by decide +kernel
theorem dX2_setLie_5 : decode cX2_setLie 5 = .ok (.ifCond .ne 6, 3) := by decide +kernel
theorem dX2_setLie_8 : decode cX2_setLie 8 = .ok (.ldc 40, 2) := by decide +kernel
theorem dX2_setLie_10 : decode cX2_setLie 10 = .ok (.ireturn, 1) := by decide +kernel
theorem dX2_setLie_11 : decode cX2_setLie 11 = .ok (.iload_n 2, 1) := by decide +kernel
theorem dX2_setLie_12 : decode cX2_setLie 12 = .ok (.iconst 0, 1) := by decide +kernel
theorem dX2_setLie_13 : decode cX2_setLie 13 = .ok (.sipush 20000, 3) := by decide +kernel
theorem dX2_setLie_16 : decode cX2_setLie 16 = .ok (.invokestatic 27, 3) := by decide +kernel
theorem dX2_setLie_19 : decode cX2_setLie 19 = .ok (.ifCond .eq 15, 3) := by decide +kernel
theorem dX2_setLie_22 : decode cX2_setLie 22 = .ok (.aload_n 0, 1) := by decide +kernel
theorem dX2_setLie_23 : decode cX2_setLie 23 = .ok (.bipush 45, 2) := by decide +kernel
theorem dX2_setLie_25 : decode cX2_setLie 25 = .ok (.iload_n 1, 1) := by decide +kernel
theorem dX2_setLie_26 : decode cX2_setLie 26 = .ok (.iadd, 1) := by decide +kernel
theorem dX2_setLie_27 : decode cX2_setLie 27 = .ok (.iload_n 2, 1) := by decide +kernel
theorem dX2_setLie_28 : decode cX2_setLie 28 = .ok (.invokevirtual 50, 3) := by decide +kernel
theorem dX2_setLie_31 : decode cX2_setLie 31 = .ok (.goto 5, 3) := by decide +kernel
theorem dX2_setLie_34 : decode cX2_setLie 34 = .ok (.ldc 35, 2) := by decide +kernel
theorem dX2_setLie_36 : decode cX2_setLie 36 = .ok (.ireturn, 1) := by decide +kernel
set_option maxRecDepth 20000 in
theorem ggX2_setGains_X2_in : GoodIn wsX2_setGains wsX2_in := goodIn_r _ [5] (by decide +kernel) (by decide +kernel)
set_option maxRecDepth 20000 in
theorem gX2_setGains_X2_in : GoodIn wsX2_setGains (va_wsS RX2 27 yX2_in wsX2_in) := goodIn_app (goodIn_of _ (by decide +kernel)) ggX2_setGains_X2_in
set_option maxRecDepth 20000 in
theorem ggX2_setGains_X2_set : GoodIn wsX2_setGains wsX2_set := goodIn_r _ [9, 10, 11, 12, 13, 14, 15, 16, 17, 18, 19, 20, 21] (by decide +kernel) (by decide +kernel)
set_option maxRecDepth 20000 in
theorem gX2_setGains_X2_set : GoodIn wsX2_setGains (wsV RX2 50 RX2 yX2_set wsX2_set) := goodIn_app (goodIn_of _ (by decide +kernel)) ggX2_setGains_X2_set
theorem dX2_setGains_0 : decode cX2_setGains 0 = .ok (.iload_n 1, 1) := by decide +kernel
theorem dX2_setGains_1 : decode cX2_setGains 1 = .ok (.iconst 1, 1) := by decide +kernel
theorem dX2_setGains_2 : decode cX2_setGains 2 = .ok (.sipush 1000, 3) := by decide +kernel
theorem dX2_setGains_5 : decode cX2_setGains 5 = .ok (.invokestatic 27, 3) := by decide +kernel
theorem dX2_setGains_8 : decode cX2_setGains 8 = .ok (.ifCond .eq 14, 3) := by decide +kernel
theorem dX2_setGains_11 : decode cX2_setGains 11 = .ok (.iload_n 2, 1) := by decide +kernel
theorem dX2_setGains_12 : decode cX2_setGains 12 = .ok (.iconst 1, 1) := by decide +kernel
theorem dX2_setGains_13 : decode cX2_setGains 13 = .ok (.sipush 1000, 3) := by decide +kernel
theorem dX2_setGains_16 : decode cX2_setGains 16 = .ok (.invokestatic 27, 3) := by decide +kernel
theorem dX2_setGains_19 : decode cX2_setGains 19 = .ok (.ifCond .ne 6, 3) := by decide +kernel
theorem dX2_setGains_22 : decode cX2_setGains 22 = .ok (.ldc 35, 2) := by decide +kernel
theorem dX2_setGains_24 : decode cX2_setGains 24 = .ok (.ireturn, 1) := by decide +kernel
theorem dX2_setGains_25 : decode cX2_setGains 25 = .ok (.sipush 10000, 3) := by decide +kernel
theorem dX2_setGains_28 : decode cX2_setGains 28 = .ok (.aload_n 0, 1) := by decide +kernel
theorem dX2_setGains_29 : decode cX2_setGains 29 = .ok (.iconst 2, 1) := by decide +kernel
theorem dX2_setGains_30 : decode cX2_setGains 30 = .ok (.iload_n 1, 1) := by decide +kernel
theorem dX2_setGains_31 : decode cX2_setGains 31 = .ok (.invokevirtual 50, 3) := by decide +kernel
theorem dX2_setGains_34 : decode cX2_setGains 34 = .ok (.imul, 1) := by decide +kernel
theorem dX2_setGains_35 : decode cX2_setGains 35 = .ok (.aload_n 0, 1) := by decide +kernel
theorem dX2_setGains_36 : decode cX2_setGains 36 = .ok (.iconst 3, 1) := by decide +kernel
theorem dX2_setGains_37 : decode cX2_setGains 37 = .ok (.iload_n 2, 1) := by decide +kernel
theorem dX2_setGains_38 : decode cX2_setGains 38 = .ok (.invokevirtual 50, 3) := by decide +kernel
theorem dX2_setGains_41 : decode cX2_setGains 41 = .ok (.iadd, 1) := by decide +kernel
theorem dX2_setGains_42 : decode cX2_setGains 42 = .ok (.ireturn, 1) := by decide +kernel
set_option maxRecDepth 20000 in
theorem ggX2_setMaxStep_X2_in : GoodIn wsX2_setMaxStep wsX2_in := goodIn_r _ [5] (by decide +kernel) (by decide +kernel)
set_option maxRecDepth 20000 in
theorem gX2_setMaxStep_X2_in : GoodIn wsX2_setMaxStep (va_wsS RX2 27 yX2_in wsX2_in) := goodIn_app (goodIn_of _ (by decide +kernel)) ggX2_setMaxStep_X2_in
set_option maxRecDepth 20000 in
theorem ggX2_setMaxStep_X2_set : GoodIn wsX2_setMaxStep wsX2_set := goodIn_r _ [9, 10, 11, 12, 13, 14, 15, 16, 17, 18, 19, 20, 21] (by decide +kernel) (by decide +kernel)
set_option maxRecDepth 20000 in
theorem gX2_setMaxStep_X2_set : GoodIn wsX2_setMaxStep (wsV RX2 50 RX2 yX2_set wsX2_set) := goodIn_app (goodIn_of _ (by decide +kernel)) ggX2_setMaxStep_X2_set
theorem dX2_setMaxStep_0 : decode cX2_setMaxStep 0 = .ok (.iload_n 1, 1) := by decide +kernel
theorem dX2_setMaxStep_1 : decode cX2_setMaxStep 1 = .ok (.iconst 1, 1) := by decide +kernel
theorem dX2_setMaxStep_2 : decode cX2_setMaxStep 2 = .ok (.sipush 20000, 3) := by decide +kernel
theorem dX2_setMaxStep_5 : decode cX2_setMaxStep 5 = .ok (.invokestatic 27, 3) := by decide +kernel
theorem dX2_setMaxStep_8 : decode cX2_setMaxStep 8 = .ok (.ifCond .eq 12, 3) := by decide +kernel
theorem dX2_setMaxStep_11 : decode cX2_setMaxStep 11 = .ok (.aload_n 0, 1) := by decide +kernel
theorem dX2_setMaxStep_12 : decode cX2_setMaxStep 12 = .ok (.iconst 4, 1) := by decide +kernel
theorem dX2_setMaxStep_13 : decode cX2_setMaxStep 13 = .ok (.iload_n 1, 1) := by decide +kernel
theorem dX2_setMaxStep_14 : decode cX2_setMaxStep 14 = .ok (.invokevirtual 50, 3) := by decide +kernel
theorem dX2_setMaxStep_17 : decode cX2_setMaxStep 17 = .ok (.goto 5, 3) := by decide +kernel
theorem dX2_setMaxStep_20 : decode cX2_setMaxStep 20 = .ok (.ldc 35, 2) := by decide +kernel
theorem dX2_setMaxStep_22 : decode cX2_setMaxStep 22 = .ok (.ireturn, 1) := by decide +kernel
set_option maxRecDepth 20000 in
theorem ggX2_place_X2_isNode : GoodIn wsX2_place wsX2_isNode := goodIn_r _ [10, 5, 11, 12, 9, 13, 18, 19, 20, 21, 22, 23, 24, 25, 26, 27, 28] (by decide +kernel) (by decide +kernel)
set_option maxRecDepth 20000 in
theorem gX2_place_X2_isNode : GoodIn wsX2_place (wsV RX2 36 RX2 yX2_isNode wsX2_isNode) := goodIn_app (goodIn_of _ (by decide +kernel)) ggX2_place_X2_isNode
set_option maxRecDepth 20000 in
theorem ggX2_place_X2_in : GoodIn wsX2_place wsX2_in := goodIn_r _ [13] (by decide +kernel) (by decide +kernel)
set_option maxRecDepth 20000 in
theorem gX2_place_X2_in : GoodIn wsX2_place (va_wsS RX2 27 yX2_in wsX2_in) := goodIn_app (goodIn_of _ (by decide +kernel)) ggX2_place_X2_in
set_option maxRecDepth 20000 in
theorem ggX2_place_X2_set : GoodIn wsX2_place wsX2_set := goodIn_r _ [17, 5, 18, 19, 20, 21, 22, 23, 24, 25, 26, 27, 28] (by decide +kernel) (by decide +kernel)
set_option maxRecDepth 20000 in
theorem gX2_place_X2_set : GoodIn wsX2_place (wsV RX2 50 RX2 yX2_set wsX2_set) := goodIn_app (goodIn_of _ (by decide +kernel)) ggX2_place_X2_set
theorem dX2_place_0 : decode cX2_place 0 = .ok (.aload_n 0, 1) := by decide +kernel
theorem dX2_place_1 : decode cX2_place 1 = .ok (.iload_n 1, 1) := by decide +kernel
theorem dX2_place_2 : decode cX2_place 2 = .ok (.invokevirtual 36, 3) := by decide +kernel
theorem dX2_place_5 : decode cX2_place 5 = .ok (.ifCond .ne 6, 3) := by decide +kernel
theorem dX2_place_8 : decode cX2_place 8 = .ok (.ldc 40, 2) := by decide +kernel
theorem dX2_place_10 : decode cX2_place 10 = .ok (.ireturn, 1) := by decide +kernel
theorem dX2_place_11 : decode cX2_place 11 = .ok (.iload_n 2, 1) := by decide +kernel
theorem dX2_place_12 : decode cX2_place 12 = .ok (.ldc 56, 2) := by decide +kernel
theorem dX2_place_14 : decode cX2_place 14 = .ok (.ldc 57, 2) := by decide +kernel
theorem dX2_place_16 : decode cX2_place 16 = .ok (.invokestatic 27, 3) := by decide +kernel
theorem dX2_place_19 : decode cX2_place 19 = .ok (.ifCond .eq 25, 3) := by decide +kernel
theorem dX2_place_22 : decode cX2_place 22 = .ok (.iload_n 3, 1) := by decide +kernel
theorem dX2_place_23 : decode cX2_place 23 = .ok (.ldc 56, 2) := by decide +kernel
theorem dX2_place_25 : decode cX2_place 25 = .ok (.ldc 57, 2) := by decide +kernel
theorem dX2_place_27 : decode cX2_place 27 = .ok (.invokestatic 27, 3) := by decide +kernel
theorem dX2_place_30 : decode cX2_place 30 = .ok (.ifCond .eq 14, 3) := by decide +kernel
theorem dX2_place_33 : decode cX2_place 33 = .ok (.iload 4, 2) := by decide +kernel
theorem dX2_place_35 : decode cX2_place 35 = .ok (.iconst 0, 1) := by decide +kernel
theorem dX2_place_36 : decode cX2_place 36 = .ok (.ldc 57, 2) := by decide +kernel
theorem dX2_place_38 : decode cX2_place 38 = .ok (.invokestatic 27, 3) := by decide +kernel
theorem dX2_place_41 : decode cX2_place 41 = .ok (.ifCond .ne 6, 3) := by decide +kernel
theorem dX2_place_44 : decode cX2_place 44 = .ok (.ldc 35, 2) := by decide +kernel
theorem dX2_place_46 : decode cX2_place 46 = .ok (.ireturn, 1) := by decide +kernel
theorem dX2_place_47 : decode cX2_place 47 = .ok (.aload_n 0, 1) := by decide +kernel
theorem dX2_place_48 : decode cX2_place 48 = .ok (.getfield 7, 3) := by decide +kernel
theorem dX2_place_51 : decode cX2_place 51 = .ok (.iconst 5, 1) := by decide +kernel
theorem dX2_place_52 : decode cX2_place 52 = .ok (.iload_n 1, 1) := by decide +kernel
theorem dX2_place_53 : decode cX2_place 53 = .ok (.iadd, 1) := by decide +kernel
theorem dX2_place_54 : decode cX2_place 54 = .ok (.iload_n 2, 1) := by decide +kernel
theorem dX2_place_55 : decode cX2_place 55 = .ok (.iastore, 1) := by decide +kernel
theorem dX2_place_56 : decode cX2_place 56 = .ok (.aload_n 0, 1) := by decide +kernel
theorem dX2_place_57 : decode cX2_place 57 = .ok (.getfield 7, 3) := by decide +kernel
theorem dX2_place_60 : decode cX2_place 60 = .ok (.bipush 15, 2) := by decide +kernel
theorem dX2_place_62 : decode cX2_place 62 = .ok (.iload_n 1, 1) := by decide +kernel
theorem dX2_place_63 : decode cX2_place 63 = .ok (.iadd, 1) := by decide +kernel
theorem dX2_place_64 : decode cX2_place 64 = .ok (.iload_n 3, 1) := by decide +kernel
theorem dX2_place_65 : decode cX2_place 65 = .ok (.iastore, 1) := by decide +kernel
theorem dX2_place_66 : decode cX2_place 66 = .ok (.aload_n 0, 1) := by decide +kernel
theorem dX2_place_67 : decode cX2_place 67 = .ok (.getfield 7, 3) := by decide +kernel
theorem dX2_place_70 : decode cX2_place 70 = .ok (.bipush 25, 2) := by decide +kernel
theorem dX2_place_72 : decode cX2_place 72 = .ok (.iload_n 1, 1) := by decide +kernel
theorem dX2_place_73 : decode cX2_place 73 = .ok (.iadd, 1) := by decide +kernel
theorem dX2_place_74 : decode cX2_place 74 = .ok (.iload 4, 2) := by decide +kernel
theorem dX2_place_76 : decode cX2_place 76 = .ok (.iastore, 1) := by decide +kernel
theorem dX2_place_77 : decode cX2_place 77 = .ok (.aload_n 0, 1) := by decide +kernel
theorem dX2_place_78 : decode cX2_place 78 = .ok (.bipush 35, 2) := by decide +kernel
theorem dX2_place_80 : decode cX2_place 80 = .ok (.iload_n 1, 1) := by decide +kernel
theorem dX2_place_81 : decode cX2_place 81 = .ok (.iadd, 1) := by decide +kernel
theorem dX2_place_82 : decode cX2_place 82 = .ok (.sipush 1000, 3) := by decide +kernel
theorem dX2_place_85 : decode cX2_place 85 = .ok (.invokevirtual 50, 3) := by decide +kernel
theorem dX2_place_88 : decode cX2_place 88 = .ok (.ireturn, 1) := by decide +kernel
set_option maxRecDepth 20000 in
theorem ggX2_of_X2_isNode : GoodIn wsX2_of wsX2_isNode := goodIn_r _ [7, 1, 8, 9, 6, 10, 11, 12, 13, 14, 15, 16, 17, 18, 19, 20, 21] (by decide +kernel) (by decide +kernel)
set_option maxRecDepth 20000 in
theorem gX2_of_X2_isNode : GoodIn wsX2_of (wsV RX2 36 RX2 yX2_isNode wsX2_isNode) := goodIn_app (goodIn_of _ (by decide +kernel)) ggX2_of_X2_isNode
theorem dX2_of_0 : decode cX2_of 0 = .ok (.aload_n 0, 1) := by decide +kernel
theorem dX2_of_1 : decode cX2_of 1 = .ok (.iload_n 2, 1) := by decide +kernel
theorem dX2_of_2 : decode cX2_of 2 = .ok (.invokevirtual 36, 3) := by decide +kernel
theorem dX2_of_5 : decode cX2_of 5 = .ok (.ifCond .eq 14, 3) := by decide +kernel
theorem dX2_of_8 : decode cX2_of 8 = .ok (.aload_n 0, 1) := by decide +kernel
theorem dX2_of_9 : decode cX2_of 9 = .ok (.getfield 7, 3) := by decide +kernel
theorem dX2_of_12 : decode cX2_of 12 = .ok (.iload_n 1, 1) := by decide +kernel
theorem dX2_of_13 : decode cX2_of 13 = .ok (.iload_n 2, 1) := by decide +kernel
theorem dX2_of_14 : decode cX2_of 14 = .ok (.iadd, 1) := by decide +kernel
theorem dX2_of_15 : decode cX2_of 15 = .ok (.iaload, 1) := by decide +kernel
theorem dX2_of_16 : decode cX2_of 16 = .ok (.goto 5, 3) := by decide +kernel
theorem dX2_of_19 : decode cX2_of 19 = .ok (.ldc 40, 2) := by decide +kernel
theorem dX2_of_21 : decode cX2_of 21 = .ok (.ireturn, 1) := by decide +kernel
set_option maxRecDepth 20000 in
theorem ggX2_x_X2_of : GoodIn wsX2_x wsX2_of := goodIn_r _ [5, 6, 7, 8, 9, 10, 4, 11, 12, 13, 14, 15, 16, 17, 18, 19, 20, 21, 22, 23, 24, 25] (by decide +kernel) (by decide +kernel)
set_option maxRecDepth 20000 in
theorem gX2_x_X2_of : GoodIn wsX2_x (wsV RX2 58 RX2 yX2_of wsX2_of) := goodIn_app (goodIn_of _ (by decide +kernel)) ggX2_x_X2_of
theorem dX2_x_0 : decode cX2_x 0 = .ok (.aload_n 0, 1) := by decide +kernel
theorem dX2_x_1 : decode cX2_x 1 = .ok (.iconst 5, 1) := by decide +kernel
theorem dX2_x_2 : decode cX2_x 2 = .ok (.iload_n 1, 1) := by decide +kernel
theorem dX2_x_3 : decode cX2_x 3 = .ok (.invokevirtual 58, 3) := by decide +kernel
theorem dX2_x_6 : decode cX2_x 6 = .ok (.ireturn, 1) := by decide +kernel
set_option maxRecDepth 20000 in
theorem ggX2_y_X2_of : GoodIn wsX2_y wsX2_of := goodIn_r _ [5, 6, 7, 8, 9, 10, 4, 11, 12, 13, 14, 15, 16, 17, 18, 19, 20, 21, 22, 23, 24, 25] (by decide +kernel) (by decide +kernel)
set_option maxRecDepth 20000 in
theorem gX2_y_X2_of : GoodIn wsX2_y (wsV RX2 58 RX2 yX2_of wsX2_of) := goodIn_app (goodIn_of _ (by decide +kernel)) ggX2_y_X2_of
theorem dX2_y_0 : decode cX2_y 0 = .ok (.aload_n 0, 1) := by decide +kernel
theorem dX2_y_1 : decode cX2_y 1 = .ok (.bipush 15, 2) := by decide +kernel
theorem dX2_y_3 : decode cX2_y 3 = .ok (.iload_n 1, 1) := by decide +kernel
theorem dX2_y_4 : decode cX2_y 4 = .ok (.invokevirtual 58, 3) := by decide +kernel
theorem dX2_y_7 : decode cX2_y 7 = .ok (.ireturn, 1) := by decide +kernel
set_option maxRecDepth 20000 in
theorem ggX2_height_X2_of : GoodIn wsX2_height wsX2_of := goodIn_r _ [5, 6, 7, 8, 9, 10, 4, 11, 12, 13, 14, 15, 16, 17, 18, 19, 20, 21, 22, 23, 24, 25] (by decide +kernel) (by decide +kernel)
set_option maxRecDepth 20000 in
theorem gX2_height_X2_of : GoodIn wsX2_height (wsV RX2 58 RX2 yX2_of wsX2_of) := goodIn_app (goodIn_of _ (by decide +kernel)) ggX2_height_X2_of
theorem dX2_height_0 : decode cX2_height 0 = .ok (.aload_n 0, 1) := by decide +kernel
theorem dX2_height_1 : decode cX2_height 1 = .ok (.bipush 25, 2) := by decide +kernel
theorem dX2_height_3 : decode cX2_height 3 = .ok (.iload_n 1, 1) := by decide +kernel
theorem dX2_height_4 : decode cX2_height 4 = .ok (.invokevirtual 58, 3) := by decide +kernel
theorem dX2_height_7 : decode cX2_height 7 = .ok (.ireturn, 1) := by decide +kernel
set_option maxRecDepth 20000 in
theorem ggX2_error_X2_of : GoodIn wsX2_error wsX2_of := goodIn_r _ [5, 6, 7, 8, 9, 10, 4, 11, 12, 13, 14, 15, 16, 17, 18, 19, 20, 21, 22, 23, 24, 25] (by decide +kernel) (by decide +kernel)
set_option maxRecDepth 20000 in
theorem gX2_error_X2_of : GoodIn wsX2_error (wsV RX2 58 RX2 yX2_of wsX2_of) := goodIn_app (goodIn_of _ (by decide +kernel)) ggX2_error_X2_of
theorem dX2_error_0 : decode cX2_error 0 = .ok (.aload_n 0, 1) := by decide +kernel
theorem dX2_error_1 : decode cX2_error 1 = .ok (.bipush 35, 2) := by decide +kernel
theorem dX2_error_3 : decode cX2_error 3 = .ok (.iload_n 1, 1) := by decide +kernel
theorem dX2_error_4 : decode cX2_error 4 = .ok (.invokevirtual 58, 3) := by decide +kernel
theorem dX2_error_7 : decode cX2_error 7 = .ok (.ireturn, 1) := by decide +kernel
set_option maxRecDepth 20000 in
theorem ggX2_planar_X2_root : GoodIn wsX2_planar wsX2_root := goodIn_r _ [4, 5, 6] (by decide +kernel) (by decide +kernel)
set_option maxRecDepth 20000 in
theorem gX2_planar_X2_root : GoodIn wsX2_planar (va_wsS RX2 61 yX2_root wsX2_root) := goodIn_app (goodIn_of _ (by decide +kernel)) ggX2_planar_X2_root
theorem dX2_planar_0 : decode cX2_planar 0 = .ok (.lload_n 0, 1) := by decide +kernel
theorem dX2_planar_1 : decode cX2_planar 1 = .ok (.lload_n 0, 1) := by decide +kernel
theorem dX2_planar_2 : decode cX2_planar 2 = .ok (.lmul, 1) := by decide +kernel
theorem dX2_planar_3 : decode cX2_planar 3 = .ok (.lload_n 2, 1) := by decide +kernel
theorem dX2_planar_4 : decode cX2_planar 4 = .ok (.lload_n 2, 1) := by decide +kernel
theorem dX2_planar_5 : decode cX2_planar 5 = .ok (.lmul, 1) := by decide +kernel
theorem dX2_planar_6 : decode cX2_planar 6 = .ok (.ladd, 1) := by decide +kernel
theorem dX2_planar_7 : decode cX2_planar 7 = .ok (.invokestatic 61, 3) := by decide +kernel
theorem dX2_planar_10 : decode cX2_planar 10 = .ok (.l2i, 1) := by decide +kernel
theorem dX2_planar_11 : decode cX2_planar 11 = .ok (.ireturn, 1) := by decide +kernel
set_option maxRecDepth 20000 in
theorem ggX2_predicted_X2_planar : GoodIn wsX2_predicted wsX2_planar := goodIn_r _ [5, 6, 7, 4, 8, 9, 10] (by decide +kernel) (by decide +kernel)
set_option maxRecDepth 20000 in
theorem gX2_predicted_X2_planar : GoodIn wsX2_predicted (va_wsS RX2 65 yX2_planar wsX2_planar) := goodIn_app (goodIn_of _ (by decide +kernel)) ggX2_predicted_X2_planar
theorem dX2_predicted_0 : decode cX2_predicted 0 = .ok (.aload_n 0, 1) := by decide +kernel
theorem dX2_predicted_1 : decode cX2_predicted 1 = .ok (.getfield 7, 3) := by decide +kernel
theorem dX2_predicted_4 : decode cX2_predicted 4 = .ok (.iconst 5, 1) := by decide +kernel
theorem dX2_predicted_5 : decode cX2_predicted 5 = .ok (.iload_n 1, 1) := by decide +kernel
theorem dX2_predicted_6 : decode cX2_predicted 6 = .ok (.iadd, 1) := by decide +kernel
theorem dX2_predicted_7 : decode cX2_predicted 7 = .ok (.iaload, 1) := by decide +kernel
theorem dX2_predicted_8 : decode cX2_predicted 8 = .ok (.aload_n 0, 1) := by decide +kernel
theorem dX2_predicted_9 : decode cX2_predicted 9 = .ok (.getfield 7, 3) := by decide +kernel
theorem dX2_predicted_12 : decode cX2_predicted 12 = .ok (.iconst 5, 1) := by decide +kernel
theorem dX2_predicted_13 : decode cX2_predicted 13 = .ok (.iload_n 2, 1) := by decide +kernel
theorem dX2_predicted_14 : decode cX2_predicted 14 = .ok (.iadd, 1) := by decide +kernel
theorem dX2_predicted_15 : decode cX2_predicted 15 = .ok (.iaload, 1) := by decide +kernel
theorem dX2_predicted_16 : decode cX2_predicted 16 = .ok (.isub, 1) := by decide +kernel
theorem dX2_predicted_17 : decode cX2_predicted 17 = .ok (.i2l, 1) := by decide +kernel
theorem dX2_predicted_18 : decode cX2_predicted 18 = .ok (.aload_n 0, 1) := by decide +kernel
theorem dX2_predicted_19 : decode cX2_predicted 19 = .ok (.getfield 7, 3) := by decide +kernel
theorem dX2_predicted_22 : decode cX2_predicted 22 = .ok (.bipush 15, 2) := by decide +kernel
theorem dX2_predicted_24 : decode cX2_predicted 24 = .ok (.iload_n 1, 1) := by decide +kernel
theorem dX2_predicted_25 : decode cX2_predicted 25 = .ok (.iadd, 1) := by decide +kernel
theorem dX2_predicted_26 : decode cX2_predicted 26 = .ok (.iaload, 1) := by decide +kernel
theorem dX2_predicted_27 : decode cX2_predicted 27 = .ok (.aload_n 0, 1) := by decide +kernel
theorem dX2_predicted_28 : decode cX2_predicted 28 = .ok (.getfield 7, 3) := by decide +kernel
theorem dX2_predicted_31 : decode cX2_predicted 31 = .ok (.bipush 15, 2) := by decide +kernel
theorem dX2_predicted_33 : decode cX2_predicted 33 = .ok (.iload_n 2, 1) := by decide +kernel
theorem dX2_predicted_34 : decode cX2_predicted 34 = .ok (.iadd, 1) := by decide +kernel
theorem dX2_predicted_35 : decode cX2_predicted 35 = .ok (.iaload, 1) := by decide +kernel
theorem dX2_predicted_36 : decode cX2_predicted 36 = .ok (.isub, 1) := by decide +kernel
theorem dX2_predicted_37 : decode cX2_predicted 37 = .ok (.i2l, 1) := by decide +kernel
theorem dX2_predicted_38 : decode cX2_predicted 38 = .ok (.invokestatic 65, 3) := by decide +kernel
theorem dX2_predicted_41 : decode cX2_predicted 41 = .ok (.aload_n 0, 1) := by decide +kernel
theorem dX2_predicted_42 : decode cX2_predicted 42 = .ok (.getfield 7, 3) := by decide +kernel
theorem dX2_predicted_45 : decode cX2_predicted 45 = .ok (.bipush 25, 2) := by decide +kernel
theorem dX2_predicted_47 : decode cX2_predicted 47 = .ok (.iload_n 1, 1) := by decide +kernel
theorem dX2_predicted_48 : decode cX2_predicted 48 = .ok (.iadd, 1) := by decide +kernel
theorem dX2_predicted_49 : decode cX2_predicted 49 = .ok (.iaload, 1) := by decide +kernel
theorem dX2_predicted_50 : decode cX2_predicted 50 = .ok (.iadd, 1) := by decide +kernel
theorem dX2_predicted_51 : decode cX2_predicted 51 = .ok (.aload_n 0, 1) := by decide +kernel
theorem dX2_predicted_52 : decode cX2_predicted 52 = .ok (.getfield 7, 3) := by decide +kernel
theorem dX2_predicted_55 : decode cX2_predicted 55 = .ok (.bipush 25, 2) := by decide +kernel
theorem dX2_predicted_57 : decode cX2_predicted 57 = .ok (.iload_n 2, 1) := by decide +kernel
theorem dX2_predicted_58 : decode cX2_predicted 58 = .ok (.iadd, 1) := by decide +kernel
theorem dX2_predicted_59 : decode cX2_predicted 59 = .ok (.iaload, 1) := by decide +kernel
theorem dX2_predicted_60 : decode cX2_predicted 60 = .ok (.iadd, 1) := by decide +kernel
theorem dX2_predicted_61 : decode cX2_predicted 61 = .ok (.ireturn, 1) := by decide +kernel
set_option maxRecDepth 20000 in
theorem ggX2_predict_X2_wrongPair : GoodIn wsX2_predict wsX2_wrongPair := goodIn_r _ [5, 6, 7, 8, 9, 10, 4, 11, 12, 13, 14, 15, 28, 29, 30, 31, 32, 33, 34, 35, 36, 37, 38] (by decide +kernel) (by decide +kernel)
set_option maxRecDepth 20000 in
theorem gX2_predict_X2_wrongPair : GoodIn wsX2_predict (wsV RX2 42 RX2 yX2_wrongPair wsX2_wrongPair) := goodIn_app (goodIn_of _ (by decide +kernel)) ggX2_predict_X2_wrongPair
set_option maxRecDepth 20000 in
theorem ggX2_predict_X2_predicted : GoodIn wsX2_predict wsX2_predicted := goodIn_r _ [19, 12, 20, 21, 4, 22, 23, 24, 25, 26, 27, 28, 29, 30, 31, 32, 33, 34, 35, 36, 37, 38] (by decide +kernel) (by decide +kernel)
set_option maxRecDepth 20000 in
theorem gX2_predict_X2_predicted : GoodIn wsX2_predict (wsV RX2 69 RX2 yX2_predicted wsX2_predicted) := goodIn_app (goodIn_of _ (by decide +kernel)) ggX2_predict_X2_predicted
theorem dX2_predict_0 : decode cX2_predict 0 = .ok (.aload_n 0, 1) := by decide +kernel
theorem dX2_predict_1 : decode cX2_predict 1 = .ok (.iload_n 1, 1) := by decide +kernel
theorem dX2_predict_2 : decode cX2_predict 2 = .ok (.iload_n 2, 1) := by decide +kernel
theorem dX2_predict_3 : decode cX2_predict 3 = .ok (.invokevirtual 42, 3) := by decide +kernel
theorem dX2_predict_6 : decode cX2_predict 6 = .ok (.istore_n 3, 1) := by decide +kernel
theorem dX2_predict_7 : decode cX2_predict 7 = .ok (.iload_n 3, 1) := by decide +kernel
theorem dX2_predict_8 : decode cX2_predict 8 = .ok (.ifCond .eq 7, 3) := by decide +kernel
theorem dX2_predict_11 : decode cX2_predict 11 = .ok (.iload_n 3, 1) := by decide +kernel
theorem dX2_predict_12 : decode cX2_predict 12 = .ok (.goto 9, 3) := by decide +kernel
theorem dX2_predict_15 : decode cX2_predict 15 = .ok (.aload_n 0, 1) := by decide +kernel
theorem dX2_predict_16 : decode cX2_predict 16 = .ok (.iload_n 1, 1) := by decide +kernel
theorem dX2_predict_17 : decode cX2_predict 17 = .ok (.iload_n 2, 1) := by decide +kernel
theorem dX2_predict_18 : decode cX2_predict 18 = .ok (.invokevirtual 69, 3) := by decide +kernel
theorem dX2_predict_21 : decode cX2_predict 21 = .ok (.ireturn, 1) := by decide +kernel
set_option maxRecDepth 20000 in
theorem ggX2_sample_X2_cell : GoodIn wsX2_sample wsX2_cell := goodIn_r _ [5] (by decide +kernel) (by decide +kernel)
set_option maxRecDepth 20000 in
theorem gX2_sample_X2_cell : GoodIn wsX2_sample (va_wsS RX2 46 yX2_cell wsX2_cell) := goodIn_app (goodIn_of _ (by decide +kernel)) ggX2_sample_X2_cell
theorem dX2_sample_0 : decode cX2_sample 0 = .ok (.aload_n 0, 1) := by decide +kernel
theorem dX2_sample_1 : decode cX2_sample 1 = .ok (.getfield 7, 3) := by decide +kernel
theorem dX2_sample_4 : decode cX2_sample 4 = .ok (.iload_n 1, 1) := by decide +kernel
theorem dX2_sample_5 : decode cX2_sample 5 = .ok (.iload_n 2, 1) := by decide +kernel
theorem dX2_sample_6 : decode cX2_sample 6 = .ok (.invokestatic 46, 3) := by decide +kernel
theorem dX2_sample_9 : decode cX2_sample 9 = .ok (.iaload, 1) := by decide +kernel
theorem dX2_sample_10 : decode cX2_sample 10 = .ok (.aload_n 0, 1) := by decide +kernel
theorem dX2_sample_11 : decode cX2_sample 11 = .ok (.getfield 7, 3) := by decide +kernel
theorem dX2_sample_14 : decode cX2_sample 14 = .ok (.bipush 45, 2) := by decide +kernel
theorem dX2_sample_16 : decode cX2_sample 16 = .ok (.iload_n 2, 1) := by decide +kernel
theorem dX2_sample_17 : decode cX2_sample 17 = .ok (.iadd, 1) := by decide +kernel
theorem dX2_sample_18 : decode cX2_sample 18 = .ok (.iaload, 1) := by decide +kernel
theorem dX2_sample_19 : decode cX2_sample 19 = .ok (.iadd, 1) := by decide +kernel
theorem dX2_sample_20 : decode cX2_sample 20 = .ok (.ireturn, 1) := by decide +kernel
set_option maxRecDepth 20000 in
theorem ggX2_workOut_X2_sample : GoodIn wsX2_workOut wsX2_sample := goodIn_r _ [13, 1, 14, 15, 12, 16, 35, 36, 37, 38, 39, 40, 41, 42, 43, 44, 45] (by decide +kernel) (by decide +kernel)
set_option maxRecDepth 20000 in
theorem gX2_workOut_X2_sample : GoodIn wsX2_workOut (wsV RX2 72 RX2 yX2_sample wsX2_sample) := goodIn_app (goodIn_of _ (by decide +kernel)) ggX2_workOut_X2_sample
set_option maxRecDepth 20000 in
theorem ggX2_workOut_X2_predicted : GoodIn wsX2_workOut wsX2_predicted := goodIn_r _ [20, 1, 21, 22, 12, 23, 24, 25, 26, 27, 28, 35, 36, 37, 38, 39, 40, 41, 42, 43, 44, 45] (by decide +kernel) (by decide +kernel)
set_option maxRecDepth 20000 in
theorem gX2_workOut_X2_predicted : GoodIn wsX2_workOut (wsV RX2 69 RX2 yX2_predicted wsX2_predicted) := goodIn_app (goodIn_of _ (by decide +kernel)) ggX2_workOut_X2_predicted
set_option maxRecDepth 20000 in
theorem ggX2_workOut_X2_plain : GoodIn wsX2_workOut wsX2_plain := goodIn_r _ [31] (by decide +kernel) (by decide +kernel)
set_option maxRecDepth 20000 in
theorem gX2_workOut_X2_plain : GoodIn wsX2_workOut (va_wsS RX2 77 yX2_plain wsX2_plain) := goodIn_app (goodIn_of _ (by decide +kernel)) ggX2_workOut_X2_plain
set_option maxRecDepth 20000 in
theorem ggX2_workOut_X2_limited : GoodIn wsX2_workOut wsX2_limited := goodIn_r _ [34] (by decide +kernel) (by decide +kernel)
set_option maxRecDepth 20000 in
theorem gX2_workOut_X2_limited : GoodIn wsX2_workOut (va_wsS RX2 84 yX2_limited wsX2_limited) := goodIn_app (goodIn_of _ (by decide +kernel)) ggX2_workOut_X2_limited
theorem dX2_workOut_0 : decode cX2_workOut 0 = .ok (.aload_n 0, 1) := by decide +kernel
theorem dX2_workOut_1 : decode cX2_workOut 1 = .ok (.iload_n 1, 1) := by decide +kernel
theorem dX2_workOut_2 : decode cX2_workOut 2 = .ok (.iload_n 2, 1) := by decide +kernel
theorem dX2_workOut_3 : decode cX2_workOut 3 = .ok (.invokevirtual 72, 3) := by decide +kernel
theorem dX2_workOut_6 : decode cX2_workOut 6 = .ok (.i2l, 1) := by decide +kernel
theorem dX2_workOut_7 : decode cX2_workOut 7 = .ok (.lstore_n 3, 1) := by decide +kernel
theorem dX2_workOut_8 : decode cX2_workOut 8 = .ok (.aload_n 0, 1) := by decide +kernel
theorem dX2_workOut_9 : decode cX2_workOut 9 = .ok (.iload_n 1, 1) := by decide +kernel
theorem dX2_workOut_10 : decode cX2_workOut 10 = .ok (.iload_n 2, 1) := by decide +kernel
theorem dX2_workOut_11 : decode cX2_workOut 11 = .ok (.invokevirtual 69, 3) := by decide +kernel
theorem dX2_workOut_14 : decode cX2_workOut 14 = .ok (.i2l, 1) := by decide +kernel
theorem dX2_workOut_15 : decode cX2_workOut 15 = .ok (.lstore 5, 2) := by decide +kernel
theorem dX2_workOut_17 : decode cX2_workOut 17 = .ok (.aload_n 0, 1) := by decide +kernel
theorem dX2_workOut_18 : decode cX2_workOut 18 = .ok (.getfield 7, 3) := by decide +kernel
theorem dX2_workOut_21 : decode cX2_workOut 21 = .ok (.bipush 35, 2) := by decide +kernel
theorem dX2_workOut_23 : decode cX2_workOut 23 = .ok (.iload_n 1, 1) := by decide +kernel
theorem dX2_workOut_24 : decode cX2_workOut 24 = .ok (.iadd, 1) := by decide +kernel
theorem dX2_workOut_25 : decode cX2_workOut 25 = .ok (.iaload, 1) := by decide +kernel
theorem dX2_workOut_26 : decode cX2_workOut 26 = .ok (.i2l, 1) := by decide +kernel
theorem dX2_workOut_27 : decode cX2_workOut 27 = .ok (.lstore 7, 2) := by decide +kernel
theorem dX2_workOut_29 : decode cX2_workOut 29 = .ok (.aload_n 0, 1) := by decide +kernel
theorem dX2_workOut_30 : decode cX2_workOut 30 = .ok (.getfield 7, 3) := by decide +kernel
theorem dX2_workOut_33 : decode cX2_workOut 33 = .ok (.bipush 35, 2) := by decide +kernel
theorem dX2_workOut_35 : decode cX2_workOut 35 = .ok (.iload_n 2, 1) := by decide +kernel
theorem dX2_workOut_36 : decode cX2_workOut 36 = .ok (.iadd, 1) := by decide +kernel
theorem dX2_workOut_37 : decode cX2_workOut 37 = .ok (.iaload, 1) := by decide +kernel
theorem dX2_workOut_38 : decode cX2_workOut 38 = .ok (.i2l, 1) := by decide +kernel
theorem dX2_workOut_39 : decode cX2_workOut 39 = .ok (.lstore 9, 2) := by decide +kernel
theorem dX2_workOut_41 : decode cX2_workOut 41 = .ok (.ldc2_w 75, 3) := by decide +kernel
theorem dX2_workOut_44 : decode cX2_workOut 44 = .ok (.lload 7, 2) := by decide +kernel
theorem dX2_workOut_46 : decode cX2_workOut 46 = .ok (.lmul, 1) := by decide +kernel
theorem dX2_workOut_47 : decode cX2_workOut 47 = .ok (.lload 7, 2) := by decide +kernel
theorem dX2_workOut_49 : decode cX2_workOut 49 = .ok (.lload 9, 2) := by decide +kernel
theorem dX2_workOut_51 : decode cX2_workOut 51 = .ok (.ladd, 1) := by decide +kernel
theorem dX2_workOut_52 : decode cX2_workOut 52 = .ok (.ldiv, 1) := by decide +kernel
theorem dX2_workOut_53 : decode cX2_workOut 53 = .ok (.lstore 11, 2) := by decide +kernel
theorem dX2_workOut_55 : decode cX2_workOut 55 = .ok (.ldc2_w 75, 3) := by decide +kernel
theorem dX2_workOut_58 : decode cX2_workOut 58 = .ok (.lload 5, 2) := by decide +kernel
theorem dX2_workOut_60 : decode cX2_workOut 60 = .ok (.lload_n 3, 1) := by decide +kernel
theorem dX2_workOut_61 : decode cX2_workOut 61 = .ok (.lsub, 1) := by decide +kernel
theorem dX2_workOut_62 : decode cX2_workOut 62 = .ok (.invokestatic 77, 3) := by decide +kernel
theorem dX2_workOut_65 : decode cX2_workOut 65 = .ok (.lmul, 1) := by decide +kernel
theorem dX2_workOut_66 : decode cX2_workOut 66 = .ok (.lload_n 3, 1) := by decide +kernel
theorem dX2_workOut_67 : decode cX2_workOut 67 = .ok (.ldiv, 1) := by decide +kernel
theorem dX2_workOut_68 : decode cX2_workOut 68 = .ok (.lstore 13, 2) := by decide +kernel
theorem dX2_workOut_70 : decode cX2_workOut 70 = .ok (.lload 13, 2) := by decide +kernel
theorem dX2_workOut_72 : decode cX2_workOut 72 = .ok (.ldc2_w 75, 3) := by decide +kernel
theorem dX2_workOut_75 : decode cX2_workOut 75 = .ok (.lcmp, 1) := by decide +kernel
theorem dX2_workOut_76 : decode cX2_workOut 76 = .ok (.ifCond .le 9, 3) := by decide +kernel
theorem dX2_workOut_79 : decode cX2_workOut 79 = .ok (.ldc2_w 75, 3) := by decide +kernel
theorem dX2_workOut_82 : decode cX2_workOut 82 = .ok (.goto 5, 3) := by decide +kernel
theorem dX2_workOut_85 : decode cX2_workOut 85 = .ok (.lload 13, 2) := by decide +kernel
theorem dX2_workOut_87 : decode cX2_workOut 87 = .ok (.lstore 13, 2) := by decide +kernel
theorem dX2_workOut_89 : decode cX2_workOut 89 = .ok (.aload_n 0, 1) := by decide +kernel
theorem dX2_workOut_90 : decode cX2_workOut 90 = .ok (.getfield 7, 3) := by decide +kernel
theorem dX2_workOut_93 : decode cX2_workOut 93 = .ok (.iconst 2, 1) := by decide +kernel
theorem dX2_workOut_94 : decode cX2_workOut 94 = .ok (.iaload, 1) := by decide +kernel
theorem dX2_workOut_95 : decode cX2_workOut 95 = .ok (.i2l, 1) := by decide +kernel
theorem dX2_workOut_96 : decode cX2_workOut 96 = .ok (.lload 11, 2) := by decide +kernel
theorem dX2_workOut_98 : decode cX2_workOut 98 = .ok (.lmul, 1) := by decide +kernel
theorem dX2_workOut_99 : decode cX2_workOut 99 = .ok (.ldc2_w 75, 3) := by decide +kernel
theorem dX2_workOut_102 : decode cX2_workOut 102 = .ok (.ldiv, 1) := by decide +kernel
theorem dX2_workOut_103 : decode cX2_workOut 103 = .ok (.lstore 15, 2) := by decide +kernel
theorem dX2_workOut_105 : decode cX2_workOut 105 = .ok (.lload 13, 2) := by decide +kernel
theorem dX2_workOut_107 : decode cX2_workOut 107 = .ok (.lload 15, 2) := by decide +kernel
theorem dX2_workOut_109 : decode cX2_workOut 109 = .ok (.lmul, 1) := by decide +kernel
theorem dX2_workOut_110 : decode cX2_workOut 110 = .ok (.lload 7, 2) := by decide +kernel
theorem dX2_workOut_112 : decode cX2_workOut 112 = .ok (.ldc2_w 75, 3) := by decide +kernel
theorem dX2_workOut_115 : decode cX2_workOut 115 = .ok (.lload 15, 2) := by decide +kernel
theorem dX2_workOut_117 : decode cX2_workOut 117 = .ok (.lsub, 1) := by decide +kernel
theorem dX2_workOut_118 : decode cX2_workOut 118 = .ok (.lmul, 1) := by decide +kernel
theorem dX2_workOut_119 : decode cX2_workOut 119 = .ok (.ladd, 1) := by decide +kernel
theorem dX2_workOut_120 : decode cX2_workOut 120 = .ok (.ldc2_w 75, 3) := by decide +kernel
theorem dX2_workOut_123 : decode cX2_workOut 123 = .ok (.ldiv, 1) := by decide +kernel
theorem dX2_workOut_124 : decode cX2_workOut 124 = .ok (.lstore 17, 2) := by decide +kernel
theorem dX2_workOut_126 : decode cX2_workOut 126 = .ok (.aload_n 0, 1) := by decide +kernel
theorem dX2_workOut_127 : decode cX2_workOut 127 = .ok (.lload 17, 2) := by decide +kernel
theorem dX2_workOut_129 : decode cX2_workOut 129 = .ok (.lconst 1, 1) := by decide +kernel
theorem dX2_workOut_130 : decode cX2_workOut 130 = .ok (.lcmp, 1) := by decide +kernel
theorem dX2_workOut_131 : decode cX2_workOut 131 = .ok (.ifCond .ge 7, 3) := by decide +kernel
theorem dX2_workOut_134 : decode cX2_workOut 134 = .ok (.lconst 1, 1) := by decide +kernel
theorem dX2_workOut_135 : decode cX2_workOut 135 = .ok (.goto 5, 3) := by decide +kernel
theorem dX2_workOut_138 : decode cX2_workOut 138 = .ok (.lload 17, 2) := by decide +kernel
theorem dX2_workOut_140 : decode cX2_workOut 140 = .ok (.l2i, 1) := by decide +kernel
theorem dX2_workOut_141 : decode cX2_workOut 141 = .ok (.putfield 80, 3) := by decide +kernel
theorem dX2_workOut_144 : decode cX2_workOut 144 = .ok (.aload_n 0, 1) := by decide +kernel
theorem dX2_workOut_145 : decode cX2_workOut 145 = .ok (.getfield 7, 3) := by decide +kernel
theorem dX2_workOut_148 : decode cX2_workOut 148 = .ok (.iconst 3, 1) := by decide +kernel
theorem dX2_workOut_149 : decode cX2_workOut 149 = .ok (.iaload, 1) := by decide +kernel
theorem dX2_workOut_150 : decode cX2_workOut 150 = .ok (.i2l, 1) := by decide +kernel
theorem dX2_workOut_151 : decode cX2_workOut 151 = .ok (.lload 11, 2) := by decide +kernel
theorem dX2_workOut_153 : decode cX2_workOut 153 = .ok (.lmul, 1) := by decide +kernel
theorem dX2_workOut_154 : decode cX2_workOut 154 = .ok (.ldc2_w 75, 3) := by decide +kernel
theorem dX2_workOut_157 : decode cX2_workOut 157 = .ok (.ldiv, 1) := by decide +kernel
theorem dX2_workOut_158 : decode cX2_workOut 158 = .ok (.lstore 19, 2) := by decide +kernel
theorem dX2_workOut_160 : decode cX2_workOut 160 = .ok (.lload_n 3, 1) := by decide +kernel
theorem dX2_workOut_161 : decode cX2_workOut 161 = .ok (.lload 5, 2) := by decide +kernel
theorem dX2_workOut_163 : decode cX2_workOut 163 = .ok (.lsub, 1) := by decide +kernel
theorem dX2_workOut_164 : decode cX2_workOut 164 = .ok (.lload 19, 2) := by decide +kernel
theorem dX2_workOut_166 : decode cX2_workOut 166 = .ok (.lmul, 1) := by decide +kernel
theorem dX2_workOut_167 : decode cX2_workOut 167 = .ok (.ldc2_w 75, 3) := by decide +kernel
theorem dX2_workOut_170 : decode cX2_workOut 170 = .ok (.ldiv, 1) := by decide +kernel
theorem dX2_workOut_171 : decode cX2_workOut 171 = .ok (.aload_n 0, 1) := by decide +kernel
theorem dX2_workOut_172 : decode cX2_workOut 172 = .ok (.getfield 7, 3) := by decide +kernel
theorem dX2_workOut_175 : decode cX2_workOut 175 = .ok (.iconst 4, 1) := by decide +kernel
theorem dX2_workOut_176 : decode cX2_workOut 176 = .ok (.iaload, 1) := by decide +kernel
theorem dX2_workOut_177 : decode cX2_workOut 177 = .ok (.ineg, 1) := by decide +kernel
theorem dX2_workOut_178 : decode cX2_workOut 178 = .ok (.aload_n 0, 1) := by decide +kernel
theorem dX2_workOut_179 : decode cX2_workOut 179 = .ok (.getfield 7, 3) := by decide +kernel
theorem dX2_workOut_182 : decode cX2_workOut 182 = .ok (.iconst 4, 1) := by decide +kernel
theorem dX2_workOut_183 : decode cX2_workOut 183 = .ok (.iaload, 1) := by decide +kernel
theorem dX2_workOut_184 : decode cX2_workOut 184 = .ok (.invokestatic 84, 3) := by decide +kernel
theorem dX2_workOut_187 : decode cX2_workOut 187 = .ok (.i2l, 1) := by decide +kernel
theorem dX2_workOut_188 : decode cX2_workOut 188 = .ok (.lstore 21, 2) := by decide +kernel
theorem dX2_workOut_190 : decode cX2_workOut 190 = .ok (.aload_n 0, 1) := by decide +kernel
theorem dX2_workOut_191 : decode cX2_workOut 191 = .ok (.getfield 7, 3) := by decide +kernel
theorem dX2_workOut_194 : decode cX2_workOut 194 = .ok (.iconst 5, 1) := by decide +kernel
theorem dX2_workOut_195 : decode cX2_workOut 195 = .ok (.iload_n 1, 1) := by decide +kernel
theorem dX2_workOut_196 : decode cX2_workOut 196 = .ok (.iadd, 1) := by decide +kernel
theorem dX2_workOut_197 : decode cX2_workOut 197 = .ok (.iaload, 1) := by decide +kernel
theorem dX2_workOut_198 : decode cX2_workOut 198 = .ok (.i2l, 1) := by decide +kernel
theorem dX2_workOut_199 : decode cX2_workOut 199 = .ok (.lstore 23, 2) := by decide +kernel
theorem dX2_workOut_201 : decode cX2_workOut 201 = .ok (.aload_n 0, 1) := by decide +kernel
theorem dX2_workOut_202 : decode cX2_workOut 202 = .ok (.getfield 7, 3) := by decide +kernel
theorem dX2_workOut_205 : decode cX2_workOut 205 = .ok (.bipush 15, 2) := by decide +kernel
theorem dX2_workOut_207 : decode cX2_workOut 207 = .ok (.iload_n 1, 1) := by decide +kernel
theorem dX2_workOut_208 : decode cX2_workOut 208 = .ok (.iadd, 1) := by decide +kernel
theorem dX2_workOut_209 : decode cX2_workOut 209 = .ok (.iaload, 1) := by decide +kernel
theorem dX2_workOut_210 : decode cX2_workOut 210 = .ok (.i2l, 1) := by decide +kernel
theorem dX2_workOut_211 : decode cX2_workOut 211 = .ok (.lstore 25, 2) := by decide +kernel
theorem dX2_workOut_213 : decode cX2_workOut 213 = .ok (.aload_n 0, 1) := by decide +kernel
theorem dX2_workOut_214 : decode cX2_workOut 214 = .ok (.getfield 7, 3) := by decide +kernel
theorem dX2_workOut_217 : decode cX2_workOut 217 = .ok (.bipush 25, 2) := by decide +kernel
theorem dX2_workOut_219 : decode cX2_workOut 219 = .ok (.iload_n 1, 1) := by decide +kernel
theorem dX2_workOut_220 : decode cX2_workOut 220 = .ok (.iadd, 1) := by decide +kernel
theorem dX2_workOut_221 : decode cX2_workOut 221 = .ok (.iaload, 1) := by decide +kernel
theorem dX2_workOut_222 : decode cX2_workOut 222 = .ok (.i2l, 1) := by decide +kernel
theorem dX2_workOut_223 : decode cX2_workOut 223 = .ok (.lstore 27, 2) := by decide +kernel
theorem dX2_workOut_225 : decode cX2_workOut 225 = .ok (.lload 5, 2) := by decide +kernel
theorem dX2_workOut_227 : decode cX2_workOut 227 = .ok (.lconst 0, 1) := by decide +kernel
theorem dX2_workOut_228 : decode cX2_workOut 228 = .ok (.lcmp, 1) := by decide +kernel
theorem dX2_workOut_229 : decode cX2_workOut 229 = .ok (.ifCond .ne 13, 3) := by decide +kernel
theorem dX2_workOut_232 : decode cX2_workOut 232 = .ok (.lload 23, 2) := by decide +kernel
theorem dX2_workOut_234 : decode cX2_workOut 234 = .ok (.lload 21, 2) := by decide +kernel
theorem dX2_workOut_236 : decode cX2_workOut 236 = .ok (.ladd, 1) := by decide +kernel
theorem dX2_workOut_237 : decode cX2_workOut 237 = .ok (.lstore 23, 2) := by decide +kernel
theorem dX2_workOut_239 : decode cX2_workOut 239 = .ok (.goto 102, 3) := by decide +kernel
theorem dX2_workOut_242 : decode cX2_workOut 242 = .ok (.aload_n 0, 1) := by decide +kernel
theorem dX2_workOut_243 : decode cX2_workOut 243 = .ok (.getfield 7, 3) := by decide +kernel
theorem dX2_workOut_246 : decode cX2_workOut 246 = .ok (.iconst 5, 1) := by decide +kernel
theorem dX2_workOut_247 : decode cX2_workOut 247 = .ok (.iload_n 1, 1) := by decide +kernel
theorem dX2_workOut_248 : decode cX2_workOut 248 = .ok (.iadd, 1) := by decide +kernel
theorem dX2_workOut_249 : decode cX2_workOut 249 = .ok (.iaload, 1) := by decide +kernel
theorem dX2_workOut_250 : decode cX2_workOut 250 = .ok (.aload_n 0, 1) := by decide +kernel
theorem dX2_workOut_251 : decode cX2_workOut 251 = .ok (.getfield 7, 3) := by decide +kernel
theorem dX2_workOut_254 : decode cX2_workOut 254 = .ok (.iconst 5, 1) := by decide +kernel
theorem dX2_workOut_255 : decode cX2_workOut 255 = .ok (.iload_n 2, 1) := by decide +kernel
theorem dX2_workOut_256 : decode cX2_workOut 256 = .ok (.iadd, 1) := by decide +kernel
theorem dX2_workOut_257 : decode cX2_workOut 257 = .ok (.iaload, 1) := by decide +kernel
theorem dX2_workOut_258 : decode cX2_workOut 258 = .ok (.isub, 1) := by decide +kernel
theorem dX2_workOut_259 : decode cX2_workOut 259 = .ok (.i2l, 1) := by decide +kernel
theorem dX2_workOut_260 : decode cX2_workOut 260 = .ok (.lstore 29, 2) := by decide +kernel
theorem dX2_workOut_262 : decode cX2_workOut 262 = .ok (.aload_n 0, 1) := by decide +kernel
theorem dX2_workOut_263 : decode cX2_workOut 263 = .ok (.getfield 7, 3) := by decide +kernel
theorem dX2_workOut_266 : decode cX2_workOut 266 = .ok (.bipush 15, 2) := by decide +kernel
theorem dX2_workOut_268 : decode cX2_workOut 268 = .ok (.iload_n 1, 1) := by decide +kernel
theorem dX2_workOut_269 : decode cX2_workOut 269 = .ok (.iadd, 1) := by decide +kernel
theorem dX2_workOut_270 : decode cX2_workOut 270 = .ok (.iaload, 1) := by decide +kernel
theorem dX2_workOut_271 : decode cX2_workOut 271 = .ok (.aload_n 0, 1) := by decide +kernel
theorem dX2_workOut_272 : decode cX2_workOut 272 = .ok (.getfield 7, 3) := by decide +kernel
theorem dX2_workOut_275 : decode cX2_workOut 275 = .ok (.bipush 15, 2) := by decide +kernel
theorem dX2_workOut_277 : decode cX2_workOut 277 = .ok (.iload_n 2, 1) := by decide +kernel
theorem dX2_workOut_278 : decode cX2_workOut 278 = .ok (.iadd, 1) := by decide +kernel
theorem dX2_workOut_279 : decode cX2_workOut 279 = .ok (.iaload, 1) := by decide +kernel
theorem dX2_workOut_280 : decode cX2_workOut 280 = .ok (.isub, 1) := by decide +kernel
theorem dX2_workOut_281 : decode cX2_workOut 281 = .ok (.i2l, 1) := by decide +kernel
theorem dX2_workOut_282 : decode cX2_workOut 282 = .ok (.lstore 31, 2) := by decide +kernel
theorem dX2_workOut_284 : decode cX2_workOut 284 = .ok (.lload 23, 2) := by decide +kernel
theorem dX2_workOut_286 : decode cX2_workOut 286 = .ok (.lload 21, 2) := by decide +kernel
theorem dX2_workOut_288 : decode cX2_workOut 288 = .ok (.lload 29, 2) := by decide +kernel
theorem dX2_workOut_290 : decode cX2_workOut 290 = .ok (.lmul, 1) := by decide +kernel
theorem dX2_workOut_291 : decode cX2_workOut 291 = .ok (.lload 5, 2) := by decide +kernel
theorem dX2_workOut_293 : decode cX2_workOut 293 = .ok (.ldiv, 1) := by decide +kernel
theorem dX2_workOut_294 : decode cX2_workOut 294 = .ok (.ladd, 1) := by decide +kernel
theorem dX2_workOut_295 : decode cX2_workOut 295 = .ok (.lstore 23, 2) := by decide +kernel
theorem dX2_workOut_297 : decode cX2_workOut 297 = .ok (.lload 25, 2) := by decide +kernel
theorem dX2_workOut_299 : decode cX2_workOut 299 = .ok (.lload 21, 2) := by decide +kernel
theorem dX2_workOut_301 : decode cX2_workOut 301 = .ok (.lload 31, 2) := by decide +kernel
theorem dX2_workOut_303 : decode cX2_workOut 303 = .ok (.lmul, 1) := by decide +kernel
theorem dX2_workOut_304 : decode cX2_workOut 304 = .ok (.lload 5, 2) := by decide +kernel
theorem dX2_workOut_306 : decode cX2_workOut 306 = .ok (.ldiv, 1) := by decide +kernel
theorem dX2_workOut_307 : decode cX2_workOut 307 = .ok (.ladd, 1) := by decide +kernel
theorem dX2_workOut_308 : decode cX2_workOut 308 = .ok (.lstore 25, 2) := by decide +kernel
theorem dX2_workOut_310 : decode cX2_workOut 310 = .ok (.lload 27, 2) := by decide +kernel
theorem dX2_workOut_312 : decode cX2_workOut 312 = .ok (.lload 21, 2) := by decide +kernel
theorem dX2_workOut_314 : decode cX2_workOut 314 = .ok (.aload_n 0, 1) := by decide +kernel
theorem dX2_workOut_315 : decode cX2_workOut 315 = .ok (.getfield 7, 3) := by decide +kernel
theorem dX2_workOut_318 : decode cX2_workOut 318 = .ok (.bipush 25, 2) := by decide +kernel
theorem dX2_workOut_320 : decode cX2_workOut 320 = .ok (.iload_n 1, 1) := by decide +kernel
theorem dX2_workOut_321 : decode cX2_workOut 321 = .ok (.iadd, 1) := by decide +kernel
theorem dX2_workOut_322 : decode cX2_workOut 322 = .ok (.iaload, 1) := by decide +kernel
theorem dX2_workOut_323 : decode cX2_workOut 323 = .ok (.aload_n 0, 1) := by decide +kernel
theorem dX2_workOut_324 : decode cX2_workOut 324 = .ok (.getfield 7, 3) := by decide +kernel
theorem dX2_workOut_327 : decode cX2_workOut 327 = .ok (.bipush 25, 2) := by decide +kernel
theorem dX2_workOut_329 : decode cX2_workOut 329 = .ok (.iload_n 2, 1) := by decide +kernel
theorem dX2_workOut_330 : decode cX2_workOut 330 = .ok (.iadd, 1) := by decide +kernel
theorem dX2_workOut_331 : decode cX2_workOut 331 = .ok (.iaload, 1) := by decide +kernel
theorem dX2_workOut_332 : decode cX2_workOut 332 = .ok (.iadd, 1) := by decide +kernel
theorem dX2_workOut_333 : decode cX2_workOut 333 = .ok (.i2l, 1) := by decide +kernel
theorem dX2_workOut_334 : decode cX2_workOut 334 = .ok (.lmul, 1) := by decide +kernel
theorem dX2_workOut_335 : decode cX2_workOut 335 = .ok (.lload 5, 2) := by decide +kernel
theorem dX2_workOut_337 : decode cX2_workOut 337 = .ok (.ldiv, 1) := by decide +kernel
theorem dX2_workOut_338 : decode cX2_workOut 338 = .ok (.ladd, 1) := by decide +kernel
theorem dX2_workOut_339 : decode cX2_workOut 339 = .ok (.lstore 27, 2) := by decide +kernel
theorem dX2_workOut_341 : decode cX2_workOut 341 = .ok (.aload_n 0, 1) := by decide +kernel
theorem dX2_workOut_342 : decode cX2_workOut 342 = .ok (.lload 23, 2) := by decide +kernel
theorem dX2_workOut_344 : decode cX2_workOut 344 = .ok (.ldc 56, 2) := by decide +kernel
theorem dX2_workOut_346 : decode cX2_workOut 346 = .ok (.ldc 57, 2) := by decide +kernel
theorem dX2_workOut_348 : decode cX2_workOut 348 = .ok (.invokestatic 84, 3) := by decide +kernel
theorem dX2_workOut_351 : decode cX2_workOut 351 = .ok (.putfield 88, 3) := by decide +kernel
theorem dX2_workOut_354 : decode cX2_workOut 354 = .ok (.aload_n 0, 1) := by decide +kernel
theorem dX2_workOut_355 : decode cX2_workOut 355 = .ok (.lload 25, 2) := by decide +kernel
theorem dX2_workOut_357 : decode cX2_workOut 357 = .ok (.ldc 56, 2) := by decide +kernel
theorem dX2_workOut_359 : decode cX2_workOut 359 = .ok (.ldc 57, 2) := by decide +kernel
theorem dX2_workOut_361 : decode cX2_workOut 361 = .ok (.invokestatic 84, 3) := by decide +kernel
theorem dX2_workOut_364 : decode cX2_workOut 364 = .ok (.putfield 91, 3) := by decide +kernel
theorem dX2_workOut_367 : decode cX2_workOut 367 = .ok (.aload_n 0, 1) := by decide +kernel
theorem dX2_workOut_368 : decode cX2_workOut 368 = .ok (.lload 27, 2) := by decide +kernel
theorem dX2_workOut_370 : decode cX2_workOut 370 = .ok (.iconst 0, 1) := by decide +kernel
theorem dX2_workOut_371 : decode cX2_workOut 371 = .ok (.ldc 57, 2) := by decide +kernel
theorem dX2_workOut_373 : decode cX2_workOut 373 = .ok (.invokestatic 84, 3) := by decide +kernel
theorem dX2_workOut_376 : decode cX2_workOut 376 = .ok (.putfield 94, 3) := by decide +kernel
theorem dX2_workOut_379 : decode cX2_workOut 379 = .ok (.return_, 1) := by decide +kernel
set_option maxRecDepth 20000 in
theorem ggX2_update_X2_workOut : GoodIn wsX2_update wsX2_workOut := goodIn_r _ [10, 1, 11, 5, 12, 13, 2, 3, 4, 14, 15, 16, 9, 17, 18, 19, 20, 21, 22, 23, 24, 25, 26, 27, 28, 29, 30, 31, 32, 33, 34, 35, 36, 37, 38, 39, 40, 41, 42, 43, 44, 45, 46, 47, 48, 49] (by decide +kernel) (by decide +kernel)
set_option maxRecDepth 20000 in
theorem gX2_update_X2_workOut : GoodIn wsX2_update (wsV RX2 97 RX2 yX2_workOut wsX2_workOut) := goodIn_app (goodIn_of _ (by decide +kernel)) ggX2_update_X2_workOut
theorem dX2_update_0 : decode cX2_update 0 = .ok (.aload_n 0, 1) := by decide +kernel
theorem dX2_update_1 : decode cX2_update 1 = .ok (.iload_n 1, 1) := by decide +kernel
theorem dX2_update_2 : decode cX2_update 2 = .ok (.iload_n 2, 1) := by decide +kernel
theorem dX2_update_3 : decode cX2_update 3 = .ok (.invokevirtual 97, 3) := by decide +kernel
theorem dX2_update_6 : decode cX2_update 6 = .ok (.aload_n 0, 1) := by decide +kernel
theorem dX2_update_7 : decode cX2_update 7 = .ok (.getfield 7, 3) := by decide +kernel
theorem dX2_update_10 : decode cX2_update 10 = .ok (.iconst 5, 1) := by decide +kernel
theorem dX2_update_11 : decode cX2_update 11 = .ok (.iload_n 1, 1) := by decide +kernel
theorem dX2_update_12 : decode cX2_update 12 = .ok (.iadd, 1) := by decide +kernel
theorem dX2_update_13 : decode cX2_update 13 = .ok (.aload_n 0, 1) := by decide +kernel
theorem dX2_update_14 : decode cX2_update 14 = .ok (.getfield 88, 3) := by decide +kernel
theorem dX2_update_17 : decode cX2_update 17 = .ok (.iastore, 1) := by decide +kernel
theorem dX2_update_18 : decode cX2_update 18 = .ok (.aload_n 0, 1) := by decide +kernel
theorem dX2_update_19 : decode cX2_update 19 = .ok (.getfield 7, 3) := by decide +kernel
theorem dX2_update_22 : decode cX2_update 22 = .ok (.bipush 15, 2) := by decide +kernel
theorem dX2_update_24 : decode cX2_update 24 = .ok (.iload_n 1, 1) := by decide +kernel
theorem dX2_update_25 : decode cX2_update 25 = .ok (.iadd, 1) := by decide +kernel
theorem dX2_update_26 : decode cX2_update 26 = .ok (.aload_n 0, 1) := by decide +kernel
theorem dX2_update_27 : decode cX2_update 27 = .ok (.getfield 91, 3) := by decide +kernel
theorem dX2_update_30 : decode cX2_update 30 = .ok (.iastore, 1) := by decide +kernel
theorem dX2_update_31 : decode cX2_update 31 = .ok (.aload_n 0, 1) := by decide +kernel
theorem dX2_update_32 : decode cX2_update 32 = .ok (.getfield 7, 3) := by decide +kernel
theorem dX2_update_35 : decode cX2_update 35 = .ok (.bipush 25, 2) := by decide +kernel
theorem dX2_update_37 : decode cX2_update 37 = .ok (.iload_n 1, 1) := by decide +kernel
theorem dX2_update_38 : decode cX2_update 38 = .ok (.iadd, 1) := by decide +kernel
theorem dX2_update_39 : decode cX2_update 39 = .ok (.aload_n 0, 1) := by decide +kernel
theorem dX2_update_40 : decode cX2_update 40 = .ok (.getfield 94, 3) := by decide +kernel
theorem dX2_update_43 : decode cX2_update 43 = .ok (.iastore, 1) := by decide +kernel
theorem dX2_update_44 : decode cX2_update 44 = .ok (.aload_n 0, 1) := by decide +kernel
theorem dX2_update_45 : decode cX2_update 45 = .ok (.getfield 7, 3) := by decide +kernel
theorem dX2_update_48 : decode cX2_update 48 = .ok (.bipush 35, 2) := by decide +kernel
theorem dX2_update_50 : decode cX2_update 50 = .ok (.iload_n 1, 1) := by decide +kernel
theorem dX2_update_51 : decode cX2_update 51 = .ok (.iadd, 1) := by decide +kernel
theorem dX2_update_52 : decode cX2_update 52 = .ok (.aload_n 0, 1) := by decide +kernel
theorem dX2_update_53 : decode cX2_update 53 = .ok (.getfield 80, 3) := by decide +kernel
theorem dX2_update_56 : decode cX2_update 56 = .ok (.iastore, 1) := by decide +kernel
theorem dX2_update_57 : decode cX2_update 57 = .ok (.return_, 1) := by decide +kernel
set_option maxRecDepth 20000 in
theorem ggX2_measure_X2_wrongKnown : GoodIn wsX2_measure wsX2_wrongKnown := goodIn_r _ [5, 6, 7, 8, 9, 10, 4, 11, 12, 13, 14, 15, 16, 17, 18, 19, 20, 21, 22, 23, 61, 62, 63, 64, 65, 66, 67, 68, 69, 70, 71] (by decide +kernel) (by decide +kernel)
set_option maxRecDepth 20000 in
theorem gX2_measure_X2_wrongKnown : GoodIn wsX2_measure (wsV RX2 53 RX2 yX2_wrongKnown wsX2_wrongKnown) := goodIn_app (goodIn_of _ (by decide +kernel)) ggX2_measure_X2_wrongKnown
set_option maxRecDepth 20000 in
theorem ggX2_measure_X2_update : GoodIn wsX2_measure wsX2_update := goodIn_r _ [27, 6, 28, 29, 30, 31, 32, 33, 34, 4, 35, 36, 37, 38, 39, 40, 41, 42, 21, 22, 23, 43, 44, 45, 46, 47, 48, 49, 50, 51, 52, 53, 54, 55, 56, 57, 58, 59, 60, 61, 62, 63, 64, 65, 66, 67, 68, 69, 70, 71] (by decide +kernel) (by decide +kernel)
set_option maxRecDepth 20000 in
theorem gX2_measure_X2_update : GoodIn wsX2_measure (wsV RX2 101 RX2 yX2_update wsX2_update) := goodIn_app (goodIn_of _ (by decide +kernel)) ggX2_measure_X2_update
set_option maxRecDepth 20000 in
theorem ggX2_measure_X2_sample : GoodIn wsX2_measure wsX2_sample := goodIn_r _ [42, 6, 21, 22, 4, 23, 61, 62, 63, 64, 65, 66, 67, 68, 69, 70, 71] (by decide +kernel) (by decide +kernel)
set_option maxRecDepth 20000 in
theorem gX2_measure_X2_sample : GoodIn wsX2_measure (wsV RX2 72 RX2 yX2_sample wsX2_sample) := goodIn_app (goodIn_of _ (by decide +kernel)) ggX2_measure_X2_sample
theorem dX2_measure_0 : decode cX2_measure 0 = .ok (.aload_n 0, 1) := by decide +kernel
theorem dX2_measure_1 : decode cX2_measure 1 = .ok (.iload_n 1, 1) := by decide +kernel
theorem dX2_measure_2 : decode cX2_measure 2 = .ok (.iload_n 2, 1) := by decide +kernel
theorem dX2_measure_3 : decode cX2_measure 3 = .ok (.invokevirtual 53, 3) := by decide +kernel
theorem dX2_measure_6 : decode cX2_measure 6 = .ok (.istore_n 3, 1) := by decide +kernel
theorem dX2_measure_7 : decode cX2_measure 7 = .ok (.iload_n 3, 1) := by decide +kernel
theorem dX2_measure_8 : decode cX2_measure 8 = .ok (.ifCond .eq 5, 3) := by decide +kernel
theorem dX2_measure_11 : decode cX2_measure 11 = .ok (.iload_n 3, 1) := by decide +kernel
theorem dX2_measure_12 : decode cX2_measure 12 = .ok (.ireturn, 1) := by decide +kernel
theorem dX2_measure_13 : decode cX2_measure 13 = .ok (.aload_n 0, 1) := by decide +kernel
theorem dX2_measure_14 : decode cX2_measure 14 = .ok (.iload_n 1, 1) := by decide +kernel
theorem dX2_measure_15 : decode cX2_measure 15 = .ok (.iload_n 2, 1) := by decide +kernel
theorem dX2_measure_16 : decode cX2_measure 16 = .ok (.invokevirtual 101, 3) := by decide +kernel
theorem dX2_measure_19 : decode cX2_measure 19 = .ok (.aload_n 0, 1) := by decide +kernel
theorem dX2_measure_20 : decode cX2_measure 20 = .ok (.iload_n 1, 1) := by decide +kernel
theorem dX2_measure_21 : decode cX2_measure 21 = .ok (.iload_n 2, 1) := by decide +kernel
theorem dX2_measure_22 : decode cX2_measure 22 = .ok (.invokevirtual 72, 3) := by decide +kernel
theorem dX2_measure_25 : decode cX2_measure 25 = .ok (.ireturn, 1) := by decide +kernel
set_option maxRecDepth 20000 in
theorem ggX2_round_X2_cell : GoodIn wsX2_round wsX2_cell := goodIn_r _ [5] (by decide +kernel) (by decide +kernel)
set_option maxRecDepth 20000 in
theorem gX2_round_X2_cell : GoodIn wsX2_round (va_wsS RX2 46 yX2_cell wsX2_cell) := goodIn_app (goodIn_of _ (by decide +kernel)) ggX2_round_X2_cell
set_option maxRecDepth 20000 in
theorem ggX2_round_X2_update : GoodIn wsX2_round wsX2_update := goodIn_r _ [9, 1, 10, 11, 12, 13, 14, 15, 16, 4, 17, 18, 19, 20, 21, 22, 23, 24, 2, 3, 5, 25, 26, 27, 28, 29, 30, 31, 32, 33, 34, 35, 36, 37, 38, 39, 40, 41, 42, 43, 44, 45, 46, 47, 48, 49, 50, 51, 52, 53] (by decide +kernel) (by decide +kernel)
set_option maxRecDepth 20000 in
theorem gX2_round_X2_update : GoodIn wsX2_round (wsV RX2 101 RX2 yX2_update wsX2_update) := goodIn_app (goodIn_of _ (by decide +kernel)) ggX2_round_X2_update
theorem dX2_round_0 : decode cX2_round 0 = .ok (.aload_n 0, 1) := by decide +kernel
theorem dX2_round_1 : decode cX2_round 1 = .ok (.getfield 7, 3) := by decide +kernel
theorem dX2_round_4 : decode cX2_round 4 = .ok (.iconst 0, 1) := by decide +kernel
theorem dX2_round_5 : decode cX2_round 5 = .ok (.iaload, 1) := by decide +kernel
theorem dX2_round_6 : decode cX2_round 6 = .ok (.istore_n 1, 1) := by decide +kernel
theorem dX2_round_7 : decode cX2_round 7 = .ok (.iconst 0, 1) := by decide +kernel
theorem dX2_round_8 : decode cX2_round 8 = .ok (.istore_n 2, 1) := by decide +kernel
theorem dX2_round_9 : decode cX2_round 9 = .ok (.iconst 0, 1) := by decide +kernel
theorem dX2_round_10 : decode cX2_round 10 = .ok (.istore_n 3, 1) := by decide +kernel
theorem dX2_round_11 : decode cX2_round 11 = .ok (.iload_n 3, 1) := by decide +kernel
theorem dX2_round_12 : decode cX2_round 12 = .ok (.iload_n 1, 1) := by decide +kernel
theorem dX2_round_13 : decode cX2_round 13 = .ok (.if_icmp .ge 51, 3) := by decide +kernel
theorem dX2_round_16 : decode cX2_round 16 = .ok (.iload_n 3, 1) := by decide +kernel
theorem dX2_round_17 : decode cX2_round 17 = .ok (.iconst 1, 1) := by decide +kernel
theorem dX2_round_18 : decode cX2_round 18 = .ok (.iadd, 1) := by decide +kernel
theorem dX2_round_19 : decode cX2_round 19 = .ok (.aload_n 0, 1) := by decide +kernel
theorem dX2_round_20 : decode cX2_round 20 = .ok (.getfield 7, 3) := by decide +kernel
theorem dX2_round_23 : decode cX2_round 23 = .ok (.iconst 1, 1) := by decide +kernel
theorem dX2_round_24 : decode cX2_round 24 = .ok (.iaload, 1) := by decide +kernel
theorem dX2_round_25 : decode cX2_round 25 = .ok (.iload_n 1, 1) := by decide +kernel
theorem dX2_round_26 : decode cX2_round 26 = .ok (.iconst 1, 1) := by decide +kernel
theorem dX2_round_27 : decode cX2_round 27 = .ok (.isub, 1) := by decide +kernel
theorem dX2_round_28 : decode cX2_round 28 = .ok (.irem, 1) := by decide +kernel
theorem dX2_round_29 : decode cX2_round 29 = .ok (.iadd, 1) := by decide +kernel
theorem dX2_round_30 : decode cX2_round 30 = .ok (.iload_n 1, 1) := by decide +kernel
theorem dX2_round_31 : decode cX2_round 31 = .ok (.irem, 1) := by decide +kernel
theorem dX2_round_32 : decode cX2_round 32 = .ok (.istore 4, 2) := by decide +kernel
theorem dX2_round_34 : decode cX2_round 34 = .ok (.aload_n 0, 1) := by decide +kernel
theorem dX2_round_35 : decode cX2_round 35 = .ok (.getfield 7, 3) := by decide +kernel
theorem dX2_round_38 : decode cX2_round 38 = .ok (.iload_n 3, 1) := by decide +kernel
theorem dX2_round_39 : decode cX2_round 39 = .ok (.iload 4, 2) := by decide +kernel
theorem dX2_round_41 : decode cX2_round 41 = .ok (.invokestatic 46, 3) := by decide +kernel
theorem dX2_round_44 : decode cX2_round 44 = .ok (.iaload, 1) := by decide +kernel
theorem dX2_round_45 : decode cX2_round 45 = .ok (.ifCond .le 13, 3) := by decide +kernel
theorem dX2_round_48 : decode cX2_round 48 = .ok (.aload_n 0, 1) := by decide +kernel
theorem dX2_round_49 : decode cX2_round 49 = .ok (.iload_n 3, 1) := by decide +kernel
theorem dX2_round_50 : decode cX2_round 50 = .ok (.iload 4, 2) := by decide +kernel
theorem dX2_round_52 : decode cX2_round 52 = .ok (.invokevirtual 101, 3) := by decide +kernel
theorem dX2_round_55 : decode cX2_round 55 = .ok (.iinc 2 1, 3) := by decide +kernel
theorem dX2_round_58 : decode cX2_round 58 = .ok (.iinc 3 1, 3) := by decide +kernel
theorem dX2_round_61 : decode cX2_round 61 = .ok (.goto (-50), 3) := by decide +kernel
theorem dX2_round_64 : decode cX2_round 64 = .ok (.aload_n 0, 1) := by decide +kernel
theorem dX2_round_65 : decode cX2_round 65 = .ok (.getfield 7, 3) := by decide +kernel
theorem dX2_round_68 : decode cX2_round 68 = .ok (.iconst 1, 1) := by decide +kernel
theorem dX2_round_69 : decode cX2_round 69 = .ok (.dup2, 1) := by decide +kernel
theorem dX2_round_70 : decode cX2_round 70 = .ok (.iaload, 1) := by decide +kernel
theorem dX2_round_71 : decode cX2_round 71 = .ok (.iconst 1, 1) := by decide +kernel
theorem dX2_round_72 : decode cX2_round 72 = .ok (.iadd, 1) := by decide +kernel
theorem dX2_round_73 : decode cX2_round 73 = .ok (.iastore, 1) := by decide +kernel
theorem dX2_round_74 : decode cX2_round 74 = .ok (.iload_n 2, 1) := by decide +kernel
theorem dX2_round_75 : decode cX2_round 75 = .ok (.ireturn, 1) := by decide +kernel
set_option maxRecDepth 20000 in
theorem ggX2_run_X2_in : GoodIn wsX2_run wsX2_in := goodIn_r _ [5] (by decide +kernel) (by decide +kernel)
set_option maxRecDepth 20000 in
theorem gX2_run_X2_in : GoodIn wsX2_run (va_wsS RX2 27 yX2_in wsX2_in) := goodIn_app (goodIn_of _ (by decide +kernel)) ggX2_run_X2_in
set_option maxRecDepth 20000 in
theorem ggX2_run_X2_round : GoodIn wsX2_run wsX2_round := goodIn_r _ [9, 10, 11, 12, 4, 13, 14, 15, 16, 17, 18, 19, 20, 21, 22, 23, 24, 25, 26, 27, 28, 29, 30, 31, 32, 33, 34, 35, 36, 37, 38, 39, 40, 41, 42, 43, 44, 45, 46, 47, 48, 49, 50, 51, 52, 53, 54, 55, 56, 57, 58, 59, 60, 61] (by decide +kernel) (by decide +kernel)
set_option maxRecDepth 20000 in
theorem gX2_run_X2_round : GoodIn wsX2_run (wsV RX2 104 RX2 yX2_round wsX2_round) := goodIn_app (goodIn_of _ (by decide +kernel)) ggX2_run_X2_round
theorem dX2_run_0 : decode cX2_run 0 = .ok (.iload_n 1, 1) := by decide +kernel
theorem dX2_run_1 : decode cX2_run 1 = .ok (.iconst 1, 1) := by decide +kernel
theorem dX2_run_2 : decode cX2_run 2 = .ok (.bipush 100, 2) := by decide +kernel
theorem dX2_run_4 : decode cX2_run 4 = .ok (.invokestatic 27, 3) := by decide +kernel
theorem dX2_run_7 : decode cX2_run 7 = .ok (.ifCond .ne 6, 3) := by decide +kernel
theorem dX2_run_10 : decode cX2_run 10 = .ok (.ldc 35, 2) := by decide +kernel
theorem dX2_run_12 : decode cX2_run 12 = .ok (.ireturn, 1) := by decide +kernel
theorem dX2_run_13 : decode cX2_run 13 = .ok (.iconst 0, 1) := by decide +kernel
theorem dX2_run_14 : decode cX2_run 14 = .ok (.istore_n 2, 1) := by decide +kernel
theorem dX2_run_15 : decode cX2_run 15 = .ok (.iconst 0, 1) := by decide +kernel
theorem dX2_run_16 : decode cX2_run 16 = .ok (.istore_n 3, 1) := by decide +kernel
theorem dX2_run_17 : decode cX2_run 17 = .ok (.iload_n 3, 1) := by decide +kernel
theorem dX2_run_18 : decode cX2_run 18 = .ok (.iload_n 1, 1) := by decide +kernel
theorem dX2_run_19 : decode cX2_run 19 = .ok (.if_icmp .ge 16, 3) := by decide +kernel
theorem dX2_run_22 : decode cX2_run 22 = .ok (.iload_n 2, 1) := by decide +kernel
theorem dX2_run_23 : decode cX2_run 23 = .ok (.aload_n 0, 1) := by decide +kernel
theorem dX2_run_24 : decode cX2_run 24 = .ok (.invokevirtual 104, 3) := by decide +kernel
theorem dX2_run_27 : decode cX2_run 27 = .ok (.iadd, 1) := by decide +kernel
theorem dX2_run_28 : decode cX2_run 28 = .ok (.istore_n 2, 1) := by decide +kernel
theorem dX2_run_29 : decode cX2_run 29 = .ok (.iinc 3 1, 3) := by decide +kernel
theorem dX2_run_32 : decode cX2_run 32 = .ok (.goto (-15), 3) := by decide +kernel
theorem dX2_run_35 : decode cX2_run 35 = .ok (.iload_n 2, 1) := by decide +kernel
theorem dX2_run_36 : decode cX2_run 36 = .ok (.ireturn, 1) := by decide +kernel
theorem dX2_roundCounter_0 : decode cX2_roundCounter 0 = .ok (.aload_n 0, 1) := by decide +kernel
theorem dX2_roundCounter_1 : decode cX2_roundCounter 1 = .ok (.getfield 7, 3) := by decide +kernel
theorem dX2_roundCounter_4 : decode cX2_roundCounter 4 = .ok (.iconst 1, 1) := by decide +kernel
theorem dX2_roundCounter_5 : decode cX2_roundCounter 5 = .ok (.iaload, 1) := by decide +kernel
theorem dX2_roundCounter_6 : decode cX2_roundCounter 6 = .ok (.ireturn, 1) := by decide +kernel
set_option maxRecDepth 20000 in
theorem ggX2_errorOf_X2_cell : GoodIn wsX2_errorOf wsX2_cell := goodIn_r _ [6] (by decide +kernel) (by decide +kernel)
set_option maxRecDepth 20000 in
theorem gX2_errorOf_X2_cell : GoodIn wsX2_errorOf (va_wsS RX2 46 yX2_cell wsX2_cell) := goodIn_app (goodIn_of _ (by decide +kernel)) ggX2_errorOf_X2_cell
set_option maxRecDepth 20000 in
theorem ggX2_errorOf_X2_predicted : GoodIn wsX2_errorOf wsX2_predicted := goodIn_r _ [10, 1, 11, 12, 5, 13, 14, 15, 16, 17, 18, 22, 23, 24, 25, 26, 27, 28, 29, 30, 31, 32] (by decide +kernel) (by decide +kernel)
set_option maxRecDepth 20000 in
theorem gX2_errorOf_X2_predicted : GoodIn wsX2_errorOf (wsV RX2 69 RX2 yX2_predicted wsX2_predicted) := goodIn_app (goodIn_of _ (by decide +kernel)) ggX2_errorOf_X2_predicted
set_option maxRecDepth 20000 in
theorem ggX2_errorOf_X2_plain : GoodIn wsX2_errorOf wsX2_plain := goodIn_r _ [21] (by decide +kernel) (by decide +kernel)
set_option maxRecDepth 20000 in
theorem gX2_errorOf_X2_plain : GoodIn wsX2_errorOf (va_wsS RX2 77 yX2_plain wsX2_plain) := goodIn_app (goodIn_of _ (by decide +kernel)) ggX2_errorOf_X2_plain
theorem dX2_errorOf_0 : decode cX2_errorOf 0 = .ok (.aload_n 0, 1) := by decide +kernel
theorem dX2_errorOf_1 : decode cX2_errorOf 1 = .ok (.getfield 7, 3) := by decide +kernel
theorem dX2_errorOf_4 : decode cX2_errorOf 4 = .ok (.iload_n 1, 1) := by decide +kernel
theorem dX2_errorOf_5 : decode cX2_errorOf 5 = .ok (.iload_n 2, 1) := by decide +kernel
theorem dX2_errorOf_6 : decode cX2_errorOf 6 = .ok (.invokestatic 46, 3) := by decide +kernel
theorem dX2_errorOf_9 : decode cX2_errorOf 9 = .ok (.iaload, 1) := by decide +kernel
theorem dX2_errorOf_10 : decode cX2_errorOf 10 = .ok (.i2l, 1) := by decide +kernel
theorem dX2_errorOf_11 : decode cX2_errorOf 11 = .ok (.lstore_n 3, 1) := by decide +kernel
theorem dX2_errorOf_12 : decode cX2_errorOf 12 = .ok (.ldc2_w 75, 3) := by decide +kernel
theorem dX2_errorOf_15 : decode cX2_errorOf 15 = .ok (.aload_n 0, 1) := by decide +kernel
theorem dX2_errorOf_16 : decode cX2_errorOf 16 = .ok (.iload_n 1, 1) := by decide +kernel
theorem dX2_errorOf_17 : decode cX2_errorOf 17 = .ok (.iload_n 2, 1) := by decide +kernel
theorem dX2_errorOf_18 : decode cX2_errorOf 18 = .ok (.invokevirtual 69, 3) := by decide +kernel
theorem dX2_errorOf_21 : decode cX2_errorOf 21 = .ok (.i2l, 1) := by decide +kernel
theorem dX2_errorOf_22 : decode cX2_errorOf 22 = .ok (.lload_n 3, 1) := by decide +kernel
theorem dX2_errorOf_23 : decode cX2_errorOf 23 = .ok (.lsub, 1) := by decide +kernel
theorem dX2_errorOf_24 : decode cX2_errorOf 24 = .ok (.invokestatic 77, 3) := by decide +kernel
theorem dX2_errorOf_27 : decode cX2_errorOf 27 = .ok (.lmul, 1) := by decide +kernel
theorem dX2_errorOf_28 : decode cX2_errorOf 28 = .ok (.lload_n 3, 1) := by decide +kernel
theorem dX2_errorOf_29 : decode cX2_errorOf 29 = .ok (.ldiv, 1) := by decide +kernel
theorem dX2_errorOf_30 : decode cX2_errorOf 30 = .ok (.l2i, 1) := by decide +kernel
theorem dX2_errorOf_31 : decode cX2_errorOf 31 = .ok (.ireturn, 1) := by decide +kernel
set_option maxRecDepth 20000 in
theorem ggX2_meanError_X2_cell : GoodIn wsX2_meanError wsX2_cell := goodIn_r _ [6] (by decide +kernel) (by decide +kernel)
set_option maxRecDepth 20000 in
theorem gX2_meanError_X2_cell : GoodIn wsX2_meanError (va_wsS RX2 46 yX2_cell wsX2_cell) := goodIn_app (goodIn_of _ (by decide +kernel)) ggX2_meanError_X2_cell
set_option maxRecDepth 20000 in
theorem ggX2_meanError_X2_errorOf : GoodIn wsX2_meanError wsX2_errorOf := goodIn_r _ [10, 1, 11, 3, 4, 5, 6, 12, 13, 14, 15, 16, 17, 18, 19, 20, 21, 22, 23, 24, 25, 26, 27, 28, 29, 30, 31, 32, 33, 34, 35, 36, 37] (by decide +kernel) (by decide +kernel)
set_option maxRecDepth 20000 in
theorem gX2_meanError_X2_errorOf : GoodIn wsX2_meanError (wsV RX2 108 RX2 yX2_errorOf wsX2_errorOf) := goodIn_app (goodIn_of _ (by decide +kernel)) ggX2_meanError_X2_errorOf
theorem dX2_meanError_0 : decode cX2_meanError 0 = .ok (.lconst 0, 1) := by decide +kernel
theorem dX2_meanError_1 : decode cX2_meanError 1 = .ok (.lstore_n 1, 1) := by decide +kernel
theorem dX2_meanError_2 : decode cX2_meanError 2 = .ok (.iconst 0, 1) := by decide +kernel
theorem dX2_meanError_3 : decode cX2_meanError 3 = .ok (.istore_n 3, 1) := by decide +kernel
theorem dX2_meanError_4 : decode cX2_meanError 4 = .ok (.iconst 0, 1) := by decide +kernel
theorem dX2_meanError_5 : decode cX2_meanError 5 = .ok (.istore 4, 2) := by decide +kernel
theorem dX2_meanError_7 : decode cX2_meanError 7 = .ok (.iload 4, 2) := by decide +kernel
theorem dX2_meanError_9 : decode cX2_meanError 9 = .ok (.aload_n 0, 1) := by decide +kernel
theorem dX2_meanError_10 : decode cX2_meanError 10 = .ok (.getfield 7, 3) := by decide +kernel
theorem dX2_meanError_13 : decode cX2_meanError 13 = .ok (.iconst 0, 1) := by decide +kernel
theorem dX2_meanError_14 : decode cX2_meanError 14 = .ok (.iaload, 1) := by decide +kernel
theorem dX2_meanError_15 : decode cX2_meanError 15 = .ok (.if_icmp .ge 62, 3) := by decide +kernel
theorem dX2_meanError_18 : decode cX2_meanError 18 = .ok (.iload 4, 2) := by decide +kernel
theorem dX2_meanError_20 : decode cX2_meanError 20 = .ok (.iconst 1, 1) := by decide +kernel
theorem dX2_meanError_21 : decode cX2_meanError 21 = .ok (.iadd, 1) := by decide +kernel
theorem dX2_meanError_22 : decode cX2_meanError 22 = .ok (.istore 5, 2) := by decide +kernel
theorem dX2_meanError_24 : decode cX2_meanError 24 = .ok (.iload 5, 2) := by decide +kernel
theorem dX2_meanError_26 : decode cX2_meanError 26 = .ok (.aload_n 0, 1) := by decide +kernel
theorem dX2_meanError_27 : decode cX2_meanError 27 = .ok (.getfield 7, 3) := by decide +kernel
theorem dX2_meanError_30 : decode cX2_meanError 30 = .ok (.iconst 0, 1) := by decide +kernel
theorem dX2_meanError_31 : decode cX2_meanError 31 = .ok (.iaload, 1) := by decide +kernel
theorem dX2_meanError_32 : decode cX2_meanError 32 = .ok (.if_icmp .ge 39, 3) := by decide +kernel
theorem dX2_meanError_35 : decode cX2_meanError 35 = .ok (.aload_n 0, 1) := by decide +kernel
theorem dX2_meanError_36 : decode cX2_meanError 36 = .ok (.getfield 7, 3) := by decide +kernel
theorem dX2_meanError_39 : decode cX2_meanError 39 = .ok (.iload 4, 2) := by decide +kernel
theorem dX2_meanError_41 : decode cX2_meanError 41 = .ok (.iload 5, 2) := by decide +kernel
theorem dX2_meanError_43 : decode cX2_meanError 43 = .ok (.invokestatic 46, 3) := by decide +kernel
theorem dX2_meanError_46 : decode cX2_meanError 46 = .ok (.iaload, 1) := by decide +kernel
theorem dX2_meanError_47 : decode cX2_meanError 47 = .ok (.ifCond .le 18, 3) := by decide +kernel
theorem dX2_meanError_50 : decode cX2_meanError 50 = .ok (.lload_n 1, 1) := by decide +kernel
theorem dX2_meanError_51 : decode cX2_meanError 51 = .ok (.aload_n 0, 1) := by decide +kernel
theorem dX2_meanError_52 : decode cX2_meanError 52 = .ok (.iload 4, 2) := by decide +kernel
theorem dX2_meanError_54 : decode cX2_meanError 54 = .ok (.iload 5, 2) := by decide +kernel
theorem dX2_meanError_56 : decode cX2_meanError 56 = .ok (.invokevirtual 108, 3) := by decide +kernel
theorem dX2_meanError_59 : decode cX2_meanError 59 = .ok (.i2l, 1) := by decide +kernel
theorem dX2_meanError_60 : decode cX2_meanError 60 = .ok (.ladd, 1) := by decide +kernel
theorem dX2_meanError_61 : decode cX2_meanError 61 = .ok (.lstore_n 1, 1) := by decide +kernel
theorem dX2_meanError_62 : decode cX2_meanError 62 = .ok (.iinc 3 1, 3) := by decide +kernel
theorem dX2_meanError_65 : decode cX2_meanError 65 = .ok (.iinc 5 1, 3) := by decide +kernel
theorem dX2_meanError_68 : decode cX2_meanError 68 = .ok (.goto (-44), 3) := by decide +kernel
theorem dX2_meanError_71 : decode cX2_meanError 71 = .ok (.iinc 4 1, 3) := by decide +kernel
theorem dX2_meanError_74 : decode cX2_meanError 74 = .ok (.goto (-67), 3) := by decide +kernel
theorem dX2_meanError_77 : decode cX2_meanError 77 = .ok (.iload_n 3, 1) := by decide +kernel
theorem dX2_meanError_78 : decode cX2_meanError 78 = .ok (.ifCond .ne 8, 3) := by decide +kernel
theorem dX2_meanError_81 : decode cX2_meanError 81 = .ok (.ldc 111, 2) := by decide +kernel
theorem dX2_meanError_83 : decode cX2_meanError 83 = .ok (.goto 8, 3) := by decide +kernel
theorem dX2_meanError_86 : decode cX2_meanError 86 = .ok (.lload_n 1, 1) := by decide +kernel
theorem dX2_meanError_87 : decode cX2_meanError 87 = .ok (.iload_n 3, 1) := by decide +kernel
theorem dX2_meanError_88 : decode cX2_meanError 88 = .ok (.i2l, 1) := by decide +kernel
theorem dX2_meanError_89 : decode cX2_meanError 89 = .ok (.ldiv, 1) := by decide +kernel
theorem dX2_meanError_90 : decode cX2_meanError 90 = .ok (.l2i, 1) := by decide +kernel
theorem dX2_meanError_91 : decode cX2_meanError 91 = .ok (.ireturn, 1) := by decide +kernel
set_option maxRecDepth 20000 in
theorem ggX2_worstPair_X2_cell : GoodIn wsX2_worstPair wsX2_cell := goodIn_r _ [6] (by decide +kernel) (by decide +kernel)
set_option maxRecDepth 20000 in
theorem gX2_worstPair_X2_cell : GoodIn wsX2_worstPair (va_wsS RX2 46 yX2_cell wsX2_cell) := goodIn_app (goodIn_of _ (by decide +kernel)) ggX2_worstPair_X2_cell
set_option maxRecDepth 20000 in
theorem ggX2_worstPair_X2_errorOf : GoodIn wsX2_worstPair wsX2_errorOf := goodIn_r _ [10, 2, 11, 3, 4, 5, 6, 12, 13, 14, 15, 16, 17, 18, 19, 20, 21, 22, 23, 24, 25, 26, 27, 28, 29, 30, 31, 32, 33, 34, 35, 36, 37] (by decide +kernel) (by decide +kernel)
set_option maxRecDepth 20000 in
theorem gX2_worstPair_X2_errorOf : GoodIn wsX2_worstPair (wsV RX2 108 RX2 yX2_errorOf wsX2_errorOf) := goodIn_app (goodIn_of _ (by decide +kernel)) ggX2_worstPair_X2_errorOf
theorem dX2_worstPair_0 : decode cX2_worstPair 0 = .ok (.ldc 111, 2) := by decide +kernel
theorem dX2_worstPair_2 : decode cX2_worstPair 2 = .ok (.istore_n 1, 1) := by decide +kernel
theorem dX2_worstPair_3 : decode cX2_worstPair 3 = .ok (.iconst (-1), 1) := by decide +kernel
theorem dX2_worstPair_4 : decode cX2_worstPair 4 = .ok (.istore_n 2, 1) := by decide +kernel
theorem dX2_worstPair_5 : decode cX2_worstPair 5 = .ok (.iconst 0, 1) := by decide +kernel
theorem dX2_worstPair_6 : decode cX2_worstPair 6 = .ok (.istore_n 3, 1) := by decide +kernel
theorem dX2_worstPair_7 : decode cX2_worstPair 7 = .ok (.iload_n 3, 1) := by decide +kernel
theorem dX2_worstPair_8 : decode cX2_worstPair 8 = .ok (.aload_n 0, 1) := by decide +kernel
theorem dX2_worstPair_9 : decode cX2_worstPair 9 = .ok (.getfield 7, 3) := by decide +kernel
theorem dX2_worstPair_12 : decode cX2_worstPair 12 = .ok (.iconst 0, 1) := by decide +kernel
theorem dX2_worstPair_13 : decode cX2_worstPair 13 = .ok (.iaload, 1) := by decide +kernel
theorem dX2_worstPair_14 : decode cX2_worstPair 14 = .ok (.if_icmp .ge 72, 3) := by decide +kernel
theorem dX2_worstPair_17 : decode cX2_worstPair 17 = .ok (.iload_n 3, 1) := by decide +kernel
theorem dX2_worstPair_18 : decode cX2_worstPair 18 = .ok (.iconst 1, 1) := by decide +kernel
theorem dX2_worstPair_19 : decode cX2_worstPair 19 = .ok (.iadd, 1) := by decide +kernel
theorem dX2_worstPair_20 : decode cX2_worstPair 20 = .ok (.istore 4, 2) := by decide +kernel
theorem dX2_worstPair_22 : decode cX2_worstPair 22 = .ok (.iload 4, 2) := by decide +kernel
theorem dX2_worstPair_24 : decode cX2_worstPair 24 = .ok (.aload_n 0, 1) := by decide +kernel
theorem dX2_worstPair_25 : decode cX2_worstPair 25 = .ok (.getfield 7, 3) := by decide +kernel
theorem dX2_worstPair_28 : decode cX2_worstPair 28 = .ok (.iconst 0, 1) := by decide +kernel
theorem dX2_worstPair_29 : decode cX2_worstPair 29 = .ok (.iaload, 1) := by decide +kernel
theorem dX2_worstPair_30 : decode cX2_worstPair 30 = .ok (.if_icmp .ge 50, 3) := by decide +kernel
theorem dX2_worstPair_33 : decode cX2_worstPair 33 = .ok (.aload_n 0, 1) := by decide +kernel
theorem dX2_worstPair_34 : decode cX2_worstPair 34 = .ok (.getfield 7, 3) := by decide +kernel
theorem dX2_worstPair_37 : decode cX2_worstPair 37 = .ok (.iload_n 3, 1) := by decide +kernel
theorem dX2_worstPair_38 : decode cX2_worstPair 38 = .ok (.iload 4, 2) := by decide +kernel
theorem dX2_worstPair_40 : decode cX2_worstPair 40 = .ok (.invokestatic 46, 3) := by decide +kernel
theorem dX2_worstPair_43 : decode cX2_worstPair 43 = .ok (.iaload, 1) := by decide +kernel
theorem dX2_worstPair_44 : decode cX2_worstPair 44 = .ok (.ifCond .le 30, 3) := by decide +kernel
theorem dX2_worstPair_47 : decode cX2_worstPair 47 = .ok (.aload_n 0, 1) := by decide +kernel
theorem dX2_worstPair_48 : decode cX2_worstPair 48 = .ok (.iload_n 3, 1) := by decide +kernel
theorem dX2_worstPair_49 : decode cX2_worstPair 49 = .ok (.iload 4, 2) := by decide +kernel
theorem dX2_worstPair_51 : decode cX2_worstPair 51 = .ok (.invokevirtual 108, 3) := by decide +kernel
theorem dX2_worstPair_54 : decode cX2_worstPair 54 = .ok (.iload_n 2, 1) := by decide +kernel
theorem dX2_worstPair_55 : decode cX2_worstPair 55 = .ok (.if_icmp .le 19, 3) := by decide +kernel
theorem dX2_worstPair_58 : decode cX2_worstPair 58 = .ok (.aload_n 0, 1) := by decide +kernel
theorem dX2_worstPair_59 : decode cX2_worstPair 59 = .ok (.iload_n 3, 1) := by decide +kernel
theorem dX2_worstPair_60 : decode cX2_worstPair 60 = .ok (.iload 4, 2) := by decide +kernel
theorem dX2_worstPair_62 : decode cX2_worstPair 62 = .ok (.invokevirtual 108, 3) := by decide +kernel
theorem dX2_worstPair_65 : decode cX2_worstPair 65 = .ok (.istore_n 2, 1) := by decide +kernel
theorem dX2_worstPair_66 : decode cX2_worstPair 66 = .ok (.bipush 10, 2) := by decide +kernel
theorem dX2_worstPair_68 : decode cX2_worstPair 68 = .ok (.iload_n 3, 1) := by decide +kernel
theorem dX2_worstPair_69 : decode cX2_worstPair 69 = .ok (.imul, 1) := by decide +kernel
theorem dX2_worstPair_70 : decode cX2_worstPair 70 = .ok (.iload 4, 2) := by decide +kernel
theorem dX2_worstPair_72 : decode cX2_worstPair 72 = .ok (.iadd, 1) := by decide +kernel
theorem dX2_worstPair_73 : decode cX2_worstPair 73 = .ok (.istore_n 1, 1) := by decide +kernel
theorem dX2_worstPair_74 : decode cX2_worstPair 74 = .ok (.iinc 4 1, 3) := by decide +kernel
theorem dX2_worstPair_77 : decode cX2_worstPair 77 = .ok (.goto (-55), 3) := by decide +kernel
theorem dX2_worstPair_80 : decode cX2_worstPair 80 = .ok (.iinc 3 1, 3) := by decide +kernel
theorem dX2_worstPair_83 : decode cX2_worstPair 83 = .ok (.goto (-76), 3) := by decide +kernel
theorem dX2_worstPair_86 : decode cX2_worstPair 86 = .ok (.iload_n 1, 1) := by decide +kernel
theorem dX2_worstPair_87 : decode cX2_worstPair 87 = .ok (.ireturn, 1) := by decide +kernel
set_option maxRecDepth 20000 in
theorem ggX2_relativeError_X2_wrongKnown : GoodIn wsX2_relativeError wsX2_wrongKnown := goodIn_r _ [5, 6, 7, 8, 9, 10, 4, 11, 12, 13, 14, 15, 16, 17, 18, 19, 20, 21, 22, 23, 44, 45, 46, 47, 48, 49, 50, 51, 52, 53, 54] (by decide +kernel) (by decide +kernel)
set_option maxRecDepth 20000 in
theorem gX2_relativeError_X2_wrongKnown : GoodIn wsX2_relativeError (wsV RX2 53 RX2 yX2_wrongKnown wsX2_wrongKnown) := goodIn_app (goodIn_of _ (by decide +kernel)) ggX2_relativeError_X2_wrongKnown
set_option maxRecDepth 20000 in
theorem ggX2_relativeError_X2_errorOf : GoodIn wsX2_relativeError wsX2_errorOf := goodIn_r _ [27, 6, 28, 21, 22, 4, 23, 29, 30, 31, 32, 33, 34, 35, 36, 37, 38, 39, 40, 41, 42, 43, 44, 45, 46, 47, 48, 49, 50, 51, 52, 53, 54] (by decide +kernel) (by decide +kernel)
set_option maxRecDepth 20000 in
theorem gX2_relativeError_X2_errorOf : GoodIn wsX2_relativeError (wsV RX2 108 RX2 yX2_errorOf wsX2_errorOf) := goodIn_app (goodIn_of _ (by decide +kernel)) ggX2_relativeError_X2_errorOf
theorem dX2_relativeError_0 : decode cX2_relativeError 0 = .ok (.aload_n 0, 1) := by decide +kernel
theorem dX2_relativeError_1 : decode cX2_relativeError 1 = .ok (.iload_n 1, 1) := by decide +kernel
theorem dX2_relativeError_2 : decode cX2_relativeError 2 = .ok (.iload_n 2, 1) := by decide +kernel
theorem dX2_relativeError_3 : decode cX2_relativeError 3 = .ok (.invokevirtual 53, 3) := by decide +kernel
theorem dX2_relativeError_6 : decode cX2_relativeError 6 = .ok (.istore_n 3, 1) := by decide +kernel
theorem dX2_relativeError_7 : decode cX2_relativeError 7 = .ok (.iload_n 3, 1) := by decide +kernel
theorem dX2_relativeError_8 : decode cX2_relativeError 8 = .ok (.ifCond .eq 7, 3) := by decide +kernel
theorem dX2_relativeError_11 : decode cX2_relativeError 11 = .ok (.iload_n 3, 1) := by decide +kernel
theorem dX2_relativeError_12 : decode cX2_relativeError 12 = .ok (.goto 9, 3) := by decide +kernel
theorem dX2_relativeError_15 : decode cX2_relativeError 15 = .ok (.aload_n 0, 1) := by decide +kernel
theorem dX2_relativeError_16 : decode cX2_relativeError 16 = .ok (.iload_n 1, 1) := by decide +kernel
theorem dX2_relativeError_17 : decode cX2_relativeError 17 = .ok (.iload_n 2, 1) := by decide +kernel
theorem dX2_relativeError_18 : decode cX2_relativeError 18 = .ok (.invokevirtual 108, 3) := by decide +kernel
theorem dX2_relativeError_21 : decode cX2_relativeError 21 = .ok (.ireturn, 1) := by decide +kernel
set_option maxRecDepth 20000 in
theorem ggX2_rankOf_X2_predicted : GoodIn wsX2_rankOf wsX2_predicted := goodIn_r _ [6, 1, 7, 8, 5, 9, 10, 11, 12, 13, 14, 15, 16, 17, 18, 19, 20, 21, 22, 23, 24, 25] (by decide +kernel) (by decide +kernel)
set_option maxRecDepth 20000 in
theorem gX2_rankOf_X2_predicted : GoodIn wsX2_rankOf (wsV RX2 69 RX2 yX2_predicted wsX2_predicted) := goodIn_app (goodIn_of _ (by decide +kernel)) ggX2_rankOf_X2_predicted
theorem dX2_rankOf_0 : decode cX2_rankOf 0 = .ok (.iconst 0, 1) := by decide +kernel
theorem dX2_rankOf_1 : decode cX2_rankOf 1 = .ok (.istore_n 3, 1) := by decide +kernel
theorem dX2_rankOf_2 : decode cX2_rankOf 2 = .ok (.aload_n 0, 1) := by decide +kernel
theorem dX2_rankOf_3 : decode cX2_rankOf 3 = .ok (.iload_n 1, 1) := by decide +kernel
theorem dX2_rankOf_4 : decode cX2_rankOf 4 = .ok (.iload_n 2, 1) := by decide +kernel
theorem dX2_rankOf_5 : decode cX2_rankOf 5 = .ok (.invokevirtual 69, 3) := by decide +kernel
theorem dX2_rankOf_8 : decode cX2_rankOf 8 = .ok (.istore 4, 2) := by decide +kernel
theorem dX2_rankOf_10 : decode cX2_rankOf 10 = .ok (.iconst 0, 1) := by decide +kernel
theorem dX2_rankOf_11 : decode cX2_rankOf 11 = .ok (.istore 5, 2) := by decide +kernel
theorem dX2_rankOf_13 : decode cX2_rankOf 13 = .ok (.iload 5, 2) := by decide +kernel
theorem dX2_rankOf_15 : decode cX2_rankOf 15 = .ok (.aload_n 0, 1) := by decide +kernel
theorem dX2_rankOf_16 : decode cX2_rankOf 16 = .ok (.getfield 7, 3) := by decide +kernel
theorem dX2_rankOf_19 : decode cX2_rankOf 19 = .ok (.iconst 0, 1) := by decide +kernel
theorem dX2_rankOf_20 : decode cX2_rankOf 20 = .ok (.iaload, 1) := by decide +kernel
theorem dX2_rankOf_21 : decode cX2_rankOf 21 = .ok (.if_icmp .ge 58, 3) := by decide +kernel
theorem dX2_rankOf_24 : decode cX2_rankOf 24 = .ok (.iload 5, 2) := by decide +kernel
theorem dX2_rankOf_26 : decode cX2_rankOf 26 = .ok (.iload_n 1, 1) := by decide +kernel
theorem dX2_rankOf_27 : decode cX2_rankOf 27 = .ok (.if_icmp .eq 46, 3) := by decide +kernel
theorem dX2_rankOf_30 : decode cX2_rankOf 30 = .ok (.iload 5, 2) := by decide +kernel
theorem dX2_rankOf_32 : decode cX2_rankOf 32 = .ok (.iload_n 2, 1) := by decide +kernel
theorem dX2_rankOf_33 : decode cX2_rankOf 33 = .ok (.if_icmp .eq 40, 3) := by decide +kernel
theorem dX2_rankOf_36 : decode cX2_rankOf 36 = .ok (.aload_n 0, 1) := by decide +kernel
theorem dX2_rankOf_37 : decode cX2_rankOf 37 = .ok (.iload_n 1, 1) := by decide +kernel
theorem dX2_rankOf_38 : decode cX2_rankOf 38 = .ok (.iload 5, 2) := by decide +kernel
theorem dX2_rankOf_40 : decode cX2_rankOf 40 = .ok (.invokevirtual 69, 3) := by decide +kernel
theorem dX2_rankOf_43 : decode cX2_rankOf 43 = .ok (.istore 6, 2) := by decide +kernel
theorem dX2_rankOf_45 : decode cX2_rankOf 45 = .ok (.iload_n 3, 1) := by decide +kernel
theorem dX2_rankOf_46 : decode cX2_rankOf 46 = .ok (.iload 6, 2) := by decide +kernel
theorem dX2_rankOf_48 : decode cX2_rankOf 48 = .ok (.iload 4, 2) := by decide +kernel
theorem dX2_rankOf_50 : decode cX2_rankOf 50 = .ok (.if_icmp .lt 16, 3) := by decide +kernel
theorem dX2_rankOf_53 : decode cX2_rankOf 53 = .ok (.iload 6, 2) := by decide +kernel
theorem dX2_rankOf_55 : decode cX2_rankOf 55 = .ok (.iload 4, 2) := by decide +kernel
theorem dX2_rankOf_57 : decode cX2_rankOf 57 = .ok (.if_icmp .ne 13, 3) := by decide +kernel
theorem dX2_rankOf_60 : decode cX2_rankOf 60 = .ok (.iload 5, 2) := by decide +kernel
theorem dX2_rankOf_62 : decode cX2_rankOf 62 = .ok (.iload_n 2, 1) := by decide +kernel
theorem dX2_rankOf_63 : decode cX2_rankOf 63 = .ok (.if_icmp .ge 7, 3) := by decide +kernel
theorem dX2_rankOf_66 : decode cX2_rankOf 66 = .ok (.iconst 1, 1) := by decide +kernel
theorem dX2_rankOf_67 : decode cX2_rankOf 67 = .ok (.goto 4, 3) := by decide +kernel
theorem dX2_rankOf_70 : decode cX2_rankOf 70 = .ok (.iconst 0, 1) := by decide +kernel
theorem dX2_rankOf_71 : decode cX2_rankOf 71 = .ok (.iadd, 1) := by decide +kernel
theorem dX2_rankOf_72 : decode cX2_rankOf 72 = .ok (.istore_n 3, 1) := by decide +kernel
theorem dX2_rankOf_73 : decode cX2_rankOf 73 = .ok (.iinc 5 1, 3) := by decide +kernel
theorem dX2_rankOf_76 : decode cX2_rankOf 76 = .ok (.goto (-63), 3) := by decide +kernel
theorem dX2_rankOf_79 : decode cX2_rankOf 79 = .ok (.iload_n 3, 1) := by decide +kernel
theorem dX2_rankOf_80 : decode cX2_rankOf 80 = .ok (.ireturn, 1) := by decide +kernel
set_option maxRecDepth 20000 in
theorem ggX2_nearest_X2_isNode : GoodIn wsX2_nearest wsX2_isNode := goodIn_r _ [8, 2, 9, 10, 7, 11, 28, 29, 30, 31, 32, 33, 34, 35, 36, 37, 38] (by decide +kernel) (by decide +kernel)
set_option maxRecDepth 20000 in
theorem gX2_nearest_X2_isNode : GoodIn wsX2_nearest (wsV RX2 36 RX2 yX2_isNode wsX2_isNode) := goodIn_app (goodIn_of _ (by decide +kernel)) ggX2_nearest_X2_isNode
set_option maxRecDepth 20000 in
theorem ggX2_nearest_X2_in : GoodIn wsX2_nearest wsX2_in := goodIn_r _ [11] (by decide +kernel) (by decide +kernel)
set_option maxRecDepth 20000 in
theorem gX2_nearest_X2_in : GoodIn wsX2_nearest (va_wsS RX2 27 yX2_in wsX2_in) := goodIn_app (goodIn_of _ (by decide +kernel)) ggX2_nearest_X2_in
set_option maxRecDepth 20000 in
theorem ggX2_nearest_X2_rankOf : GoodIn wsX2_nearest wsX2_rankOf := goodIn_r _ [15, 2, 16, 17, 18, 7, 19, 20, 21, 22, 23, 24, 25, 26, 27, 28, 29, 30, 31, 32, 33, 34, 35, 36, 37, 38] (by decide +kernel) (by decide +kernel)
set_option maxRecDepth 20000 in
theorem gX2_nearest_X2_rankOf : GoodIn wsX2_nearest (wsV RX2 112 RX2 yX2_rankOf wsX2_rankOf) := goodIn_app (goodIn_of _ (by decide +kernel)) ggX2_nearest_X2_rankOf
theorem dX2_nearest_0 : decode cX2_nearest 0 = .ok (.aload_n 0, 1) := by decide +kernel
theorem dX2_nearest_1 : decode cX2_nearest 1 = .ok (.iload_n 1, 1) := by decide +kernel
theorem dX2_nearest_2 : decode cX2_nearest 2 = .ok (.invokevirtual 36, 3) := by decide +kernel
theorem dX2_nearest_5 : decode cX2_nearest 5 = .ok (.ifCond .ne 6, 3) := by decide +kernel
theorem dX2_nearest_8 : decode cX2_nearest 8 = .ok (.ldc 40, 2) := by decide +kernel
theorem dX2_nearest_10 : decode cX2_nearest 10 = .ok (.ireturn, 1) := by decide +kernel
theorem dX2_nearest_11 : decode cX2_nearest 11 = .ok (.iload_n 2, 1) := by decide +kernel
theorem dX2_nearest_12 : decode cX2_nearest 12 = .ok (.iconst 0, 1) := by decide +kernel
theorem dX2_nearest_13 : decode cX2_nearest 13 = .ok (.aload_n 0, 1) := by decide +kernel
theorem dX2_nearest_14 : decode cX2_nearest 14 = .ok (.getfield 7, 3) := by decide +kernel
theorem dX2_nearest_17 : decode cX2_nearest 17 = .ok (.iconst 0, 1) := by decide +kernel
theorem dX2_nearest_18 : decode cX2_nearest 18 = .ok (.iaload, 1) := by decide +kernel
theorem dX2_nearest_19 : decode cX2_nearest 19 = .ok (.iconst 2, 1) := by decide +kernel
theorem dX2_nearest_20 : decode cX2_nearest 20 = .ok (.isub, 1) := by decide +kernel
theorem dX2_nearest_21 : decode cX2_nearest 21 = .ok (.invokestatic 27, 3) := by decide +kernel
theorem dX2_nearest_24 : decode cX2_nearest 24 = .ok (.ifCond .ne 6, 3) := by decide +kernel
theorem dX2_nearest_27 : decode cX2_nearest 27 = .ok (.ldc 35, 2) := by decide +kernel
theorem dX2_nearest_29 : decode cX2_nearest 29 = .ok (.ireturn, 1) := by decide +kernel
theorem dX2_nearest_30 : decode cX2_nearest 30 = .ok (.iload_n 1, 1) := by decide +kernel
theorem dX2_nearest_31 : decode cX2_nearest 31 = .ok (.istore_n 3, 1) := by decide +kernel
theorem dX2_nearest_32 : decode cX2_nearest 32 = .ok (.iconst 0, 1) := by decide +kernel
theorem dX2_nearest_33 : decode cX2_nearest 33 = .ok (.istore 4, 2) := by decide +kernel
theorem dX2_nearest_35 : decode cX2_nearest 35 = .ok (.iload 4, 2) := by decide +kernel
theorem dX2_nearest_37 : decode cX2_nearest 37 = .ok (.aload_n 0, 1) := by decide +kernel
theorem dX2_nearest_38 : decode cX2_nearest 38 = .ok (.getfield 7, 3) := by decide +kernel
theorem dX2_nearest_41 : decode cX2_nearest 41 = .ok (.iconst 0, 1) := by decide +kernel
theorem dX2_nearest_42 : decode cX2_nearest 42 = .ok (.iaload, 1) := by decide +kernel
theorem dX2_nearest_43 : decode cX2_nearest 43 = .ok (.if_icmp .ge 33, 3) := by decide +kernel
theorem dX2_nearest_46 : decode cX2_nearest 46 = .ok (.iload 4, 2) := by decide +kernel
theorem dX2_nearest_48 : decode cX2_nearest 48 = .ok (.iload_n 1, 1) := by decide +kernel
theorem dX2_nearest_49 : decode cX2_nearest 49 = .ok (.if_icmp .eq 19, 3) := by decide +kernel
theorem dX2_nearest_52 : decode cX2_nearest 52 = .ok (.aload_n 0, 1) := by decide +kernel
theorem dX2_nearest_53 : decode cX2_nearest 53 = .ok (.iload_n 1, 1) := by decide +kernel
theorem dX2_nearest_54 : decode cX2_nearest 54 = .ok (.iload 4, 2) := by decide +kernel
theorem dX2_nearest_56 : decode cX2_nearest 56 = .ok (.invokevirtual 112, 3) := by decide +kernel
theorem dX2_nearest_59 : decode cX2_nearest 59 = .ok (.iload_n 2, 1) := by decide +kernel
theorem dX2_nearest_60 : decode cX2_nearest 60 = .ok (.if_icmp .ne 8, 3) := by decide +kernel
theorem dX2_nearest_63 : decode cX2_nearest 63 = .ok (.iload 4, 2) := by decide +kernel
theorem dX2_nearest_65 : decode cX2_nearest 65 = .ok (.goto 4, 3) := by decide +kernel
theorem dX2_nearest_68 : decode cX2_nearest 68 = .ok (.iload_n 3, 1) := by decide +kernel
theorem dX2_nearest_69 : decode cX2_nearest 69 = .ok (.istore_n 3, 1) := by decide +kernel
theorem dX2_nearest_70 : decode cX2_nearest 70 = .ok (.iinc 4 1, 3) := by decide +kernel
theorem dX2_nearest_73 : decode cX2_nearest 73 = .ok (.goto (-38), 3) := by decide +kernel
theorem dX2_nearest_76 : decode cX2_nearest 76 = .ok (.iload_n 3, 1) := by decide +kernel
theorem dX2_nearest_77 : decode cX2_nearest 77 = .ok (.ireturn, 1) := by decide +kernel
set_option maxRecDepth 20000 in
theorem ggX2_relay_X2_wrongPair : GoodIn wsX2_relay wsX2_wrongPair := goodIn_r _ [7, 8, 9, 10, 11, 12, 6, 13, 2, 14, 15, 16, 29, 30, 31, 32, 33, 34, 35, 36, 37, 38, 39] (by decide +kernel) (by decide +kernel)
set_option maxRecDepth 20000 in
theorem gX2_relay_X2_wrongPair : GoodIn wsX2_relay (wsV RX2 42 RX2 yX2_wrongPair wsX2_wrongPair) := goodIn_app (goodIn_of _ (by decide +kernel)) ggX2_relay_X2_wrongPair
set_option maxRecDepth 20000 in
theorem ggX2_relay_X2_predicted : GoodIn wsX2_relay wsX2_predicted := goodIn_r _ [20, 2, 21, 22, 6, 23, 24, 25, 26, 27, 28, 29, 30, 31, 32, 33, 34, 35, 36, 37, 38, 39] (by decide +kernel) (by decide +kernel)
set_option maxRecDepth 20000 in
theorem gX2_relay_X2_predicted : GoodIn wsX2_relay (wsV RX2 69 RX2 yX2_predicted wsX2_predicted) := goodIn_app (goodIn_of _ (by decide +kernel)) ggX2_relay_X2_predicted
theorem dX2_relay_0 : decode cX2_relay 0 = .ok (.aload_n 0, 1) := by decide +kernel
theorem dX2_relay_1 : decode cX2_relay 1 = .ok (.iload_n 1, 1) := by decide +kernel
theorem dX2_relay_2 : decode cX2_relay 2 = .ok (.iload_n 2, 1) := by decide +kernel
theorem dX2_relay_3 : decode cX2_relay 3 = .ok (.invokevirtual 42, 3) := by decide +kernel
theorem dX2_relay_6 : decode cX2_relay 6 = .ok (.istore_n 3, 1) := by decide +kernel
theorem dX2_relay_7 : decode cX2_relay 7 = .ok (.iload_n 3, 1) := by decide +kernel
theorem dX2_relay_8 : decode cX2_relay 8 = .ok (.ifCond .eq 5, 3) := by decide +kernel
theorem dX2_relay_11 : decode cX2_relay 11 = .ok (.iload_n 3, 1) := by decide +kernel
theorem dX2_relay_12 : decode cX2_relay 12 = .ok (.ireturn, 1) := by decide +kernel
theorem dX2_relay_13 : decode cX2_relay 13 = .ok (.ldc 111, 2) := by decide +kernel
theorem dX2_relay_15 : decode cX2_relay 15 = .ok (.istore 4, 2) := by decide +kernel
theorem dX2_relay_17 : decode cX2_relay 17 = .ok (.iconst 0, 1) := by decide +kernel
theorem dX2_relay_18 : decode cX2_relay 18 = .ok (.istore 5, 2) := by decide +kernel
theorem dX2_relay_20 : decode cX2_relay 20 = .ok (.iconst 0, 1) := by decide +kernel
theorem dX2_relay_21 : decode cX2_relay 21 = .ok (.istore 6, 2) := by decide +kernel
theorem dX2_relay_23 : decode cX2_relay 23 = .ok (.iload 6, 2) := by decide +kernel
theorem dX2_relay_25 : decode cX2_relay 25 = .ok (.aload_n 0, 1) := by decide +kernel
theorem dX2_relay_26 : decode cX2_relay 26 = .ok (.getfield 7, 3) := by decide +kernel
theorem dX2_relay_29 : decode cX2_relay 29 = .ok (.iconst 0, 1) := by decide +kernel
theorem dX2_relay_30 : decode cX2_relay 30 = .ok (.iaload, 1) := by decide +kernel
theorem dX2_relay_31 : decode cX2_relay 31 = .ok (.if_icmp .ge 58, 3) := by decide +kernel
theorem dX2_relay_34 : decode cX2_relay 34 = .ok (.iload 6, 2) := by decide +kernel
theorem dX2_relay_36 : decode cX2_relay 36 = .ok (.iload_n 1, 1) := by decide +kernel
theorem dX2_relay_37 : decode cX2_relay 37 = .ok (.if_icmp .eq 46, 3) := by decide +kernel
theorem dX2_relay_40 : decode cX2_relay 40 = .ok (.iload 6, 2) := by decide +kernel
theorem dX2_relay_42 : decode cX2_relay 42 = .ok (.iload_n 2, 1) := by decide +kernel
theorem dX2_relay_43 : decode cX2_relay 43 = .ok (.if_icmp .eq 40, 3) := by decide +kernel
theorem dX2_relay_46 : decode cX2_relay 46 = .ok (.aload_n 0, 1) := by decide +kernel
theorem dX2_relay_47 : decode cX2_relay 47 = .ok (.iload_n 1, 1) := by decide +kernel
theorem dX2_relay_48 : decode cX2_relay 48 = .ok (.iload 6, 2) := by decide +kernel
theorem dX2_relay_50 : decode cX2_relay 50 = .ok (.invokevirtual 69, 3) := by decide +kernel
theorem dX2_relay_53 : decode cX2_relay 53 = .ok (.aload_n 0, 1) := by decide +kernel
theorem dX2_relay_54 : decode cX2_relay 54 = .ok (.iload 6, 2) := by decide +kernel
theorem dX2_relay_56 : decode cX2_relay 56 = .ok (.iload_n 2, 1) := by decide +kernel
theorem dX2_relay_57 : decode cX2_relay 57 = .ok (.invokevirtual 69, 3) := by decide +kernel
theorem dX2_relay_60 : decode cX2_relay 60 = .ok (.iadd, 1) := by decide +kernel
theorem dX2_relay_61 : decode cX2_relay 61 = .ok (.istore 7, 2) := by decide +kernel
theorem dX2_relay_63 : decode cX2_relay 63 = .ok (.iload 4, 2) := by decide +kernel
theorem dX2_relay_65 : decode cX2_relay 65 = .ok (.ifCond .lt 10, 3) := by decide +kernel
theorem dX2_relay_68 : decode cX2_relay 68 = .ok (.iload 7, 2) := by decide +kernel
theorem dX2_relay_70 : decode cX2_relay 70 = .ok (.iload 5, 2) := by decide +kernel
theorem dX2_relay_72 : decode cX2_relay 72 = .ok (.if_icmp .ge 11, 3) := by decide +kernel
theorem dX2_relay_75 : decode cX2_relay 75 = .ok (.iload 6, 2) := by decide +kernel
theorem dX2_relay_77 : decode cX2_relay 77 = .ok (.istore 4, 2) := by decide +kernel
theorem dX2_relay_79 : decode cX2_relay 79 = .ok (.iload 7, 2) := by decide +kernel
theorem dX2_relay_81 : decode cX2_relay 81 = .ok (.istore 5, 2) := by decide +kernel
theorem dX2_relay_83 : decode cX2_relay 83 = .ok (.iinc 6 1, 3) := by decide +kernel
theorem dX2_relay_86 : decode cX2_relay 86 = .ok (.goto (-63), 3) := by decide +kernel
theorem dX2_relay_89 : decode cX2_relay 89 = .ok (.iload 4, 2) := by decide +kernel
theorem dX2_relay_91 : decode cX2_relay 91 = .ok (.ireturn, 1) := by decide +kernel
set_option maxRecDepth 20000 in
theorem ggX2_isTriangle_X2_cell : GoodIn wsX2_isTriangle wsX2_cell := goodIn_r _ [5] (by decide +kernel) (by decide +kernel)
set_option maxRecDepth 20000 in
theorem gX2_isTriangle_X2_cell : GoodIn wsX2_isTriangle (va_wsS RX2 46 yX2_cell wsX2_cell) := goodIn_app (goodIn_of _ (by decide +kernel)) ggX2_isTriangle_X2_cell
theorem dX2_isTriangle_0 : decode cX2_isTriangle 0 = .ok (.aload_n 0, 1) := by decide +kernel
theorem dX2_isTriangle_1 : decode cX2_isTriangle 1 = .ok (.getfield 7, 3) := by decide +kernel
theorem dX2_isTriangle_4 : decode cX2_isTriangle 4 = .ok (.iload_n 1, 1) := by decide +kernel
theorem dX2_isTriangle_5 : decode cX2_isTriangle 5 = .ok (.iload_n 2, 1) := by decide +kernel
theorem dX2_isTriangle_6 : decode cX2_isTriangle 6 = .ok (.invokestatic 46, 3) := by decide +kernel
theorem dX2_isTriangle_9 : decode cX2_isTriangle 9 = .ok (.iaload, 1) := by decide +kernel
theorem dX2_isTriangle_10 : decode cX2_isTriangle 10 = .ok (.ifCond .le 33, 3) := by decide +kernel
theorem dX2_isTriangle_13 : decode cX2_isTriangle 13 = .ok (.aload_n 0, 1) := by decide +kernel
theorem dX2_isTriangle_14 : decode cX2_isTriangle 14 = .ok (.getfield 7, 3) := by decide +kernel
theorem dX2_isTriangle_17 : decode cX2_isTriangle 17 = .ok (.iload_n 1, 1) := by decide +kernel
theorem dX2_isTriangle_18 : decode cX2_isTriangle 18 = .ok (.iload_n 3, 1) := by decide +kernel
theorem dX2_isTriangle_19 : decode cX2_isTriangle 19 = .ok (.invokestatic 46, 3) := by decide +kernel
theorem dX2_isTriangle_22 : decode cX2_isTriangle 22 = .ok (.iaload, 1) := by decide +kernel
theorem dX2_isTriangle_23 : decode cX2_isTriangle 23 = .ok (.ifCond .le 20, 3) := by decide +kernel
theorem dX2_isTriangle_26 : decode cX2_isTriangle 26 = .ok (.aload_n 0, 1) := by decide +kernel
theorem dX2_isTriangle_27 : decode cX2_isTriangle 27 = .ok (.getfield 7, 3) := by decide +kernel
theorem dX2_isTriangle_30 : decode cX2_isTriangle 30 = .ok (.iload_n 2, 1) := by decide +kernel
theorem dX2_isTriangle_31 : decode cX2_isTriangle 31 = .ok (.iload_n 3, 1) := by decide +kernel
theorem dX2_isTriangle_32 : decode cX2_isTriangle 32 = .ok (.invokestatic 46, 3) := by decide +kernel
theorem dX2_isTriangle_35 : decode cX2_isTriangle 35 = .ok (.iaload, 1) := by decide +kernel
theorem dX2_isTriangle_36 : decode cX2_isTriangle 36 = .ok (.ifCond .le 7, 3) := by decide +kernel
theorem dX2_isTriangle_39 : decode cX2_isTriangle 39 = .ok (.iconst 1, 1) := by decide +kernel
theorem dX2_isTriangle_40 : decode cX2_isTriangle 40 = .ok (.goto 4, 3) := by decide +kernel
theorem dX2_isTriangle_43 : decode cX2_isTriangle 43 = .ok (.iconst 0, 1) := by decide +kernel
theorem dX2_isTriangle_44 : decode cX2_isTriangle 44 = .ok (.ireturn, 1) := by decide +kernel
set_option maxRecDepth 20000 in
theorem ggX2_excess_X2_cell : GoodIn wsX2_excess wsX2_cell := goodIn_r _ [5] (by decide +kernel) (by decide +kernel)
set_option maxRecDepth 20000 in
theorem gX2_excess_X2_cell : GoodIn wsX2_excess (va_wsS RX2 46 yX2_cell wsX2_cell) := goodIn_app (goodIn_of _ (by decide +kernel)) ggX2_excess_X2_cell
theorem dX2_excess_0 : decode cX2_excess 0 = .ok (.aload_n 0, 1) := by decide +kernel
theorem dX2_excess_1 : decode cX2_excess 1 = .ok (.getfield 7, 3) := by decide +kernel
theorem dX2_excess_4 : decode cX2_excess 4 = .ok (.iload_n 1, 1) := by decide +kernel
theorem dX2_excess_5 : decode cX2_excess 5 = .ok (.iload_n 2, 1) := by decide +kernel
theorem dX2_excess_6 : decode cX2_excess 6 = .ok (.invokestatic 46, 3) := by decide +kernel
theorem dX2_excess_9 : decode cX2_excess 9 = .ok (.iaload, 1) := by decide +kernel
theorem dX2_excess_10 : decode cX2_excess 10 = .ok (.istore 4, 2) := by decide +kernel
theorem dX2_excess_12 : decode cX2_excess 12 = .ok (.aload_n 0, 1) := by decide +kernel
theorem dX2_excess_13 : decode cX2_excess 13 = .ok (.getfield 7, 3) := by decide +kernel
theorem dX2_excess_16 : decode cX2_excess 16 = .ok (.iload_n 1, 1) := by decide +kernel
theorem dX2_excess_17 : decode cX2_excess 17 = .ok (.iload_n 3, 1) := by decide +kernel
theorem dX2_excess_18 : decode cX2_excess 18 = .ok (.invokestatic 46, 3) := by decide +kernel
theorem dX2_excess_21 : decode cX2_excess 21 = .ok (.iaload, 1) := by decide +kernel
theorem dX2_excess_22 : decode cX2_excess 22 = .ok (.istore 5, 2) := by decide +kernel
theorem dX2_excess_24 : decode cX2_excess 24 = .ok (.aload_n 0, 1) := by decide +kernel
theorem dX2_excess_25 : decode cX2_excess 25 = .ok (.getfield 7, 3) := by decide +kernel
theorem dX2_excess_28 : decode cX2_excess 28 = .ok (.iload_n 2, 1) := by decide +kernel
theorem dX2_excess_29 : decode cX2_excess 29 = .ok (.iload_n 3, 1) := by decide +kernel
theorem dX2_excess_30 : decode cX2_excess 30 = .ok (.invokestatic 46, 3) := by decide +kernel
theorem dX2_excess_33 : decode cX2_excess 33 = .ok (.iaload, 1) := by decide +kernel
theorem dX2_excess_34 : decode cX2_excess 34 = .ok (.istore 6, 2) := by decide +kernel
theorem dX2_excess_36 : decode cX2_excess 36 = .ok (.iload 4, 2) := by decide +kernel
theorem dX2_excess_38 : decode cX2_excess 38 = .ok (.iload 5, 2) := by decide +kernel
theorem dX2_excess_40 : decode cX2_excess 40 = .ok (.if_icmp .le 8, 3) := by decide +kernel
theorem dX2_excess_43 : decode cX2_excess 43 = .ok (.iload 4, 2) := by decide +kernel
theorem dX2_excess_45 : decode cX2_excess 45 = .ok (.goto 5, 3) := by decide +kernel
theorem dX2_excess_48 : decode cX2_excess 48 = .ok (.iload 5, 2) := by decide +kernel
theorem dX2_excess_50 : decode cX2_excess 50 = .ok (.istore 7, 2) := by decide +kernel
theorem dX2_excess_52 : decode cX2_excess 52 = .ok (.iload 6, 2) := by decide +kernel
theorem dX2_excess_54 : decode cX2_excess 54 = .ok (.iload 7, 2) := by decide +kernel
theorem dX2_excess_56 : decode cX2_excess 56 = .ok (.if_icmp .le 8, 3) := by decide +kernel
theorem dX2_excess_59 : decode cX2_excess 59 = .ok (.iload 6, 2) := by decide +kernel
theorem dX2_excess_61 : decode cX2_excess 61 = .ok (.goto 5, 3) := by decide +kernel
theorem dX2_excess_64 : decode cX2_excess 64 = .ok (.iload 7, 2) := by decide +kernel
theorem dX2_excess_66 : decode cX2_excess 66 = .ok (.istore 7, 2) := by decide +kernel
theorem dX2_excess_68 : decode cX2_excess 68 = .ok (.iconst 2, 1) := by decide +kernel
theorem dX2_excess_69 : decode cX2_excess 69 = .ok (.iload 7, 2) := by decide +kernel
theorem dX2_excess_71 : decode cX2_excess 71 = .ok (.imul, 1) := by decide +kernel
theorem dX2_excess_72 : decode cX2_excess 72 = .ok (.iload 4, 2) := by decide +kernel
theorem dX2_excess_74 : decode cX2_excess 74 = .ok (.isub, 1) := by decide +kernel
theorem dX2_excess_75 : decode cX2_excess 75 = .ok (.iload 5, 2) := by decide +kernel
theorem dX2_excess_77 : decode cX2_excess 77 = .ok (.isub, 1) := by decide +kernel
theorem dX2_excess_78 : decode cX2_excess 78 = .ok (.iload 6, 2) := by decide +kernel
theorem dX2_excess_80 : decode cX2_excess 80 = .ok (.isub, 1) := by decide +kernel
theorem dX2_excess_81 : decode cX2_excess 81 = .ok (.ireturn, 1) := by decide +kernel
set_option maxRecDepth 20000 in
theorem ggX2_countTriangle_X2_isTriangle : GoodIn wsX2_countTriangle wsX2_isTriangle := goodIn_r _ [9, 10, 11, 12, 8, 13, 18, 19, 20, 21, 22, 23, 24, 25, 26, 27, 28] (by decide +kernel) (by decide +kernel)
set_option maxRecDepth 20000 in
theorem gX2_countTriangle_X2_isTriangle : GoodIn wsX2_countTriangle (wsV RX2 115 RX2 yX2_isTriangle wsX2_isTriangle) := goodIn_app (goodIn_of _ (by decide +kernel)) ggX2_countTriangle_X2_isTriangle
set_option maxRecDepth 20000 in
theorem ggX2_countTriangle_X2_excess : GoodIn wsX2_countTriangle wsX2_excess := goodIn_r _ [17, 10, 11, 12, 8, 13, 18, 19, 20, 21, 22, 23, 24, 25, 26, 27, 28] (by decide +kernel) (by decide +kernel)
set_option maxRecDepth 20000 in
theorem gX2_countTriangle_X2_excess : GoodIn wsX2_countTriangle (wsV RX2 121 RX2 yX2_excess wsX2_excess) := goodIn_app (goodIn_of _ (by decide +kernel)) ggX2_countTriangle_X2_excess
theorem dX2_countTriangle_0 : decode cX2_countTriangle 0 = .ok (.aload_n 0, 1) := by decide +kernel
theorem dX2_countTriangle_1 : decode cX2_countTriangle 1 = .ok (.iload_n 1, 1) := by decide +kernel
theorem dX2_countTriangle_2 : decode cX2_countTriangle 2 = .ok (.iload_n 2, 1) := by decide +kernel
theorem dX2_countTriangle_3 : decode cX2_countTriangle 3 = .ok (.iload_n 3, 1) := by decide +kernel
theorem dX2_countTriangle_4 : decode cX2_countTriangle 4 = .ok (.invokevirtual 115, 3) := by decide +kernel
theorem dX2_countTriangle_7 : decode cX2_countTriangle 7 = .ok (.ifCond .ne 4, 3) := by decide +kernel
theorem dX2_countTriangle_10 : decode cX2_countTriangle 10 = .ok (.return_, 1) := by decide +kernel
theorem dX2_countTriangle_11 : decode cX2_countTriangle 11 = .ok (.aload_n 0, 1) := by decide +kernel
theorem dX2_countTriangle_12 : decode cX2_countTriangle 12 = .ok (.dup, 1) := by decide +kernel
theorem dX2_countTriangle_13 : decode cX2_countTriangle 13 = .ok (.getfield 118, 3) := by decide +kernel
theorem dX2_countTriangle_16 : decode cX2_countTriangle 16 = .ok (.iconst 1, 1) := by decide +kernel
theorem dX2_countTriangle_17 : decode cX2_countTriangle 17 = .ok (.iadd, 1) := by decide +kernel
theorem dX2_countTriangle_18 : decode cX2_countTriangle 18 = .ok (.putfield 118, 3) := by decide +kernel
theorem dX2_countTriangle_21 : decode cX2_countTriangle 21 = .ok (.aload_n 0, 1) := by decide +kernel
theorem dX2_countTriangle_22 : decode cX2_countTriangle 22 = .ok (.iload_n 1, 1) := by decide +kernel
theorem dX2_countTriangle_23 : decode cX2_countTriangle 23 = .ok (.iload_n 2, 1) := by decide +kernel
theorem dX2_countTriangle_24 : decode cX2_countTriangle 24 = .ok (.iload_n 3, 1) := by decide +kernel
theorem dX2_countTriangle_25 : decode cX2_countTriangle 25 = .ok (.invokevirtual 121, 3) := by decide +kernel
theorem dX2_countTriangle_28 : decode cX2_countTriangle 28 = .ok (.istore 4, 2) := by decide +kernel
theorem dX2_countTriangle_30 : decode cX2_countTriangle 30 = .ok (.iload 4, 2) := by decide +kernel
theorem dX2_countTriangle_32 : decode cX2_countTriangle 32 = .ok (.ifCond .le 65, 3) := by decide +kernel
theorem dX2_countTriangle_35 : decode cX2_countTriangle 35 = .ok (.aload_n 0, 1) := by decide +kernel
theorem dX2_countTriangle_36 : decode cX2_countTriangle 36 = .ok (.dup, 1) := by decide +kernel
theorem dX2_countTriangle_37 : decode cX2_countTriangle 37 = .ok (.getfield 125, 3) := by decide +kernel
theorem dX2_countTriangle_40 : decode cX2_countTriangle 40 = .ok (.iconst 1, 1) := by decide +kernel
theorem dX2_countTriangle_41 : decode cX2_countTriangle 41 = .ok (.iadd, 1) := by decide +kernel
theorem dX2_countTriangle_42 : decode cX2_countTriangle 42 = .ok (.putfield 125, 3) := by decide +kernel
theorem dX2_countTriangle_45 : decode cX2_countTriangle 45 = .ok (.aload_n 0, 1) := by decide +kernel
theorem dX2_countTriangle_46 : decode cX2_countTriangle 46 = .ok (.iload 4, 2) := by decide +kernel
theorem dX2_countTriangle_48 : decode cX2_countTriangle 48 = .ok (.aload_n 0, 1) := by decide +kernel
theorem dX2_countTriangle_49 : decode cX2_countTriangle 49 = .ok (.getfield 128, 3) := by decide +kernel
theorem dX2_countTriangle_52 : decode cX2_countTriangle 52 = .ok (.if_icmp .le 8, 3) := by decide +kernel
theorem dX2_countTriangle_55 : decode cX2_countTriangle 55 = .ok (.iload 4, 2) := by decide +kernel
theorem dX2_countTriangle_57 : decode cX2_countTriangle 57 = .ok (.goto 7, 3) := by decide +kernel
theorem dX2_countTriangle_60 : decode cX2_countTriangle 60 = .ok (.aload_n 0, 1) := by decide +kernel
theorem dX2_countTriangle_61 : decode cX2_countTriangle 61 = .ok (.getfield 128, 3) := by decide +kernel
theorem dX2_countTriangle_64 : decode cX2_countTriangle 64 = .ok (.putfield 128, 3) := by decide +kernel
theorem dX2_countTriangle_67 : decode cX2_countTriangle 67 = .ok (.aload_n 0, 1) := by decide +kernel
theorem dX2_countTriangle_68 : decode cX2_countTriangle 68 = .ok (.getfield 20, 3) := by decide +kernel
theorem dX2_countTriangle_71 : decode cX2_countTriangle 71 = .ok (.iload_n 1, 1) := by decide +kernel
theorem dX2_countTriangle_72 : decode cX2_countTriangle 72 = .ok (.dup2, 1) := by decide +kernel
theorem dX2_countTriangle_73 : decode cX2_countTriangle 73 = .ok (.iaload, 1) := by decide +kernel
theorem dX2_countTriangle_74 : decode cX2_countTriangle 74 = .ok (.iconst 1, 1) := by decide +kernel
theorem dX2_countTriangle_75 : decode cX2_countTriangle 75 = .ok (.iadd, 1) := by decide +kernel
theorem dX2_countTriangle_76 : decode cX2_countTriangle 76 = .ok (.iastore, 1) := by decide +kernel
theorem dX2_countTriangle_77 : decode cX2_countTriangle 77 = .ok (.aload_n 0, 1) := by decide +kernel
theorem dX2_countTriangle_78 : decode cX2_countTriangle 78 = .ok (.getfield 20, 3) := by decide +kernel
theorem dX2_countTriangle_81 : decode cX2_countTriangle 81 = .ok (.iload_n 2, 1) := by decide +kernel
theorem dX2_countTriangle_82 : decode cX2_countTriangle 82 = .ok (.dup2, 1) := by decide +kernel
theorem dX2_countTriangle_83 : decode cX2_countTriangle 83 = .ok (.iaload, 1) := by decide +kernel
theorem dX2_countTriangle_84 : decode cX2_countTriangle 84 = .ok (.iconst 1, 1) := by decide +kernel
theorem dX2_countTriangle_85 : decode cX2_countTriangle 85 = .ok (.iadd, 1) := by decide +kernel
theorem dX2_countTriangle_86 : decode cX2_countTriangle 86 = .ok (.iastore, 1) := by decide +kernel
theorem dX2_countTriangle_87 : decode cX2_countTriangle 87 = .ok (.aload_n 0, 1) := by decide +kernel
theorem dX2_countTriangle_88 : decode cX2_countTriangle 88 = .ok (.getfield 20, 3) := by decide +kernel
theorem dX2_countTriangle_91 : decode cX2_countTriangle 91 = .ok (.iload_n 3, 1) := by decide +kernel
theorem dX2_countTriangle_92 : decode cX2_countTriangle 92 = .ok (.dup2, 1) := by decide +kernel
theorem dX2_countTriangle_93 : decode cX2_countTriangle 93 = .ok (.iaload, 1) := by decide +kernel
theorem dX2_countTriangle_94 : decode cX2_countTriangle 94 = .ok (.iconst 1, 1) := by decide +kernel
theorem dX2_countTriangle_95 : decode cX2_countTriangle 95 = .ok (.iadd, 1) := by decide +kernel
theorem dX2_countTriangle_96 : decode cX2_countTriangle 96 = .ok (.iastore, 1) := by decide +kernel
theorem dX2_countTriangle_97 : decode cX2_countTriangle 97 = .ok (.return_, 1) := by decide +kernel
set_option maxRecDepth 20000 in
theorem ggX2_countAll_X2_countTriangle : GoodIn wsX2_countAll wsX2_countTriangle := goodIn_r _ [11, 1, 2, 4, 5, 12, 13, 14, 10, 15, 6, 16, 17, 18, 19, 20, 21, 22, 23, 24, 25, 26, 27, 28, 29, 30, 31, 32, 33] (by decide +kernel) (by decide +kernel)
set_option maxRecDepth 20000 in
theorem gX2_countAll_X2_countTriangle : GoodIn wsX2_countAll (wsV RX2 131 RX2 yX2_countTriangle wsX2_countTriangle) := goodIn_app (goodIn_of _ (by decide +kernel)) ggX2_countAll_X2_countTriangle
theorem dX2_countAll_0 : decode cX2_countAll 0 = .ok (.aload_n 0, 1) := by decide +kernel
theorem dX2_countAll_1 : decode cX2_countAll 1 = .ok (.iconst 0, 1) := by decide +kernel
theorem dX2_countAll_2 : decode cX2_countAll 2 = .ok (.putfield 118, 3) := by decide +kernel
theorem dX2_countAll_5 : decode cX2_countAll 5 = .ok (.aload_n 0, 1) := by decide +kernel
theorem dX2_countAll_6 : decode cX2_countAll 6 = .ok (.iconst 0, 1) := by decide +kernel
theorem dX2_countAll_7 : decode cX2_countAll 7 = .ok (.putfield 125, 3) := by decide +kernel
theorem dX2_countAll_10 : decode cX2_countAll 10 = .ok (.aload_n 0, 1) := by decide +kernel
theorem dX2_countAll_11 : decode cX2_countAll 11 = .ok (.ldc 111, 2) := by decide +kernel
theorem dX2_countAll_13 : decode cX2_countAll 13 = .ok (.putfield 128, 3) := by decide +kernel
theorem dX2_countAll_16 : decode cX2_countAll 16 = .ok (.iconst 0, 1) := by decide +kernel
theorem dX2_countAll_17 : decode cX2_countAll 17 = .ok (.istore_n 1, 1) := by decide +kernel
theorem dX2_countAll_18 : decode cX2_countAll 18 = .ok (.iload_n 1, 1) := by decide +kernel
theorem dX2_countAll_19 : decode cX2_countAll 19 = .ok (.bipush 10, 2) := by decide +kernel
theorem dX2_countAll_21 : decode cX2_countAll 21 = .ok (.if_icmp .ge 16, 3) := by decide +kernel
theorem dX2_countAll_24 : decode cX2_countAll 24 = .ok (.aload_n 0, 1) := by decide +kernel
theorem dX2_countAll_25 : decode cX2_countAll 25 = .ok (.getfield 20, 3) := by decide +kernel
theorem dX2_countAll_28 : decode cX2_countAll 28 = .ok (.iload_n 1, 1) := by decide +kernel
theorem dX2_countAll_29 : decode cX2_countAll 29 = .ok (.iconst 0, 1) := by decide +kernel
theorem dX2_countAll_30 : decode cX2_countAll 30 = .ok (.iastore, 1) := by decide +kernel
theorem dX2_countAll_31 : decode cX2_countAll 31 = .ok (.iinc 1 1, 3) := by decide +kernel
theorem dX2_countAll_34 : decode cX2_countAll 34 = .ok (.goto (-16), 3) := by decide +kernel
theorem dX2_countAll_37 : decode cX2_countAll 37 = .ok (.iconst 0, 1) := by decide +kernel
theorem dX2_countAll_38 : decode cX2_countAll 38 = .ok (.istore_n 1, 1) := by decide +kernel
theorem dX2_countAll_39 : decode cX2_countAll 39 = .ok (.iload_n 1, 1) := by decide +kernel
theorem dX2_countAll_40 : decode cX2_countAll 40 = .ok (.aload_n 0, 1) := by decide +kernel
theorem dX2_countAll_41 : decode cX2_countAll 41 = .ok (.getfield 7, 3) := by decide +kernel
theorem dX2_countAll_44 : decode cX2_countAll 44 = .ok (.iconst 0, 1) := by decide +kernel
theorem dX2_countAll_45 : decode cX2_countAll 45 = .ok (.iaload, 1) := by decide +kernel
theorem dX2_countAll_46 : decode cX2_countAll 46 = .ok (.if_icmp .ge 56, 3) := by decide +kernel
theorem dX2_countAll_49 : decode cX2_countAll 49 = .ok (.iload_n 1, 1) := by decide +kernel
theorem dX2_countAll_50 : decode cX2_countAll 50 = .ok (.iconst 1, 1) := by decide +kernel
theorem dX2_countAll_51 : decode cX2_countAll 51 = .ok (.iadd, 1) := by decide +kernel
theorem dX2_countAll_52 : decode cX2_countAll 52 = .ok (.istore_n 2, 1) := by decide +kernel
theorem dX2_countAll_53 : decode cX2_countAll 53 = .ok (.iload_n 2, 1) := by decide +kernel
theorem dX2_countAll_54 : decode cX2_countAll 54 = .ok (.aload_n 0, 1) := by decide +kernel
theorem dX2_countAll_55 : decode cX2_countAll 55 = .ok (.getfield 7, 3) := by decide +kernel
theorem dX2_countAll_58 : decode cX2_countAll 58 = .ok (.iconst 0, 1) := by decide +kernel
theorem dX2_countAll_59 : decode cX2_countAll 59 = .ok (.iaload, 1) := by decide +kernel
theorem dX2_countAll_60 : decode cX2_countAll 60 = .ok (.if_icmp .ge 36, 3) := by decide +kernel
theorem dX2_countAll_63 : decode cX2_countAll 63 = .ok (.iload_n 2, 1) := by decide +kernel
theorem dX2_countAll_64 : decode cX2_countAll 64 = .ok (.iconst 1, 1) := by decide +kernel
theorem dX2_countAll_65 : decode cX2_countAll 65 = .ok (.iadd, 1) := by decide +kernel
theorem dX2_countAll_66 : decode cX2_countAll 66 = .ok (.istore_n 3, 1) := by decide +kernel
theorem dX2_countAll_67 : decode cX2_countAll 67 = .ok (.iload_n 3, 1) := by decide +kernel
theorem dX2_countAll_68 : decode cX2_countAll 68 = .ok (.aload_n 0, 1) := by decide +kernel
theorem dX2_countAll_69 : decode cX2_countAll 69 = .ok (.getfield 7, 3) := by decide +kernel
theorem dX2_countAll_72 : decode cX2_countAll 72 = .ok (.iconst 0, 1) := by decide +kernel
theorem dX2_countAll_73 : decode cX2_countAll 73 = .ok (.iaload, 1) := by decide +kernel
theorem dX2_countAll_74 : decode cX2_countAll 74 = .ok (.if_icmp .ge 16, 3) := by decide +kernel
theorem dX2_countAll_77 : decode cX2_countAll 77 = .ok (.aload_n 0, 1) := by decide +kernel
theorem dX2_countAll_78 : decode cX2_countAll 78 = .ok (.iload_n 1, 1) := by decide +kernel
theorem dX2_countAll_79 : decode cX2_countAll 79 = .ok (.iload_n 2, 1) := by decide +kernel
theorem dX2_countAll_80 : decode cX2_countAll 80 = .ok (.iload_n 3, 1) := by decide +kernel
theorem dX2_countAll_81 : decode cX2_countAll 81 = .ok (.invokevirtual 131, 3) := by decide +kernel
theorem dX2_countAll_84 : decode cX2_countAll 84 = .ok (.iinc 3 1, 3) := by decide +kernel
theorem dX2_countAll_87 : decode cX2_countAll 87 = .ok (.goto (-20), 3) := by decide +kernel
theorem dX2_countAll_90 : decode cX2_countAll 90 = .ok (.iinc 2 1, 3) := by decide +kernel
theorem dX2_countAll_93 : decode cX2_countAll 93 = .ok (.goto (-40), 3) := by decide +kernel
theorem dX2_countAll_96 : decode cX2_countAll 96 = .ok (.iinc 1 1, 3) := by decide +kernel
theorem dX2_countAll_99 : decode cX2_countAll 99 = .ok (.goto (-60), 3) := by decide +kernel
theorem dX2_countAll_102 : decode cX2_countAll 102 = .ok (.return_, 1) := by decide +kernel
set_option maxRecDepth 20000 in
theorem ggX2_triangles_X2_countAll : GoodIn wsX2_triangles wsX2_countAll := goodIn_r _ [6, 1, 7, 8, 9, 10, 11, 12, 13, 14, 5, 15, 16, 17, 18, 19, 20, 21, 22, 23, 24, 25, 26, 27, 28, 29, 30, 31, 32, 33, 34, 35, 36, 37] (by decide +kernel) (by decide +kernel)
set_option maxRecDepth 20000 in
theorem gX2_triangles_X2_countAll : GoodIn wsX2_triangles (wsV RX2 135 RX2 yX2_countAll wsX2_countAll) := goodIn_app (goodIn_of _ (by decide +kernel)) ggX2_triangles_X2_countAll
theorem dX2_triangles_0 : decode cX2_triangles 0 = .ok (.aload_n 0, 1) := by decide +kernel
theorem dX2_triangles_1 : decode cX2_triangles 1 = .ok (.invokevirtual 135, 3) := by decide +kernel
theorem dX2_triangles_4 : decode cX2_triangles 4 = .ok (.aload_n 0, 1) := by decide +kernel
theorem dX2_triangles_5 : decode cX2_triangles 5 = .ok (.getfield 118, 3) := by decide +kernel
theorem dX2_triangles_8 : decode cX2_triangles 8 = .ok (.ireturn, 1) := by decide +kernel
set_option maxRecDepth 20000 in
theorem ggX2_violations_X2_countAll : GoodIn wsX2_violations wsX2_countAll := goodIn_r _ [6, 7, 1, 8, 9, 10, 11, 12, 13, 14, 5, 15, 16, 17, 18, 19, 20, 21, 22, 23, 24, 25, 26, 27, 28, 29, 30, 31, 32, 33, 34, 35, 36, 37] (by decide +kernel) (by decide +kernel)
set_option maxRecDepth 20000 in
theorem gX2_violations_X2_countAll : GoodIn wsX2_violations (wsV RX2 135 RX2 yX2_countAll wsX2_countAll) := goodIn_app (goodIn_of _ (by decide +kernel)) ggX2_violations_X2_countAll
theorem dX2_violations_0 : decode cX2_violations 0 = .ok (.aload_n 0, 1) := by decide +kernel
theorem dX2_violations_1 : decode cX2_violations 1 = .ok (.invokevirtual 135, 3) := by decide +kernel
theorem dX2_violations_4 : decode cX2_violations 4 = .ok (.aload_n 0, 1) := by decide +kernel
theorem dX2_violations_5 : decode cX2_violations 5 = .ok (.getfield 125, 3) := by decide +kernel
theorem dX2_violations_8 : decode cX2_violations 8 = .ok (.ireturn, 1) := by decide +kernel
set_option maxRecDepth 20000 in
theorem ggX2_worstExcess_X2_countAll : GoodIn wsX2_worstExcess wsX2_countAll := goodIn_r _ [6, 7, 8, 9, 1, 10, 11, 12, 13, 14, 5, 15, 16, 17, 18, 19, 20, 21, 22, 23, 24, 25, 26, 27, 28, 29, 30, 31, 32, 33, 34, 35, 36, 37] (by decide +kernel) (by decide +kernel)
set_option maxRecDepth 20000 in
theorem gX2_worstExcess_X2_countAll : GoodIn wsX2_worstExcess (wsV RX2 135 RX2 yX2_countAll wsX2_countAll) := goodIn_app (goodIn_of _ (by decide +kernel)) ggX2_worstExcess_X2_countAll
theorem dX2_worstExcess_0 : decode cX2_worstExcess 0 = .ok (.aload_n 0, 1) := by decide +kernel
theorem dX2_worstExcess_1 : decode cX2_worstExcess 1 = .ok (.invokevirtual 135, 3) := by decide +kernel
theorem dX2_worstExcess_4 : decode cX2_worstExcess 4 = .ok (.aload_n 0, 1) := by decide +kernel
theorem dX2_worstExcess_5 : decode cX2_worstExcess 5 = .ok (.getfield 128, 3) := by decide +kernel
theorem dX2_worstExcess_8 : decode cX2_worstExcess 8 = .ok (.ireturn, 1) := by decide +kernel
set_option maxRecDepth 20000 in
theorem ggX2_suspect_X2_countAll : GoodIn wsX2_suspect wsX2_countAll := goodIn_r _ [9, 10, 3, 4, 11, 2, 1, 12, 13, 14, 8, 15, 16, 17, 18, 19, 20, 21, 22, 23, 24, 25, 26, 27, 28, 29, 30, 31, 32, 33, 34, 35, 36, 37] (by decide +kernel) (by decide +kernel)
set_option maxRecDepth 20000 in
theorem gX2_suspect_X2_countAll : GoodIn wsX2_suspect (wsV RX2 135 RX2 yX2_countAll wsX2_countAll) := goodIn_app (goodIn_of _ (by decide +kernel)) ggX2_suspect_X2_countAll
theorem dX2_suspect_0 : decode cX2_suspect 0 = .ok (.aload_n 0, 1) := by decide +kernel
theorem dX2_suspect_1 : decode cX2_suspect 1 = .ok (.invokevirtual 135, 3) := by decide +kernel
theorem dX2_suspect_4 : decode cX2_suspect 4 = .ok (.iconst 0, 1) := by decide +kernel
theorem dX2_suspect_5 : decode cX2_suspect 5 = .ok (.istore_n 1, 1) := by decide +kernel
theorem dX2_suspect_6 : decode cX2_suspect 6 = .ok (.iconst 1, 1) := by decide +kernel
theorem dX2_suspect_7 : decode cX2_suspect 7 = .ok (.istore_n 2, 1) := by decide +kernel
theorem dX2_suspect_8 : decode cX2_suspect 8 = .ok (.iload_n 2, 1) := by decide +kernel
theorem dX2_suspect_9 : decode cX2_suspect 9 = .ok (.aload_n 0, 1) := by decide +kernel
theorem dX2_suspect_10 : decode cX2_suspect 10 = .ok (.getfield 7, 3) := by decide +kernel
theorem dX2_suspect_13 : decode cX2_suspect 13 = .ok (.iconst 0, 1) := by decide +kernel
theorem dX2_suspect_14 : decode cX2_suspect 14 = .ok (.iaload, 1) := by decide +kernel
theorem dX2_suspect_15 : decode cX2_suspect 15 = .ok (.if_icmp .ge 30, 3) := by decide +kernel
theorem dX2_suspect_18 : decode cX2_suspect 18 = .ok (.aload_n 0, 1) := by decide +kernel
theorem dX2_suspect_19 : decode cX2_suspect 19 = .ok (.getfield 20, 3) := by decide +kernel
theorem dX2_suspect_22 : decode cX2_suspect 22 = .ok (.iload_n 2, 1) := by decide +kernel
theorem dX2_suspect_23 : decode cX2_suspect 23 = .ok (.iaload, 1) := by decide +kernel
theorem dX2_suspect_24 : decode cX2_suspect 24 = .ok (.aload_n 0, 1) := by decide +kernel
theorem dX2_suspect_25 : decode cX2_suspect 25 = .ok (.getfield 20, 3) := by decide +kernel
theorem dX2_suspect_28 : decode cX2_suspect 28 = .ok (.iload_n 1, 1) := by decide +kernel
theorem dX2_suspect_29 : decode cX2_suspect 29 = .ok (.iaload, 1) := by decide +kernel
theorem dX2_suspect_30 : decode cX2_suspect 30 = .ok (.if_icmp .le 7, 3) := by decide +kernel
theorem dX2_suspect_33 : decode cX2_suspect 33 = .ok (.iload_n 2, 1) := by decide +kernel
theorem dX2_suspect_34 : decode cX2_suspect 34 = .ok (.goto 4, 3) := by decide +kernel
theorem dX2_suspect_37 : decode cX2_suspect 37 = .ok (.iload_n 1, 1) := by decide +kernel
theorem dX2_suspect_38 : decode cX2_suspect 38 = .ok (.istore_n 1, 1) := by decide +kernel
theorem dX2_suspect_39 : decode cX2_suspect 39 = .ok (.iinc 2 1, 3) := by decide +kernel
theorem dX2_suspect_42 : decode cX2_suspect 42 = .ok (.goto (-34), 3) := by decide +kernel
theorem dX2_suspect_45 : decode cX2_suspect 45 = .ok (.aload_n 0, 1) := by decide +kernel
theorem dX2_suspect_46 : decode cX2_suspect 46 = .ok (.getfield 125, 3) := by decide +kernel
theorem dX2_suspect_49 : decode cX2_suspect 49 = .ok (.ifCond .ne 8, 3) := by decide +kernel
theorem dX2_suspect_52 : decode cX2_suspect 52 = .ok (.ldc 111, 2) := by decide +kernel
theorem dX2_suspect_54 : decode cX2_suspect 54 = .ok (.goto 4, 3) := by decide +kernel
theorem dX2_suspect_57 : decode cX2_suspect 57 = .ok (.iload_n 1, 1) := by decide +kernel
theorem dX2_suspect_58 : decode cX2_suspect 58 = .ok (.ireturn, 1) := by decide +kernel
set_option maxRecDepth 20000 in
theorem ggX2_move_X2_wrongKnown : GoodIn wsX2_move wsX2_wrongKnown := goodIn_r _ [8, 2, 9, 10, 11, 12, 7, 13, 14, 15, 16, 17, 18, 19, 20, 21, 22, 23, 24, 25, 57, 58, 59, 60, 61, 62, 63, 64, 65, 66, 67] (by decide +kernel) (by decide +kernel)
set_option maxRecDepth 20000 in
theorem gX2_move_X2_wrongKnown : GoodIn wsX2_move (wsV RX2 53 RX2 yX2_wrongKnown wsX2_wrongKnown) := goodIn_app (goodIn_of _ (by decide +kernel)) ggX2_move_X2_wrongKnown
set_option maxRecDepth 20000 in
theorem ggX2_move_X2_workOut : GoodIn wsX2_move wsX2_workOut := goodIn_r _ [29, 2, 30, 31, 32, 33, 1, 3, 34, 35, 36, 37, 7, 38, 23, 24, 25, 39, 40, 41, 42, 43, 44, 45, 46, 47, 48, 49, 50, 51, 52, 53, 54, 55, 56, 57, 58, 59, 60, 61, 62, 63, 64, 65, 66, 67] (by decide +kernel) (by decide +kernel)
set_option maxRecDepth 20000 in
theorem gX2_move_X2_workOut : GoodIn wsX2_move (wsV RX2 97 RX2 yX2_workOut wsX2_workOut) := goodIn_app (goodIn_of _ (by decide +kernel)) ggX2_move_X2_workOut
set_option maxRecDepth 20000 in
theorem ggX2_move_X2_planar : GoodIn wsX2_move wsX2_planar := goodIn_r _ [45, 46, 47, 7, 48, 49, 50] (by decide +kernel) (by decide +kernel)
set_option maxRecDepth 20000 in
theorem gX2_move_X2_planar : GoodIn wsX2_move (va_wsS RX2 65 yX2_planar wsX2_planar) := goodIn_app (goodIn_of _ (by decide +kernel)) ggX2_move_X2_planar
theorem dX2_move_0 : decode cX2_move 0 = .ok (.aload_n 0, 1) := by decide +kernel
theorem dX2_move_1 : decode cX2_move 1 = .ok (.iload_n 1, 1) := by decide +kernel
theorem dX2_move_2 : decode cX2_move 2 = .ok (.iload_n 2, 1) := by decide +kernel
theorem dX2_move_3 : decode cX2_move 3 = .ok (.invokevirtual 53, 3) := by decide +kernel
theorem dX2_move_6 : decode cX2_move 6 = .ok (.istore_n 3, 1) := by decide +kernel
theorem dX2_move_7 : decode cX2_move 7 = .ok (.iload_n 3, 1) := by decide +kernel
theorem dX2_move_8 : decode cX2_move 8 = .ok (.ifCond .eq 5, 3) := by decide +kernel
theorem dX2_move_11 : decode cX2_move 11 = .ok (.iload_n 3, 1) := by decide +kernel
theorem dX2_move_12 : decode cX2_move 12 = .ok (.ireturn, 1) := by decide +kernel
theorem dX2_move_13 : decode cX2_move 13 = .ok (.aload_n 0, 1) := by decide +kernel
theorem dX2_move_14 : decode cX2_move 14 = .ok (.iload_n 1, 1) := by decide +kernel
theorem dX2_move_15 : decode cX2_move 15 = .ok (.iload_n 2, 1) := by decide +kernel
theorem dX2_move_16 : decode cX2_move 16 = .ok (.invokevirtual 97, 3) := by decide +kernel
theorem dX2_move_19 : decode cX2_move 19 = .ok (.aload_n 0, 1) := by decide +kernel
theorem dX2_move_20 : decode cX2_move 20 = .ok (.getfield 88, 3) := by decide +kernel
theorem dX2_move_23 : decode cX2_move 23 = .ok (.aload_n 0, 1) := by decide +kernel
theorem dX2_move_24 : decode cX2_move 24 = .ok (.getfield 7, 3) := by decide +kernel
theorem dX2_move_27 : decode cX2_move 27 = .ok (.iconst 5, 1) := by decide +kernel
theorem dX2_move_28 : decode cX2_move 28 = .ok (.iload_n 1, 1) := by decide +kernel
theorem dX2_move_29 : decode cX2_move 29 = .ok (.iadd, 1) := by decide +kernel
theorem dX2_move_30 : decode cX2_move 30 = .ok (.iaload, 1) := by decide +kernel
theorem dX2_move_31 : decode cX2_move 31 = .ok (.isub, 1) := by decide +kernel
theorem dX2_move_32 : decode cX2_move 32 = .ok (.i2l, 1) := by decide +kernel
theorem dX2_move_33 : decode cX2_move 33 = .ok (.aload_n 0, 1) := by decide +kernel
theorem dX2_move_34 : decode cX2_move 34 = .ok (.getfield 91, 3) := by decide +kernel
theorem dX2_move_37 : decode cX2_move 37 = .ok (.aload_n 0, 1) := by decide +kernel
theorem dX2_move_38 : decode cX2_move 38 = .ok (.getfield 7, 3) := by decide +kernel
theorem dX2_move_41 : decode cX2_move 41 = .ok (.bipush 15, 2) := by decide +kernel
theorem dX2_move_43 : decode cX2_move 43 = .ok (.iload_n 1, 1) := by decide +kernel
theorem dX2_move_44 : decode cX2_move 44 = .ok (.iadd, 1) := by decide +kernel
theorem dX2_move_45 : decode cX2_move 45 = .ok (.iaload, 1) := by decide +kernel
theorem dX2_move_46 : decode cX2_move 46 = .ok (.isub, 1) := by decide +kernel
theorem dX2_move_47 : decode cX2_move 47 = .ok (.i2l, 1) := by decide +kernel
theorem dX2_move_48 : decode cX2_move 48 = .ok (.invokestatic 65, 3) := by decide +kernel
theorem dX2_move_51 : decode cX2_move 51 = .ok (.ireturn, 1) := by decide +kernel
set_option maxRecDepth 20000 in
theorem ggX2_save_X2_in : GoodIn wsX2_save wsX2_in := goodIn_r _ [8] (by decide +kernel) (by decide +kernel)
set_option maxRecDepth 20000 in
theorem gX2_save_X2_in : GoodIn wsX2_save (va_wsS RX2 27 yX2_in wsX2_in) := goodIn_app (goodIn_of _ (by decide +kernel)) ggX2_save_X2_in
theorem dX2_save_0 : decode cX2_save 0 = .ok (.iload_n 1, 1) := by decide +kernel
theorem dX2_save_1 : decode cX2_save 1 = .ok (.iconst 0, 1) := by decide +kernel
theorem dX2_save_2 : decode cX2_save 2 = .ok (.iconst 1, 1) := by decide +kernel
theorem dX2_save_3 : decode cX2_save 3 = .ok (.invokestatic 27, 3) := by decide +kernel
theorem dX2_save_6 : decode cX2_save 6 = .ok (.ifCond .ne 6, 3) := by decide +kernel
theorem dX2_save_9 : decode cX2_save 9 = .ok (.ldc 35, 2) := by decide +kernel
theorem dX2_save_11 : decode cX2_save 11 = .ok (.ireturn, 1) := by decide +kernel
theorem dX2_save_12 : decode cX2_save 12 = .ok (.iconst 0, 1) := by decide +kernel
theorem dX2_save_13 : decode cX2_save 13 = .ok (.istore_n 2, 1) := by decide +kernel
theorem dX2_save_14 : decode cX2_save 14 = .ok (.iload_n 2, 1) := by decide +kernel
theorem dX2_save_15 : decode cX2_save 15 = .ok (.sipush 155, 3) := by decide +kernel
theorem dX2_save_18 : decode cX2_save 18 = .ok (.if_icmp .ge 27, 3) := by decide +kernel
theorem dX2_save_21 : decode cX2_save 21 = .ok (.aload_n 0, 1) := by decide +kernel
theorem dX2_save_22 : decode cX2_save 22 = .ok (.getfield 13, 3) := by decide +kernel
theorem dX2_save_25 : decode cX2_save 25 = .ok (.sipush 155, 3) := by decide +kernel
theorem dX2_save_28 : decode cX2_save 28 = .ok (.iload_n 1, 1) := by decide +kernel
theorem dX2_save_29 : decode cX2_save 29 = .ok (.imul, 1) := by decide +kernel
theorem dX2_save_30 : decode cX2_save 30 = .ok (.iload_n 2, 1) := by decide +kernel
theorem dX2_save_31 : decode cX2_save 31 = .ok (.iadd, 1) := by decide +kernel
theorem dX2_save_32 : decode cX2_save 32 = .ok (.aload_n 0, 1) := by decide +kernel
theorem dX2_save_33 : decode cX2_save 33 = .ok (.getfield 7, 3) := by decide +kernel
theorem dX2_save_36 : decode cX2_save 36 = .ok (.iload_n 2, 1) := by decide +kernel
theorem dX2_save_37 : decode cX2_save 37 = .ok (.iaload, 1) := by decide +kernel
theorem dX2_save_38 : decode cX2_save 38 = .ok (.iastore, 1) := by decide +kernel
theorem dX2_save_39 : decode cX2_save 39 = .ok (.iinc 2 1, 3) := by decide +kernel
theorem dX2_save_42 : decode cX2_save 42 = .ok (.goto (-28), 3) := by decide +kernel
theorem dX2_save_45 : decode cX2_save 45 = .ok (.aload_n 0, 1) := by decide +kernel
theorem dX2_save_46 : decode cX2_save 46 = .ok (.getfield 16, 3) := by decide +kernel
theorem dX2_save_49 : decode cX2_save 49 = .ok (.iload_n 1, 1) := by decide +kernel
theorem dX2_save_50 : decode cX2_save 50 = .ok (.iconst 1, 1) := by decide +kernel
theorem dX2_save_51 : decode cX2_save 51 = .ok (.bastore, 1) := by decide +kernel
theorem dX2_save_52 : decode cX2_save 52 = .ok (.iconst 1, 1) := by decide +kernel
theorem dX2_save_53 : decode cX2_save 53 = .ok (.ireturn, 1) := by decide +kernel
set_option maxRecDepth 20000 in
theorem ggX2_restore_X2_in : GoodIn wsX2_restore wsX2_in := goodIn_r _ [9] (by decide +kernel) (by decide +kernel)
set_option maxRecDepth 20000 in
theorem gX2_restore_X2_in : GoodIn wsX2_restore (va_wsS RX2 27 yX2_in wsX2_in) := goodIn_app (goodIn_of _ (by decide +kernel)) ggX2_restore_X2_in
theorem dX2_restore_0 : decode cX2_restore 0 = .ok (.iload_n 1, 1) := by decide +kernel
theorem dX2_restore_1 : decode cX2_restore 1 = .ok (.iconst 0, 1) := by decide +kernel
theorem dX2_restore_2 : decode cX2_restore 2 = .ok (.iconst 1, 1) := by decide +kernel
theorem dX2_restore_3 : decode cX2_restore 3 = .ok (.invokestatic 27, 3) := by decide +kernel
theorem dX2_restore_6 : decode cX2_restore 6 = .ok (.ifCond .ne 6, 3) := by decide +kernel
theorem dX2_restore_9 : decode cX2_restore 9 = .ok (.ldc 35, 2) := by decide +kernel
theorem dX2_restore_11 : decode cX2_restore 11 = .ok (.ireturn, 1) := by decide +kernel
theorem dX2_restore_12 : decode cX2_restore 12 = .ok (.aload_n 0, 1) := by decide +kernel
theorem dX2_restore_13 : decode cX2_restore 13 = .ok (.getfield 16, 3) := by decide +kernel
theorem dX2_restore_16 : decode cX2_restore 16 = .ok (.iload_n 1, 1) := by decide +kernel
theorem dX2_restore_17 : decode cX2_restore 17 = .ok (.baload, 1) := by decide +kernel
theorem dX2_restore_18 : decode cX2_restore 18 = .ok (.ifCond .ne 6, 3) := by decide +kernel
theorem dX2_restore_21 : decode cX2_restore 21 = .ok (.ldc 138, 2) := by decide +kernel
theorem dX2_restore_23 : decode cX2_restore 23 = .ok (.ireturn, 1) := by decide +kernel
theorem dX2_restore_24 : decode cX2_restore 24 = .ok (.iconst 0, 1) := by decide +kernel
theorem dX2_restore_25 : decode cX2_restore 25 = .ok (.istore_n 2, 1) := by decide +kernel
theorem dX2_restore_26 : decode cX2_restore 26 = .ok (.iload_n 2, 1) := by decide +kernel
theorem dX2_restore_27 : decode cX2_restore 27 = .ok (.sipush 155, 3) := by decide +kernel
theorem dX2_restore_30 : decode cX2_restore 30 = .ok (.if_icmp .ge 27, 3) := by decide +kernel
theorem dX2_restore_33 : decode cX2_restore 33 = .ok (.aload_n 0, 1) := by decide +kernel
theorem dX2_restore_34 : decode cX2_restore 34 = .ok (.getfield 7, 3) := by decide +kernel
theorem dX2_restore_37 : decode cX2_restore 37 = .ok (.iload_n 2, 1) := by decide +kernel
theorem dX2_restore_38 : decode cX2_restore 38 = .ok (.aload_n 0, 1) := by decide +kernel
theorem dX2_restore_39 : decode cX2_restore 39 = .ok (.getfield 13, 3) := by decide +kernel
theorem dX2_restore_42 : decode cX2_restore 42 = .ok (.sipush 155, 3) := by decide +kernel
theorem dX2_restore_45 : decode cX2_restore 45 = .ok (.iload_n 1, 1) := by decide +kernel
theorem dX2_restore_46 : decode cX2_restore 46 = .ok (.imul, 1) := by decide +kernel
theorem dX2_restore_47 : decode cX2_restore 47 = .ok (.iload_n 2, 1) := by decide +kernel
theorem dX2_restore_48 : decode cX2_restore 48 = .ok (.iadd, 1) := by decide +kernel
theorem dX2_restore_49 : decode cX2_restore 49 = .ok (.iaload, 1) := by decide +kernel
theorem dX2_restore_50 : decode cX2_restore 50 = .ok (.iastore, 1) := by decide +kernel
theorem dX2_restore_51 : decode cX2_restore 51 = .ok (.iinc 2 1, 3) := by decide +kernel
theorem dX2_restore_54 : decode cX2_restore 54 = .ok (.goto (-28), 3) := by decide +kernel
theorem dX2_restore_57 : decode cX2_restore 57 = .ok (.iconst 1, 1) := by decide +kernel
theorem dX2_restore_58 : decode cX2_restore 58 = .ok (.ireturn, 1) := by decide +kernel
end
section
/-! OWN ROWS: ints and longs by the integers behind them -/
def zI (z : Int) : Int32 := Int32.ofInt z
def zL (z : Int) : Int64 := Int64.ofInt z
theorem zI_add (a b : Int) : zI a + zI b = zI (a + b) := (Int32.ofInt_add a b).symm
theorem zI_sub (a b : Int) : zI a - zI b = zI (a - b) := (Int32.ofInt_sub a b).symm
theorem zI_mul (a b : Int) : zI a * zI b = zI (a * b) := (Int32.ofInt_mul a b).symm
theorem zI_neg (a : Int) : -zI a = zI (-a) := (Int32.ofInt_neg a).symm
theorem zL_add (a b : Int) : zL a + zL b = zL (a + b) := (Int64.ofInt_add a b).symm
theorem zL_sub (a b : Int) : zL a - zL b = zL (a - b) := (Int64.ofInt_sub a b).symm
theorem zL_mul (a b : Int) : zL a * zL b = zL (a * b) := (Int64.ofInt_mul a b).symm
theorem zL_neg (a : Int) : -zL a = zL (-a) := (Int64.ofInt_neg a).symm
theorem zI_toInt {a : Int} (h : -2147483648 ≤ a ∧ a ≤ 2147483647) : (zI a).toInt = a := Int32.toInt_ofInt_of_le (by omega) (by omega)
theorem zL_toInt {a : Int} (h : -9223372036854775808 ≤ a ∧ a ≤ 9223372036854775807) : (zL a).toInt = a := Int64.toInt_ofInt_of_le (by omega) (by omega)
theorem zI_of (x : Int32) : x = zI x.toInt := (Int32.ofInt_toInt x).symm
theorem zI_rng (x : Int32) : -2147483648 ≤ x.toInt ∧ x.toInt ≤ 2147483647 := by
  have h1 := Int32.le_toInt x
  have h2 := Int32.toInt_lt x
  omega
theorem zI_nat (k : Nat) : zI (k : Int) = nI k := Int32.ofInt_eq_ofNat
theorem zI_lt {a b : Int} (ha : -2147483648 ≤ a ∧ a ≤ 2147483647) (hb : -2147483648 ≤ b ∧ b ≤ 2147483647) : zI a < zI b ↔ a < b := by
  rw [Int32.lt_iff_toInt_lt, zI_toInt ha, zI_toInt hb]
theorem zI_le {a b : Int} (ha : -2147483648 ≤ a ∧ a ≤ 2147483647) (hb : -2147483648 ≤ b ∧ b ≤ 2147483647) : zI a ≤ zI b ↔ a ≤ b := by
  rw [Int32.le_iff_toInt_le, zI_toInt ha, zI_toInt hb]
theorem zI_eq {a b : Int} (ha : -2147483648 ≤ a ∧ a ≤ 2147483647) (hb : -2147483648 ≤ b ∧ b ≤ 2147483647) : zI a = zI b ↔ a = b := by
  rw [← Int32.toInt_inj, zI_toInt ha, zI_toInt hb]
theorem zL_lt {a b : Int} (ha : -9223372036854775808 ≤ a ∧ a ≤ 9223372036854775807) (hb : -9223372036854775808 ≤ b ∧ b ≤ 9223372036854775807) : zL a < zL b ↔ a < b := by
  rw [Int64.lt_iff_toInt_lt, zL_toInt ha, zL_toInt hb]
theorem zL_le {a b : Int} (ha : -9223372036854775808 ≤ a ∧ a ≤ 9223372036854775807) (hb : -9223372036854775808 ≤ b ∧ b ≤ 9223372036854775807) : zL a ≤ zL b ↔ a ≤ b := by
  rw [Int64.le_iff_toInt_le, zL_toInt ha, zL_toInt hb]
theorem zL_eq {a b : Int} (ha : -9223372036854775808 ≤ a ∧ a ≤ 9223372036854775807) (hb : -9223372036854775808 ≤ b ∧ b ≤ 9223372036854775807) : zL a = zL b ↔ a = b := by
  rw [← Int64.toInt_inj, zL_toInt ha, zL_toInt hb]
theorem z_min32 : Int32.minValue.toInt = -2147483648 := by decide
theorem z_max32 : Int32.maxValue.toInt = 2147483647 := by decide
theorem z_min64 : Int64.minValue.toInt = -9223372036854775808 := by decide
theorem z_max64 : Int64.maxValue.toInt = 9223372036854775807 := by decide
theorem zI_div {a b : Int} (ha : -2147483648 ≤ a ∧ a ≤ 2147483647) (hb : 1 ≤ b ∧ b ≤ 2147483647) : zI a / zI b = zI (a.tdiv b) :=
  (Int32.ofInt_tdiv (by rw [z_min32]; omega) (by rw [z_max32]; omega) (by rw [z_min32]; omega) (by rw [z_max32]; omega)).symm
theorem zL_div {a b : Int} (ha : -9223372036854775808 ≤ a ∧ a ≤ 9223372036854775807) (hb : 1 ≤ b ∧ b ≤ 9223372036854775807) : zL a / zL b = zL (a.tdiv b) :=
  (Int64.ofInt_tdiv (by rw [z_min64]; omega) (by rw [z_max64]; omega) (by rw [z_min64]; omega) (by rw [z_max64]; omega)).symm
theorem zI_rem {a b : Int} (ha : 0 ≤ a ∧ a ≤ 2147483647) (hb : 1 ≤ b ∧ b ≤ 2147483647) : zI a - zI a / zI b * zI b = zI (a % b) := by
  rw [zI_div (by omega) hb, zI_mul, zI_sub, Int.tdiv_eq_ediv_of_nonneg ha.1, Int.emod_def, Int.mul_comm]
theorem zI_long {a : Int} (h : -2147483648 ≤ a ∧ a ≤ 2147483647) : (zI a).toInt64 = zL a := Int32.toInt64_ofInt (by rw [z_min32]; omega) (by rw [z_max32]; omega)
theorem zL_int (a : Int) : (zL a).toInt32 = zI a := Int64.toInt32_ofInt
theorem zI_ne0 {b : Int} (hb : 1 ≤ b ∧ b ≤ 2147483647) : ¬ zI b = 0 := by
  intro h
  have := (zI_eq (a := b) (b := 0) (by omega) (by omega)).mp h
  omega
theorem zL_ne0 {b : Int} (hb : 1 ≤ b ∧ b ≤ 9223372036854775807) : ¬ zL b = 0 := by
  intro h
  have := (zL_eq (a := b) (b := 0) (by omega) (by omega)).mp h
  omega
theorem zI_clamp {z : Int} {k : Nat} (hz : z = (k : Int)) (hk : k < 2147483648) : (zI z).toNatClampNeg = k := by
  subst hz
  rw [zI_nat]
  exact nI_clamp hk
theorem zI_in {z : Int} {k n : Nat} (hz : z = (k : Int)) (hk : k < n) (hn : n < 2147483648) : vp_in (zI z) n := by
  rw [vp_in_iff, zI_toInt (by omega)]
  omega
def zset (f : Nat → Int) (i : Nat) (z : Int) : Nat → Int := fun k => if k = i then z else f k
theorem zset_upd (f : Nat → Int) (i : Nat) (z : Int) : upd (fun k => zI (f k)) i (zI z) = fun k => zI (zset f i z k) := by
  funext k
  unfold upd zset
  by_cases h : k = i <;> simp [h]
theorem z_0r : -2147483648 ≤ (0 : Int) ∧ (0 : Int) ≤ 2147483647 := by omega
section ZR
variable {p : Program} {l : Launch} {e : Env} {R : Room} {s : State} {m : MethodId} {args : Array Value} {below : List Frame} {meth : Method} {c : Code} {H : Heap} {locs : List Loc} {cells slots : Nat} {Q : State → Prop}
variable {cc : ByteArray} {pc : Nat} {ls : Array Slot} {rest : List Value}
theorem zr_iconst (hx : p.tables.exec = Jvm.exec) (hb : c.code = cc) {n : Int} (hdg : decode cc pc = .ok (.iconst n, 1))
    (k : W p l e R s m args below meth c H locs cells slots Q (F0 m (pc + 1) ls (.int (zI n) :: rest))) : W p l e R s m args below meth c H locs cells slots Q (F0 m pc ls rest) := lv_iconst hx hb hdg rfl k
theorem zr_bipush (hx : p.tables.exec = Jvm.exec) (hb : c.code = cc) {n : Int} (hdg : decode cc pc = .ok (.bipush n, 2)) (hv : (Int8.ofInt n).toInt32 = zI n)
    (k : W p l e R s m args below meth c H locs cells slots Q (F0 m (pc + 2) ls (.int (zI n) :: rest))) : W p l e R s m args below meth c H locs cells slots Q (F0 m pc ls rest) := lv_bipush hx hb hdg hv k
theorem zr_sipush (hx : p.tables.exec = Jvm.exec) (hb : c.code = cc) {n : Int} (hdg : decode cc pc = .ok (.sipush n, 3)) (hv : (Int16.ofInt n).toInt32 = zI n)
    (k : W p l e R s m args below meth c H locs cells slots Q (F0 m (pc + 3) ls (.int (zI n) :: rest))) : W p l e R s m args below meth c H locs cells slots Q (F0 m pc ls rest) := lv_sipush hx hb hdg hv k
theorem zr_ldc (hx : p.tables.exec = Jvm.exec) (hb : c.code = cc) {own : String} {index : Nat} {v : Int32} (n : Int) (hown : s.vm.findClass own = some m.cls) (hconst : (Jvm.Cond.constant own index v).before args s = true) (hv : v = zI n) (hdg : decode cc pc = .ok (.ldc index, 2))
    (k : W p l e R s m args below meth c H locs cells slots Q (F0 m (pc + 2) ls (.int (zI n) :: rest))) : W p l e R s m args below meth c H locs cells slots Q (F0 m pc ls rest) := by
  subst hv
  exact lv_ldc hx hb hown hconst hdg k
theorem zr_ldc2 (hx : p.tables.exec = Jvm.exec) (hb : c.code = cc) {own : String} {index : Nat} {v : Int64} (n : Int) (hown : s.vm.findClass own = some m.cls) (hconst : (Jvm.Cond.constantLong own index v).before args s = true) (hv : v = zL n) (hdg : decode cc pc = .ok (.ldc2_w index, 3))
    (k : W p l e R s m args below meth c H locs cells slots Q (F0 m (pc + 3) ls (.long (zL n) :: rest))) : W p l e R s m args below meth c H locs cells slots Q (F0 m pc ls rest) := by
  subst hv
  exact lv_ldc2 hx hb hown hconst hdg k
theorem zr_lconst (hx : p.tables.exec = Jvm.exec) (hb : c.code = cc) {n : Fin 2} (z : Int) (hz : Int64.ofNat (n : Nat) = zL z) (hdg : decode cc pc = .ok (.lconst n, 1))
    (k : W p l e R s m args below meth c H locs cells slots Q (F0 m (pc + 1) ls (.long (zL z) :: rest))) : W p l e R s m args below meth c H locs cells slots Q (F0 m pc ls rest) := lv_lconst hx hb hdg hz k
theorem zr_iadd (hx : p.tables.exec = Jvm.exec) (hb : c.code = cc) {a b : Int} (hdg : decode cc pc = .ok (.iadd, 1))
    (k : W p l e R s m args below meth c H locs cells slots Q (F0 m (pc + 1) ls (.int (zI (a + b)) :: rest))) : W p l e R s m args below meth c H locs cells slots Q (F0 m pc ls (.int (zI b) :: .int (zI a) :: rest)) := lv_iadd hx hb hdg (by rw [zI_add]; exact k)
theorem zr_isub (hx : p.tables.exec = Jvm.exec) (hb : c.code = cc) {a b : Int} (hdg : decode cc pc = .ok (.isub, 1))
    (k : W p l e R s m args below meth c H locs cells slots Q (F0 m (pc + 1) ls (.int (zI (a - b)) :: rest))) : W p l e R s m args below meth c H locs cells slots Q (F0 m pc ls (.int (zI b) :: .int (zI a) :: rest)) := lv_isub hx hb hdg (by rw [zI_sub]; exact k)
theorem zr_imul (hx : p.tables.exec = Jvm.exec) (hb : c.code = cc) {a b : Int} (hdg : decode cc pc = .ok (.imul, 1))
    (k : W p l e R s m args below meth c H locs cells slots Q (F0 m (pc + 1) ls (.int (zI (a * b)) :: rest))) : W p l e R s m args below meth c H locs cells slots Q (F0 m pc ls (.int (zI b) :: .int (zI a) :: rest)) := lv_imul hx hb hdg (by rw [zI_mul]; exact k)
theorem zr_ineg (hx : p.tables.exec = Jvm.exec) (hb : c.code = cc) {a : Int} (hdg : decode cc pc = .ok (.ineg, 1))
    (k : W p l e R s m args below meth c H locs cells slots Q (F0 m (pc + 1) ls (.int (zI (-a)) :: rest))) : W p l e R s m args below meth c H locs cells slots Q (F0 m pc ls (.int (zI a) :: rest)) := lv_ineg hx hb hdg (by rw [zI_neg]; exact k)
theorem zr_idiv (hx : p.tables.exec = Jvm.exec) (hb : c.code = cc) {a b : Int} (ha : -2147483648 ≤ a ∧ a ≤ 2147483647) (hb2 : 1 ≤ b ∧ b ≤ 2147483647) (hdg : decode cc pc = .ok (.idiv, 1))
    (k : W p l e R s m args below meth c H locs cells slots Q (F0 m (pc + 1) ls (.int (zI (a.tdiv b)) :: rest))) : W p l e R s m args below meth c H locs cells slots Q (F0 m pc ls (.int (zI b) :: .int (zI a) :: rest)) := lv_idiv hx hb hdg (zI_ne0 hb2) (by rw [zI_div ha hb2]; exact k)
theorem zr_irem (hx : p.tables.exec = Jvm.exec) (hb : c.code = cc) {a b : Int} (ha : 0 ≤ a ∧ a ≤ 2147483647) (hb2 : 1 ≤ b ∧ b ≤ 2147483647) (hdg : decode cc pc = .ok (.irem, 1))
    (k : W p l e R s m args below meth c H locs cells slots Q (F0 m (pc + 1) ls (.int (zI (a % b)) :: rest))) : W p l e R s m args below meth c H locs cells slots Q (F0 m pc ls (.int (zI b) :: .int (zI a) :: rest)) := lv_irem hx hb hdg (zI_ne0 hb2) (by rw [zI_rem ha hb2]; exact k)
theorem zr_ladd (hx : p.tables.exec = Jvm.exec) (hb : c.code = cc) {a b : Int} (hdg : decode cc pc = .ok (.ladd, 1))
    (k : W p l e R s m args below meth c H locs cells slots Q (F0 m (pc + 1) ls (.long (zL (a + b)) :: rest))) : W p l e R s m args below meth c H locs cells slots Q (F0 m pc ls (.long (zL b) :: .long (zL a) :: rest)) := lv_ladd hx hb hdg (by rw [zL_add]; exact k)
theorem zr_lsub (hx : p.tables.exec = Jvm.exec) (hb : c.code = cc) {a b : Int} (hdg : decode cc pc = .ok (.lsub, 1))
    (k : W p l e R s m args below meth c H locs cells slots Q (F0 m (pc + 1) ls (.long (zL (a - b)) :: rest))) : W p l e R s m args below meth c H locs cells slots Q (F0 m pc ls (.long (zL b) :: .long (zL a) :: rest)) := lv_lsub hx hb hdg (by rw [zL_sub]; exact k)
theorem zr_lmul (hx : p.tables.exec = Jvm.exec) (hb : c.code = cc) {a b : Int} (hdg : decode cc pc = .ok (.lmul, 1))
    (k : W p l e R s m args below meth c H locs cells slots Q (F0 m (pc + 1) ls (.long (zL (a * b)) :: rest))) : W p l e R s m args below meth c H locs cells slots Q (F0 m pc ls (.long (zL b) :: .long (zL a) :: rest)) := lv_lmul hx hb hdg (by rw [zL_mul]; exact k)
theorem zr_lneg (hx : p.tables.exec = Jvm.exec) (hb : c.code = cc) {a : Int} (hdg : decode cc pc = .ok (.lneg, 1))
    (k : W p l e R s m args below meth c H locs cells slots Q (F0 m (pc + 1) ls (.long (zL (-a)) :: rest))) : W p l e R s m args below meth c H locs cells slots Q (F0 m pc ls (.long (zL a) :: rest)) := lv_lneg hx hb hdg (by rw [zL_neg]; exact k)
theorem zr_ldiv (hx : p.tables.exec = Jvm.exec) (hb : c.code = cc) {a b : Int} (ha : -9223372036854775808 ≤ a ∧ a ≤ 9223372036854775807) (hb2 : 1 ≤ b ∧ b ≤ 9223372036854775807) (hdg : decode cc pc = .ok (.ldiv, 1))
    (k : W p l e R s m args below meth c H locs cells slots Q (F0 m (pc + 1) ls (.long (zL (a.tdiv b)) :: rest))) : W p l e R s m args below meth c H locs cells slots Q (F0 m pc ls (.long (zL b) :: .long (zL a) :: rest)) := lv_ldiv hx hb hdg (zL_ne0 hb2) (by rw [zL_div ha hb2]; exact k)
theorem zr_i2l (hx : p.tables.exec = Jvm.exec) (hb : c.code = cc) {a : Int} (ha : -2147483648 ≤ a ∧ a ≤ 2147483647) (hdg : decode cc pc = .ok (.i2l, 1))
    (k : W p l e R s m args below meth c H locs cells slots Q (F0 m (pc + 1) ls (.long (zL a) :: rest))) : W p l e R s m args below meth c H locs cells slots Q (F0 m pc ls (.int (zI a) :: rest)) := lv_i2l hx hb hdg (zI_long ha) k
theorem zr_l2i (hx : p.tables.exec = Jvm.exec) (hb : c.code = cc) {a : Int} (hdg : decode cc pc = .ok (.l2i, 1))
    (k : W p l e R s m args below meth c H locs cells slots Q (F0 m (pc + 1) ls (.int (zI a) :: rest))) : W p l e R s m args below meth c H locs cells slots Q (F0 m pc ls (.long (zL a) :: rest)) := lv_l2i hx hb hdg (zL_int a) k
/-- a written value, under another name for the integer behind it -/
theorem zr_topI {a : Int} (b : Int) (h : a = b) (k : W p l e R s m args below meth c H locs cells slots Q (F0 m pc ls (.int (zI b) :: rest))) : W p l e R s m args below meth c H locs cells slots Q (F0 m pc ls (.int (zI a) :: rest)) := h ▸ k
theorem zr_topL {a : Int} (b : Int) (h : a = b) (k : W p l e R s m args below meth c H locs cells slots Q (F0 m pc ls (.long (zL b) :: rest))) : W p l e R s m args below meth c H locs cells slots Q (F0 m pc ls (.long (zL a) :: rest)) := h ▸ k
theorem zr_iinc (hx : p.tables.exec = Jvm.exec) (hb : c.code = cc) {i nL k : Nat} {n a b : Int} {lv lv' : List (Nat × Value)} (hdg : decode cc pc = .ok (.iinc i n, 3)) (h : lv_has ls nL lv) (hk : lv[k]? = some (i, .int (zI a))) (hv : a + n = b) (hn : i < nL) (hl : (i, Value.int (zI b)) :: lv.filter (fun q => !(q.1 == i) && !(q.1 + 1 == i && q.2.category == 2)) = lv')
    (kk : ∀ ls' : Array Slot, lv_has ls' nL lv' → W p l e R s m args below meth c H locs cells slots Q (F0 m (pc + 3) ls' rest)) : W p l e R s m args below meth c H locs cells slots Q (F0 m pc ls rest) :=
  lv_iinc hx hb hdg h hk (by show zI a + zI n = zI b; rw [zI_add, hv]) hn hl kk
theorem zr_icmp_lt (hx : p.tables.exec = Jvm.exec) (hb : c.code = cc) {a b : Int} {off : Int} {tgt : Nat} (hdg : decode cc pc = .ok (.if_icmp .lt off, 3)) (ht : (pc : Int) + off = (tgt : Int)) (ha : -2147483648 ≤ a ∧ a ≤ 2147483647) (hb2 : -2147483648 ≤ b ∧ b ≤ 2147483647)
    (kt : a < b → W p l e R s m args below meth c H locs cells slots Q (F0 m tgt ls rest)) (kf : b ≤ a → W p l e R s m args below meth c H locs cells slots Q (F0 m (pc + 3) ls rest)) : W p l e R s m args below meth c H locs cells slots Q (F0 m pc ls (.int (zI b) :: .int (zI a) :: rest)) :=
  lv_icmp_lt hx hb hdg ht (fun h => kt ((zI_lt ha hb2).mp h)) (fun h => kf (by have q := mt (zI_lt ha hb2).mpr h; omega))
theorem zr_if_lt (hx : p.tables.exec = Jvm.exec) (hb : c.code = cc) {a : Int} {off : Int} {tgt : Nat} (hdg : decode cc pc = .ok (.ifCond .lt off, 3)) (ht : (pc : Int) + off = (tgt : Int)) (ha : -2147483648 ≤ a ∧ a ≤ 2147483647)
    (kt : a < 0 → W p l e R s m args below meth c H locs cells slots Q (F0 m tgt ls rest)) (kf : 0 ≤ a → W p l e R s m args below meth c H locs cells slots Q (F0 m (pc + 3) ls rest)) : W p l e R s m args below meth c H locs cells slots Q (F0 m pc ls (.int (zI a) :: rest)) :=
  lv_if_lt hx hb hdg ht (fun h => kt ((zI_lt ha z_0r).mp h)) (fun h => kf (by have q := mt (zI_lt ha z_0r).mpr h; omega))
theorem zr_lcmp_lt (hx : p.tables.exec = Jvm.exec) (hb : c.code = cc) {a b : Int} {off : Int} {tgt : Nat} (hd1 : decode cc pc = .ok (.lcmp, 1)) (hdg : decode cc (pc + 1) = .ok (.ifCond .lt off, 3)) (ht : ((pc + 1 : Nat) : Int) + off = (tgt : Int)) (ha : -9223372036854775808 ≤ a ∧ a ≤ 9223372036854775807) (hb2 : -9223372036854775808 ≤ b ∧ b ≤ 9223372036854775807)
    (kt : a < b → W p l e R s m args below meth c H locs cells slots Q (F0 m tgt ls rest)) (kf : b ≤ a → W p l e R s m args below meth c H locs cells slots Q (F0 m (pc + 1 + 3) ls rest)) : W p l e R s m args below meth c H locs cells slots Q (F0 m pc ls (.long (zL b) :: .long (zL a) :: rest)) :=
  W.lcmp hx hb hd1 (lv_if_lt hx hb hdg ht (fun h => kt ((zL_lt ha hb2).mp ((lg_cmp_lt _ _).mp h))) (fun h => kf (by have q := mt (fun z => (lg_cmp_lt _ _).mpr ((zL_lt ha hb2).mpr z)) h; omega)))
theorem zr_icmp_ge (hx : p.tables.exec = Jvm.exec) (hb : c.code = cc) {a b : Int} {off : Int} {tgt : Nat} (hdg : decode cc pc = .ok (.if_icmp .ge off, 3)) (ht : (pc : Int) + off = (tgt : Int)) (ha : -2147483648 ≤ a ∧ a ≤ 2147483647) (hb2 : -2147483648 ≤ b ∧ b ≤ 2147483647)
    (kt : b ≤ a → W p l e R s m args below meth c H locs cells slots Q (F0 m tgt ls rest)) (kf : a < b → W p l e R s m args below meth c H locs cells slots Q (F0 m (pc + 3) ls rest)) : W p l e R s m args below meth c H locs cells slots Q (F0 m pc ls (.int (zI b) :: .int (zI a) :: rest)) :=
  lv_icmp_ge hx hb hdg ht (fun h => kt ((zI_le hb2 ha).mp h)) (fun h => kf (by have q := mt (zI_le hb2 ha).mpr h; omega))
theorem zr_if_ge (hx : p.tables.exec = Jvm.exec) (hb : c.code = cc) {a : Int} {off : Int} {tgt : Nat} (hdg : decode cc pc = .ok (.ifCond .ge off, 3)) (ht : (pc : Int) + off = (tgt : Int)) (ha : -2147483648 ≤ a ∧ a ≤ 2147483647)
    (kt : 0 ≤ a → W p l e R s m args below meth c H locs cells slots Q (F0 m tgt ls rest)) (kf : a < 0 → W p l e R s m args below meth c H locs cells slots Q (F0 m (pc + 3) ls rest)) : W p l e R s m args below meth c H locs cells slots Q (F0 m pc ls (.int (zI a) :: rest)) :=
  lv_if_ge hx hb hdg ht (fun h => kt ((zI_le z_0r ha).mp h)) (fun h => kf (by have q := mt (zI_le z_0r ha).mpr h; omega))
theorem zr_lcmp_ge (hx : p.tables.exec = Jvm.exec) (hb : c.code = cc) {a b : Int} {off : Int} {tgt : Nat} (hd1 : decode cc pc = .ok (.lcmp, 1)) (hdg : decode cc (pc + 1) = .ok (.ifCond .ge off, 3)) (ht : ((pc + 1 : Nat) : Int) + off = (tgt : Int)) (ha : -9223372036854775808 ≤ a ∧ a ≤ 9223372036854775807) (hb2 : -9223372036854775808 ≤ b ∧ b ≤ 9223372036854775807)
    (kt : b ≤ a → W p l e R s m args below meth c H locs cells slots Q (F0 m tgt ls rest)) (kf : a < b → W p l e R s m args below meth c H locs cells slots Q (F0 m (pc + 1 + 3) ls rest)) : W p l e R s m args below meth c H locs cells slots Q (F0 m pc ls (.long (zL b) :: .long (zL a) :: rest)) :=
  W.lcmp hx hb hd1 (lv_if_ge hx hb hdg ht (fun h => kt ((zL_le hb2 ha).mp ((lg_cmp_ge _ _).mp h))) (fun h => kf (by have q := mt (fun z => (lg_cmp_ge _ _).mpr ((zL_le hb2 ha).mpr z)) h; omega)))
theorem zr_icmp_gt (hx : p.tables.exec = Jvm.exec) (hb : c.code = cc) {a b : Int} {off : Int} {tgt : Nat} (hdg : decode cc pc = .ok (.if_icmp .gt off, 3)) (ht : (pc : Int) + off = (tgt : Int)) (ha : -2147483648 ≤ a ∧ a ≤ 2147483647) (hb2 : -2147483648 ≤ b ∧ b ≤ 2147483647)
    (kt : b < a → W p l e R s m args below meth c H locs cells slots Q (F0 m tgt ls rest)) (kf : a ≤ b → W p l e R s m args below meth c H locs cells slots Q (F0 m (pc + 3) ls rest)) : W p l e R s m args below meth c H locs cells slots Q (F0 m pc ls (.int (zI b) :: .int (zI a) :: rest)) :=
  lv_icmp_gt hx hb hdg ht (fun h => kt ((zI_lt hb2 ha).mp h)) (fun h => kf (by have q := mt (zI_lt hb2 ha).mpr h; omega))
theorem zr_if_gt (hx : p.tables.exec = Jvm.exec) (hb : c.code = cc) {a : Int} {off : Int} {tgt : Nat} (hdg : decode cc pc = .ok (.ifCond .gt off, 3)) (ht : (pc : Int) + off = (tgt : Int)) (ha : -2147483648 ≤ a ∧ a ≤ 2147483647)
    (kt : 0 < a → W p l e R s m args below meth c H locs cells slots Q (F0 m tgt ls rest)) (kf : a ≤ 0 → W p l e R s m args below meth c H locs cells slots Q (F0 m (pc + 3) ls rest)) : W p l e R s m args below meth c H locs cells slots Q (F0 m pc ls (.int (zI a) :: rest)) :=
  lv_if_gt hx hb hdg ht (fun h => kt ((zI_lt z_0r ha).mp h)) (fun h => kf (by have q := mt (zI_lt z_0r ha).mpr h; omega))
theorem zr_lcmp_gt (hx : p.tables.exec = Jvm.exec) (hb : c.code = cc) {a b : Int} {off : Int} {tgt : Nat} (hd1 : decode cc pc = .ok (.lcmp, 1)) (hdg : decode cc (pc + 1) = .ok (.ifCond .gt off, 3)) (ht : ((pc + 1 : Nat) : Int) + off = (tgt : Int)) (ha : -9223372036854775808 ≤ a ∧ a ≤ 9223372036854775807) (hb2 : -9223372036854775808 ≤ b ∧ b ≤ 9223372036854775807)
    (kt : b < a → W p l e R s m args below meth c H locs cells slots Q (F0 m tgt ls rest)) (kf : a ≤ b → W p l e R s m args below meth c H locs cells slots Q (F0 m (pc + 1 + 3) ls rest)) : W p l e R s m args below meth c H locs cells slots Q (F0 m pc ls (.long (zL b) :: .long (zL a) :: rest)) :=
  W.lcmp hx hb hd1 (lv_if_gt hx hb hdg ht (fun h => kt ((zL_lt hb2 ha).mp ((lg_cmp_gt _ _).mp h))) (fun h => kf (by have q := mt (fun z => (lg_cmp_gt _ _).mpr ((zL_lt hb2 ha).mpr z)) h; omega)))
theorem zr_icmp_le (hx : p.tables.exec = Jvm.exec) (hb : c.code = cc) {a b : Int} {off : Int} {tgt : Nat} (hdg : decode cc pc = .ok (.if_icmp .le off, 3)) (ht : (pc : Int) + off = (tgt : Int)) (ha : -2147483648 ≤ a ∧ a ≤ 2147483647) (hb2 : -2147483648 ≤ b ∧ b ≤ 2147483647)
    (kt : a ≤ b → W p l e R s m args below meth c H locs cells slots Q (F0 m tgt ls rest)) (kf : b < a → W p l e R s m args below meth c H locs cells slots Q (F0 m (pc + 3) ls rest)) : W p l e R s m args below meth c H locs cells slots Q (F0 m pc ls (.int (zI b) :: .int (zI a) :: rest)) :=
  lv_icmp_le hx hb hdg ht (fun h => kt ((zI_le ha hb2).mp h)) (fun h => kf (by have q := mt (zI_le ha hb2).mpr h; omega))
theorem zr_if_le (hx : p.tables.exec = Jvm.exec) (hb : c.code = cc) {a : Int} {off : Int} {tgt : Nat} (hdg : decode cc pc = .ok (.ifCond .le off, 3)) (ht : (pc : Int) + off = (tgt : Int)) (ha : -2147483648 ≤ a ∧ a ≤ 2147483647)
    (kt : a ≤ 0 → W p l e R s m args below meth c H locs cells slots Q (F0 m tgt ls rest)) (kf : 0 < a → W p l e R s m args below meth c H locs cells slots Q (F0 m (pc + 3) ls rest)) : W p l e R s m args below meth c H locs cells slots Q (F0 m pc ls (.int (zI a) :: rest)) :=
  lv_if_le hx hb hdg ht (fun h => kt ((zI_le ha z_0r).mp h)) (fun h => kf (by have q := mt (zI_le ha z_0r).mpr h; omega))
theorem zr_lcmp_le (hx : p.tables.exec = Jvm.exec) (hb : c.code = cc) {a b : Int} {off : Int} {tgt : Nat} (hd1 : decode cc pc = .ok (.lcmp, 1)) (hdg : decode cc (pc + 1) = .ok (.ifCond .le off, 3)) (ht : ((pc + 1 : Nat) : Int) + off = (tgt : Int)) (ha : -9223372036854775808 ≤ a ∧ a ≤ 9223372036854775807) (hb2 : -9223372036854775808 ≤ b ∧ b ≤ 9223372036854775807)
    (kt : a ≤ b → W p l e R s m args below meth c H locs cells slots Q (F0 m tgt ls rest)) (kf : b < a → W p l e R s m args below meth c H locs cells slots Q (F0 m (pc + 1 + 3) ls rest)) : W p l e R s m args below meth c H locs cells slots Q (F0 m pc ls (.long (zL b) :: .long (zL a) :: rest)) :=
  W.lcmp hx hb hd1 (lv_if_le hx hb hdg ht (fun h => kt ((zL_le ha hb2).mp ((lg_cmp_le _ _).mp h))) (fun h => kf (by have q := mt (fun z => (lg_cmp_le _ _).mpr ((zL_le ha hb2).mpr z)) h; omega)))
theorem zr_icmp_eq (hx : p.tables.exec = Jvm.exec) (hb : c.code = cc) {a b : Int} {off : Int} {tgt : Nat} (hdg : decode cc pc = .ok (.if_icmp .eq off, 3)) (ht : (pc : Int) + off = (tgt : Int)) (ha : -2147483648 ≤ a ∧ a ≤ 2147483647) (hb2 : -2147483648 ≤ b ∧ b ≤ 2147483647)
    (kt : a = b → W p l e R s m args below meth c H locs cells slots Q (F0 m tgt ls rest)) (kf : a ≠ b → W p l e R s m args below meth c H locs cells slots Q (F0 m (pc + 3) ls rest)) : W p l e R s m args below meth c H locs cells slots Q (F0 m pc ls (.int (zI b) :: .int (zI a) :: rest)) :=
  lv_icmp_eq hx hb hdg ht (fun h => kt ((zI_eq ha hb2).mp h)) (fun h => kf (fun q => h ((zI_eq ha hb2).mpr q)))
theorem zr_if_eq (hx : p.tables.exec = Jvm.exec) (hb : c.code = cc) {a : Int} {off : Int} {tgt : Nat} (hdg : decode cc pc = .ok (.ifCond .eq off, 3)) (ht : (pc : Int) + off = (tgt : Int)) (ha : -2147483648 ≤ a ∧ a ≤ 2147483647)
    (kt : a = 0 → W p l e R s m args below meth c H locs cells slots Q (F0 m tgt ls rest)) (kf : a ≠ 0 → W p l e R s m args below meth c H locs cells slots Q (F0 m (pc + 3) ls rest)) : W p l e R s m args below meth c H locs cells slots Q (F0 m pc ls (.int (zI a) :: rest)) :=
  lv_if_eq hx hb hdg ht (fun h => kt ((zI_eq ha z_0r).mp h)) (fun h => kf (fun q => h ((zI_eq ha z_0r).mpr q)))
theorem zr_lcmp_eq (hx : p.tables.exec = Jvm.exec) (hb : c.code = cc) {a b : Int} {off : Int} {tgt : Nat} (hd1 : decode cc pc = .ok (.lcmp, 1)) (hdg : decode cc (pc + 1) = .ok (.ifCond .eq off, 3)) (ht : ((pc + 1 : Nat) : Int) + off = (tgt : Int)) (ha : -9223372036854775808 ≤ a ∧ a ≤ 9223372036854775807) (hb2 : -9223372036854775808 ≤ b ∧ b ≤ 9223372036854775807)
    (kt : a = b → W p l e R s m args below meth c H locs cells slots Q (F0 m tgt ls rest)) (kf : a ≠ b → W p l e R s m args below meth c H locs cells slots Q (F0 m (pc + 1 + 3) ls rest)) : W p l e R s m args below meth c H locs cells slots Q (F0 m pc ls (.long (zL b) :: .long (zL a) :: rest)) :=
  W.lcmp hx hb hd1 (lv_if_eq hx hb hdg ht (fun h => kt ((zL_eq ha hb2).mp ((lg_cmp_eq _ _).mp h))) (fun h => kf (fun q => h ((lg_cmp_eq _ _).mpr ((zL_eq ha hb2).mpr q)))))
theorem zr_icmp_ne (hx : p.tables.exec = Jvm.exec) (hb : c.code = cc) {a b : Int} {off : Int} {tgt : Nat} (hdg : decode cc pc = .ok (.if_icmp .ne off, 3)) (ht : (pc : Int) + off = (tgt : Int)) (ha : -2147483648 ≤ a ∧ a ≤ 2147483647) (hb2 : -2147483648 ≤ b ∧ b ≤ 2147483647)
    (kt : a ≠ b → W p l e R s m args below meth c H locs cells slots Q (F0 m tgt ls rest)) (kf : a = b → W p l e R s m args below meth c H locs cells slots Q (F0 m (pc + 3) ls rest)) : W p l e R s m args below meth c H locs cells slots Q (F0 m pc ls (.int (zI b) :: .int (zI a) :: rest)) :=
  lv_icmp_ne hx hb hdg ht (fun h => kt (fun q => h ((zI_eq ha hb2).mpr q))) (fun h => kf ((zI_eq ha hb2).mp h))
theorem zr_if_ne (hx : p.tables.exec = Jvm.exec) (hb : c.code = cc) {a : Int} {off : Int} {tgt : Nat} (hdg : decode cc pc = .ok (.ifCond .ne off, 3)) (ht : (pc : Int) + off = (tgt : Int)) (ha : -2147483648 ≤ a ∧ a ≤ 2147483647)
    (kt : a ≠ 0 → W p l e R s m args below meth c H locs cells slots Q (F0 m tgt ls rest)) (kf : a = 0 → W p l e R s m args below meth c H locs cells slots Q (F0 m (pc + 3) ls rest)) : W p l e R s m args below meth c H locs cells slots Q (F0 m pc ls (.int (zI a) :: rest)) :=
  lv_if_ne hx hb hdg ht (fun h => kt (fun q => h ((zI_eq ha z_0r).mpr q))) (fun h => kf ((zI_eq ha z_0r).mp h))
theorem zr_lcmp_ne (hx : p.tables.exec = Jvm.exec) (hb : c.code = cc) {a b : Int} {off : Int} {tgt : Nat} (hd1 : decode cc pc = .ok (.lcmp, 1)) (hdg : decode cc (pc + 1) = .ok (.ifCond .ne off, 3)) (ht : ((pc + 1 : Nat) : Int) + off = (tgt : Int)) (ha : -9223372036854775808 ≤ a ∧ a ≤ 9223372036854775807) (hb2 : -9223372036854775808 ≤ b ∧ b ≤ 9223372036854775807)
    (kt : a ≠ b → W p l e R s m args below meth c H locs cells slots Q (F0 m tgt ls rest)) (kf : a = b → W p l e R s m args below meth c H locs cells slots Q (F0 m (pc + 1 + 3) ls rest)) : W p l e R s m args below meth c H locs cells slots Q (F0 m pc ls (.long (zL b) :: .long (zL a) :: rest)) :=
  W.lcmp hx hb hd1 (lv_if_ne hx hb hdg ht (fun h => kt (fun q => h ((lg_cmp_eq _ _).mpr ((zL_eq ha hb2).mpr q)))) (fun h => kf ((zL_eq ha hb2).mp ((lg_cmp_eq _ _).mp h))))
theorem zr_bif_eq (hx : p.tables.exec = Jvm.exec) (hb : c.code = cc) {P : Prop} [Decidable P] {off : Int} {tgt : Nat} (hdg : decode cc pc = .ok (.ifCond .eq off, 3)) (ht : (pc : Int) + off = (tgt : Int))
    (kt : ¬ P → W p l e R s m args below meth c H locs cells slots Q (F0 m tgt ls rest)) (kf : P → W p l e R s m args below meth c H locs cells slots Q (F0 m (pc + 3) ls rest)) : W p l e R s m args below meth c H locs cells slots Q (F0 m pc ls (.int (zI (if P then 1 else 0)) :: rest)) :=
  zr_if_eq hx hb hdg ht (by split <;> omega) (fun h => kt (fun q => by rw [if_pos q] at h; omega)) (fun h => kf (Classical.byContradiction fun q => h (if_neg q)))
theorem zr_bif_ne (hx : p.tables.exec = Jvm.exec) (hb : c.code = cc) {P : Prop} [Decidable P] {off : Int} {tgt : Nat} (hdg : decode cc pc = .ok (.ifCond .ne off, 3)) (ht : (pc : Int) + off = (tgt : Int))
    (kt : P → W p l e R s m args below meth c H locs cells slots Q (F0 m tgt ls rest)) (kf : ¬ P → W p l e R s m args below meth c H locs cells slots Q (F0 m (pc + 3) ls rest)) : W p l e R s m args below meth c H locs cells slots Q (F0 m pc ls (.int (zI (if P then 1 else 0)) :: rest)) :=
  zr_if_ne hx hb hdg ht (by split <;> omega) (fun h => kt (Classical.byContradiction fun q => h (if_neg q))) (fun h => kf (fun q => by rw [if_pos q] at h; omega))
end ZR
end
section
/-! OWN ROWS: worlds and contracts -/
def gset (g : Nat → Nat → Int) (r i : Nat) (z : Int) : Nat → Nat → Int := fun q => cond (Nat.beq q r) (zset (g q) i z) (g q)
abbrev stf (a : Nat → Nat) (g : Nat → Nat → Int) : List Value := [.int (zI (g 0 0)), .int (zI (g 0 1)), .int (zI (g 0 2)), .int (zI (g 0 3)), .int (zI (g 0 4)), .ref (a 1), .ref (a 2), .ref (a 3), .ref (a 4), .ref (a 5), .ref (a 6)]
abbrev stw (cI : ClassId) (a : Nat → Nat) (g : Nat → Nat → Int) : va_W := [(a 0, .inr (0, stf a g)), (a 1, .inl (cI, 10, .inl (fun k => zI (g 1 k)))), (a 2, .inl (cI, 10, .inl (fun k => zI (g 2 k)))), (a 3, .inl (cI, 10, .inl (fun k => zI (g 3 k)))), (a 4, .inl (cI, 10, .inl (fun k => zI (g 4 k)))), (a 5, .inl (cI, 10, .inl (fun k => zI (g 5 k)))), (a 6, .inl (cI, 100, .inl (fun k => zI (g 6 k))))]
abbrev mnw (a : Nat → Nat) (h hs : Nat) : va_W := [(h, .inr (1, [.ref (a 0), .ref hs]))]
def flat (g : Nat → Nat → Int) (k : Nat) : Int := if k < 5 then g 0 k else if k < 15 then g 1 (k - 5) else if k < 25 then g 2 (k - 15) else if k < 35 then g 3 (k - 25) else if k < 45 then g 4 (k - 35) else if k < 55 then g 5 (k - 45) else g 6 (k - 55)
/-- the reference's cells: its object, its state, slots, which are saved, how often a node is met; w: its seven numbers -/
abbrev mdw (cI cZ : ClassId) (b : Nat → Nat) (g : Nat → Nat → Int) (w : Nat → Int) (S B o : Nat → Int) : va_W := [(b 0, .inr (2, [.ref (b 1), .ref (b 2), .ref (b 3), .int (zI (w 0)), .int (zI (w 1)), .int (zI (w 2)), .int (zI (w 3)), .int (zI (w 4)), .int (zI (w 5)), .int (zI (w 6)), .ref (b 4)])), (b 1, .inl (cI, 155, .inl (fun k => zI (flat g k)))), (b 2, .inl (cI, 310, .inl (fun k => zI (S k)))), (b 3, .inl (cZ, 2, .inl (fun k => zI (B k)))), (b 4, .inl (cI, 10, .inl (fun k => zI (o k))))]
abbrev zT (cI cZ cS : ClassId) : List (ClassId × FieldType) := [(cI, .int), (cZ, .boolean), (cS, .object RX0)]
def nw_ws : List Cond := [.fieldLinkNest RX1 25 RX0 "nodes" "I" RX1, .fieldLinkNest RX1 97 RX0 "round" "I" RX1, .fieldLinkNest RX1 56 RX0 "errorGain" "I" RX1, .fieldLinkNest RX1 59 RX0 "moveGain" "I" RX1, .fieldLinkNest RX1 62 RX0 "maxStep" "I" RX1, .fieldLinkNest RX1 74 RX0 "xs" "[I" RX1, .fieldLinkNest RX1 77 RX0 "ys" "[I" RX1, .fieldLinkNest RX1 80 RX0 "heights" "[I" RX1, .fieldLinkNest RX1 67 RX0 "errors" "[I" RX1, .fieldLinkNest RX1 52 RX0 "lies" "[I" RX1, .methodLinkNest RX0 64 yX1_planarDistance RX1, .methodLinkNest RX0 103 yX1_quotient RX1, .methodLinkNest RX0 124 yX1_limited RX1, .methodLinkNest RX0 128 yX1_share RX1]
def kK (dC : Nat → ClassId) (dI : Nat → Nat → Nat) (cI cZ cS : ClassId) (U : State) : Prop := va_K (dC, dI) vwCl (zT cI cZ cS) U ∧ (∀ w ∈ nw_ws, va_Nw w U) ∧ va_AO RX0 U
theorem nw_at (i : Nat) {w : Cond} (h : nw_ws[i]? = some w) : w ∈ nw_ws := List.mem_of_getElem? h
theorem nw_all {P : Cond → Prop} (h0 : P (.fieldLinkNest RX1 25 RX0 "nodes" "I" RX1)) (h1 : P (.fieldLinkNest RX1 97 RX0 "round" "I" RX1)) (h2 : P (.fieldLinkNest RX1 56 RX0 "errorGain" "I" RX1)) (h3 : P (.fieldLinkNest RX1 59 RX0 "moveGain" "I" RX1)) (h4 : P (.fieldLinkNest RX1 62 RX0 "maxStep" "I" RX1)) (h5 : P (.fieldLinkNest RX1 74 RX0 "xs" "[I" RX1)) (h6 : P (.fieldLinkNest RX1 77 RX0 "ys" "[I" RX1)) (h7 : P (.fieldLinkNest RX1 80 RX0 "heights" "[I" RX1)) (h8 : P (.fieldLinkNest RX1 67 RX0 "errors" "[I" RX1)) (h9 : P (.fieldLinkNest RX1 52 RX0 "lies" "[I" RX1)) (h10 : P (.methodLinkNest RX0 64 yX1_planarDistance RX1)) (h11 : P (.methodLinkNest RX0 103 yX1_quotient RX1)) (h12 : P (.methodLinkNest RX0 124 yX1_limited RX1)) (h13 : P (.methodLinkNest RX0 128 yX1_share RX1)) : ∀ w ∈ nw_ws, P w := by
  intro w hw
  unfold nw_ws at hw
  simp only [List.mem_cons, List.not_mem_nil, or_false] at hw
  rcases hw with rfl | rfl | rfl | rfl | rfl | rfl | rfl | rfl | rfl | rfl | rfl | rfl | rfl | rfl <;> assumption
theorem nw_moved {s U : State} (hW : s.WarmedH U.vm) (h : ∀ w ∈ nw_ws, va_Nw w s) : ∀ w ∈ nw_ws, va_Nw w U :=
  nw_all (P := fun w => va_Nw w U) (va_Nw.warmF hW (h _ (nw_at 0 rfl))) (va_Nw.warmF hW (h _ (nw_at 1 rfl))) (va_Nw.warmF hW (h _ (nw_at 2 rfl))) (va_Nw.warmF hW (h _ (nw_at 3 rfl))) (va_Nw.warmF hW (h _ (nw_at 4 rfl))) (va_Nw.warmF hW (h _ (nw_at 5 rfl))) (va_Nw.warmF hW (h _ (nw_at 6 rfl))) (va_Nw.warmF hW (h _ (nw_at 7 rfl))) (va_Nw.warmF hW (h _ (nw_at 8 rfl))) (va_Nw.warmF hW (h _ (nw_at 9 rfl))) (va_Nw.warmM hW (h _ (nw_at 10 rfl))) (va_Nw.warmM hW (h _ (nw_at 11 rfl))) (va_Nw.warmM hW (h _ (nw_at 12 rfl))) (va_Nw.warmM hW (h _ (nw_at 13 rfl)))
theorem nw_on : ∀ w ∈ nw_ws, w.onTables = true := nw_all (P := fun w => w.onTables = true) rfl rfl rfl rfl rfl rfl rfl rfl rfl rfl rfl rfl rfl rfl
section ZK
variable {dC : Nat → ClassId} {dI : Nat → Nat → Nat} {cI cZ cS : ClassId}
theorem kK.moved {s U : State} (hW : s.WarmedH U.vm) (h : kK dC dI cI cZ cS s) : kK dC dI cI cZ cS U := ⟨va_K.moved hW.alike h.1, nw_moved hW h.2.1, va_AO.moved hW.alike h.2.2⟩
theorem kK.call {U : State} {g : JFrame} {mk : MethodId} {a : Array Value} (h : kK dC dI cI cZ cS U) : kK dC dI cI cZ cS (U.calling g mk a) :=
  ⟨va_K.moved (u := U) (U := U.calling g mk a) (Vm.Alike.refl U.vm) h.1, fun w hw => va_Nw.same (u := U) (U := U.calling g mk a) (nw_on w hw) rfl (h.2.1 w hw), va_AO.moved (u := U) (U := U.calling g mk a) (Vm.Alike.refl U.vm) h.2.2⟩
theorem kK.nw {U : State} (h : kK dC dI cI cZ cS U) (i : Nat) {A : Array Value} {w : Cond} (hw : nw_ws[i]? = some w) : w.before A U = true := va_Nw.use (nw_on w (nw_at i hw)) (h.2.1 w (nw_at i hw))
end ZK
def rd_Pc (dC : Nat → ClassId) (dI : Nat → Nat → Nat) (cI cZ cS : ClassId) (w : va_W) (av : List Value) : Array Value → State → Prop := va_Pc av (fun U => va_P (dC, dI) vwCl w U.heap ∧ kK dC dI cI cZ cS U)
def rd_Qc (v : Option Value) : Array Value → State → Outcome → State → Prop := fun _ st oc t => oc = .returned v ∧ t.heap = st.heap
def nf : Addr → Prop := fun _ => False
def wr_ad (w : va_W) : Nat → Prop := fun q => ∃ (k : Nat) (e : va_E), w[k]? = some (q, e)
def wr_Pc (dC : Nat → ClassId) (dI : Nat → Nat → Nat) (cI cZ cS : ClassId) (w : va_W) (av : List Value) : Array Value → State → Prop := va_Pc av (fun U => va_P (dC, dI) vwCl w U.heap ∧ kK dC dI cI cZ cS U ∧ va_D (fun _ => True) w)
def wr_Qc (dC : Nat → ClassId) (dI : Nat → Nat → Nat) (w w' : va_W) (v : Option Value) : Array Value → State → Outcome → State → Prop := fun _ st oc t => oc = .returned v ∧ va_P (dC, dI) vwCl w' t.heap ∧ va_F (wr_ad w) st t
theorem wr_adD {A : Nat → Prop} {w : va_W} (h : va_D A w) : ∀ q, wr_ad w q → A q := fun q ⟨k, e, hk⟩ => h.2 k (q, e) hk
theorem wr_self {A : Nat → Prop} {w : va_W} (h : va_D A w) : va_D (wr_ad w) w := ⟨h.1, fun k q hk => ⟨k, q.2, hk⟩⟩
theorem va_D_adr {A : Nat → Prop} {w w' : va_W} (h : va_D A w) (he : w'.map Prod.fst = w.map Prod.fst) : va_D A w' := by
  have key : ∀ (k : Nat) (q : Nat × va_E), w'[k]? = some q → ∃ q', w[k]? = some q' ∧ q'.1 = q.1 := by
    intro k q hq
    have h1 : (w'.map Prod.fst)[k]? = some q.1 := by rw [List.getElem?_map, hq]; rfl
    rw [he, List.getElem?_map] at h1
    cases hx : w[k]? with
    | none => rw [hx] at h1; cases h1
    | some q' => rw [hx] at h1; exact ⟨q', rfl, Option.some.inj h1⟩
  refine ⟨fun i j p q hi hj hpq => ?_, fun k q hq => ?_⟩
  · obtain ⟨p', a1, a2⟩ := key i p hi
    obtain ⟨q', b1, b2⟩ := key j q hj
    exact h.1 i j p' q' a1 b1 (by rw [a2, b2, hpq])
  · obtain ⟨q', a1, a2⟩ := key k q hq
    rw [← a2]
    exact h.2 k q' a1
theorem va_P_nil {D : va_G} {cl : List vw_C} {H : Heap} : va_P D cl [] H := fun k q h => by simp at h
theorem va_D_nil {A : Nat → Prop} : va_D A [] := ⟨fun i j p q h => by simp at h, fun k q h => by simp at h⟩
theorem va_P_left {D : va_G} {cl : List vw_C} {w x : va_W} {H : Heap} (h : va_P D cl (w ++ x) H) : va_P D cl w H := fun k q hk => h k q (by
  rw [List.getElem?_append_left (List.getElem?_eq_some_iff.mp hk).1]
  exact hk)
theorem va_P_right {D : va_G} {cl : List vw_C} {w x : va_W} {H : Heap} (h : va_P D cl (w ++ x) H) : va_P D cl x H := fun k q hk => h (w.length + k) q (by
  rw [List.getElem?_append_right (by omega), show w.length + k - w.length = k by omega]
  exact hk)
theorem va_D_left {A : Nat → Prop} {w x : va_W} (h : va_D A (w ++ x)) : va_D A w := by
  have z : ∀ (k : Nat) (q : Nat × va_E), w[k]? = some q → (w ++ x)[k]? = some q := fun k q hk => by
    rw [List.getElem?_append_left (List.getElem?_eq_some_iff.mp hk).1]
    exact hk
  exact ⟨fun i j p q hi hj => h.1 i j p q (z i p hi) (z j q hj), fun k q hk => h.2 k q (z k q hk)⟩
theorem va_D_right {A : Nat → Prop} {w x : va_W} (h : va_D A (w ++ x)) : va_D A x := by
  have z : ∀ (k : Nat) (q : Nat × va_E), x[k]? = some q → (w ++ x)[w.length + k]? = some q := fun k q hk => by
    rw [List.getElem?_append_right (by omega), show w.length + k - w.length = k by omega]
    exact hk
  exact ⟨fun i j p q hi hj hpq => by have := h.1 _ _ p q (z i p hi) (z j q hj) hpq; omega, fun k q hk => h.2 _ q (z k q hk)⟩
theorem va_D_cross {A : Nat → Prop} {w x : va_W} (h : va_D A (w ++ x)) {k : Nat} {q : Nat × va_E} (hk : x[k]? = some q) : ¬ wr_ad w q.1 := by
  rintro ⟨j, e, hj⟩
  have h1 : (w ++ x)[j]? = some (q.1, e) := by
    rw [List.getElem?_append_left (List.getElem?_eq_some_iff.mp hj).1]
    exact hj
  have h2 : (w ++ x)[w.length + k]? = some q := by
    rw [List.getElem?_append_right (by omega), show w.length + k - w.length = k by omega]
    exact hk
  have := h.1 _ _ _ _ h1 h2 rfl
  have := (List.getElem?_eq_some_iff.mp hj).1
  omega
/-- behind a call that wrote in the cells w alone: the caller's other cells x -/
theorem wr_tail {A : Nat → Prop} {D : va_G} {cl : List vw_C} {w w' x : va_W} {H H1 : Heap} (hP : va_P D cl (w ++ x) H) (hD : va_D A (w ++ x)) (hP1 : va_P D cl w' H1) (hk : ∀ q : Nat, q < H.size → ¬ wr_ad w q → H1[q]? = H[q]?) : va_P D cl (w' ++ x) H1 := by
  refine va_P.app hP1 (fun k q hq => ?_)
  exact (va_P_right hP k q hq).kept (hk q.1 ((va_P_right hP k q hq).lt) (va_D_cross hD hq))
section ZM
variable {l : Launch} {y : MethodName} {ws ws' : List Cond} {rm : Room} {cc : ByteArray} {maxL : Nat} {ret : Option FieldType} {w w2 : va_W} {av : List Value} {v : Option Value}
variable {dC : Nat → ClassId} {dI : Nat → Nat → Nat} {cI cZ cS : ClassId}
theorem rd_met (hy : plainName y.cls = true) (hw : ws = Cond.code y cc maxL ret :: ws') (hlen : (lg_sl av).length ≤ maxL)
    (body : ∀ (p : Program) (e : Env) (s : State) (m : MethodId) (below : List Frame) (meth : Method) (c : Code) (ls : Array Slot), p.tables.exec = Jvm.exec → c.code = cc → c.maxLocals = maxL → meth.sig.returnType = ret → meth.locks = false → (∀ x ∈ ws, x.before av.toArray s = true) → s.vm.findClass y.cls = some m.cls → va_P (dC, dI) vwCl w s.heap → kK dC dI cI cZ cS s → lv_has ls maxL (lv_args 0 av) →
      W p l e rm s m av.toArray below meth c s.heap [] 0 0 (MQ below (rd_Qc v) av.toArray s 0 0 nf) (F0 m 0 ls [])) : Met l y ws rm (rd_Pc dC dI cI cZ cS w av) (rd_Qc v) 0 0 nf := by
  refine Met.ofW (cc := cc) (maxL := maxL) (ret := ret) hy hw ?_
  intro p e s m args below meth c s₁ B hml hv
  obtain ⟨rfl, hP, hK⟩ := hv
  rw [lg_entry_eq]
  exact body p e s m below meth c _ B.exec B.bytes hml B.returns B.notSynchronized (atoms_spec (ws := ws) B.pre) (findClass_of_methodNamed B.named) hP hK (lv_entry av hlen)
theorem wr_met (hy : plainName y.cls = true) (hw : ws = Cond.code y cc maxL ret :: ws') (hlen : (lg_sl av).length ≤ maxL)
    (body : ∀ (p : Program) (e : Env) (s : State) (m : MethodId) (below : List Frame) (meth : Method) (c : Code) (ls : Array Slot), p.tables.exec = Jvm.exec → c.code = cc → c.maxLocals = maxL → meth.sig.returnType = ret → meth.locks = false → (∀ x ∈ ws, x.before av.toArray s = true) → s.vm.findClass y.cls = some m.cls → va_P (dC, dI) vwCl w s.heap → va_D (wr_ad w) w → va_S (wr_ad w) s.heap s.heap [] → kK dC dI cI cZ cS s → lv_has ls maxL (lv_args 0 av) →
      W p l e rm s m av.toArray below meth c s.heap [] 0 0 (MQ below (wr_Qc dC dI w w2 v) av.toArray s 0 0 (wr_ad w)) (F0 m 0 ls [])) : Met l y ws rm (wr_Pc dC dI cI cZ cS w av) (wr_Qc dC dI w w2 v) 0 0 (wr_ad w) := by
  refine Met.ofW (cc := cc) (maxL := maxL) (ret := ret) hy hw ?_
  intro p e s m args below meth c s₁ B hml hv
  obtain ⟨rfl, hP, hK, hD⟩ := hv
  rw [lg_entry_eq]
  exact body p e s m below meth c _ B.exec B.bytes hml B.returns B.notSynchronized (atoms_spec (ws := ws) B.pre) (findClass_of_methodNamed B.named) hP (wr_self hD) va_S.rf hK (lv_entry av hlen)
theorem rd_blind : FrameBlind (rd_Pc dC dI cI cZ cS w av) := fun _ _ _ _ q => ⟨q.1, q.2.1, q.2.2.call⟩
theorem wr_blind : FrameBlind (wr_Pc dC dI cI cZ cS w av) := fun _ _ _ _ q => ⟨q.1, q.2.1, q.2.2.1.call, q.2.2.2⟩
end ZM
section ZE
variable {p : Program} {l : Launch} {e : Env} {R : Room} {s : State} {m : MethodId} {args : Array Value} {below : List Frame} {meth : Method} {c : Code} {H : Heap} {locs : List Loc} {cells slots : Nat} {Q : State → Prop}
variable {cc : ByteArray} {pc : Nat} {ls : Array Slot} {rest st0 : List Value} {dC : Nat → ClassId} {dI : Nat → Nat → Nat} {cI cZ cS : ClassId} {w w2 : va_W}
theorem rd_iret (hx : p.tables.exec = Jvm.exec) (hb : c.code = cc) (hr : meth.sig.returnType = some .int) (hlocks : meth.locks = false) {a b : Int} (hv : a = b) (hdg : decode cc pc = .ok (.ireturn, 1)) :
    W p l e R s m args below meth c s.heap [] 0 0 (MQ below (rd_Qc (some (.int (zI b)))) args s 0 0 nf) (F0 m pc ls [.int (zI a)]) := by
  subst hv
  exact W.iret hx hb hr (fun t ht _ => ⟨rfl, ht⟩) (fun q h => by cases h) hdg hlocks
theorem rd_lret (hx : p.tables.exec = Jvm.exec) (hb : c.code = cc) (hr : meth.sig.returnType = some .long) (hlocks : meth.locks = false) {a b : Int} (hv : a = b) (hdg : decode cc pc = .ok (.lreturn, 1)) :
    W p l e R s m args below meth c s.heap [] 0 0 (MQ below (rd_Qc (some (.long (zL b)))) args s 0 0 nf) (F0 m pc ls [.long (zL a)]) := by
  subst hv
  exact W.lret hx hb hr (fun t ht _ => ⟨rfl, ht⟩) (fun q h => by cases h) hdg hlocks
theorem z_nar {a : Int} (h : a = 0 ∨ a = 1) : narrow .boolean (.int (zI a)) = .int (zI a) := by
  rcases h with rfl | rfl <;> rfl
theorem rd_zret (hx : p.tables.exec = Jvm.exec) (hb : c.code = cc) (hr : meth.sig.returnType = some .boolean) (hlocks : meth.locks = false) {a b : Int} (hv : a = b) (h01 : a = 0 ∨ a = 1) (hdg : decode cc pc = .ok (.ireturn, 1)) :
    W p l e R s m args below meth c s.heap [] 0 0 (MQ below (rd_Qc (some (.int (zI b)))) args s 0 0 nf) (F0 m pc ls [.int (zI a)]) := by
  subst hv
  exact W.zret hx hb hr (z_nar h01) (fun t ht _ => ⟨rfl, ht⟩) (fun q h => by cases h) hdg hlocks
theorem wr_iret (hx : p.tables.exec = Jvm.exec) (hb : c.code = cc) (hr : meth.sig.returnType = some .int) (hlocks : meth.locks = false) (hP : va_P (dC, dI) vwCl w2 H) (hS : va_S (wr_ad w) s.heap H locs) {a b : Int} (hv : a = b) (hdg : decode cc pc = .ok (.ireturn, 1)) :
    W p l e R s m args below meth c H locs cells slots (MQ below (wr_Qc dC dI w w2 (some (.int (zI b)))) args s cells slots (wr_ad w)) (F0 m pc ls [.int (zI a)]) := by
  subst hv
  exact W.iret hx hb hr (fun t ht _ => ⟨rfl, by rw [ht]; exact hP, hS.F ht⟩) hS.2.2 hdg hlocks
theorem wr_vret (hx : p.tables.exec = Jvm.exec) (hb : c.code = cc) (hr : meth.sig.returnType = none) (hlocks : meth.locks = false) (hP : va_P (dC, dI) vwCl w2 H) (hS : va_S (wr_ad w) s.heap H locs) (hdg : decode cc pc = .ok (.return_, 1)) :
    W p l e R s m args below meth c H locs cells slots (MQ below (wr_Qc dC dI w w2 none) args s cells slots (wr_ad w)) (F0 m pc ls []) :=
  W.vret hx hb hr (fun t ht _ => ⟨rfl, by rw [ht]; exact hP, hS.F ht⟩) hS.2.2 hdg hlocks
variable {y : MethodName} {bytes : ByteArray} {maxL nL n index : Nat} {ret : Option FieldType} {wsY : List Cond} {rm : Room} {Ts : List Cond} {own C host : String} {b : Addr} {As : List Value} {r : Value} {a : Array Value} {A0 : Nat → Prop} {H0 : Heap} {v : Option Value}
theorem rd_go (hr : va_Run p l e R s m args below meth c H locs cells slots 0 0 (F0 m pc ls st0) rest (rd_Qc (some r) a) nf)
    (kk : W p l e R s m args below meth c H locs cells slots Q (F0 m (pc + 3) ls (r :: rest))) : W p l e R s m args below meth c H locs cells slots Q (F0 m pc ls st0) := by
  intro T hT X
  obtain ⟨v, st₀, t, T', L, h0, X', hL, e1, e2, ⟨hv, hh⟩, st⟩ := hr T hT X
  cases hv
  have hL0 : L = [] := List.eq_nil_iff_forall_not_mem.mpr (fun q hq => hL q hq)
  subst hL0
  rw [List.append_nil] at X'
  obtain ⟨t2, a1, b1⟩ := kk T' (e1.trans (hh.trans h0)) X'
  exact ⟨t2, st t2 a1, b1⟩
theorem wr_go (hr : va_Run p l e R s m args below meth c H locs cells slots 0 0 (F0 m pc ls st0) rest (wr_Qc dC dI w w2 v a) (wr_ad w)) (hD : va_D A0 w) (hS : va_S A0 H0 H locs)
    (kk : ∀ (H1 : Heap) (locs1 : List Loc), va_P (dC, dI) vwCl w2 H1 → (∀ q : Nat, q < H.size → ¬ wr_ad w q → H1[q]? = H[q]?) → va_S A0 H0 H1 locs1 → W p l e R s m args below meth c H1 locs1 cells slots Q (F0 m (pc + 3) ls (v.toList ++ rest))) : W p l e R s m args below meth c H locs cells slots Q (F0 m pc ls st0) := by
  intro T hT X
  obtain ⟨v', st₀, t, T', L, h0, X', hL, e1, e2, ⟨hv, hP, hz, hk⟩, st⟩ := hr T hT X
  cases hv
  rw [h0] at hz hk
  have hA := wr_adD hD
  obtain ⟨t2, a1, b1⟩ := kk T'.heap (locs ++ L) (by rw [e1]; exact hP) (fun q h1 h2 => by rw [e1]; exact hk q h1 h2)
    ⟨Nat.le_trans hS.1 (by rw [e1]; exact hz), fun q h1 h2 => by rw [e1, hk q (Nat.lt_of_lt_of_le h1 hS.1) (fun z => h2 (hA q z))]; exact hS.2.1 q h1 h2, fun q hq => by
      rcases List.mem_append.mp hq with h | h
      · exact hS.2.2 q h
      · exact hA _ (hL q h)⟩ T' rfl X'
  exact ⟨t2, st t2 a1, b1⟩
theorem rd_callV (S : CallFix p m c cc nL s args Ts own) (hM : Met l y wsY rm (rd_Pc dC dI cI cZ cS w (.ref b :: As)) (rd_Qc (some r)) 0 0 nf) (cw : CallW R s args own C index y bytes maxL ret wsY rm 0 0 n) (hP : va_P (dC, dI) vwCl w H) (hK : kK dC dI cI cZ cS s) (q0 : Nat) {ci N : Nat} {T : u_T} {fs : List Value} (he : w[q0]? = some (b, .inr (ci, fs))) (hc : vwCl[ci]? = some (C, T, N))
    (hn : As.length = n) (hsize : ls.size = nL) (hstack : st0 = As.reverse ++ .ref b :: rest) (hW : (rest.map fun v => v.category).sum ≤ 8) (hdg : decode cc pc = .ok (.invokevirtual index, 3)) (hf : cells ≤ R.cells ∧ slots ≤ R.slots)
    (kk : W p l e R s m args below meth c H locs cells slots Q (F0 m (pc + 3) ls (r :: rest))) : W p l e R s m args below meth c H locs cells slots Q (F0 m pc ls st0) :=
  rd_go (va_runV (g := F0 m pc ls st0) S hM cw ⟨rd_blind, va_recv hK.1 hP hc he, fun _ hU hW => ⟨rfl, by rw [hU]; exact hP, hK.moved hW⟩⟩ rfl hn hsize hstack (lv_room hW) hdg hf) kk
theorem rd_callS (S : CallFix p m c cc nL s args Ts own) (hM : Met l y wsY rm (rd_Pc dC dI cI cZ cS w As) (rd_Qc (some r)) 0 0 nf) (cw : CallB R s args own index y bytes maxL ret wsY rm 0 0 n ∧ (Cond.static y).before args s = true) (hP : va_P (dC, dI) vwCl w H) (hK : kK dC dI cI cZ cS s)
    (hn : As.length = n) (hsize : ls.size = nL) (hstack : st0 = As.reverse ++ rest) (hW : (rest.map fun v => v.category).sum ≤ 8) (hdg : decode cc pc = .ok (.invokestatic index, 3)) (hf : cells ≤ R.cells ∧ slots ≤ R.slots)
    (kk : W p l e R s m args below meth c H locs cells slots Q (F0 m (pc + 3) ls (r :: rest))) : W p l e R s m args below meth c H locs cells slots Q (F0 m pc ls st0) :=
  rd_go (va_runS (g := F0 m pc ls st0) S hM cw ⟨rd_blind, fun _ hU hW => ⟨rfl, by rw [hU]; exact hP, hK.moved hW⟩⟩ rfl hn hsize hstack (lv_room hW) hdg hf) kk
theorem rd_callN (S : CallFix p m c cc nL s args Ts own) (hM : Met l y wsY rm (rd_Pc dC dI cI cZ cS w As) (rd_Qc (some r)) 0 0 nf) (cw : va_CN R s args own index y host bytes maxL ret wsY rm 0 0 n ∧ (Cond.static y).before args s = true ∧ True) (hP : va_P (dC, dI) vwCl w H) (hK : kK dC dI cI cZ cS s)
    (hn : As.length = n) (hsize : ls.size = nL) (hstack : st0 = As.reverse ++ rest) (hW : (rest.map fun v => v.category).sum ≤ 8) (hdg : decode cc pc = .ok (.invokestatic index, 3)) (hf : cells ≤ R.cells ∧ slots ≤ R.slots)
    (kk : W p l e R s m args below meth c H locs cells slots Q (F0 m (pc + 3) ls (r :: rest))) : W p l e R s m args below meth c H locs cells slots Q (F0 m pc ls st0) :=
  rd_go (va_runSN (g := F0 m pc ls st0) S hM cw ⟨rd_blind, fun _ hU hW => ⟨rfl, by rw [hU]; exact hP, hK.moved hW⟩⟩ rfl hn hsize hstack (lv_room hW) hdg hf) kk
theorem wr_callV (S : CallFix p m c cc nL s args Ts own) (hM : Met l y wsY rm (wr_Pc dC dI cI cZ cS w (.ref b :: As)) (wr_Qc dC dI w w2 none) 0 0 (wr_ad w)) (cw : CallW R s args own C index y bytes maxL ret wsY rm 0 0 n) (hP : va_P (dC, dI) vwCl w H) (hD : va_D A0 w) (hS : va_S A0 H0 H locs) (hK : kK dC dI cI cZ cS s) (q0 : Nat) {ci N : Nat} {T : u_T} {fs : List Value} (he : w[q0]? = some (b, .inr (ci, fs))) (hc : vwCl[ci]? = some (C, T, N))
    (hn : As.length = n) (hsize : ls.size = nL) (hstack : st0 = As.reverse ++ .ref b :: rest) (hW : (rest.map fun v => v.category).sum ≤ 8) (hdg : decode cc pc = .ok (.invokevirtual index, 3)) (hf : cells ≤ R.cells ∧ slots ≤ R.slots)
    (kk : ∀ (H1 : Heap) (locs1 : List Loc), va_P (dC, dI) vwCl w2 H1 → (∀ q : Nat, q < H.size → ¬ wr_ad w q → H1[q]? = H[q]?) → va_S A0 H0 H1 locs1 → W p l e R s m args below meth c H1 locs1 cells slots Q (F0 m (pc + 3) ls rest)) : W p l e R s m args below meth c H locs cells slots Q (F0 m pc ls st0) :=
  wr_go (va_runV (g := F0 m pc ls st0) S hM cw ⟨wr_blind, va_recv hK.1 hP hc he, fun _ hU hW => ⟨rfl, by rw [hU]; exact hP, hK.moved hW, hD.weaken (fun _ _ _ _ => trivial)⟩⟩ rfl hn hsize hstack (lv_room hW) hdg hf) hD hS kk
theorem wr_callVi (S : CallFix p m c cc nL s args Ts own) (hM : Met l y wsY rm (wr_Pc dC dI cI cZ cS w (.ref b :: As)) (wr_Qc dC dI w w2 (some r)) 0 0 (wr_ad w)) (cw : CallW R s args own C index y bytes maxL ret wsY rm 0 0 n) (hP : va_P (dC, dI) vwCl w H) (hD : va_D A0 w) (hS : va_S A0 H0 H locs) (hK : kK dC dI cI cZ cS s) (q0 : Nat) {ci N : Nat} {T : u_T} {fs : List Value} (he : w[q0]? = some (b, .inr (ci, fs))) (hc : vwCl[ci]? = some (C, T, N))
    (hn : As.length = n) (hsize : ls.size = nL) (hstack : st0 = As.reverse ++ .ref b :: rest) (hW : (rest.map fun v => v.category).sum ≤ 8) (hdg : decode cc pc = .ok (.invokevirtual index, 3)) (hf : cells ≤ R.cells ∧ slots ≤ R.slots)
    (kk : ∀ (H1 : Heap) (locs1 : List Loc), va_P (dC, dI) vwCl w2 H1 → (∀ q : Nat, q < H.size → ¬ wr_ad w q → H1[q]? = H[q]?) → va_S A0 H0 H1 locs1 → W p l e R s m args below meth c H1 locs1 cells slots Q (F0 m (pc + 3) ls (r :: rest))) : W p l e R s m args below meth c H locs cells slots Q (F0 m pc ls st0) :=
  wr_go (va_runV (g := F0 m pc ls st0) S hM cw ⟨wr_blind, va_recv hK.1 hP hc he, fun _ hU hW => ⟨rfl, by rw [hU]; exact hP, hK.moved hW, hD.weaken (fun _ _ _ _ => trivial)⟩⟩ rfl hn hsize hstack (lv_room hW) hdg hf) hD hS kk
variable {D : va_G} {cl : List vw_C} {A : Nat → Prop} {a1 : Nat} {tys : List (ClassId × FieldType)} {ws : va_W}
theorem zr_iald (hx : p.tables.exec = Jvm.exec) (hb : c.code = cc) (hK : va_K D cl tys s) (hP : va_P D cl ws H) (q0 t0 : Nat) {cA : ClassId} {n : Nat} {f : Nat → Int} (ha : ws[q0]? = some (a1, .inl (cA, n, .inl (fun k => zI (f k))))) (ht : tys[t0]? = some (cA, .int)) {zi : Int} (k : Nat) (z : Int) (hi : zi = (k : Int)) (hk : k < n) (hn : n < 2147483648) (hz : f k = z) (hdg : decode cc pc = .ok (.iaload, 1))
    (kk : W p l e R s m args below meth c H locs cells slots Q (F0 m (pc + 1) ls (.int (zI z) :: rest))) : W p l e R s m args below meth c H locs cells slots Q (F0 m pc ls (.int (zI zi) :: .ref a1 :: rest)) := by
  subst hz
  refine va_iald hx hb hK hP q0 t0 ha ht (zI_in hi hk hn) hdg ?_
  rw [zI_clamp hi (by omega)]
  exact kk
theorem zr_iast (hx : p.tables.exec = Jvm.exec) (hb : c.code = cc) (hK : va_K D cl tys s) (hP : va_P D cl ws H) (hD : va_D A ws) (hS : va_S A H0 H locs) (q0 t0 : Nat) {cA : ClassId} {n : Nat} {f : Nat → Int} (ha : ws[q0]? = some (a1, .inl (cA, n, .inl (fun k => zI (f k))))) (ht : tys[t0]? = some (cA, .int)) {zi z : Int} (k : Nat) (f2 : Nat → Int) (hi : zi = (k : Int)) (hk : k < n) (hn : n < 2147483648) (hz : zset f k z = f2) (hdg : decode cc pc = .ok (.iastore, 1))
    (kk : ∀ (H1 : Heap) (locs1 : List Loc), va_P D cl (ws.set q0 (a1, .inl (cA, n, .inl (fun k => zI (f2 k))))) H1 → va_D A (ws.set q0 (a1, .inl (cA, n, .inl (fun k => zI (f2 k))))) → va_S A H0 H1 locs1 → W p l e R s m args below meth c H1 locs1 cells slots Q (F0 m (pc + 1) ls rest)) : W p l e R s m args below meth c H locs cells slots Q (F0 m pc ls (.int (zI z) :: .int (zI zi) :: .ref a1 :: rest)) := by
  subst hz
  refine va_iast hx hb hK hP hD hS q0 t0 ha ht (zI_in hi hk hn) hdg fun H1 locs1 g1 g2 g3 => ?_
  rw [zI_clamp hi (by omega), zset_upd] at g1 g2
  exact kk H1 locs1 g1 g2 g3
end ZE
end
section
/-! OWN ROWS: what is computed, over integers -/
def sqB (v : Int) : Nat → Int → Int
  | 0, r => r
  | k + 1, r => sqB v k (if (r + 2 ^ k) * (r + 2 ^ k) ≤ v then r + 2 ^ k else r)
def sqr (v : Int) : Int := sqB v 19 0
theorem sq_self {a b : Int} (h0 : 0 ≤ a) (h : a ≤ b) : a * a ≤ b * b := Int.mul_le_mul h h h0 (by omega)
theorem sqB_spec (v : Int) : ∀ (k : Nat) (r : Int), 0 ≤ r → r * r ≤ v → v < (r + 2 ^ k) * (r + 2 ^ k) → 0 ≤ sqB v k r ∧ sqB v k r * sqB v k r ≤ v ∧ v < (sqB v k r + 1) * (sqB v k r + 1) := by
  intro k
  induction k with
  | zero =>
    intro r h0 h1 h2
    exact ⟨h0, h1, h2⟩
  | succ k ih =>
    intro r h0 h1 h2
    have hp : (0 : Int) < 2 ^ k := Int.pow_pos (by decide)
    have he : (2 : Int) ^ (k + 1) = 2 ^ k * 2 := Int.pow_succ 2 k
    generalize hP : (2 : Int) ^ k = P at *
    unfold sqB
    rw [hP]
    split
    · rename_i hc
      refine ih _ (by omega) hc ?_
      rw [he] at h2
      rw [show r + P + P = r + P * 2 by omega]
      exact h2
    · rename_i hc
      exact ih _ h0 h1 (by omega)
theorem sq_one {v a b : Int} (a0 : 0 ≤ a) (a1 : a * a ≤ v) (a2 : v < (a + 1) * (a + 1)) (b0 : 0 ≤ b) (b1 : b * b ≤ v) (b2 : v < (b + 1) * (b + 1)) : a = b := by
  rcases Int.lt_trichotomy a b with h | h | h
  · have := sq_self (a := a + 1) (b := b) (by omega) (by omega)
    omega
  · exact h
  · have := sq_self (a := b + 1) (b := a) (by omega) (by omega)
    omega
theorem sqr_spec {v : Int} (h0 : 0 ≤ v) (h1 : v < 274877906944) : 0 ≤ sqr v ∧ sqr v * sqr v ≤ v ∧ v < (sqr v + 1) * (sqr v + 1) := sqB_spec v 19 0 (by decide) (by omega) (by
  show v < (0 + 2 ^ 19) * (0 + 2 ^ 19)
  omega)
theorem sqr_le {v c : Int} (h0 : 0 ≤ v) (h1 : v < 274877906944) (hc : 0 ≤ c) (h : v < (c + 1) * (c + 1)) : 0 ≤ sqr v ∧ sqr v ≤ c := by
  obtain ⟨a, b, -⟩ := sqr_spec h0 h1
  refine ⟨a, ?_⟩
  rcases Int.lt_or_le c (sqr v) with q | q
  · have := sq_self (a := c + 1) (b := sqr v) (by omega) (by omega)
    omega
  · exact q
theorem z_mul {a b A B : Int} (ha : -A ≤ a ∧ a ≤ A) (hb : -B ≤ b ∧ b ≤ B) : -(A * B) ≤ a * b ∧ a * b ≤ A * B := by
  have h1 := Int.mul_nonneg (show 0 ≤ A - a by omega) (show 0 ≤ B + b by omega)
  have h2 := Int.mul_nonneg (show 0 ≤ A + a by omega) (show 0 ≤ B - b by omega)
  have h3 := Int.mul_nonneg (show 0 ≤ A - a by omega) (show 0 ≤ B - b by omega)
  have h4 := Int.mul_nonneg (show 0 ≤ A + a by omega) (show 0 ≤ B + b by omega)
  simp only [Int.sub_mul, Int.add_mul, Int.mul_add, Int.mul_sub] at h1 h2 h3 h4
  omega
theorem z_mul0 {a b A B : Int} (ha : 0 ≤ a ∧ a ≤ A) (hb : 0 ≤ b ∧ b ≤ B) : 0 ≤ a * b ∧ a * b ≤ A * B :=
  ⟨Int.mul_nonneg ha.1 hb.1, Int.mul_le_mul ha.2 hb.2 hb.1 (by omega)⟩
theorem z_tdiv0 {a b c : Int} (ha : 0 ≤ a) (hb : 1 ≤ b) (h : a ≤ c * b) : 0 ≤ a.tdiv b ∧ a.tdiv b ≤ c := by
  rw [Int.tdiv_eq_ediv_of_nonneg ha]
  exact ⟨Int.ediv_nonneg ha (by omega), Int.ediv_le_of_le_mul (by omega) h⟩
theorem z_tdivs {a b : Int} (ha : 0 ≤ a) (hb : 1 ≤ b) : 0 ≤ a.tdiv b ∧ a.tdiv b ≤ a := z_tdiv0 ha hb (by
  have := Int.mul_le_mul_of_nonneg_left hb ha
  omega)
theorem z_tdiv {a b A : Int} (ha : -A ≤ a ∧ a ≤ A) (hb : 1 ≤ b) : -A ≤ a.tdiv b ∧ a.tdiv b ≤ A := by
  rcases Int.lt_or_le a 0 with h | h
  · have := z_tdivs (a := -a) (b := b) (by omega) hb
    rw [Int.neg_tdiv] at this
    omega
  · have := z_tdivs h hb
    omega
def sDst (g : Nat → Nat → Int) (a b : Nat) : Int := sqr ((g 1 a - g 1 b) * (g 1 a - g 1 b) + (g 2 a - g 2 b) * (g 2 a - g 2 b))
def sPrd (g : Nat → Nat → Int) (a b : Nat) : Int := sDst g a b + g 3 a + g 3 b
def sSmp (g : Nat → Nat → Int) (a b : Nat) : Int := g 6 (10 * a + b) + g 5 b
def sWgt (g : Nat → Nat → Int) (a b : Nat) : Int := (1000 * g 4 a).tdiv (g 4 a + g 4 b)
def sVe (g : Nat → Nat → Int) (a b : Nat) : Int := (g 0 2 * sWgt g a b).tdiv 1000
def sVm (g : Nat → Nat → Int) (a b : Nat) : Int := (g 0 3 * sWgt g a b).tdiv 1000
def sAbs (z : Int) : Int := if z < 0 then -z else z
def sLim (v lo hi : Int) : Int := if v < lo then lo else if hi < v then hi else v
def sEs (g : Nat → Nat → Int) (a b : Nat) (d : Int) : Int := if 1000 < (1000 * sAbs (d - sSmp g a b)).tdiv (sSmp g a b) then 1000 else (1000 * sAbs (d - sSmp g a b)).tdiv (sSmp g a b)
def sErr (g : Nat → Nat → Int) (a b : Nat) (d : Int) : Int := if (sEs g a b d * sVe g a b + g 4 a * (1000 - sVe g a b)).tdiv 1000 < 1 then 1 else (sEs g a b d * sVe g a b + g 4 a * (1000 - sVe g a b)).tdiv 1000
def sStp (g : Nat → Nat → Int) (a b : Nat) (d : Int) : Int := sLim (((sSmp g a b - d) * sVm g a b).tdiv 1000) (-(g 0 4)) (g 0 4)
def sX (g : Nat → Nat → Int) (a b : Nat) (st d : Int) : Int := sLim (g 1 a + (if d = 0 then st else (st * (g 1 a - g 1 b)).tdiv d)) (-100000) 100000
def sY (g : Nat → Nat → Int) (a b : Nat) (st d : Int) : Int := sLim (g 2 a + (if d = 0 then 0 else (st * (g 2 a - g 2 b)).tdiv d)) (-100000) 100000
def sH (g : Nat → Nat → Int) (a b : Nat) (st d : Int) : Int := sLim (g 3 a + (if d = 0 then 0 else (st * (g 3 a + g 3 b)).tdiv d)) 0 100000
def sSet (g : Nat → Nat → Int) (a : Nat) (x y h e : Int) : Nat → Nat → Int := gset (gset (gset (gset g 1 a x) 2 a y) 3 a h) 4 a e
def sUpd (g : Nat → Nat → Int) (a b : Nat) : Nat → Nat → Int := sSet g a (sX g a b (sStp g a b (sPrd g a b)) (sPrd g a b)) (sY g a b (sStp g a b (sPrd g a b)) (sPrd g a b)) (sH g a b (sStp g a b (sPrd g a b)) (sPrd g a b)) (sErr g a b (sPrd g a b))
def sRel (g : Nat → Nat → Int) (a b : Nat) : Int := (1000 * sAbs (sPrd g a b - g 6 (10 * a + b))).tdiv (g 6 (10 * a + b))
def gN (g : Nat → Nat → Int) : Nat := (g 0 0).toNat
/-- the ranges of the document; r bounds the round counter -/
def gB (g : Nat → Nat → Int) (r : Int) : Prop :=
  (2 ≤ g 0 0 ∧ g 0 0 ≤ 10 ∧ 0 ≤ g 0 1 ∧ g 0 1 ≤ r ∧ 1 ≤ g 0 2 ∧ g 0 2 ≤ 1000 ∧ 1 ≤ g 0 3 ∧ g 0 3 ≤ 1000 ∧ 1 ≤ g 0 4 ∧ g 0 4 ≤ 20000) ∧
  (∀ k, k < 10 → -100000 ≤ g 1 k ∧ g 1 k ≤ 100000 ∧ -100000 ≤ g 2 k ∧ g 2 k ≤ 100000 ∧ 0 ≤ g 3 k ∧ g 3 k ≤ 100000 ∧ 1 ≤ g 4 k ∧ g 4 k ≤ 1000 ∧ 0 ≤ g 5 k ∧ g 5 k ≤ 20000) ∧
  (∀ i j, i < 10 → j < 10 → 0 ≤ g 6 (10 * i + j) ∧ g 6 (10 * i + j) ≤ 20000 ∧ g 6 (10 * i + j) = g 6 (10 * j + i))
theorem gN_eq {g : Nat → Nat → Int} {r : Int} (h : gB g r) : g 0 0 = (gN g : Int) ∧ 2 ≤ gN g ∧ gN g ≤ 10 := by
  have := h.1
  unfold gN
  omega
section SB
variable {g : Nat → Nat → Int} {r : Int} {a b : Nat}
theorem sDst_bd (h : gB g r) (ha : a < 10) (hb : b < 10) : 0 ≤ sDst g a b ∧ sDst g a b ≤ 282842 := by
  have h1 := h.2.1 a ha
  have h2 := h.2.1 b hb
  have m1 := z_mul (a := g 1 a - g 1 b) (b := g 1 a - g 1 b) (A := 200000) (B := 200000) (by omega) (by omega)
  have m2 := z_mul (a := g 2 a - g 2 b) (b := g 2 a - g 2 b) (A := 200000) (B := 200000) (by omega) (by omega)
  have p1 : 0 ≤ (g 1 a - g 1 b) * (g 1 a - g 1 b) := by
    rcases Int.le_total 0 (g 1 a - g 1 b) with q | q
    · exact Int.mul_nonneg q q
    · exact Int.mul_nonneg_of_nonpos_of_nonpos q q
  have p2 : 0 ≤ (g 2 a - g 2 b) * (g 2 a - g 2 b) := by
    rcases Int.le_total 0 (g 2 a - g 2 b) with q | q
    · exact Int.mul_nonneg q q
    · exact Int.mul_nonneg_of_nonpos_of_nonpos q q
  unfold sDst
  exact sqr_le (by omega) (by omega) (by decide) (by omega)
theorem sPrd_bd (h : gB g r) (ha : a < 10) (hb : b < 10) : 0 ≤ sPrd g a b ∧ sPrd g a b ≤ 482842 := by
  have h1 := h.2.1 a ha
  have h2 := h.2.1 b hb
  have h3 := sDst_bd h ha hb
  unfold sPrd
  omega
theorem sSmp_bd (h : gB g r) (ha : a < 10) (hb : b < 10) : g 6 (10 * a + b) ≤ sSmp g a b ∧ sSmp g a b ≤ 40000 := by
  have h2 := h.2.1 b hb
  have h3 := h.2.2 a b ha hb
  unfold sSmp
  omega
theorem sWgt_bd (h : gB g r) (ha : a < 10) (hb : b < 10) : 0 ≤ sWgt g a b ∧ sWgt g a b ≤ 1000 := by
  have h1 := h.2.1 a ha
  have h2 := h.2.1 b hb
  exact z_tdiv0 (by omega) (by omega) (by omega)
theorem sVe_bd (h : gB g r) (ha : a < 10) (hb : b < 10) : 0 ≤ sVe g a b ∧ sVe g a b ≤ 1000 := by
  have h1 := h.1
  have h3 := z_mul0 (a := g 0 2) (b := sWgt g a b) (A := 1000) (B := 1000) (by omega) (sWgt_bd h ha hb)
  exact z_tdiv0 (by omega) (by omega) (by omega)
theorem sVm_bd (h : gB g r) (ha : a < 10) (hb : b < 10) : 0 ≤ sVm g a b ∧ sVm g a b ≤ 1000 := by
  have h1 := h.1
  have h3 := z_mul0 (a := g 0 3) (b := sWgt g a b) (A := 1000) (B := 1000) (by omega) (sWgt_bd h ha hb)
  exact z_tdiv0 (by omega) (by omega) (by omega)
theorem sAbs_bd {z A : Int} (h : -A ≤ z ∧ z ≤ A) : 0 ≤ sAbs z ∧ sAbs z ≤ A := by
  unfold sAbs
  split <;> omega
theorem sEs_bd {d : Int} (h : gB g r) (ha : a < 10) (hb : b < 10) (hk : 1 ≤ g 6 (10 * a + b)) (hd : 0 ≤ d ∧ d ≤ 482842) : 0 ≤ (1000 * sAbs (d - sSmp g a b)).tdiv (sSmp g a b) ∧ (1000 * sAbs (d - sSmp g a b)).tdiv (sSmp g a b) ≤ 482842000 ∧ 0 ≤ sEs g a b d ∧ sEs g a b d ≤ 1000 := by
  have h1 := sSmp_bd h ha hb
  have h2 := sAbs_bd (z := d - sSmp g a b) (A := 482842) (by omega)
  have h3 := z_tdivs (a := 1000 * sAbs (d - sSmp g a b)) (b := sSmp g a b) (by omega) (by omega)
  unfold sEs
  split <;> omega
theorem sErr_bd {d : Int} (h : gB g r) (ha : a < 10) (hb : b < 10) (hk : 1 ≤ g 6 (10 * a + b)) (hd : 0 ≤ d ∧ d ≤ 482842) : (0 ≤ sEs g a b d * sVe g a b ∧ sEs g a b d * sVe g a b ≤ 1000000) ∧ (0 ≤ g 4 a * (1000 - sVe g a b) ∧ g 4 a * (1000 - sVe g a b) ≤ 1000000) ∧ (0 ≤ (sEs g a b d * sVe g a b + g 4 a * (1000 - sVe g a b)).tdiv 1000 ∧ (sEs g a b d * sVe g a b + g 4 a * (1000 - sVe g a b)).tdiv 1000 ≤ 1000) ∧ 1 ≤ sErr g a b d ∧ sErr g a b d ≤ 1000 := by
  have h1 := h.2.1 a ha
  have hv := sVe_bd h ha hb
  have he := (sEs_bd h ha hb hk hd).2.2
  have m1 := z_mul0 (a := sEs g a b d) (b := sVe g a b) (A := 1000) (B := sVe g a b) he ⟨hv.1, Int.le_refl _⟩
  have m2 := z_mul0 (a := g 4 a) (b := 1000 - sVe g a b) (A := 1000) (B := 1000 - sVe g a b) (by omega) ⟨by omega, Int.le_refl _⟩
  have h4 := z_tdiv0 (a := sEs g a b d * sVe g a b + g 4 a * (1000 - sVe g a b)) (b := 1000) (c := 1000) (by omega) (by omega) (by omega)
  refine ⟨by omega, by omega, h4, ?_⟩
  unfold sErr
  split <;> omega
theorem sLim_bd {v lo hi : Int} (h : lo ≤ hi) : lo ≤ sLim v lo hi ∧ sLim v lo hi ≤ hi := by
  unfold sLim
  repeat' split
  all_goals omega
theorem sStp_bd {d : Int} (h : gB g r) (ha : a < 10) (hb : b < 10) (hd : 0 ≤ d ∧ d ≤ 482842) : (-482842000 ≤ (sSmp g a b - d) * sVm g a b ∧ (sSmp g a b - d) * sVm g a b ≤ 482842000) ∧ (-482842000 ≤ ((sSmp g a b - d) * sVm g a b).tdiv 1000 ∧ ((sSmp g a b - d) * sVm g a b).tdiv 1000 ≤ 482842000) ∧ -20000 ≤ sStp g a b d ∧ sStp g a b d ≤ 20000 := by
  have h1 := h.1
  have h2 := h.2.2 a b ha hb
  have h3 := sSmp_bd h ha hb
  have hv := sVm_bd h ha hb
  have m1 := z_mul (a := sSmp g a b - d) (b := sVm g a b) (A := 482842) (B := 1000) (by omega) (by omega)
  have m2 := z_tdiv (A := 482842000) (b := 1000) m1 (by omega)
  have m3 := sLim_bd (v := ((sSmp g a b - d) * sVm g a b).tdiv 1000) (lo := -(g 0 4)) (hi := g 0 4) (by omega)
  unfold sStp
  omega
theorem sRel_bd (h : gB g r) (ha : a < 10) (hb : b < 10) (hk : 1 ≤ g 6 (10 * a + b)) : 0 ≤ sRel g a b ∧ sRel g a b ≤ 482842000 := by
  have h1 := sPrd_bd h ha hb
  have h3 := h.2.2 a b ha hb
  have h2 := sAbs_bd (z := sPrd g a b - g 6 (10 * a + b)) (A := 482842) (by omega)
  have h3 := z_tdivs (a := 1000 * sAbs (sPrd g a b - g 6 (10 * a + b))) (b := g 6 (10 * a + b)) (by omega) (by omega)
  unfold sRel
  omega
end SB
end
section
/-! OWN ROWS: the methods that see no object -/
section ZF
variable {l : Launch} {y : MethodName} {ws ws' : List Cond} {rm : Room} {cc : ByteArray} {maxL : Nat} {ret : Option FieldType} {w : va_W} {av : List Value} {v : Option Value}
variable {dC : Nat → ClassId} {dI : Nat → Nat → Nat} {cI cZ cS : ClassId}
theorem rd_metF (hy : plainFor y = true) (hw : ws = Cond.code y cc maxL ret :: ws') (hlen : (lg_sl av).length ≤ maxL)
    (body : ∀ (p : Program) (e : Env) (s : State) (m : MethodId) (below : List Frame) (meth : Method) (c : Code) (ls : Array Slot), p.tables.exec = Jvm.exec → c.code = cc → c.maxLocals = maxL → meth.sig.returnType = ret → meth.locks = false → (∀ x ∈ ws, x.before av.toArray s = true) → s.vm.findClass y.cls = some m.cls → va_P (dC, dI) vwCl w s.heap → kK dC dI cI cZ cS s → lv_has ls maxL (lv_args 0 av) →
      W p l e rm s m av.toArray below meth c s.heap [] 0 0 (MQ below (rd_Qc v) av.toArray s 0 0 nf) (F0 m 0 ls [])) : Met l y ws rm (rd_Pc dC dI cI cZ cS w av) (rd_Qc v) 0 0 nf := by
  refine va_MetF (cc := cc) (maxL := maxL) (ret := ret) hy hw ?_
  intro p e s m args below meth c s₁ B hml hv
  obtain ⟨rfl, hP, hK⟩ := hv
  rw [lg_entry_eq]
  exact body p e s m below meth c _ B.exec B.bytes hml B.returns B.notSynchronized (atoms_spec (ws := ws) B.pre) (findClass_of_methodNamed B.named) hP hK (lv_entry av hlen)
end ZF
theorem zm_ite {x y u v : Int} (hx : -9223372036854775808 ≤ x ∧ x ≤ 9223372036854775807) (hy : -9223372036854775808 ≤ y ∧ y ≤ 9223372036854775807) : (if zL y < zL x then zL u else zL v) = zL (if y < x then u else v) := by
  by_cases q : y < x
  · rw [if_pos ((zL_lt hy hx).mpr q), if_pos q]
  · rw [if_neg (mt (zL_lt hy hx).mp q), if_neg q]
theorem zm_iteI {x y u v : Int} (hx : -2147483648 ≤ x ∧ x ≤ 2147483647) (hy : -2147483648 ≤ y ∧ y ≤ 2147483647) : (if zI x < zI y then zI u else zI v) = zI (if x < y then u else v) := by
  by_cases q : x < y
  · rw [if_pos ((zI_lt hx hy).mpr q), if_pos q]
  · rw [if_neg (mt (zI_lt hx hy).mp q), if_neg q]
theorem zm_abs {x : Int} (hx : -2147483648 ≤ x ∧ x ≤ 2147483647) : (if 0 ≤ zI x then zI x else 0 - zI x) = zI (sAbs x) := by
  unfold sAbs
  have e0 : (0 : Int32) = zI 0 := by decide
  rw [e0]
  by_cases q : x < 0
  · rw [if_neg (fun z => by have := (zI_le (a := 0) (b := x) (by omega) hx).mp z; omega), if_pos q]
    rw [zI_sub, Int.zero_sub]
  · rw [if_pos ((zI_le (a := 0) (b := x) (by omega) hx).mpr (by omega)), if_neg q]
theorem root_end {v lo hi : Int} (h0 : 0 ≤ v) (h1 : v < 160000800001) (p1 : 0 ≤ lo) (e : hi = lo) (p4 : lo * lo ≤ v) (p5 : v < (hi + 1) * (hi + 1)) : lo = sqr v := by
  obtain ⟨b1, b2, b3⟩ := sqr_spec h0 (by omega)
  subst e
  exact sq_one p1 p4 p5 b1 b2 b3
theorem z_shl1 : ∀ k : Nat, k < 19 → (zL 1) <<< ((zI (k : Int)).toInt64 &&& 63) = zL (2 ^ k) := by decide +kernel
theorem z_sq {x : Int} (h : -200000 ≤ x ∧ x ≤ 200000) : 0 ≤ x * x ∧ x * x ≤ 40000000000 := by
  have m1 := z_mul (a := x) (b := x) (A := 200000) (B := 200000) h h
  refine ⟨?_, m1.2⟩
  rcases Int.le_total 0 x with q | q
  · exact Int.mul_nonneg q q
  · exact Int.mul_nonneg_of_nonpos_of_nonpos q q
theorem z_xor {a b : Int} (ha : 0 ≤ a ∧ a ≤ 2147483647) (hb : 1 ≤ b ∧ b ≤ 2147483647) : (0 : Int32) ≤ zI a ^^^ zI b := by
  obtain ⟨i, rfl⟩ : ∃ i : Nat, a = (i : Int) := ⟨a.toNat, by omega⟩
  obtain ⟨j, rfl⟩ : ∃ j : Nat, b = (j : Int) := ⟨b.toNat, by omega⟩
  have hi : i < 2 ^ 31 := by omega
  have hj : j < 2 ^ 31 := by omega
  rw [zI_nat, zI_nat]
  have e : nI i ^^^ nI j = nI (i ^^^ j) := by
    unfold nI
    apply Int32.toBitVec.inj
    simp [Int32.toBitVec_xor]
  rw [e]
  exact nI_pos' (Nat.xor_lt_two_pow hi hj)
set_option maxHeartbeats 4000000 in
set_option maxRecDepth 100000 in
/-- isWithin: is v in lo .. hi -/
theorem c_X1_isWithin (l : Launch) (dC : Nat → ClassId) (dI : Nat → Nat → Nat) (cI cZ cS : ClassId) (v lo hi : Int) (hv : -2147483648 ≤ v ∧ v ≤ 2147483647) (hlo : -2147483648 ≤ lo ∧ lo ≤ 2147483647) (hhi : -2147483648 ≤ hi ∧ hi ≤ 2147483647) : Met l yX1_isWithin wsX1_isWithin ({ frames := 0, cells := 0, slots := 0, locals := 0 } : Room) (rd_Pc dC dI cI cZ cS ([]) [.int (zI v), .int (zI lo), .int (zI hi)]) (rd_Qc (some (.int (zI (if lo ≤ v ∧ v ≤ hi then 1 else 0))))) 0 0 nf := by
  refine rd_met (cc := cX1_isWithin) (maxL := 3) (ret := (some .boolean)) (by decide) rfl (Nat.le_of_ble_eq_true rfl) ?_
  intro p e s m below meth c ls hx hb hml hr hlocks hts hown hP hK hl
  have hl : lv_has ls 3 [(0, .int (zI v)), (1, .int (zI lo)), (2, .int (zI hi))] := hl
  refine lv_iload_n hx hb dX1_isWithin_0 rfl (lv_at hl 1 rfl) ?_
  refine lv_iload_n hx hb dX1_isWithin_1 rfl (lv_at hl 0 rfl) ?_
  refine zr_icmp_gt (tgt := 14) hx hb dX1_isWithin_2 (by decide) (by omega) (by omega) (fun c_2 => ?_) (fun c_2 => ?_)
  · refine zr_iconst hx hb dX1_isWithin_14 ?_
    exact rd_zret hx hb hr hlocks (if_neg (by omega)).symm (by omega) dX1_isWithin_15
  · refine lv_iload_n hx hb dX1_isWithin_5 rfl (lv_at hl 0 rfl) ?_
    refine lv_iload_n hx hb dX1_isWithin_6 rfl (lv_at hl 2 rfl) ?_
    refine zr_icmp_gt (tgt := 14) hx hb dX1_isWithin_7 (by decide) (by omega) (by omega) (fun c_7 => ?_) (fun c_7 => ?_)
    · refine zr_iconst hx hb dX1_isWithin_14 ?_
      exact rd_zret hx hb hr hlocks (if_neg (by omega)).symm (by omega) dX1_isWithin_15
    · refine zr_iconst hx hb dX1_isWithin_10 ?_
      refine lv_goto (tgt := 15) hx hb dX1_isWithin_11 (by decide) ?_
      exact rd_zret hx hb hr hlocks (if_pos (by omega)).symm (by omega) dX1_isWithin_15
set_option maxHeartbeats 4000000 in
set_option maxRecDepth 100000 in
/-- in: is v in lo .. hi -/
theorem c_X2_in (l : Launch) (dC : Nat → ClassId) (dI : Nat → Nat → Nat) (cI cZ cS : ClassId) (v lo hi : Int) (hv : -2147483648 ≤ v ∧ v ≤ 2147483647) (hlo : -2147483648 ≤ lo ∧ lo ≤ 2147483647) (hhi : -2147483648 ≤ hi ∧ hi ≤ 2147483647) : Met l yX2_in wsX2_in ({ frames := 0, cells := 0, slots := 0, locals := 0 } : Room) (rd_Pc dC dI cI cZ cS ([]) [.int (zI v), .int (zI lo), .int (zI hi)]) (rd_Qc (some (.int (zI (if lo ≤ v ∧ v ≤ hi then 1 else 0))))) 0 0 nf := by
  refine rd_met (cc := cX2_in) (maxL := 3) (ret := (some .boolean)) (by decide) rfl (Nat.le_of_ble_eq_true rfl) ?_
  intro p e s m below meth c ls hx hb hml hr hlocks hts hown hP hK hl
  have hl : lv_has ls 3 [(0, .int (zI v)), (1, .int (zI lo)), (2, .int (zI hi))] := hl
  refine lv_iload_n hx hb dX2_in_0 rfl (lv_at hl 0 rfl) ?_
  refine lv_iload_n hx hb dX2_in_1 rfl (lv_at hl 1 rfl) ?_
  refine zr_icmp_lt (tgt := 14) hx hb dX2_in_2 (by decide) (by omega) (by omega) (fun c_2 => ?_) (fun c_2 => ?_)
  · refine zr_iconst hx hb dX2_in_14 ?_
    exact rd_zret hx hb hr hlocks (if_neg (by omega)).symm (by omega) dX2_in_15
  · refine lv_iload_n hx hb dX2_in_5 rfl (lv_at hl 0 rfl) ?_
    refine lv_iload_n hx hb dX2_in_6 rfl (lv_at hl 2 rfl) ?_
    refine zr_icmp_gt (tgt := 14) hx hb dX2_in_7 (by decide) (by omega) (by omega) (fun c_7 => ?_) (fun c_7 => ?_)
    · refine zr_iconst hx hb dX2_in_14 ?_
      exact rd_zret hx hb hr hlocks (if_neg (by omega)).symm (by omega) dX2_in_15
    · refine zr_iconst hx hb dX2_in_10 ?_
      refine lv_goto (tgt := 15) hx hb dX2_in_11 (by decide) ?_
      exact rd_zret hx hb hr hlocks (if_pos (by omega)).symm (by omega) dX2_in_15
set_option maxHeartbeats 4000000 in
set_option maxRecDepth 100000 in
/-- quotient, for a divisor above 0 -/
theorem c_X1_quotient (l : Launch) (dC : Nat → ClassId) (dI : Nat → Nat → Nat) (cI cZ cS : ClassId) (a b : Int) (ha : -9223372036854775808 ≤ a ∧ a ≤ 9223372036854775807) (hb1 : 1 ≤ b ∧ b ≤ 9223372036854775807) : Met l yX1_quotient wsX1_quotient ({ frames := 0, cells := 0, slots := 0, locals := 0 } : Room) (rd_Pc dC dI cI cZ cS ([]) [.long (zL a), .long (zL b)]) (rd_Qc (some (.long (zL (a.tdiv b))))) 0 0 nf := by
  refine rd_met (cc := cX1_quotient) (maxL := 4) (ret := (some .long)) (by decide) rfl (Nat.le_of_ble_eq_true rfl) ?_
  intro p e s m below meth c ls hx hb hml hr hlocks hts hown hP hK hl
  have hl : lv_has ls 4 [(0, .long (zL a)), (2, .long (zL b))] := hl
  refine lv_lload_n hx hb dX1_quotient_0 rfl (lv_at hl 1 rfl) ?_
  refine zr_lconst hx hb 1 (by decide) dX1_quotient_1 ?_
  refine zr_lcmp_ge (tgt := 10) hx hb dX1_quotient_2 dX1_quotient_3 (by decide) (by omega) (by omega) (fun c_2 => ?_) (fun c_2 => absurd c_2 (by omega))
  refine lv_lload_n hx hb dX1_quotient_10 rfl (lv_at hl 0 rfl) ?_
  refine lv_lload_n hx hb dX1_quotient_11 rfl (lv_at hl 1 rfl) ?_
  refine zr_ldiv hx hb (by omega) (by omega) dX1_quotient_12 ?_
  exact rd_lret hx hb hr hlocks rfl dX1_quotient_13
set_option maxHeartbeats 4000000 in
set_option maxRecDepth 100000 in
/-- plain: the amount -/
theorem c_X2_plain (l : Launch) (dC : Nat → ClassId) (dI : Nat → Nat → Nat) (cI cZ cS : ClassId) (v : Int) (hv : -9223372036854775808 ≤ v ∧ v ≤ 9223372036854775807) : Met l yX2_plain wsX2_plain ({ frames := 0, cells := 0, slots := 0, locals := 0 } : Room) (rd_Pc dC dI cI cZ cS ([]) [.long (zL v)]) (rd_Qc (some (.long (zL (sAbs v))))) 0 0 nf := by
  refine rd_met (cc := cX2_plain) (maxL := 2) (ret := (some .long)) (by decide) rfl (Nat.le_of_ble_eq_true rfl) ?_
  intro p e s m below meth c ls hx hb hml hr hlocks hts hown hP hK hl
  have hl : lv_has ls 2 [(0, .long (zL v))] := hl
  refine lv_lload_n hx hb dX2_plain_0 rfl (lv_at hl 0 rfl) ?_
  refine zr_lconst hx hb 0 (by decide) dX2_plain_1 ?_
  refine zr_lcmp_ge (tgt := 11) hx hb dX2_plain_2 dX2_plain_3 (by decide) (by omega) (by omega) (fun c_2 => ?_) (fun c_2 => ?_)
  · refine lv_lload_n hx hb dX2_plain_11 rfl (lv_at hl 0 rfl) ?_
    exact rd_lret hx hb hr hlocks (if_neg (by omega)).symm dX2_plain_12
  · refine lv_lload_n hx hb dX2_plain_6 rfl (lv_at hl 0 rfl) ?_
    refine zr_lneg hx hb dX2_plain_7 ?_
    refine lv_goto (tgt := 12) hx hb dX2_plain_8 (by decide) ?_
    exact rd_lret hx hb hr hlocks (if_pos (by omega)).symm dX2_plain_12
set_option maxHeartbeats 4000000 in
set_option maxRecDepth 100000 in
/-- limited -/
theorem c_X2_limited (l : Launch) (dC : Nat → ClassId) (dI : Nat → Nat → Nat) (cI cZ cS : ClassId) (v lo hi : Int) (hv : -9223372036854775808 ≤ v ∧ v ≤ 9223372036854775807) (hlo : -2147483648 ≤ lo ∧ lo ≤ 2147483647) (hhi : -2147483648 ≤ hi ∧ hi ≤ 2147483647) : Met l yX2_limited wsX2_limited ({ frames := 0, cells := 0, slots := 0, locals := 0 } : Room) (rd_Pc dC dI cI cZ cS ([]) [.long (zL v), .int (zI lo), .int (zI hi)]) (rd_Qc (some (.int (zI (sLim v lo hi))))) 0 0 nf := by
  refine rd_met (cc := cX2_limited) (maxL := 4) (ret := (some .int)) (by decide) rfl (Nat.le_of_ble_eq_true rfl) ?_
  intro p e s m below meth c ls hx hb hml hr hlocks hts hown hP hK hl
  have hl : lv_has ls 4 [(0, .long (zL v)), (2, .int (zI lo)), (3, .int (zI hi))] := hl
  refine lv_lload_n hx hb dX2_limited_0 rfl (lv_at hl 0 rfl) ?_
  refine lv_iload_n hx hb dX2_limited_1 rfl (lv_at hl 1 rfl) ?_
  refine zr_i2l hx hb (by omega) dX2_limited_2 ?_
  refine zr_lcmp_ge (tgt := 12) hx hb dX2_limited_3 dX2_limited_4 (by decide) (by omega) (by omega) (fun c_3 => ?_) (fun c_3 => ?_)
  · refine lv_lload_n hx hb dX2_limited_12 rfl (lv_at hl 0 rfl) ?_
    refine lv_iload_n hx hb dX2_limited_13 rfl (lv_at hl 2 rfl) ?_
    refine zr_i2l hx hb (by omega) dX2_limited_14 ?_
    refine zr_lcmp_le (tgt := 24) hx hb dX2_limited_15 dX2_limited_16 (by decide) (by omega) (by omega) (fun c_15 => ?_) (fun c_15 => ?_)
    · refine lv_lload_n hx hb dX2_limited_24 rfl (lv_at hl 0 rfl) ?_
      refine zr_l2i hx hb dX2_limited_25 ?_
      exact rd_iret hx hb hr hlocks (by unfold sLim; rw [if_neg (by omega), if_neg (by omega)]) dX2_limited_26
    · refine lv_iload_n hx hb dX2_limited_19 rfl (lv_at hl 2 rfl) ?_
      refine zr_i2l hx hb (by omega) dX2_limited_20 ?_
      refine lv_goto (tgt := 25) hx hb dX2_limited_21 (by decide) ?_
      refine zr_l2i hx hb dX2_limited_25 ?_
      exact rd_iret hx hb hr hlocks (by unfold sLim; rw [if_neg (by omega), if_pos (by omega)]) dX2_limited_26
  · refine lv_iload_n hx hb dX2_limited_7 rfl (lv_at hl 1 rfl) ?_
    refine zr_i2l hx hb (by omega) dX2_limited_8 ?_
    refine lv_goto (tgt := 25) hx hb dX2_limited_9 (by decide) ?_
    refine zr_l2i hx hb dX2_limited_25 ?_
    exact rd_iret hx hb hr hlocks (by unfold sLim; rw [if_pos (by omega)]) dX2_limited_26
set_option maxHeartbeats 4000000 in
set_option maxRecDepth 100000 in
/-- limited -/
theorem c_X1_limited (l : Launch) (dC : Nat → ClassId) (dI : Nat → Nat → Nat) (cI cZ cS : ClassId) (v lo hi : Int) (hlh : lo ≤ hi) (hv : -9223372036854775808 ≤ v ∧ v ≤ 9223372036854775807) (hlo : -2147483648 ≤ lo ∧ lo ≤ 2147483647) (hhi : -2147483648 ≤ hi ∧ hi ≤ 2147483647) : Met l yX1_limited wsX1_limited ({ frames := 1, cells := 0, slots := 0, locals := 40 } : Room) (rd_Pc dC dI cI cZ cS ([]) [.long (zL v), .int (zI lo), .int (zI hi)]) (rd_Qc (some (.int (zI (sLim v lo hi))))) 0 0 nf := by
  refine rd_met (cc := cX1_limited) (maxL := 4) (ret := (some .int)) (by decide) rfl (Nat.le_of_ble_eq_true rfl) ?_
  intro p e s m below meth c ls hx hb hml hr hlocks hts hown hP hK hl
  have hl : lv_has ls 4 [(0, .long (zL v)), (2, .int (zI lo)), (3, .int (zI hi))] := hl
  refine lv_iload_n hx hb dX1_limited_0 rfl (lv_at hl 1 rfl) ?_
  refine zr_i2l hx hb (by omega) dX1_limited_1 ?_
  refine lv_iload_n hx hb dX1_limited_2 rfl (lv_at hl 2 rfl) ?_
  refine zr_i2l hx hb (by omega) dX1_limited_3 ?_
  refine lv_lload_n hx hb dX1_limited_4 rfl (lv_at hl 0 rfl) ?_
  refine va_mmin_long hx hb (hml.trans hl.1.symm) hown (hts (.methodLink RX1 144 Lib.MathLoose.min_long.x) (by decide +kernel)) (hts (.static Lib.MathLoose.min_long.x) (by decide +kernel)) (hts (.initialized "java/lang/Math") (by decide +kernel)) (hts (.code Lib.MathLoose.min_long.x Lib.MathLoose.min_long.code 4 (some .long)) (by decide +kernel)) (Nat.le_of_ble_eq_true rfl) (Nat.le_of_ble_eq_true rfl) (Nat.zero_le _) (Nat.zero_le _) dX1_limited_5 ?_
  rw [zm_ite (by omega) (by omega)]
  refine va_mmax_long hx hb (hml.trans hl.1.symm) hown (hts (.methodLink RX1 147 Lib.MathLoose.max_long.x) (by decide +kernel)) (hts (.static Lib.MathLoose.max_long.x) (by decide +kernel)) (hts (.initialized "java/lang/Math") (by decide +kernel)) (hts (.code Lib.MathLoose.max_long.x Lib.MathLoose.max_long.code 4 (some .long)) (by decide +kernel)) (Nat.le_of_ble_eq_true rfl) (Nat.le_of_ble_eq_true rfl) (Nat.zero_le _) (Nat.zero_le _) dX1_limited_8 ?_
  rw [zm_ite (by omega) (by split <;> omega)]
  refine zr_l2i hx hb dX1_limited_11 ?_
  exact rd_iret hx hb hr hlocks (by unfold sLim; split <;> split <;> first | omega | (split <;> omega)) dX1_limited_12
set_option maxHeartbeats 4000000 in
set_option maxRecDepth 100000 in
/-- share -/
theorem c_X1_share (l : Launch) (dC : Nat → ClassId) (dI : Nat → Nat → Nat) (cI cZ cS : ClassId) (st q d : Int) (hst : -20000 ≤ st ∧ st ≤ 20000) (hq : -200000 ≤ q ∧ q ≤ 200000) (hd : 0 ≤ d ∧ d ≤ 2147483647) : Met l yX1_share wsX1_share ({ frames := 1, cells := 0, slots := 0, locals := 23 } : Room) (rd_Pc dC dI cI cZ cS ([]) [.int (zI st), .int (zI q), .int (zI d)]) (rd_Qc (some (.long (zL (if d = 0 then 0 else (st * q).tdiv d))))) 0 0 nf := by
  refine rd_met (cc := cX1_share) (maxL := 3) (ret := (some .long)) (by decide) rfl (Nat.le_of_ble_eq_true rfl) ?_
  intro p e s m below meth c ls hx hb hml hr hlocks hts hown hP hK hl
  have hl : lv_has ls 3 [(0, .int (zI st)), (1, .int (zI q)), (2, .int (zI d))] := hl
  have hm := z_mul (a := st) (b := q) (A := 20000) (B := 200000) hst hq
  refine lv_iload_n hx hb dX1_share_0 rfl (lv_at hl 2 rfl) ?_
  refine zr_if_ne (tgt := 8) hx hb dX1_share_1 (by decide) (by omega) (fun c_1 => ?_) (fun c_1 => ?_)
  · refine lv_iload_n hx hb dX1_share_8 rfl (lv_at hl 0 rfl) ?_
    refine zr_i2l hx hb (by omega) dX1_share_9 ?_
    refine lv_iload_n hx hb dX1_share_10 rfl (lv_at hl 1 rfl) ?_
    refine zr_i2l hx hb (by omega) dX1_share_11 ?_
    refine zr_lmul hx hb dX1_share_12 ?_
    refine lv_iload_n hx hb dX1_share_13 rfl (lv_at hl 2 rfl) ?_
    refine zr_i2l hx hb (by omega) dX1_share_14 ?_
    refine rd_callS (As := [.long (zL (st * q)), .long (zL d)]) (rest := []) ⟨hx, hb, hml, hown, hts⟩ (c_X1_quotient l dC dI cI cZ cS (st * q) d (by omega) (by omega)) (va_cwS 2 hts gX1_share_X1_quotient rfl rfl rfl (by decide +kernel) ⟨Nat.le_of_ble_eq_true rfl, Nat.le_of_ble_eq_true rfl⟩) va_P_nil hK rfl hl.1 rfl (Nat.le_of_ble_eq_true rfl) dX1_share_15 ⟨Nat.zero_le _, Nat.zero_le _⟩ ?_
    exact rd_lret hx hb hr hlocks (if_neg (by omega)).symm dX1_share_18
  · refine zr_lconst hx hb 0 (by decide) dX1_share_4 ?_
    refine lv_goto (tgt := 18) hx hb dX1_share_5 (by decide) ?_
    exact rd_lret hx hb hr hlocks (if_pos (by omega)).symm dX1_share_18
set_option maxHeartbeats 4000000 in
set_option maxRecDepth 100000 in
/-- squareRoot -/
theorem c_X1_squareRoot (l : Launch) (dC : Nat → ClassId) (dI : Nat → Nat → Nat) (cI cZ cS : ClassId) (v : Int) (h0 : 0 ≤ v) (h1 : v < 274877906944) : Met l yX1_squareRoot wsX1_squareRoot ({ frames := 0, cells := 0, slots := 0, locals := 0 } : Room) (rd_Pc dC dI cI cZ cS ([]) [.long (zL v)]) (rd_Qc (some (.int (zI (sqr v))))) 0 0 nf := by
  refine rd_met (cc := cX1_squareRoot) (maxL := 7) (ret := (some .int)) (by decide) rfl (Nat.le_of_ble_eq_true rfl) ?_
  intro p e s m below meth c ls hx hb hml hr hlocks hts hown hP hK hl
  have hl : lv_has ls 7 [(0, .long (zL v))] := hl
  refine zr_lconst hx hb 0 (by decide) dX1_squareRoot_0 ?_
  refine lv_lstore_n (lv' := [(2, .long (zL 0)), (0, .long (zL v))]) hx hb dX1_squareRoot_1 rfl hl (by decide) rfl (fun ls hl => ?_)
  refine zr_bipush hx hb dX1_squareRoot_2 (by decide) ?_
  refine lv_istore (lv' := [(4, .int (zI 18)), (2, .long (zL 0)), (0, .long (zL v))]) hx hb dX1_squareRoot_4 hl (by decide) rfl (fun ls hl => ?_)
  have loop : ∀ (k : Nat), ∀ (R : Int), sqB v k R = sqr v → 0 ≤ R → R + 2 ^ k ≤ 524288 → k ≤ 19 → ∀ ls : Array Slot, lv_has ls 7 [(4, .int (zI ((k : Int) - 1))), (2, .long (zL R)), (0, .long (zL v))] → W p l e ({ frames := 0, cells := 0, slots := 0, locals := 0 } : Room) s m [.long (zL v)].toArray below meth c s.heap [] 0 0 (MQ below (rd_Qc (some (.int (zI (sqr v))))) [.long (zL v)].toArray s 0 0 nf) (F0 m 6 ls []) := by
    intro k
    induction k with
    | zero =>
      intro R hR hR0 hR1 hk ls hl
      refine lv_iload hx hb dX1_squareRoot_6 (lv_at hl 0 rfl) ?_
      refine zr_if_lt (tgt := 38) hx hb dX1_squareRoot_8 (by decide) (by omega) (fun c_8 => ?_) (fun c_8 => absurd c_8 (by omega))
      refine lv_lload_n hx hb dX1_squareRoot_38 rfl (lv_at hl 1 rfl) ?_
      refine zr_l2i hx hb dX1_squareRoot_39 ?_
      exact rd_iret hx hb hr hlocks hR dX1_squareRoot_40
    | succ k ih_loop =>
      intro R hR hR0 hR1 hk ls hl
      have hl : lv_has ls 7 [(4, .int (zI (k : Int))), (2, .long (zL R)), (0, .long (zL v))] := by rw [show ((k + 1 : Nat) : Int) - 1 = (k : Int) by omega] at hl; exact hl
      have hp : (0 : Int) < 2 ^ k := Int.pow_pos (by decide)
      have he : (2 : Int) ^ (k + 1) = 2 ^ k * 2 := Int.pow_succ 2 k
      have m1 := z_mul0 (a := R + 2 ^ k) (b := R + 2 ^ k) (A := 524288) (B := 524288) (by omega) (by omega)
      refine lv_iload hx hb dX1_squareRoot_6 (lv_at hl 0 rfl) ?_
      refine zr_if_lt (tgt := 38) hx hb dX1_squareRoot_8 (by decide) (by omega) (fun c_8 => absurd c_8 (by omega)) (fun c_8 => ?_)
      refine lv_lload_n hx hb dX1_squareRoot_11 rfl (lv_at hl 1 rfl) ?_
      refine zr_lconst hx hb 1 (by decide) dX1_squareRoot_12 ?_
      refine lv_iload hx hb dX1_squareRoot_13 (lv_at hl 0 rfl) ?_
      refine lv_lshl (v := zL (2 ^ k)) hx hb dX1_squareRoot_15 (z_shl1 k (by omega)) ?_
      refine zr_ladd hx hb dX1_squareRoot_16 ?_
      refine lv_lstore (lv' := [(5, .long (zL (R + 2 ^ k))), (4, .int (zI (k : Int))), (2, .long (zL R)), (0, .long (zL v))]) hx hb dX1_squareRoot_17 hl (by decide) rfl (fun ls hl => ?_)
      refine lv_lload hx hb dX1_squareRoot_19 (lv_at hl 0 rfl) ?_
      refine lv_lload hx hb dX1_squareRoot_21 (lv_at hl 0 rfl) ?_
      refine zr_lmul hx hb dX1_squareRoot_23 ?_
      refine lv_lload_n hx hb dX1_squareRoot_24 rfl (lv_at hl 3 rfl) ?_
      refine zr_lcmp_gt (tgt := 32) hx hb dX1_squareRoot_25 dX1_squareRoot_26 (by decide) (by omega) (by omega) (fun c_25 => ?_) (fun c_25 => ?_)
      · refine zr_iinc (b := ((k : Int) - 1)) (lv' := [(4, .int (zI ((k : Int) - 1))), (5, .long (zL (R + 2 ^ k))), (2, .long (zL R)), (0, .long (zL v))]) hx hb dX1_squareRoot_32 hl (k := 1) rfl (by omega) (by decide) rfl (fun ls hl => ?_)
        refine lv_goto (tgt := 6) hx hb dX1_squareRoot_35 (by decide) ?_
        exact ih_loop R (by rw [← hR]; show _ = sqB v k (if (R + 2 ^ k) * (R + 2 ^ k) ≤ v then R + 2 ^ k else R); rw [if_neg (by omega)]) (by omega) (by omega) (by omega) ls (lv_sub hl [0, 2, 3] rfl)
      · refine lv_lload hx hb dX1_squareRoot_29 (lv_at hl 0 rfl) ?_
        refine lv_lstore_n (lv' := [(2, .long (zL (R + 2 ^ k))), (5, .long (zL (R + 2 ^ k))), (4, .int (zI (k : Int))), (0, .long (zL v))]) hx hb dX1_squareRoot_31 rfl hl (by decide) rfl (fun ls hl => ?_)
        refine zr_iinc (b := ((k : Int) - 1)) (lv' := [(4, .int (zI ((k : Int) - 1))), (2, .long (zL (R + 2 ^ k))), (5, .long (zL (R + 2 ^ k))), (0, .long (zL v))]) hx hb dX1_squareRoot_32 hl (k := 2) rfl (by omega) (by decide) rfl (fun ls hl => ?_)
        refine lv_goto (tgt := 6) hx hb dX1_squareRoot_35 (by decide) ?_
        exact ih_loop (R + 2 ^ k) (by rw [← hR]; show _ = sqB v k (if (R + 2 ^ k) * (R + 2 ^ k) ≤ v then R + 2 ^ k else R); rw [if_pos (by omega)]) (by omega) (by omega) (by omega) ls (lv_sub hl [0, 1, 3] rfl)
  exact loop 19 0 rfl (by decide) (by decide) (by decide) ls (lv_sub hl [0, 1, 2] rfl)
set_option maxHeartbeats 4000000 in
set_option maxRecDepth 100000 in
/-- planarDistance -/
theorem c_X1_planarDistance (l : Launch) (dC : Nat → ClassId) (dI : Nat → Nat → Nat) (cI cZ cS : ClassId) (dx dy : Int) (hx1 : -200000 ≤ dx ∧ dx ≤ 200000) (hy1 : -200000 ≤ dy ∧ dy ≤ 200000) : Met l yX1_planarDistance wsX1_planarDistance ({ frames := 1, cells := 0, slots := 0, locals := 26 } : Room) (rd_Pc dC dI cI cZ cS ([]) [.long (zL dx), .long (zL dy)]) (rd_Qc (some (.int (zI (sqr (dx * dx + dy * dy)))))) 0 0 nf := by
  refine rd_met (cc := cX1_planarDistance) (maxL := 4) (ret := (some .int)) (by decide) rfl (Nat.le_of_ble_eq_true rfl) ?_
  intro p e s m below meth c ls hx hb hml hr hlocks hts hown hP hK hl
  have hl : lv_has ls 4 [(0, .long (zL dx)), (2, .long (zL dy))] := hl
  have m1 := z_sq hx1
  have m2 := z_sq hy1
  refine lv_lload_n hx hb dX1_planarDistance_0 rfl (lv_at hl 0 rfl) ?_
  refine lv_lload_n hx hb dX1_planarDistance_1 rfl (lv_at hl 0 rfl) ?_
  refine zr_lmul hx hb dX1_planarDistance_2 ?_
  refine lv_lload_n hx hb dX1_planarDistance_3 rfl (lv_at hl 1 rfl) ?_
  refine lv_lload_n hx hb dX1_planarDistance_4 rfl (lv_at hl 1 rfl) ?_
  refine zr_lmul hx hb dX1_planarDistance_5 ?_
  refine zr_ladd hx hb dX1_planarDistance_6 ?_
  refine rd_callS (As := [.long (zL ((dx * dx) + (dy * dy)))]) (rest := []) ⟨hx, hb, hml, hown, hts⟩ (c_X1_squareRoot l dC dI cI cZ cS ((dx * dx) + (dy * dy)) (by omega) (by omega)) (va_cwS 1 hts gX1_planarDistance_X1_squareRoot rfl rfl rfl (by decide +kernel) ⟨Nat.le_of_ble_eq_true rfl, Nat.le_of_ble_eq_true rfl⟩) va_P_nil hK rfl hl.1 rfl (Nat.le_of_ble_eq_true rfl) dX1_planarDistance_7 ⟨Nat.zero_le _, Nat.zero_le _⟩ ?_
  exact rd_iret hx hb hr hlocks rfl dX1_planarDistance_10
set_option maxHeartbeats 4000000 in
set_option maxRecDepth 100000 in
/-- root -/
theorem c_X2_root (l : Launch) (dC : Nat → ClassId) (dI : Nat → Nat → Nat) (cI cZ cS : ClassId) (v : Int) (h0 : 0 ≤ v) (h1 : v < 160000800001) : Met l yX2_root wsX2_root ({ frames := 0, cells := 0, slots := 0, locals := 0 } : Room) (rd_Pc dC dI cI cZ cS ([]) [.long (zL v)]) (rd_Qc (some (.long (zL (sqr v))))) 0 0 nf := by
  refine rd_met (cc := cX2_root) (maxL := 8) (ret := (some .long)) (by decide) rfl (Nat.le_of_ble_eq_true rfl) ?_
  intro p e s m below meth c ls hx hb hml hr hlocks hts hown hP hK hl
  have hl : lv_has ls 8 [(0, .long (zL v))] := hl
  have k_31 := hts (.constantLong RX2 31 (400000)) (by decide +kernel)
  have k_33 := hts (.constantLong RX2 33 (2)) (by decide +kernel)
  refine zr_lconst hx hb 0 (by decide) dX2_root_0 ?_
  refine lv_lstore_n (lv' := [(2, .long (zL 0)), (0, .long (zL v))]) hx hb dX2_root_1 rfl hl (by decide) rfl (fun ls hl => ?_)
  refine zr_ldc2 hx hb (400000) hown k_31 (by decide) dX2_root_2 ?_
  refine lv_lstore (lv' := [(4, .long (zL 400000)), (2, .long (zL 0)), (0, .long (zL v))]) hx hb dX2_root_5 hl (by decide) rfl (fun ls hl => ?_)
  have loop : ∀ (k : Nat), ∀ (lo hi : Int), hi - lo ≤ k → 0 ≤ lo → lo ≤ hi → hi ≤ 400000 → lo * lo ≤ v → v < (hi + 1) * (hi + 1) → ∀ ls : Array Slot, lv_has ls 8 [(4, .long (zL hi)), (2, .long (zL lo)), (0, .long (zL v))] → W p l e ({ frames := 0, cells := 0, slots := 0, locals := 0 } : Room) s m [.long (zL v)].toArray below meth c s.heap [] 0 0 (MQ below (rd_Qc (some (.long (zL (sqr v))))) [.long (zL v)].toArray s 0 0 nf) (F0 m 7 ls []) := by
    intro k
    induction k with
    | zero =>
      intro lo hi p0 p1 p2 p3 p4 p5 ls hl
      refine lv_lload_n hx hb dX2_root_7 rfl (lv_at hl 1 rfl) ?_
      refine lv_lload hx hb dX2_root_8 (lv_at hl 0 rfl) ?_
      refine zr_lcmp_ge (tgt := 51) hx hb dX2_root_10 dX2_root_11 (by decide) (by omega) (by omega) (fun c_10 => ?_) (fun c_10 => absurd c_10 (by omega))
      refine lv_lload_n hx hb dX2_root_51 rfl (lv_at hl 1 rfl) ?_
      exact rd_lret hx hb hr hlocks (root_end h0 h1 p1 (by omega) p4 p5) dX2_root_52
    | succ k ih_loop =>
      intro lo hi p0 p1 p2 p3 p4 p5 ls hl
      refine lv_lload_n hx hb dX2_root_7 rfl (lv_at hl 1 rfl) ?_
      refine lv_lload hx hb dX2_root_8 (lv_at hl 0 rfl) ?_
      refine zr_lcmp_ge (tgt := 51) hx hb dX2_root_10 dX2_root_11 (by decide) (by omega) (by omega) (fun c_10 => ?_) (fun c_10 => ?_)
      · refine lv_lload_n hx hb dX2_root_51 rfl (lv_at hl 1 rfl) ?_
        exact rd_lret hx hb hr hlocks (root_end h0 h1 p1 (by omega) p4 p5) dX2_root_52
      · refine lv_lload_n hx hb dX2_root_14 rfl (lv_at hl 1 rfl) ?_
        refine lv_lload hx hb dX2_root_15 (lv_at hl 0 rfl) ?_
        refine zr_ladd hx hb dX2_root_17 ?_
        refine zr_lconst hx hb 1 (by decide) dX2_root_18 ?_
        refine zr_ladd hx hb dX2_root_19 ?_
        refine zr_ldc2 hx hb (2) hown k_33 (by decide) dX2_root_20 ?_
        obtain ⟨mid, hmid⟩ : ∃ y : Int, y = (lo + hi + 1).tdiv 2 := ⟨_, rfl⟩
        have hmd : mid = (lo + hi + 1) / 2 := by rw [hmid, Int.tdiv_eq_ediv_of_nonneg (by omega)]
        have m1 := z_mul0 (a := mid) (b := mid) (A := 400000) (B := 400000) (by omega) (by omega)
        refine zr_ldiv hx hb (by omega) (by omega) dX2_root_23 ?_
        refine zr_topL mid hmid.symm ?_
        refine lv_lstore (lv' := [(6, .long (zL mid)), (4, .long (zL hi)), (2, .long (zL lo)), (0, .long (zL v))]) hx hb dX2_root_24 hl (by decide) rfl (fun ls hl => ?_)
        refine lv_lload hx hb dX2_root_26 (lv_at hl 0 rfl) ?_
        refine lv_lload hx hb dX2_root_28 (lv_at hl 0 rfl) ?_
        refine zr_lmul hx hb dX2_root_30 ?_
        refine lv_lload_n hx hb dX2_root_31 rfl (lv_at hl 3 rfl) ?_
        refine zr_lcmp_gt (tgt := 42) hx hb dX2_root_32 dX2_root_33 (by decide) (by omega) (by omega) (fun c_32 => ?_) (fun c_32 => ?_)
        · refine lv_lload hx hb dX2_root_42 (lv_at hl 0 rfl) ?_
          refine zr_lconst hx hb 1 (by decide) dX2_root_44 ?_
          refine zr_lsub hx hb dX2_root_45 ?_
          refine lv_lstore (lv' := [(4, .long (zL (mid - 1))), (6, .long (zL mid)), (2, .long (zL lo)), (0, .long (zL v))]) hx hb dX2_root_46 hl (by decide) rfl (fun ls hl => ?_)
          refine lv_goto (tgt := 7) hx hb dX2_root_48 (by decide) ?_
          exact ih_loop lo (mid - 1) (by omega) p1 (by omega) (by omega) p4 (by rw [show mid - 1 + 1 = mid by omega]; omega) ls (lv_sub hl [0, 2, 3] rfl)
        · refine lv_lload hx hb dX2_root_36 (lv_at hl 0 rfl) ?_
          refine lv_lstore_n (lv' := [(2, .long (zL mid)), (6, .long (zL mid)), (4, .long (zL hi)), (0, .long (zL v))]) hx hb dX2_root_38 rfl hl (by decide) rfl (fun ls hl => ?_)
          refine lv_goto (tgt := 48) hx hb dX2_root_39 (by decide) ?_
          refine lv_goto (tgt := 7) hx hb dX2_root_48 (by decide) ?_
          exact ih_loop mid hi (by omega) (by omega) (by omega) (by omega) (by omega) p5 ls (lv_sub hl [2, 0, 3] rfl)
  exact loop 400000 0 400000 (by omega) (by omega) (by omega) (by omega) (by omega) (by omega) ls (lv_sub hl [0, 1, 2] rfl)
set_option maxHeartbeats 4000000 in
set_option maxRecDepth 100000 in
/-- planar -/
theorem c_X2_planar (l : Launch) (dC : Nat → ClassId) (dI : Nat → Nat → Nat) (cI cZ cS : ClassId) (dx dy : Int) (hx1 : -200000 ≤ dx ∧ dx ≤ 200000) (hy1 : -200000 ≤ dy ∧ dy ≤ 200000) : Met l yX2_planar wsX2_planar ({ frames := 1, cells := 0, slots := 0, locals := 27 } : Room) (rd_Pc dC dI cI cZ cS ([]) [.long (zL dx), .long (zL dy)]) (rd_Qc (some (.int (zI (sqr (dx * dx + dy * dy)))))) 0 0 nf := by
  refine rd_met (cc := cX2_planar) (maxL := 4) (ret := (some .int)) (by decide) rfl (Nat.le_of_ble_eq_true rfl) ?_
  intro p e s m below meth c ls hx hb hml hr hlocks hts hown hP hK hl
  have hl : lv_has ls 4 [(0, .long (zL dx)), (2, .long (zL dy))] := hl
  have m1 := z_sq hx1
  have m2 := z_sq hy1
  refine lv_lload_n hx hb dX2_planar_0 rfl (lv_at hl 0 rfl) ?_
  refine lv_lload_n hx hb dX2_planar_1 rfl (lv_at hl 0 rfl) ?_
  refine zr_lmul hx hb dX2_planar_2 ?_
  refine lv_lload_n hx hb dX2_planar_3 rfl (lv_at hl 1 rfl) ?_
  refine lv_lload_n hx hb dX2_planar_4 rfl (lv_at hl 1 rfl) ?_
  refine zr_lmul hx hb dX2_planar_5 ?_
  refine zr_ladd hx hb dX2_planar_6 ?_
  refine rd_callS (As := [.long (zL ((dx * dx) + (dy * dy)))]) (rest := []) ⟨hx, hb, hml, hown, hts⟩ (c_X2_root l dC dI cI cZ cS ((dx * dx) + (dy * dy)) (by omega) (by omega)) (va_cwS 1 hts gX2_planar_X2_root rfl rfl rfl (by decide +kernel) ⟨Nat.le_of_ble_eq_true rfl, Nat.le_of_ble_eq_true rfl⟩) va_P_nil hK rfl hl.1 rfl (Nat.le_of_ble_eq_true rfl) dX2_planar_7 ⟨Nat.zero_le _, Nat.zero_le _⟩ ?_
  refine zr_l2i hx hb dX2_planar_10 ?_
  exact rd_iret hx hb hr hlocks rfl dX2_planar_11
set_option maxHeartbeats 4000000 in
set_option maxRecDepth 100000 in
/-- cell -/
theorem c_X2_cell (l : Launch) (dC : Nat → ClassId) (dI : Nat → Nat → Nat) (cI cZ cS : ClassId) (a b : Nat) : Met l yX2_cell wsX2_cell ({ frames := 0, cells := 0, slots := 0, locals := 0 } : Room) (rd_Pc dC dI cI cZ cS ([]) [.int (zI (a : Int)), .int (zI (b : Int))]) (rd_Qc (some (.int (zI ((55 + (10 * a + b) : Nat) : Int))))) 0 0 nf := by
  refine rd_met (cc := cX2_cell) (maxL := 2) (ret := (some .int)) (by decide) rfl (Nat.le_of_ble_eq_true rfl) ?_
  intro p e s m below meth c ls hx hb hml hr hlocks hts hown hP hK hl
  have hl : lv_has ls 2 [(0, .int (zI (a : Int))), (1, .int (zI (b : Int)))] := hl
  refine zr_bipush hx hb dX2_cell_0 (by decide) ?_
  refine zr_bipush hx hb dX2_cell_2 (by decide) ?_
  refine lv_iload_n hx hb dX2_cell_4 rfl (lv_at hl 0 rfl) ?_
  refine zr_imul hx hb dX2_cell_5 ?_
  refine zr_iadd hx hb dX2_cell_6 ?_
  refine lv_iload_n hx hb dX2_cell_7 rfl (lv_at hl 1 rfl) ?_
  refine zr_iadd hx hb dX2_cell_8 ?_
  exact rd_iret hx hb hr hlocks (by omega) dX2_cell_9
set_option maxHeartbeats 4000000 in
set_option maxRecDepth 100000 in
/-- Math.floorMod of a number not below 0 -/
theorem c_J9_floorMod_7cf53 (l : Launch) (dC : Nat → ClassId) (dI : Nat → Nat → Nat) (cI cZ cS : ClassId) (a b : Int) (ha : 0 ≤ a ∧ a ≤ 2147483647) (hb1 : 1 ≤ b ∧ b ≤ 2147483647) : Met l yJ9_floorMod_7cf53 wsJ9_floorMod_7cf53 ({ frames := 0, cells := 0, slots := 0, locals := 0 } : Room) (rd_Pc dC dI cI cZ cS ([]) [.int (zI a), .int (zI b)]) (rd_Qc (some (.int (zI (a % b))))) 0 0 nf := by
  refine rd_metF (cc := cJ9_floorMod_7cf53) (maxL := 3) (ret := (some .int)) (by decide +kernel) rfl (Nat.le_of_ble_eq_true rfl) ?_
  intro p e s m below meth c ls hx hb hml hr hlocks hts hown hP hK hl
  have hl : lv_has ls 3 [(0, .int (zI a)), (1, .int (zI b))] := hl
  refine lv_iload_n hx hb dJ9_floorMod_7cf53_0 rfl (lv_at hl 0 rfl) ?_
  refine lv_iload_n hx hb dJ9_floorMod_7cf53_1 rfl (lv_at hl 1 rfl) ?_
  refine zr_irem hx hb (by omega) (by omega) dJ9_floorMod_7cf53_2 ?_
  refine lv_istore_n (lv' := [(2, .int (zI (a % b))), (0, .int (zI a)), (1, .int (zI b))]) hx hb dJ9_floorMod_7cf53_3 rfl hl (by decide) rfl (fun ls hl => ?_)
  refine lv_iload_n hx hb dJ9_floorMod_7cf53_4 rfl (lv_at hl 1 rfl) ?_
  refine lv_iload_n hx hb dJ9_floorMod_7cf53_5 rfl (lv_at hl 2 rfl) ?_
  refine lv_ixor hx hb dJ9_floorMod_7cf53_6 ?_
  refine lv_if_ge (tgt := 18) hx hb dJ9_floorMod_7cf53_7 (by decide) (fun c_7 => ?_) (fun c_7 => absurd (z_xor ha hb1) c_7)
  refine lv_iload_n hx hb dJ9_floorMod_7cf53_18 rfl (lv_at hl 0 rfl) ?_
  exact rd_iret hx hb hr hlocks rfl dJ9_floorMod_7cf53_19
end
section
/-! OWN ROWS: sums, ranks, triangles, rounds -/
def sm : Nat → (Nat → Int) → Int
  | 0, _ => 0
  | k + 1, f => sm k f + f k
theorem sm_succ (k : Nat) (f : Nat → Int) : sm (k + 1) f = sm k f + f k := rfl
theorem sm_0 (f : Nat → Int) : sm 0 f = 0 := rfl
theorem sm_congr {n : Nat} {f f2 : Nat → Int} (h : ∀ i, i < n → f i = f2 i) : sm n f = sm n f2 := by
  induction n with
  | zero => rfl
  | succ n ih => rw [sm_succ, sm_succ, ih (fun i hi => h i (by omega)), h n (by omega)]
theorem sm_zero {n : Nat} {f : Nat → Int} (h : ∀ i, i < n → f i = 0) : sm n f = 0 := by
  induction n with
  | zero => rfl
  | succ n ih => rw [sm_succ, ih (fun i hi => h i (by omega)), h n (by omega)]; rfl
theorem sm_bd {n : Nat} {f : Nat → Int} {c : Int} (h : ∀ i, i < n → 0 ≤ f i ∧ f i ≤ c) : 0 ≤ sm n f ∧ sm n f ≤ n * c := by
  induction n with
  | zero => rw [sm_0]; omega
  | succ n ih =>
    have h1 := ih (fun i hi => h i (by omega))
    have h2 := h n (by omega)
    rw [sm_succ]
    have e : ((n + 1 : Nat) : Int) * c = n * c + c := by
      rw [Int.natCast_succ, Int.add_mul, Int.one_mul]
    omega
def sRk (g : Nat → Nat → Int) (a b k : Nat) : Int := sm k (fun q => if q ≠ a ∧ q ≠ b ∧ (sPrd g a q < sPrd g a b ∨ sPrd g a q = sPrd g a b ∧ q < b) then 1 else 0)
def sTri (g : Nat → Nat → Int) (a b c : Nat) : Prop := 1 ≤ g 6 (10 * a + b) ∧ 1 ≤ g 6 (10 * b + c) ∧ 1 ≤ g 6 (10 * a + c)
def sMx (a b : Int) : Int := if a < b then b else a
def sG3 (g : Nat → Nat → Int) (a b c : Nat) : Int := sMx (g 6 (10 * a + b)) (sMx (g 6 (10 * b + c)) (g 6 (10 * a + c)))
def sOv (g : Nat → Nat → Int) (a b c : Nat) : Int := sG3 g a b c - (g 6 (10 * a + b) + g 6 (10 * b + c) + g 6 (10 * a + c) - sG3 g a b c)
def sExc (g : Nat → Nat → Int) (a b c : Nat) : Int := if 1 ≤ g 6 (10 * a + b) ∧ 1 ≤ g 6 (10 * b + c) ∧ 1 ≤ g 6 (10 * a + c) then sMx 0 (sOv g a b c) else 0
theorem sMx_bd {a b c : Int} (ha : 0 ≤ a ∧ a ≤ c) (hb : 0 ≤ b ∧ b ≤ c) : 0 ≤ sMx a b ∧ sMx a b ≤ c := by
  unfold sMx
  split <;> omega
theorem sExc_bd {g : Nat → Nat → Int} {r : Int} (hg : gB g r) {a b c : Nat} (ha : a < 10) (hb : b < 10) (hc : c < 10) : (0 ≤ sG3 g a b c ∧ sG3 g a b c ≤ 20000) ∧ (-60000 ≤ sOv g a b c ∧ sOv g a b c ≤ 40000) ∧ 0 ≤ sExc g a b c ∧ sExc g a b c ≤ 40000 := by
  have h1 := hg.2.2 a b ha hb
  have h2 := hg.2.2 b c hb hc
  have h3 := hg.2.2 a c ha hc
  have h4 : 0 ≤ sG3 g a b c ∧ sG3 g a b c ≤ 20000 := sMx_bd ⟨h1.1, h1.2.1⟩ (sMx_bd ⟨h2.1, h2.2.1⟩ ⟨h3.1, h3.2.1⟩)
  have h5 : -60000 ≤ sOv g a b c ∧ sOv g a b c ≤ 40000 := by
    unfold sOv
    omega
  refine ⟨h4, h5, ?_⟩
  unfold sExc
  split
  · unfold sMx
    split <;> omega
  · omega
/-- at how many violated triangles a node is: pairs b, c with b below i, and for b = i with c below j -/
def sVc (g : Nat → Nat → Int) (a b c : Nat) : Int := if b < c ∧ b ≠ a ∧ c ≠ a ∧ 1 ≤ sExc g a b c then 1 else 0
def sVb (g : Nat → Nat → Int) (a b j : Nat) : Int := sm j (fun c => sVc g a b c)
def sVa (g : Nat → Nat → Int) (a : Nat) (n i : Nat) : Int := sm i (fun b => sVb g a b n)
theorem sVb_0 (g : Nat → Nat → Int) (a b : Nat) : sVb g a b (b + 1) = 0 := sm_zero (fun c hc => by unfold sVc; exact if_neg (by omega))
def sB (n sh i : Nat) : Nat := if i + 1 + sh < n then i + 1 + sh else i + 1 + sh - n
theorem sB_bd {n sh i : Nat} (hi : i < n) (hs : sh + 1 < n) : sB n sh i < n ∧ sB n sh i ≠ i := by
  unfold sB
  split <;> omega
def sShf (g : Nat → Nat → Int) : Nat := (g 0 1 % (g 0 0 - 1)).toNat
def sRow (n sh : Nat) (g : Nat → Nat → Int) : Nat → Nat → Nat → Int
  | 0 => g
  | i + 1 => if 1 ≤ g 6 (10 * i + sB n sh i) then sUpd (sRow n sh g i) i (sB n sh i) else sRow n sh g i
def sCnt (n sh : Nat) (g : Nat → Nat → Int) (k : Nat) : Int := sm k (fun i => if 1 ≤ g 6 (10 * i + sB n sh i) then 1 else 0)
def sRnd (g : Nat → Nat → Int) : Nat → Nat → Int := gset (sRow (gN g) (sShf g) g (gN g)) 0 1 (g 0 1 + 1)
def sRndC (g : Nat → Nat → Int) : Int := sCnt (gN g) (sShf g) g (gN g)
def sRun (g : Nat → Nat → Int) : Nat → Nat → Nat → Int
  | 0 => g
  | k + 1 => sRnd (sRun g k)
def sRunC (g : Nat → Nat → Int) (k : Nat) : Int := sm k (fun i => sRndC (sRun g i))
theorem zset_at (f : Nat → Int) (i : Nat) (z : Int) : zset f i z i = z := if_pos rfl
theorem zset_ne {f : Nat → Int} {i k : Nat} {z : Int} (h : k ≠ i) : zset f i z k = f k := if_neg h
theorem zset_all {P : Int → Prop} {f : Nat → Int} {i k : Nat} {z : Int} (hz : P z) (hf : P (f k)) : P (zset f i z k) := by
  unfold zset
  split <;> assumption
theorem sSet_gB {g : Nat → Nat → Int} {r : Int} (hg : gB g r) {a : Nat} {x y h e : Int} (hx : -100000 ≤ x ∧ x ≤ 100000) (hy : -100000 ≤ y ∧ y ≤ 100000) (hh : 0 ≤ h ∧ h ≤ 100000) (he : 1 ≤ e ∧ e ≤ 1000) : gB (sSet g a x y h e) r := by
  refine ⟨hg.1, fun k hk => ?_, hg.2.2⟩
  have h1 := hg.2.1 k hk
  have z1 : -100000 ≤ zset (g 1) a x k ∧ zset (g 1) a x k ≤ 100000 := zset_all (P := fun z => -100000 ≤ z ∧ z ≤ 100000) hx ⟨h1.1, h1.2.1⟩
  have z2 : -100000 ≤ zset (g 2) a y k ∧ zset (g 2) a y k ≤ 100000 := zset_all (P := fun z => -100000 ≤ z ∧ z ≤ 100000) hy ⟨h1.2.2.1, h1.2.2.2.1⟩
  have z3 : 0 ≤ zset (g 3) a h k ∧ zset (g 3) a h k ≤ 100000 := zset_all (P := fun z => 0 ≤ z ∧ z ≤ 100000) hh ⟨h1.2.2.2.2.1, h1.2.2.2.2.2.1⟩
  have z4 : 1 ≤ zset (g 4) a e k ∧ zset (g 4) a e k ≤ 1000 := zset_all (P := fun z => 1 ≤ z ∧ z ≤ 1000) he ⟨h1.2.2.2.2.2.2.1, h1.2.2.2.2.2.2.2.1⟩
  exact ⟨z1.1, z1.2, z2.1, z2.2, z3.1, z3.2, z4.1, z4.2, h1.2.2.2.2.2.2.2.2⟩
theorem sUpd_gB {g : Nat → Nat → Int} {r : Int} (hg : gB g r) {a b : Nat} (ha : a < 10) (hb : b < 10) (hk : 1 ≤ g 6 (10 * a + b)) : gB (sUpd g a b) r :=
  sSet_gB hg (sLim_bd (by omega)) (sLim_bd (by omega)) (sLim_bd (by omega)) (sErr_bd hg ha hb hk (sPrd_bd hg ha hb)).2.2.2
theorem sRow_inv {g : Nat → Nat → Int} {r : Int} (hg : gB g r) {n sh : Nat} (hn : n ≤ 10) (hs : sh + 1 < n) : ∀ i, i ≤ n → gB (sRow n sh g i) r ∧ sRow n sh g i 0 = g 0 ∧ sRow n sh g i 5 = g 5 ∧ sRow n sh g i 6 = g 6 := by
  intro i
  induction i with
  | zero => exact fun _ => ⟨hg, rfl, rfl, rfl⟩
  | succ i ih =>
    intro hi
    obtain ⟨h1, h2, h3, h4⟩ := ih (by omega)
    have hb := sB_bd (n := n) (sh := sh) (i := i) (by omega) hs
    unfold sRow
    split
    · rename_i hk
      exact ⟨sUpd_gB h1 (by omega) (by omega) (by rw [h4]; exact hk), h2, h3, h4⟩
    · exact ⟨h1, h2, h3, h4⟩
theorem sShf_bd {g : Nat → Nat → Int} {r : Int} (hg : gB g r) : sShf g + 1 < gN g ∧ (sShf g : Int) = g 0 1 % (g 0 0 - 1) := by
  have h1 := hg.1
  have h2 := gN_eq hg
  have h3 := Int.emod_nonneg (g 0 1) (show g 0 0 - 1 ≠ 0 by omega)
  have h4 := Int.emod_lt_of_pos (g 0 1) (show 0 < g 0 0 - 1 by omega)
  unfold sShf
  omega
theorem sRnd_inv {g : Nat → Nat → Int} {r : Int} (hg : gB g r) : gB (sRnd g) (r + 1) := by
  have h2 := gN_eq hg
  have h3 := sShf_bd hg
  obtain ⟨a1, a2, -, -⟩ := sRow_inv hg h2.2.2 h3.1 (gN g) (Nat.le_refl _)
  have h1 := hg.1
  refine ⟨?_, a1.2.1, a1.2.2⟩
  have b0 : sRnd g 0 0 = g 0 0 := by show zset (sRow (gN g) (sShf g) g (gN g) 0) 1 (g 0 1 + 1) 0 = _; rw [a2]; rfl
  have b1 : sRnd g 0 1 = g 0 1 + 1 := rfl
  have b2 : sRnd g 0 2 = g 0 2 := by show zset (sRow (gN g) (sShf g) g (gN g) 0) 1 (g 0 1 + 1) 2 = _; rw [a2]; rfl
  have b3 : sRnd g 0 3 = g 0 3 := by show zset (sRow (gN g) (sShf g) g (gN g) 0) 1 (g 0 1 + 1) 3 = _; rw [a2]; rfl
  have b4 : sRnd g 0 4 = g 0 4 := by show zset (sRow (gN g) (sShf g) g (gN g) 0) 1 (g 0 1 + 1) 4 = _; rw [a2]; rfl
  rw [b0, b1, b2, b3, b4]
  omega
theorem sRun_inv {g : Nat → Nat → Int} {r : Int} (hg : gB g r) (k : Nat) : gB (sRun g k) (r + k) := by
  induction k with
  | zero =>
    show gB g (r + (0 : Nat))
    rw [show r + ((0 : Nat) : Int) = r by omega]
    exact hg
  | succ k ih =>
    have := sRnd_inv ih
    rw [show r + (k : Int) + 1 = r + ((k + 1 : Nat) : Int) by omega] at this
    exact this
end
section
/-! OWN ROWS: the readers of the class's state -/
def sMov (g : Nat → Nat → Int) (a b : Nat) : Int := sqr ((sX g a b (sStp g a b (sPrd g a b)) (sPrd g a b) - g 1 a) * (sX g a b (sStp g a b (sPrd g a b)) (sPrd g a b) - g 1 a) + (sY g a b (sStp g a b (sPrd g a b)) (sPrd g a b) - g 2 a) * (sY g a b (sStp g a b (sPrd g a b)) (sPrd g a b) - g 2 a))
set_option maxHeartbeats 4000000 in
set_option maxRecDepth 100000 in
/-- rttOf -/
theorem c_X0_rttOf (l : Launch) (dC : Nat → ClassId) (dI : Nat → Nat → Nat) (cI cZ cS : ClassId) (a : Nat → Nat) (g : Nat → Nat → Int) (r : Int) (hg : gB g r) (A B : Nat) (hA : A < 10) (hB : B < 10) : Met l yX0_rttOf wsX0_rttOf ({ frames := 0, cells := 0, slots := 0, locals := 0 } : Room) (rd_Pc dC dI cI cZ cS (stw cI a g) [.ref (a 0), .int (zI (A : Int)), .int (zI (B : Int))]) (rd_Qc (some (.int (zI (g 6 (10 * A + B)))))) 0 0 nf := by
  refine rd_met (cc := cX0_rttOf) (maxL := 3) (ret := (some .int)) (by decide) rfl (Nat.le_of_ble_eq_true rfl) ?_
  intro p e s m below meth c ls hx hb hml hr hlocks hts hown hP hK hl
  have hl : lv_has ls 3 [(0, .ref (a 0)), (1, .int (zI (A : Int))), (2, .int (zI (B : Int)))] := hl
  have hinX0 : ∀ w ∈ u_ws RX0 TX0 11, w ∈ wsX0_rttOf := by decide +kernel
  have f_37 := hts (.fieldLink RX0 37 "NetworkCoordinates$State" "rtts" "[I") (by decide +kernel)
  have b0 := hg.1
  have bA := hg.2.1 A hA
  have bB := hg.2.1 B hB
  refine lv_aload_n hx hb dX0_rttOf_0 rfl (lv_at hl 0 rfl) ?_
  refine va_get (D := (dC, dI)) (ci := 0) (v := .ref (a 6)) (C := RX0) (T := TX0) (N := 11) hx hb hts hinX0 hown hK.1 hP 0 rfl rfl 10 (by decide) f_37 (fun _ h9 => h9) rfl dX0_rttOf_1 ?_
  refine zr_bipush hx hb dX0_rttOf_4 (by decide) ?_
  refine lv_iload_n hx hb dX0_rttOf_6 rfl (lv_at hl 1 rfl) ?_
  refine zr_imul hx hb dX0_rttOf_7 ?_
  refine lv_iload_n hx hb dX0_rttOf_8 rfl (lv_at hl 2 rfl) ?_
  refine zr_iadd hx hb dX0_rttOf_9 ?_
  refine zr_iald hx hb hK.1 hP 6 0 rfl rfl ((10 * A) + B) (g 6 ((10 * A) + B)) (by omega) (by omega) (Nat.le_of_ble_eq_true rfl) rfl dX0_rttOf_10 ?_
  exact rd_iret hx hb hr hlocks rfl dX0_rttOf_11
set_option maxHeartbeats 4000000 in
set_option maxRecDepth 100000 in
/-- isKnown -/
theorem c_X0_isKnown (l : Launch) (dC : Nat → ClassId) (dI : Nat → Nat → Nat) (cI cZ cS : ClassId) (a : Nat → Nat) (g : Nat → Nat → Int) (r : Int) (hg : gB g r) (A B : Nat) (hA : A < 10) (hB : B < 10) : Met l yX0_isKnown wsX0_isKnown ({ frames := 1, cells := 0, slots := 0, locals := 22 } : Room) (rd_Pc dC dI cI cZ cS (stw cI a g) [.ref (a 0), .int (zI (A : Int)), .int (zI (B : Int))]) (rd_Qc (some (.int (zI (if 1 ≤ g 6 (10 * A + B) then 1 else 0))))) 0 0 nf := by
  refine rd_met (cc := cX0_isKnown) (maxL := 3) (ret := (some .boolean)) (by decide) rfl (Nat.le_of_ble_eq_true rfl) ?_
  intro p e s m below meth c ls hx hb hml hr hlocks hts hown hP hK hl
  have hl : lv_has ls 3 [(0, .ref (a 0)), (1, .int (zI (A : Int))), (2, .int (zI (B : Int)))] := hl
  have b0 := hg.1
  have bA := hg.2.1 A hA
  have bB := hg.2.1 B hB
  have kAB := hg.2.2 A B hA hB
  refine lv_aload_n hx hb dX0_isKnown_0 rfl (lv_at hl 0 rfl) ?_
  refine lv_iload_n hx hb dX0_isKnown_1 rfl (lv_at hl 1 rfl) ?_
  refine lv_iload_n hx hb dX0_isKnown_2 rfl (lv_at hl 2 rfl) ?_
  refine rd_callV (As := [.int (zI (A : Int)), .int (zI (B : Int))]) (rest := []) ⟨hx, hb, hml, hown, hts⟩ (c_X0_rttOf l dC dI cI cZ cS a g r hg A B (by omega) (by omega)) (cwV 2 hts gX0_isKnown_X0_rttOf rfl rfl rfl (by decide +kernel) ⟨Nat.le_of_ble_eq_true rfl, Nat.le_of_ble_eq_true rfl⟩) hP hK 0 rfl rfl rfl hl.1 rfl (Nat.le_of_ble_eq_true rfl) dX0_isKnown_3 ⟨Nat.zero_le _, Nat.zero_le _⟩ ?_
  refine zr_if_eq (tgt := 13) hx hb dX0_isKnown_6 (by decide) (by omega) (fun c_6 => ?_) (fun c_6 => ?_)
  · refine zr_iconst hx hb dX0_isKnown_13 ?_
    exact rd_zret hx hb hr hlocks (if_neg (by omega)).symm (by omega) dX0_isKnown_14
  · refine zr_iconst hx hb dX0_isKnown_9 ?_
    refine lv_goto (tgt := 14) hx hb dX0_isKnown_10 (by decide) ?_
    exact rd_zret hx hb hr hlocks (if_pos (by omega)).symm (by omega) dX0_isKnown_14
set_option maxHeartbeats 4000000 in
set_option maxRecDepth 100000 in
/-- sample -/
theorem c_X0_sample (l : Launch) (dC : Nat → ClassId) (dI : Nat → Nat → Nat) (cI cZ cS : ClassId) (a : Nat → Nat) (g : Nat → Nat → Int) (r : Int) (hg : gB g r) (A B : Nat) (hA : A < 10) (hB : B < 10) : Met l yX0_sample wsX0_sample ({ frames := 1, cells := 0, slots := 0, locals := 22 } : Room) (rd_Pc dC dI cI cZ cS (stw cI a g) [.ref (a 0), .int (zI (A : Int)), .int (zI (B : Int))]) (rd_Qc (some (.int (zI (sSmp g A B))))) 0 0 nf := by
  refine rd_met (cc := cX0_sample) (maxL := 3) (ret := (some .int)) (by decide) rfl (Nat.le_of_ble_eq_true rfl) ?_
  intro p e s m below meth c ls hx hb hml hr hlocks hts hown hP hK hl
  have hl : lv_has ls 3 [(0, .ref (a 0)), (1, .int (zI (A : Int))), (2, .int (zI (B : Int)))] := hl
  have hinX0 : ∀ w ∈ u_ws RX0 TX0 11, w ∈ wsX0_sample := by decide +kernel
  have f_34 := hts (.fieldLink RX0 34 "NetworkCoordinates$State" "lies" "[I") (by decide +kernel)
  have b0 := hg.1
  have bA := hg.2.1 A hA
  have bB := hg.2.1 B hB
  refine lv_aload_n hx hb dX0_sample_0 rfl (lv_at hl 0 rfl) ?_
  refine lv_iload_n hx hb dX0_sample_1 rfl (lv_at hl 1 rfl) ?_
  refine lv_iload_n hx hb dX0_sample_2 rfl (lv_at hl 2 rfl) ?_
  refine rd_callV (As := [.int (zI (A : Int)), .int (zI (B : Int))]) (rest := []) ⟨hx, hb, hml, hown, hts⟩ (c_X0_rttOf l dC dI cI cZ cS a g r hg A B (by omega) (by omega)) (cwV 2 hts gX0_sample_X0_rttOf rfl rfl rfl (by decide +kernel) ⟨Nat.le_of_ble_eq_true rfl, Nat.le_of_ble_eq_true rfl⟩) hP hK 0 rfl rfl rfl hl.1 rfl (Nat.le_of_ble_eq_true rfl) dX0_sample_3 ⟨Nat.zero_le _, Nat.zero_le _⟩ ?_
  refine lv_aload_n hx hb dX0_sample_6 rfl (lv_at hl 0 rfl) ?_
  refine va_get (D := (dC, dI)) (ci := 0) (v := .ref (a 5)) (C := RX0) (T := TX0) (N := 11) hx hb hts hinX0 hown hK.1 hP 0 rfl rfl 9 (by decide) f_34 (fun _ h9 => h9) rfl dX0_sample_7 ?_
  refine lv_iload_n hx hb dX0_sample_10 rfl (lv_at hl 2 rfl) ?_
  refine zr_iald hx hb hK.1 hP 5 0 rfl rfl B (g 5 B) (by omega) (by omega) (Nat.le_of_ble_eq_true rfl) rfl dX0_sample_11 ?_
  refine zr_iadd hx hb dX0_sample_12 ?_
  exact rd_iret hx hb hr hlocks rfl dX0_sample_13
set_option maxHeartbeats 4000000 in
set_option maxRecDepth 100000 in
/-- predicted -/
theorem c_X0_predicted (l : Launch) (dC : Nat → ClassId) (dI : Nat → Nat → Nat) (cI cZ cS : ClassId) (a : Nat → Nat) (g : Nat → Nat → Int) (r : Int) (hg : gB g r) (A B : Nat) (hA : A < 10) (hB : B < 10) : Met l yX0_predicted wsX0_predicted ({ frames := 2, cells := 0, slots := 0, locals := 49 } : Room) (rd_Pc dC dI cI cZ cS (stw cI a g) [.ref (a 0), .int (zI (A : Int)), .int (zI (B : Int))]) (rd_Qc (some (.int (zI (sPrd g A B))))) 0 0 nf := by
  refine rd_met (cc := cX0_predicted) (maxL := 3) (ret := (some .int)) (by decide) rfl (Nat.le_of_ble_eq_true rfl) ?_
  intro p e s m below meth c ls hx hb hml hr hlocks hts hown hP hK hl
  have hl : lv_has ls 3 [(0, .ref (a 0)), (1, .int (zI (A : Int))), (2, .int (zI (B : Int)))] := hl
  have hinX0 : ∀ w ∈ u_ws RX0 TX0 11, w ∈ wsX0_predicted := by decide +kernel
  have f_21 := hts (.fieldLink RX0 21 "NetworkCoordinates$State" "xs" "[I") (by decide +kernel)
  have f_25 := hts (.fieldLink RX0 25 "NetworkCoordinates$State" "ys" "[I") (by decide +kernel)
  have f_28 := hts (.fieldLink RX0 28 "NetworkCoordinates$State" "heights" "[I") (by decide +kernel)
  have b0 := hg.1
  have bA := hg.2.1 A hA
  have bB := hg.2.1 B hB
  refine lv_aload_n hx hb dX0_predicted_0 rfl (lv_at hl 0 rfl) ?_
  refine va_get (D := (dC, dI)) (ci := 0) (v := .ref (a 1)) (C := RX0) (T := TX0) (N := 11) hx hb hts hinX0 hown hK.1 hP 0 rfl rfl 5 (by decide) f_21 (fun _ h9 => h9) rfl dX0_predicted_1 ?_
  refine lv_iload_n hx hb dX0_predicted_4 rfl (lv_at hl 1 rfl) ?_
  refine zr_iald hx hb hK.1 hP 1 0 rfl rfl A (g 1 A) (by omega) (by omega) (Nat.le_of_ble_eq_true rfl) rfl dX0_predicted_5 ?_
  refine lv_aload_n hx hb dX0_predicted_6 rfl (lv_at hl 0 rfl) ?_
  refine va_get (D := (dC, dI)) (ci := 0) (v := .ref (a 1)) (C := RX0) (T := TX0) (N := 11) hx hb hts hinX0 hown hK.1 hP 0 rfl rfl 5 (by decide) f_21 (fun _ h9 => h9) rfl dX0_predicted_7 ?_
  refine lv_iload_n hx hb dX0_predicted_10 rfl (lv_at hl 2 rfl) ?_
  refine zr_iald hx hb hK.1 hP 1 0 rfl rfl B (g 1 B) (by omega) (by omega) (Nat.le_of_ble_eq_true rfl) rfl dX0_predicted_11 ?_
  refine zr_isub hx hb dX0_predicted_12 ?_
  refine zr_i2l hx hb (by omega) dX0_predicted_13 ?_
  refine lv_aload_n hx hb dX0_predicted_14 rfl (lv_at hl 0 rfl) ?_
  refine va_get (D := (dC, dI)) (ci := 0) (v := .ref (a 2)) (C := RX0) (T := TX0) (N := 11) hx hb hts hinX0 hown hK.1 hP 0 rfl rfl 6 (by decide) f_25 (fun _ h9 => h9) rfl dX0_predicted_15 ?_
  refine lv_iload_n hx hb dX0_predicted_18 rfl (lv_at hl 1 rfl) ?_
  refine zr_iald hx hb hK.1 hP 2 0 rfl rfl A (g 2 A) (by omega) (by omega) (Nat.le_of_ble_eq_true rfl) rfl dX0_predicted_19 ?_
  refine lv_aload_n hx hb dX0_predicted_20 rfl (lv_at hl 0 rfl) ?_
  refine va_get (D := (dC, dI)) (ci := 0) (v := .ref (a 2)) (C := RX0) (T := TX0) (N := 11) hx hb hts hinX0 hown hK.1 hP 0 rfl rfl 6 (by decide) f_25 (fun _ h9 => h9) rfl dX0_predicted_21 ?_
  refine lv_iload_n hx hb dX0_predicted_24 rfl (lv_at hl 2 rfl) ?_
  refine zr_iald hx hb hK.1 hP 2 0 rfl rfl B (g 2 B) (by omega) (by omega) (Nat.le_of_ble_eq_true rfl) rfl dX0_predicted_25 ?_
  refine zr_isub hx hb dX0_predicted_26 ?_
  refine zr_i2l hx hb (by omega) dX0_predicted_27 ?_
  refine rd_callN (host := RX1) (As := [.long (zL (g 1 A - g 1 B)), .long (zL (g 2 A - g 2 B))]) (rest := []) ⟨hx, hb, hml, hown, hts⟩ (c_X1_planarDistance l dC dI cI cZ cS (g 1 A - g 1 B) (g 2 A - g 2 B) (by omega) (by omega)) ⟨va_cnB 2 hts gX0_predicted_X1_planarDistance_n64 rfl rfl rfl (hK.2.1 _ (nw_at 10 rfl)) (hts (.initialized RX1) (by decide +kernel)) (by decide +kernel) ⟨Nat.le_of_ble_eq_true rfl, Nat.le_of_ble_eq_true rfl⟩, hts (.static yX1_planarDistance) (by decide +kernel), trivial⟩ va_P_nil hK rfl hl.1 rfl (Nat.le_of_ble_eq_true rfl) dX0_predicted_28 ⟨Nat.zero_le _, Nat.zero_le _⟩ ?_
  refine lv_aload_n hx hb dX0_predicted_31 rfl (lv_at hl 0 rfl) ?_
  refine va_get (D := (dC, dI)) (ci := 0) (v := .ref (a 3)) (C := RX0) (T := TX0) (N := 11) hx hb hts hinX0 hown hK.1 hP 0 rfl rfl 7 (by decide) f_28 (fun _ h9 => h9) rfl dX0_predicted_32 ?_
  refine lv_iload_n hx hb dX0_predicted_35 rfl (lv_at hl 1 rfl) ?_
  refine zr_iald hx hb hK.1 hP 3 0 rfl rfl A (g 3 A) (by omega) (by omega) (Nat.le_of_ble_eq_true rfl) rfl dX0_predicted_36 ?_
  refine zr_iadd hx hb dX0_predicted_37 ?_
  refine lv_aload_n hx hb dX0_predicted_38 rfl (lv_at hl 0 rfl) ?_
  refine va_get (D := (dC, dI)) (ci := 0) (v := .ref (a 3)) (C := RX0) (T := TX0) (N := 11) hx hb hts hinX0 hown hK.1 hP 0 rfl rfl 7 (by decide) f_28 (fun _ h9 => h9) rfl dX0_predicted_39 ?_
  refine lv_iload_n hx hb dX0_predicted_42 rfl (lv_at hl 2 rfl) ?_
  refine zr_iald hx hb hK.1 hP 3 0 rfl rfl B (g 3 B) (by omega) (by omega) (Nat.le_of_ble_eq_true rfl) rfl dX0_predicted_43 ?_
  refine zr_iadd hx hb dX0_predicted_44 ?_
  exact rd_iret hx hb hr hlocks rfl dX0_predicted_45
set_option maxHeartbeats 4000000 in
set_option maxRecDepth 100000 in
/-- weight -/
theorem c_X0_weight (l : Launch) (dC : Nat → ClassId) (dI : Nat → Nat → Nat) (cI cZ cS : ClassId) (a : Nat → Nat) (g : Nat → Nat → Int) (r : Int) (hg : gB g r) (A B : Nat) (hA : A < 10) (hB : B < 10) : Met l yX0_weight wsX0_weight ({ frames := 1, cells := 0, slots := 0, locals := 23 } : Room) (rd_Pc dC dI cI cZ cS (stw cI a g) [.ref (a 0), .int (zI (A : Int)), .int (zI (B : Int))]) (rd_Qc (some (.long (zL (sWgt g A B))))) 0 0 nf := by
  refine rd_met (cc := cX0_weight) (maxL := 3) (ret := (some .long)) (by decide) rfl (Nat.le_of_ble_eq_true rfl) ?_
  intro p e s m below meth c ls hx hb hml hr hlocks hts hown hP hK hl
  have hl : lv_has ls 3 [(0, .ref (a 0)), (1, .int (zI (A : Int))), (2, .int (zI (B : Int)))] := hl
  have hinX0 : ∀ w ∈ u_ws RX0 TX0 11, w ∈ wsX0_weight := by decide +kernel
  have k_101 := hts (.constantLong RX0 101 (1000)) (by decide +kernel)
  have f_31 := hts (.fieldLink RX0 31 "NetworkCoordinates$State" "errors" "[I") (by decide +kernel)
  have b0 := hg.1
  have bA := hg.2.1 A hA
  have bB := hg.2.1 B hB
  refine zr_ldc2 hx hb (1000) hown k_101 (by decide) dX0_weight_0 ?_
  refine lv_aload_n hx hb dX0_weight_3 rfl (lv_at hl 0 rfl) ?_
  refine va_get (D := (dC, dI)) (ci := 0) (v := .ref (a 4)) (C := RX0) (T := TX0) (N := 11) hx hb hts hinX0 hown hK.1 hP 0 rfl rfl 8 (by decide) f_31 (fun _ h9 => h9) rfl dX0_weight_4 ?_
  refine lv_iload_n hx hb dX0_weight_7 rfl (lv_at hl 1 rfl) ?_
  refine zr_iald hx hb hK.1 hP 4 0 rfl rfl A (g 4 A) (by omega) (by omega) (Nat.le_of_ble_eq_true rfl) rfl dX0_weight_8 ?_
  refine zr_i2l hx hb (by omega) dX0_weight_9 ?_
  refine zr_lmul hx hb dX0_weight_10 ?_
  refine lv_aload_n hx hb dX0_weight_11 rfl (lv_at hl 0 rfl) ?_
  refine va_get (D := (dC, dI)) (ci := 0) (v := .ref (a 4)) (C := RX0) (T := TX0) (N := 11) hx hb hts hinX0 hown hK.1 hP 0 rfl rfl 8 (by decide) f_31 (fun _ h9 => h9) rfl dX0_weight_12 ?_
  refine lv_iload_n hx hb dX0_weight_15 rfl (lv_at hl 1 rfl) ?_
  refine zr_iald hx hb hK.1 hP 4 0 rfl rfl A (g 4 A) (by omega) (by omega) (Nat.le_of_ble_eq_true rfl) rfl dX0_weight_16 ?_
  refine lv_aload_n hx hb dX0_weight_17 rfl (lv_at hl 0 rfl) ?_
  refine va_get (D := (dC, dI)) (ci := 0) (v := .ref (a 4)) (C := RX0) (T := TX0) (N := 11) hx hb hts hinX0 hown hK.1 hP 0 rfl rfl 8 (by decide) f_31 (fun _ h9 => h9) rfl dX0_weight_18 ?_
  refine lv_iload_n hx hb dX0_weight_21 rfl (lv_at hl 2 rfl) ?_
  refine zr_iald hx hb hK.1 hP 4 0 rfl rfl B (g 4 B) (by omega) (by omega) (Nat.le_of_ble_eq_true rfl) rfl dX0_weight_22 ?_
  refine zr_iadd hx hb dX0_weight_23 ?_
  refine zr_i2l hx hb (by omega) dX0_weight_24 ?_
  refine rd_callN (host := RX1) (As := [.long (zL (1000 * g 4 A)), .long (zL (g 4 A + g 4 B))]) (rest := []) ⟨hx, hb, hml, hown, hts⟩ (c_X1_quotient l dC dI cI cZ cS (1000 * g 4 A) (g 4 A + g 4 B) (by omega) (by omega)) ⟨va_cnB 2 hts gX0_weight_X1_quotient_n103 rfl rfl rfl (hK.2.1 _ (nw_at 11 rfl)) (hts (.initialized RX1) (by decide +kernel)) (by decide +kernel) ⟨Nat.le_of_ble_eq_true rfl, Nat.le_of_ble_eq_true rfl⟩, hts (.static yX1_quotient) (by decide +kernel), trivial⟩ va_P_nil hK rfl hl.1 rfl (Nat.le_of_ble_eq_true rfl) dX0_weight_25 ⟨Nat.zero_le _, Nat.zero_le _⟩ ?_
  exact rd_lret hx hb hr hlocks rfl dX0_weight_28
set_option maxHeartbeats 4000000 in
set_option maxRecDepth 100000 in
/-- errorAfter -/
theorem c_X0_errorAfter (l : Launch) (dC : Nat → ClassId) (dI : Nat → Nat → Nat) (cI cZ cS : ClassId) (a : Nat → Nat) (g : Nat → Nat → Int) (r : Int) (hg : gB g r) (A B : Nat) (hA : A < 10) (hB : B < 10) (d : Int) (hd : 0 ≤ d ∧ d ≤ 482842) (hk : 1 ≤ g 6 (10 * A + B)) : Met l yX0_errorAfter wsX0_errorAfter ({ frames := 2, cells := 0, slots := 0, locals := 45 } : Room) (rd_Pc dC dI cI cZ cS (stw cI a g) [.ref (a 0), .int (zI (A : Int)), .int (zI (B : Int)), .int (zI d)]) (rd_Qc (some (.int (zI (sErr g A B d))))) 0 0 nf := by
  refine rd_met (cc := cX0_errorAfter) (maxL := 11) (ret := (some .int)) (by decide) rfl (Nat.le_of_ble_eq_true rfl) ?_
  intro p e s m below meth c ls hx hb hml hr hlocks hts hown hP hK hl
  have hl : lv_has ls 11 [(0, .ref (a 0)), (1, .int (zI (A : Int))), (2, .int (zI (B : Int))), (3, .int (zI d))] := hl
  have hinX0 : ∀ w ∈ u_ws RX0 TX0 11, w ∈ wsX0_errorAfter := by decide +kernel
  have k_101 := hts (.constantLong RX0 101 (1000)) (by decide +kernel)
  have f_9 := hts (.fieldLink RX0 9 "NetworkCoordinates$State" "errorGain" "I") (by decide +kernel)
  have f_31 := hts (.fieldLink RX0 31 "NetworkCoordinates$State" "errors" "[I") (by decide +kernel)
  have b0 := hg.1
  have bA := hg.2.1 A hA
  have bB := hg.2.1 B hB
  have kAB := hg.2.2 A B hA hB
  have s1 := sSmp_bd hg hA hB
  have s2 := sAbs_bd (z := d - sSmp g A B) (A := 482842) (by omega)
  have s3 := sEs_bd hg hA hB hk hd
  have s4 := sErr_bd hg hA hB hk hd
  have s5 := sVe_bd hg hA hB
  have s6 := sWgt_bd hg hA hB
  have s7 := z_mul0 (a := g 0 2) (b := sWgt g A B) (A := 1000) (B := 1000) (by omega) s6
  refine lv_aload_n hx hb dX0_errorAfter_0 rfl (lv_at hl 0 rfl) ?_
  refine lv_iload_n hx hb dX0_errorAfter_1 rfl (lv_at hl 1 rfl) ?_
  refine lv_iload_n hx hb dX0_errorAfter_2 rfl (lv_at hl 2 rfl) ?_
  refine rd_callV (As := [.int (zI (A : Int)), .int (zI (B : Int))]) (rest := []) ⟨hx, hb, hml, hown, hts⟩ (c_X0_sample l dC dI cI cZ cS a g r hg A B (by omega) (by omega)) (cwV 2 hts gX0_errorAfter_X0_sample rfl rfl rfl (by decide +kernel) ⟨Nat.le_of_ble_eq_true rfl, Nat.le_of_ble_eq_true rfl⟩) hP hK 0 rfl rfl rfl hl.1 rfl (Nat.le_of_ble_eq_true rfl) dX0_errorAfter_3 ⟨Nat.zero_le _, Nat.zero_le _⟩ ?_
  refine lv_istore (lv' := [(4, .int (zI (sSmp g A B))), (0, .ref (a 0)), (1, .int (zI (A : Int))), (2, .int (zI (B : Int))), (3, .int (zI d))]) hx hb dX0_errorAfter_6 hl (by decide) rfl (fun ls hl => ?_)
  refine zr_ldc2 hx hb (1000) hown k_101 (by decide) dX0_errorAfter_8 ?_
  refine zr_ldc2 hx hb (1000) hown k_101 (by decide) dX0_errorAfter_11 ?_
  refine lv_iload_n hx hb dX0_errorAfter_14 rfl (lv_at hl 4 rfl) ?_
  refine lv_iload hx hb dX0_errorAfter_15 (lv_at hl 0 rfl) ?_
  refine zr_isub hx hb dX0_errorAfter_17 ?_
  refine va_mabs hx hb (hml.trans hl.1.symm) hown (hts (.methodLink RX0 110 Lib.Math.abs.name) (by decide +kernel)) (hts (.static Lib.Math.abs.name) (by decide +kernel)) (hts (.initialized "java/lang/Math") (by decide +kernel)) (hts (.code Lib.Math.abs.name Lib.Math.abs.code 1 (some .int)) (by decide +kernel)) (Nat.le_of_ble_eq_true rfl) (Nat.le_of_ble_eq_true rfl) (Nat.zero_le _) (Nat.zero_le _) dX0_errorAfter_18 ?_
  rw [zm_abs (by omega)]
  refine zr_i2l hx hb (by omega) dX0_errorAfter_21 ?_
  refine zr_lmul hx hb dX0_errorAfter_22 ?_
  refine lv_iload hx hb dX0_errorAfter_23 (lv_at hl 0 rfl) ?_
  refine zr_i2l hx hb (by omega) dX0_errorAfter_25 ?_
  refine rd_callN (host := RX1) (As := [.long (zL (1000 * (sAbs (d - (sSmp g A B))))), .long (zL (sSmp g A B))]) (rest := [.long (zL 1000)]) ⟨hx, hb, hml, hown, hts⟩ (c_X1_quotient l dC dI cI cZ cS (1000 * (sAbs (d - (sSmp g A B)))) (sSmp g A B) (by omega) (by omega)) ⟨va_cnB 2 hts gX0_errorAfter_X1_quotient_n103 rfl rfl rfl (hK.2.1 _ (nw_at 11 rfl)) (hts (.initialized RX1) (by decide +kernel)) (by decide +kernel) ⟨Nat.le_of_ble_eq_true rfl, Nat.le_of_ble_eq_true rfl⟩, hts (.static yX1_quotient) (by decide +kernel), trivial⟩ va_P_nil hK rfl hl.1 rfl (Nat.le_of_ble_eq_true rfl) dX0_errorAfter_26 ⟨Nat.zero_le _, Nat.zero_le _⟩ ?_
  refine va_mmin_long hx hb (hml.trans hl.1.symm) hown (hts (.methodLink RX0 114 Lib.MathLoose.min_long.x) (by decide +kernel)) (hts (.static Lib.MathLoose.min_long.x) (by decide +kernel)) (hts (.initialized "java/lang/Math") (by decide +kernel)) (hts (.code Lib.MathLoose.min_long.x Lib.MathLoose.min_long.code 4 (some .long)) (by decide +kernel)) (Nat.le_of_ble_eq_true rfl) (Nat.le_of_ble_eq_true rfl) (Nat.zero_le _) (Nat.zero_le _) dX0_errorAfter_29 ?_
  rw [zm_ite (by omega) (by omega)]
  refine zr_topL (sEs g A B d) (by unfold sEs; split <;> split <;> omega) ?_
  refine lv_lstore (lv' := [(5, .long (zL (sEs g A B d))), (4, .int (zI (sSmp g A B))), (0, .ref (a 0)), (1, .int (zI (A : Int))), (2, .int (zI (B : Int))), (3, .int (zI d))]) hx hb dX0_errorAfter_32 hl (by decide) rfl (fun ls hl => ?_)
  refine lv_aload_n hx hb dX0_errorAfter_34 rfl (lv_at hl 2 rfl) ?_
  refine va_get (D := (dC, dI)) (ci := 0) (v := .int (zI (g 0 2))) (C := RX0) (T := TX0) (N := 11) hx hb hts hinX0 hown hK.1 hP 0 rfl rfl 2 (by decide) f_9 (fun _ h9 => h9) rfl dX0_errorAfter_35 ?_
  refine zr_i2l hx hb (by omega) dX0_errorAfter_38 ?_
  refine lv_aload_n hx hb dX0_errorAfter_39 rfl (lv_at hl 2 rfl) ?_
  refine lv_iload_n hx hb dX0_errorAfter_40 rfl (lv_at hl 3 rfl) ?_
  refine lv_iload_n hx hb dX0_errorAfter_41 rfl (lv_at hl 4 rfl) ?_
  refine rd_callV (As := [.int (zI (A : Int)), .int (zI (B : Int))]) (rest := [.long (zL (g 0 2))]) ⟨hx, hb, hml, hown, hts⟩ (c_X0_weight l dC dI cI cZ cS a g r hg A B (by omega) (by omega)) (cwV 2 hts gX0_errorAfter_X0_weight rfl rfl rfl (by decide +kernel) ⟨Nat.le_of_ble_eq_true rfl, Nat.le_of_ble_eq_true rfl⟩) hP hK 0 rfl rfl rfl hl.1 rfl (Nat.le_of_ble_eq_true rfl) dX0_errorAfter_42 ⟨Nat.zero_le _, Nat.zero_le _⟩ ?_
  refine zr_lmul hx hb dX0_errorAfter_45 ?_
  refine zr_ldc2 hx hb (1000) hown k_101 (by decide) dX0_errorAfter_46 ?_
  refine zr_ldiv hx hb (by omega) (by omega) dX0_errorAfter_49 ?_
  refine zr_topL (sVe g A B) rfl ?_
  refine lv_lstore (lv' := [(7, .long (zL (sVe g A B))), (5, .long (zL (sEs g A B d))), (4, .int (zI (sSmp g A B))), (0, .ref (a 0)), (1, .int (zI (A : Int))), (2, .int (zI (B : Int))), (3, .int (zI d))]) hx hb dX0_errorAfter_50 hl (by decide) rfl (fun ls hl => ?_)
  refine lv_lload hx hb dX0_errorAfter_52 (lv_at hl 1 rfl) ?_
  refine lv_lload hx hb dX0_errorAfter_54 (lv_at hl 0 rfl) ?_
  refine zr_lmul hx hb dX0_errorAfter_56 ?_
  refine lv_aload_n hx hb dX0_errorAfter_57 rfl (lv_at hl 3 rfl) ?_
  refine va_get (D := (dC, dI)) (ci := 0) (v := .ref (a 4)) (C := RX0) (T := TX0) (N := 11) hx hb hts hinX0 hown hK.1 hP 0 rfl rfl 8 (by decide) f_31 (fun _ h9 => h9) rfl dX0_errorAfter_58 ?_
  refine lv_iload_n hx hb dX0_errorAfter_61 rfl (lv_at hl 4 rfl) ?_
  refine zr_iald hx hb hK.1 hP 4 0 rfl rfl A (g 4 A) (by omega) (by omega) (Nat.le_of_ble_eq_true rfl) rfl dX0_errorAfter_62 ?_
  refine zr_i2l hx hb (by omega) dX0_errorAfter_63 ?_
  refine zr_ldc2 hx hb (1000) hown k_101 (by decide) dX0_errorAfter_64 ?_
  refine lv_lload hx hb dX0_errorAfter_67 (lv_at hl 0 rfl) ?_
  refine zr_lsub hx hb dX0_errorAfter_69 ?_
  refine zr_lmul hx hb dX0_errorAfter_70 ?_
  refine zr_ladd hx hb dX0_errorAfter_71 ?_
  refine zr_ldc2 hx hb (1000) hown k_101 (by decide) dX0_errorAfter_72 ?_
  refine zr_ldiv hx hb (by omega) (by omega) dX0_errorAfter_75 ?_
  refine lv_lstore (lv' := [(9, .long (zL (((sEs g A B d * sVe g A B) + (g 4 A * (1000 - sVe g A B))).tdiv 1000))), (7, .long (zL (sVe g A B))), (5, .long (zL (sEs g A B d))), (4, .int (zI (sSmp g A B))), (0, .ref (a 0)), (1, .int (zI (A : Int))), (2, .int (zI (B : Int))), (3, .int (zI d))]) hx hb dX0_errorAfter_76 hl (by decide) rfl (fun ls hl => ?_)
  refine zr_lconst hx hb 1 (by decide) dX0_errorAfter_78 ?_
  refine lv_lload hx hb dX0_errorAfter_79 (lv_at hl 0 rfl) ?_
  refine va_mmax_long hx hb (hml.trans hl.1.symm) hown (hts (.methodLink RX0 121 Lib.MathLoose.max_long.x) (by decide +kernel)) (hts (.static Lib.MathLoose.max_long.x) (by decide +kernel)) (hts (.initialized "java/lang/Math") (by decide +kernel)) (hts (.code Lib.MathLoose.max_long.x Lib.MathLoose.max_long.code 4 (some .long)) (by decide +kernel)) (Nat.le_of_ble_eq_true rfl) (Nat.le_of_ble_eq_true rfl) (Nat.zero_le _) (Nat.zero_le _) dX0_errorAfter_81 ?_
  rw [zm_ite (by omega) (by omega)]
  refine zr_topL (sErr g A B d) rfl ?_
  refine zr_l2i hx hb dX0_errorAfter_84 ?_
  exact rd_iret hx hb hr hlocks rfl dX0_errorAfter_85
set_option maxHeartbeats 4000000 in
set_option maxRecDepth 100000 in
/-- stepOf -/
theorem c_X0_stepOf (l : Launch) (dC : Nat → ClassId) (dI : Nat → Nat → Nat) (cI cZ cS : ClassId) (a : Nat → Nat) (g : Nat → Nat → Int) (r : Int) (hg : gB g r) (A B : Nat) (hA : A < 10) (hB : B < 10) (d : Int) (hd : 0 ≤ d ∧ d ≤ 482842) : Met l yX0_stepOf wsX0_stepOf ({ frames := 2, cells := 0, slots := 0, locals := 63 } : Room) (rd_Pc dC dI cI cZ cS (stw cI a g) [.ref (a 0), .int (zI (A : Int)), .int (zI (B : Int)), .int (zI d)]) (rd_Qc (some (.int (zI (sStp g A B d))))) 0 0 nf := by
  refine rd_met (cc := cX0_stepOf) (maxL := 6) (ret := (some .int)) (by decide) rfl (Nat.le_of_ble_eq_true rfl) ?_
  intro p e s m below meth c ls hx hb hml hr hlocks hts hown hP hK hl
  have hl : lv_has ls 6 [(0, .ref (a 0)), (1, .int (zI (A : Int))), (2, .int (zI (B : Int))), (3, .int (zI d))] := hl
  have hinX0 : ∀ w ∈ u_ws RX0 TX0 11, w ∈ wsX0_stepOf := by decide +kernel
  have f_15 := hts (.fieldLink RX0 15 "NetworkCoordinates$State" "moveGain" "I") (by decide +kernel)
  have k_101 := hts (.constantLong RX0 101 (1000)) (by decide +kernel)
  have f_18 := hts (.fieldLink RX0 18 "NetworkCoordinates$State" "maxStep" "I") (by decide +kernel)
  have b0 := hg.1
  have bA := hg.2.1 A hA
  have bB := hg.2.1 B hB
  have kAB := hg.2.2 A B hA hB
  have s1 := sSmp_bd hg hA hB
  have s5 := sVm_bd hg hA hB
  have s6 := sWgt_bd hg hA hB
  have s7 := z_mul0 (a := g 0 3) (b := sWgt g A B) (A := 1000) (B := 1000) (by omega) s6
  have s8 := sStp_bd hg hA hB hd
  refine lv_aload_n hx hb dX0_stepOf_0 rfl (lv_at hl 0 rfl) ?_
  refine va_get (D := (dC, dI)) (ci := 0) (v := .int (zI (g 0 3))) (C := RX0) (T := TX0) (N := 11) hx hb hts hinX0 hown hK.1 hP 0 rfl rfl 3 (by decide) f_15 (fun _ h9 => h9) rfl dX0_stepOf_1 ?_
  refine zr_i2l hx hb (by omega) dX0_stepOf_4 ?_
  refine lv_aload_n hx hb dX0_stepOf_5 rfl (lv_at hl 0 rfl) ?_
  refine lv_iload_n hx hb dX0_stepOf_6 rfl (lv_at hl 1 rfl) ?_
  refine lv_iload_n hx hb dX0_stepOf_7 rfl (lv_at hl 2 rfl) ?_
  refine rd_callV (As := [.int (zI (A : Int)), .int (zI (B : Int))]) (rest := [.long (zL (g 0 3))]) ⟨hx, hb, hml, hown, hts⟩ (c_X0_weight l dC dI cI cZ cS a g r hg A B (by omega) (by omega)) (cwV 2 hts gX0_stepOf_X0_weight rfl rfl rfl (by decide +kernel) ⟨Nat.le_of_ble_eq_true rfl, Nat.le_of_ble_eq_true rfl⟩) hP hK 0 rfl rfl rfl hl.1 rfl (Nat.le_of_ble_eq_true rfl) dX0_stepOf_8 ⟨Nat.zero_le _, Nat.zero_le _⟩ ?_
  refine zr_lmul hx hb dX0_stepOf_11 ?_
  refine zr_ldc2 hx hb (1000) hown k_101 (by decide) dX0_stepOf_12 ?_
  refine zr_ldiv hx hb (by omega) (by omega) dX0_stepOf_15 ?_
  refine zr_topL (sVm g A B) rfl ?_
  refine lv_lstore (lv' := [(4, .long (zL (sVm g A B))), (0, .ref (a 0)), (1, .int (zI (A : Int))), (2, .int (zI (B : Int))), (3, .int (zI d))]) hx hb dX0_stepOf_16 hl (by decide) rfl (fun ls hl => ?_)
  refine lv_aload_n hx hb dX0_stepOf_18 rfl (lv_at hl 1 rfl) ?_
  refine lv_iload_n hx hb dX0_stepOf_19 rfl (lv_at hl 2 rfl) ?_
  refine lv_iload_n hx hb dX0_stepOf_20 rfl (lv_at hl 3 rfl) ?_
  refine rd_callV (As := [.int (zI (A : Int)), .int (zI (B : Int))]) (rest := []) ⟨hx, hb, hml, hown, hts⟩ (c_X0_sample l dC dI cI cZ cS a g r hg A B (by omega) (by omega)) (cwV 2 hts gX0_stepOf_X0_sample rfl rfl rfl (by decide +kernel) ⟨Nat.le_of_ble_eq_true rfl, Nat.le_of_ble_eq_true rfl⟩) hP hK 0 rfl rfl rfl hl.1 rfl (Nat.le_of_ble_eq_true rfl) dX0_stepOf_21 ⟨Nat.zero_le _, Nat.zero_le _⟩ ?_
  refine lv_iload_n hx hb dX0_stepOf_24 rfl (lv_at hl 4 rfl) ?_
  refine zr_isub hx hb dX0_stepOf_25 ?_
  refine zr_i2l hx hb (by omega) dX0_stepOf_26 ?_
  refine lv_lload hx hb dX0_stepOf_27 (lv_at hl 0 rfl) ?_
  refine zr_lmul hx hb dX0_stepOf_29 ?_
  refine zr_ldc2 hx hb (1000) hown k_101 (by decide) dX0_stepOf_30 ?_
  refine zr_ldiv hx hb (by omega) (by omega) dX0_stepOf_33 ?_
  refine lv_aload_n hx hb dX0_stepOf_34 rfl (lv_at hl 1 rfl) ?_
  refine va_get (D := (dC, dI)) (ci := 0) (v := .int (zI (g 0 4))) (C := RX0) (T := TX0) (N := 11) hx hb hts hinX0 hown hK.1 hP 0 rfl rfl 4 (by decide) f_18 (fun _ h9 => h9) rfl dX0_stepOf_35 ?_
  refine zr_ineg hx hb dX0_stepOf_38 ?_
  refine lv_aload_n hx hb dX0_stepOf_39 rfl (lv_at hl 1 rfl) ?_
  refine va_get (D := (dC, dI)) (ci := 0) (v := .int (zI (g 0 4))) (C := RX0) (T := TX0) (N := 11) hx hb hts hinX0 hown hK.1 hP 0 rfl rfl 4 (by decide) f_18 (fun _ h9 => h9) rfl dX0_stepOf_40 ?_
  refine rd_callN (host := RX1) (As := [.long (zL ((((sSmp g A B) - d) * sVm g A B).tdiv 1000)), .int (zI (-(g 0 4))), .int (zI (g 0 4))]) (rest := []) ⟨hx, hb, hml, hown, hts⟩ (c_X1_limited l dC dI cI cZ cS ((((sSmp g A B) - d) * sVm g A B).tdiv 1000) (-(g 0 4)) (g 0 4) (by omega) (by omega) (by omega) (by omega)) ⟨va_cnB 3 hts gX0_stepOf_X1_limited_n124 rfl rfl rfl (hK.2.1 _ (nw_at 12 rfl)) (hts (.initialized RX1) (by decide +kernel)) (by decide +kernel) ⟨Nat.le_of_ble_eq_true rfl, Nat.le_of_ble_eq_true rfl⟩, hts (.static yX1_limited) (by decide +kernel), trivial⟩ va_P_nil hK rfl hl.1 rfl (Nat.le_of_ble_eq_true rfl) dX0_stepOf_43 ⟨Nat.zero_le _, Nat.zero_le _⟩ ?_
  exact rd_iret hx hb hr hlocks rfl dX0_stepOf_46
set_option maxHeartbeats 4000000 in
set_option maxRecDepth 100000 in
/-- xAfter -/
theorem c_X0_xAfter (l : Launch) (dC : Nat → ClassId) (dI : Nat → Nat → Nat) (cI cZ cS : ClassId) (a : Nat → Nat) (g : Nat → Nat → Int) (r : Int) (hg : gB g r) (A B : Nat) (hA : A < 10) (hB : B < 10) (st d : Int) (hst : -20000 ≤ st ∧ st ≤ 20000) (hd : 0 ≤ d ∧ d ≤ 482842) : Met l yX0_xAfter wsX0_xAfter ({ frames := 2, cells := 0, slots := 0, locals := 63 } : Room) (rd_Pc dC dI cI cZ cS (stw cI a g) [.ref (a 0), .int (zI (A : Int)), .int (zI (B : Int)), .int (zI st), .int (zI d)]) (rd_Qc (some (.int (zI (sX g A B st d))))) 0 0 nf := by
  refine rd_met (cc := cX0_xAfter) (maxL := 7) (ret := (some .int)) (by decide) rfl (Nat.le_of_ble_eq_true rfl) ?_
  intro p e s m below meth c ls hx hb hml hr hlocks hts hown hP hK hl
  have hl : lv_has ls 7 [(0, .ref (a 0)), (1, .int (zI (A : Int))), (2, .int (zI (B : Int))), (3, .int (zI st)), (4, .int (zI d))] := hl
  have hinX0 : ∀ w ∈ u_ws RX0 TX0 11, w ∈ wsX0_xAfter := by decide +kernel
  have f_21 := hts (.fieldLink RX0 21 "NetworkCoordinates$State" "xs" "[I") (by decide +kernel)
  have k_132 := hts (.constant RX0 132 (-100000)) (by decide +kernel)
  have k_133 := hts (.constant RX0 133 (100000)) (by decide +kernel)
  have b0 := hg.1
  have bA := hg.2.1 A hA
  have bB := hg.2.1 B hB
  have m1 := z_mul (a := st) (b := g 1 A - g 1 B) (A := 20000) (B := 200000) hst (by omega)
  have m2 : ∀ x : Int, 1 ≤ x → -4000000000 ≤ (st * (g 1 A - g 1 B)).tdiv x ∧ (st * (g 1 A - g 1 B)).tdiv x ≤ 4000000000 := fun x hx => z_tdiv m1 hx
  have m3 : -4000000000 ≤ (if d = 0 then st else (st * (g 1 A - g 1 B)).tdiv d) ∧ (if d = 0 then st else (st * (g 1 A - g 1 B)).tdiv d) ≤ 4000000000 := by
    by_cases q : d = 0
    · rw [if_pos q]; omega
    · rw [if_neg q]; exact m2 d (by omega)
  refine lv_iload hx hb dX0_xAfter_0 (lv_at hl 4 rfl) ?_
  refine zr_if_ne (tgt := 10) hx hb dX0_xAfter_2 (by decide) (by omega) (fun c_2 => ?_) (fun c_2 => ?_)
  · refine lv_iload_n hx hb dX0_xAfter_10 rfl (lv_at hl 3 rfl) ?_
    refine lv_aload_n hx hb dX0_xAfter_11 rfl (lv_at hl 0 rfl) ?_
    refine va_get (D := (dC, dI)) (ci := 0) (v := .ref (a 1)) (C := RX0) (T := TX0) (N := 11) hx hb hts hinX0 hown hK.1 hP 0 rfl rfl 5 (by decide) f_21 (fun _ h9 => h9) rfl dX0_xAfter_12 ?_
    refine lv_iload_n hx hb dX0_xAfter_15 rfl (lv_at hl 1 rfl) ?_
    refine zr_iald hx hb hK.1 hP 1 0 rfl rfl A (g 1 A) (by omega) (by omega) (Nat.le_of_ble_eq_true rfl) rfl dX0_xAfter_16 ?_
    refine lv_aload_n hx hb dX0_xAfter_17 rfl (lv_at hl 0 rfl) ?_
    refine va_get (D := (dC, dI)) (ci := 0) (v := .ref (a 1)) (C := RX0) (T := TX0) (N := 11) hx hb hts hinX0 hown hK.1 hP 0 rfl rfl 5 (by decide) f_21 (fun _ h9 => h9) rfl dX0_xAfter_18 ?_
    refine lv_iload_n hx hb dX0_xAfter_21 rfl (lv_at hl 2 rfl) ?_
    refine zr_iald hx hb hK.1 hP 1 0 rfl rfl B (g 1 B) (by omega) (by omega) (Nat.le_of_ble_eq_true rfl) rfl dX0_xAfter_22 ?_
    refine zr_isub hx hb dX0_xAfter_23 ?_
    refine lv_iload hx hb dX0_xAfter_24 (lv_at hl 4 rfl) ?_
    refine rd_callN (host := RX1) (As := [.int (zI st), .int (zI (g 1 A - g 1 B)), .int (zI d)]) (rest := []) ⟨hx, hb, hml, hown, hts⟩ (c_X1_share l dC dI cI cZ cS st (g 1 A - g 1 B) d (by omega) (by omega) (by omega)) ⟨va_cnB 3 hts gX0_xAfter_X1_share_n128 rfl rfl rfl (hK.2.1 _ (nw_at 13 rfl)) (hts (.initialized RX1) (by decide +kernel)) (by decide +kernel) ⟨Nat.le_of_ble_eq_true rfl, Nat.le_of_ble_eq_true rfl⟩, hts (.static yX1_share) (by decide +kernel), trivial⟩ va_P_nil hK rfl hl.1 rfl (Nat.le_of_ble_eq_true rfl) dX0_xAfter_26 ⟨Nat.zero_le _, Nat.zero_le _⟩ ?_
    refine zr_topL (if d = 0 then st else (st * (g 1 A - g 1 B)).tdiv d) (by rw [if_neg c_2, if_neg c_2]) ?_
    refine lv_lstore (lv' := [(5, .long (zL (if d = 0 then st else (st * (g 1 A - g 1 B)).tdiv d))), (0, .ref (a 0)), (1, .int (zI (A : Int))), (2, .int (zI (B : Int))), (3, .int (zI st)), (4, .int (zI d))]) hx hb dX0_xAfter_29 hl (by decide) rfl (fun ls hl => ?_)
    refine lv_aload_n hx hb dX0_xAfter_31 rfl (lv_at hl 1 rfl) ?_
    refine va_get (D := (dC, dI)) (ci := 0) (v := .ref (a 1)) (C := RX0) (T := TX0) (N := 11) hx hb hts hinX0 hown hK.1 hP 0 rfl rfl 5 (by decide) f_21 (fun _ h9 => h9) rfl dX0_xAfter_32 ?_
    refine lv_iload_n hx hb dX0_xAfter_35 rfl (lv_at hl 2 rfl) ?_
    refine zr_iald hx hb hK.1 hP 1 0 rfl rfl A (g 1 A) (by omega) (by omega) (Nat.le_of_ble_eq_true rfl) rfl dX0_xAfter_36 ?_
    refine zr_i2l hx hb (by omega) dX0_xAfter_37 ?_
    refine lv_lload hx hb dX0_xAfter_38 (lv_at hl 0 rfl) ?_
    refine zr_ladd hx hb dX0_xAfter_40 ?_
    refine zr_ldc hx hb (-100000) hown k_132 (by decide) dX0_xAfter_41 ?_
    refine zr_ldc hx hb (100000) hown k_133 (by decide) dX0_xAfter_43 ?_
    refine rd_callN (host := RX1) (As := [.long (zL (g 1 A + if d = 0 then st else (st * (g 1 A - g 1 B)).tdiv d)), .int (zI (-100000)), .int (zI 100000)]) (rest := []) ⟨hx, hb, hml, hown, hts⟩ (c_X1_limited l dC dI cI cZ cS (g 1 A + if d = 0 then st else (st * (g 1 A - g 1 B)).tdiv d) (-100000) 100000 (by omega) (by omega) (by omega) (by omega)) ⟨va_cnB 3 hts gX0_xAfter_X1_limited_n124 rfl rfl rfl (hK.2.1 _ (nw_at 12 rfl)) (hts (.initialized RX1) (by decide +kernel)) (by decide +kernel) ⟨Nat.le_of_ble_eq_true rfl, Nat.le_of_ble_eq_true rfl⟩, hts (.static yX1_limited) (by decide +kernel), trivial⟩ va_P_nil hK rfl hl.1 rfl (Nat.le_of_ble_eq_true rfl) dX0_xAfter_45 ⟨Nat.zero_le _, Nat.zero_le _⟩ ?_
    exact rd_iret hx hb hr hlocks rfl dX0_xAfter_48
  · refine lv_iload_n hx hb dX0_xAfter_5 rfl (lv_at hl 3 rfl) ?_
    refine zr_i2l hx hb (by omega) dX0_xAfter_6 ?_
    refine zr_topL (if d = 0 then st else (st * (g 1 A - g 1 B)).tdiv d) (if_pos c_2).symm ?_
    refine lv_goto (tgt := 29) hx hb dX0_xAfter_7 (by decide) ?_
    refine lv_lstore (lv' := [(5, .long (zL (if d = 0 then st else (st * (g 1 A - g 1 B)).tdiv d))), (0, .ref (a 0)), (1, .int (zI (A : Int))), (2, .int (zI (B : Int))), (3, .int (zI st)), (4, .int (zI d))]) hx hb dX0_xAfter_29 hl (by decide) rfl (fun ls hl => ?_)
    refine lv_aload_n hx hb dX0_xAfter_31 rfl (lv_at hl 1 rfl) ?_
    refine va_get (D := (dC, dI)) (ci := 0) (v := .ref (a 1)) (C := RX0) (T := TX0) (N := 11) hx hb hts hinX0 hown hK.1 hP 0 rfl rfl 5 (by decide) f_21 (fun _ h9 => h9) rfl dX0_xAfter_32 ?_
    refine lv_iload_n hx hb dX0_xAfter_35 rfl (lv_at hl 2 rfl) ?_
    refine zr_iald hx hb hK.1 hP 1 0 rfl rfl A (g 1 A) (by omega) (by omega) (Nat.le_of_ble_eq_true rfl) rfl dX0_xAfter_36 ?_
    refine zr_i2l hx hb (by omega) dX0_xAfter_37 ?_
    refine lv_lload hx hb dX0_xAfter_38 (lv_at hl 0 rfl) ?_
    refine zr_ladd hx hb dX0_xAfter_40 ?_
    refine zr_ldc hx hb (-100000) hown k_132 (by decide) dX0_xAfter_41 ?_
    refine zr_ldc hx hb (100000) hown k_133 (by decide) dX0_xAfter_43 ?_
    refine rd_callN (host := RX1) (As := [.long (zL (g 1 A + if d = 0 then st else (st * (g 1 A - g 1 B)).tdiv d)), .int (zI (-100000)), .int (zI 100000)]) (rest := []) ⟨hx, hb, hml, hown, hts⟩ (c_X1_limited l dC dI cI cZ cS (g 1 A + if d = 0 then st else (st * (g 1 A - g 1 B)).tdiv d) (-100000) 100000 (by omega) (by omega) (by omega) (by omega)) ⟨va_cnB 3 hts gX0_xAfter_X1_limited_n124 rfl rfl rfl (hK.2.1 _ (nw_at 12 rfl)) (hts (.initialized RX1) (by decide +kernel)) (by decide +kernel) ⟨Nat.le_of_ble_eq_true rfl, Nat.le_of_ble_eq_true rfl⟩, hts (.static yX1_limited) (by decide +kernel), trivial⟩ va_P_nil hK rfl hl.1 rfl (Nat.le_of_ble_eq_true rfl) dX0_xAfter_45 ⟨Nat.zero_le _, Nat.zero_le _⟩ ?_
    exact rd_iret hx hb hr hlocks rfl dX0_xAfter_48
set_option maxHeartbeats 4000000 in
set_option maxRecDepth 100000 in
/-- yAfter -/
theorem c_X0_yAfter (l : Launch) (dC : Nat → ClassId) (dI : Nat → Nat → Nat) (cI cZ cS : ClassId) (a : Nat → Nat) (g : Nat → Nat → Int) (r : Int) (hg : gB g r) (A B : Nat) (hA : A < 10) (hB : B < 10) (st d : Int) (hst : -20000 ≤ st ∧ st ≤ 20000) (hd : 0 ≤ d ∧ d ≤ 482842) : Met l yX0_yAfter wsX0_yAfter ({ frames := 2, cells := 0, slots := 0, locals := 63 } : Room) (rd_Pc dC dI cI cZ cS (stw cI a g) [.ref (a 0), .int (zI (A : Int)), .int (zI (B : Int)), .int (zI st), .int (zI d)]) (rd_Qc (some (.int (zI (sY g A B st d))))) 0 0 nf := by
  refine rd_met (cc := cX0_yAfter) (maxL := 7) (ret := (some .int)) (by decide) rfl (Nat.le_of_ble_eq_true rfl) ?_
  intro p e s m below meth c ls hx hb hml hr hlocks hts hown hP hK hl
  have hl : lv_has ls 7 [(0, .ref (a 0)), (1, .int (zI (A : Int))), (2, .int (zI (B : Int))), (3, .int (zI st)), (4, .int (zI d))] := hl
  have hinX0 : ∀ w ∈ u_ws RX0 TX0 11, w ∈ wsX0_yAfter := by decide +kernel
  have f_25 := hts (.fieldLink RX0 25 "NetworkCoordinates$State" "ys" "[I") (by decide +kernel)
  have k_132 := hts (.constant RX0 132 (-100000)) (by decide +kernel)
  have k_133 := hts (.constant RX0 133 (100000)) (by decide +kernel)
  have b0 := hg.1
  have bA := hg.2.1 A hA
  have bB := hg.2.1 B hB
  have m1 := z_mul (a := st) (b := g 2 A - g 2 B) (A := 20000) (B := 200000) hst (by omega)
  have m2 : ∀ x : Int, 1 ≤ x → -4000000000 ≤ (st * (g 2 A - g 2 B)).tdiv x ∧ (st * (g 2 A - g 2 B)).tdiv x ≤ 4000000000 := fun x hx => z_tdiv m1 hx
  have m3 : -4000000000 ≤ (if d = 0 then 0 else (st * (g 2 A - g 2 B)).tdiv d) ∧ (if d = 0 then 0 else (st * (g 2 A - g 2 B)).tdiv d) ≤ 4000000000 := by
    by_cases q : d = 0
    · rw [if_pos q]; omega
    · rw [if_neg q]; exact m2 d (by omega)
  refine lv_iload_n hx hb dX0_yAfter_0 rfl (lv_at hl 3 rfl) ?_
  refine lv_aload_n hx hb dX0_yAfter_1 rfl (lv_at hl 0 rfl) ?_
  refine va_get (D := (dC, dI)) (ci := 0) (v := .ref (a 2)) (C := RX0) (T := TX0) (N := 11) hx hb hts hinX0 hown hK.1 hP 0 rfl rfl 6 (by decide) f_25 (fun _ h9 => h9) rfl dX0_yAfter_2 ?_
  refine lv_iload_n hx hb dX0_yAfter_5 rfl (lv_at hl 1 rfl) ?_
  refine zr_iald hx hb hK.1 hP 2 0 rfl rfl A (g 2 A) (by omega) (by omega) (Nat.le_of_ble_eq_true rfl) rfl dX0_yAfter_6 ?_
  refine lv_aload_n hx hb dX0_yAfter_7 rfl (lv_at hl 0 rfl) ?_
  refine va_get (D := (dC, dI)) (ci := 0) (v := .ref (a 2)) (C := RX0) (T := TX0) (N := 11) hx hb hts hinX0 hown hK.1 hP 0 rfl rfl 6 (by decide) f_25 (fun _ h9 => h9) rfl dX0_yAfter_8 ?_
  refine lv_iload_n hx hb dX0_yAfter_11 rfl (lv_at hl 2 rfl) ?_
  refine zr_iald hx hb hK.1 hP 2 0 rfl rfl B (g 2 B) (by omega) (by omega) (Nat.le_of_ble_eq_true rfl) rfl dX0_yAfter_12 ?_
  refine zr_isub hx hb dX0_yAfter_13 ?_
  refine lv_iload hx hb dX0_yAfter_14 (lv_at hl 4 rfl) ?_
  refine rd_callN (host := RX1) (As := [.int (zI st), .int (zI (g 2 A - g 2 B)), .int (zI d)]) (rest := []) ⟨hx, hb, hml, hown, hts⟩ (c_X1_share l dC dI cI cZ cS st (g 2 A - g 2 B) d (by omega) (by omega) (by omega)) ⟨va_cnB 3 hts gX0_yAfter_X1_share_n128 rfl rfl rfl (hK.2.1 _ (nw_at 13 rfl)) (hts (.initialized RX1) (by decide +kernel)) (by decide +kernel) ⟨Nat.le_of_ble_eq_true rfl, Nat.le_of_ble_eq_true rfl⟩, hts (.static yX1_share) (by decide +kernel), trivial⟩ va_P_nil hK rfl hl.1 rfl (Nat.le_of_ble_eq_true rfl) dX0_yAfter_16 ⟨Nat.zero_le _, Nat.zero_le _⟩ ?_
  refine lv_lstore (lv' := [(5, .long (zL (if d = 0 then 0 else (st * (g 2 A - g 2 B)).tdiv d))), (0, .ref (a 0)), (1, .int (zI (A : Int))), (2, .int (zI (B : Int))), (3, .int (zI st)), (4, .int (zI d))]) hx hb dX0_yAfter_19 hl (by decide) rfl (fun ls hl => ?_)
  refine lv_aload_n hx hb dX0_yAfter_21 rfl (lv_at hl 1 rfl) ?_
  refine va_get (D := (dC, dI)) (ci := 0) (v := .ref (a 2)) (C := RX0) (T := TX0) (N := 11) hx hb hts hinX0 hown hK.1 hP 0 rfl rfl 6 (by decide) f_25 (fun _ h9 => h9) rfl dX0_yAfter_22 ?_
  refine lv_iload_n hx hb dX0_yAfter_25 rfl (lv_at hl 2 rfl) ?_
  refine zr_iald hx hb hK.1 hP 2 0 rfl rfl A (g 2 A) (by omega) (by omega) (Nat.le_of_ble_eq_true rfl) rfl dX0_yAfter_26 ?_
  refine zr_i2l hx hb (by omega) dX0_yAfter_27 ?_
  refine lv_lload hx hb dX0_yAfter_28 (lv_at hl 0 rfl) ?_
  refine zr_ladd hx hb dX0_yAfter_30 ?_
  refine zr_ldc hx hb (-100000) hown k_132 (by decide) dX0_yAfter_31 ?_
  refine zr_ldc hx hb (100000) hown k_133 (by decide) dX0_yAfter_33 ?_
  refine rd_callN (host := RX1) (As := [.long (zL (g 2 A + (if d = 0 then 0 else (st * (g 2 A - g 2 B)).tdiv d))), .int (zI (-100000)), .int (zI 100000)]) (rest := []) ⟨hx, hb, hml, hown, hts⟩ (c_X1_limited l dC dI cI cZ cS (g 2 A + (if d = 0 then 0 else (st * (g 2 A - g 2 B)).tdiv d)) (-100000) 100000 (by omega) (by omega) (by omega) (by omega)) ⟨va_cnB 3 hts gX0_yAfter_X1_limited_n124 rfl rfl rfl (hK.2.1 _ (nw_at 12 rfl)) (hts (.initialized RX1) (by decide +kernel)) (by decide +kernel) ⟨Nat.le_of_ble_eq_true rfl, Nat.le_of_ble_eq_true rfl⟩, hts (.static yX1_limited) (by decide +kernel), trivial⟩ va_P_nil hK rfl hl.1 rfl (Nat.le_of_ble_eq_true rfl) dX0_yAfter_35 ⟨Nat.zero_le _, Nat.zero_le _⟩ ?_
  exact rd_iret hx hb hr hlocks rfl dX0_yAfter_38
set_option maxHeartbeats 4000000 in
set_option maxRecDepth 100000 in
/-- heightAfter -/
theorem c_X0_heightAfter (l : Launch) (dC : Nat → ClassId) (dI : Nat → Nat → Nat) (cI cZ cS : ClassId) (a : Nat → Nat) (g : Nat → Nat → Int) (r : Int) (hg : gB g r) (A B : Nat) (hA : A < 10) (hB : B < 10) (st d : Int) (hst : -20000 ≤ st ∧ st ≤ 20000) (hd : 0 ≤ d ∧ d ≤ 482842) : Met l yX0_heightAfter wsX0_heightAfter ({ frames := 2, cells := 0, slots := 0, locals := 63 } : Room) (rd_Pc dC dI cI cZ cS (stw cI a g) [.ref (a 0), .int (zI (A : Int)), .int (zI (B : Int)), .int (zI st), .int (zI d)]) (rd_Qc (some (.int (zI (sH g A B st d))))) 0 0 nf := by
  refine rd_met (cc := cX0_heightAfter) (maxL := 7) (ret := (some .int)) (by decide) rfl (Nat.le_of_ble_eq_true rfl) ?_
  intro p e s m below meth c ls hx hb hml hr hlocks hts hown hP hK hl
  have hl : lv_has ls 7 [(0, .ref (a 0)), (1, .int (zI (A : Int))), (2, .int (zI (B : Int))), (3, .int (zI st)), (4, .int (zI d))] := hl
  have hinX0 : ∀ w ∈ u_ws RX0 TX0 11, w ∈ wsX0_heightAfter := by decide +kernel
  have f_28 := hts (.fieldLink RX0 28 "NetworkCoordinates$State" "heights" "[I") (by decide +kernel)
  have k_133 := hts (.constant RX0 133 (100000)) (by decide +kernel)
  have b0 := hg.1
  have bA := hg.2.1 A hA
  have bB := hg.2.1 B hB
  have m1 := z_mul (a := st) (b := g 3 A + g 3 B) (A := 20000) (B := 200000) hst (by omega)
  have m2 : ∀ x : Int, 1 ≤ x → -4000000000 ≤ (st * (g 3 A + g 3 B)).tdiv x ∧ (st * (g 3 A + g 3 B)).tdiv x ≤ 4000000000 := fun x hx => z_tdiv m1 hx
  have m3 : -4000000000 ≤ (if d = 0 then 0 else (st * (g 3 A + g 3 B)).tdiv d) ∧ (if d = 0 then 0 else (st * (g 3 A + g 3 B)).tdiv d) ≤ 4000000000 := by
    by_cases q : d = 0
    · rw [if_pos q]; omega
    · rw [if_neg q]; exact m2 d (by omega)
  refine lv_iload_n hx hb dX0_heightAfter_0 rfl (lv_at hl 3 rfl) ?_
  refine lv_aload_n hx hb dX0_heightAfter_1 rfl (lv_at hl 0 rfl) ?_
  refine va_get (D := (dC, dI)) (ci := 0) (v := .ref (a 3)) (C := RX0) (T := TX0) (N := 11) hx hb hts hinX0 hown hK.1 hP 0 rfl rfl 7 (by decide) f_28 (fun _ h9 => h9) rfl dX0_heightAfter_2 ?_
  refine lv_iload_n hx hb dX0_heightAfter_5 rfl (lv_at hl 1 rfl) ?_
  refine zr_iald hx hb hK.1 hP 3 0 rfl rfl A (g 3 A) (by omega) (by omega) (Nat.le_of_ble_eq_true rfl) rfl dX0_heightAfter_6 ?_
  refine lv_aload_n hx hb dX0_heightAfter_7 rfl (lv_at hl 0 rfl) ?_
  refine va_get (D := (dC, dI)) (ci := 0) (v := .ref (a 3)) (C := RX0) (T := TX0) (N := 11) hx hb hts hinX0 hown hK.1 hP 0 rfl rfl 7 (by decide) f_28 (fun _ h9 => h9) rfl dX0_heightAfter_8 ?_
  refine lv_iload_n hx hb dX0_heightAfter_11 rfl (lv_at hl 2 rfl) ?_
  refine zr_iald hx hb hK.1 hP 3 0 rfl rfl B (g 3 B) (by omega) (by omega) (Nat.le_of_ble_eq_true rfl) rfl dX0_heightAfter_12 ?_
  refine zr_iadd hx hb dX0_heightAfter_13 ?_
  refine lv_iload hx hb dX0_heightAfter_14 (lv_at hl 4 rfl) ?_
  refine rd_callN (host := RX1) (As := [.int (zI st), .int (zI (g 3 A + g 3 B)), .int (zI d)]) (rest := []) ⟨hx, hb, hml, hown, hts⟩ (c_X1_share l dC dI cI cZ cS st (g 3 A + g 3 B) d (by omega) (by omega) (by omega)) ⟨va_cnB 3 hts gX0_heightAfter_X1_share_n128 rfl rfl rfl (hK.2.1 _ (nw_at 13 rfl)) (hts (.initialized RX1) (by decide +kernel)) (by decide +kernel) ⟨Nat.le_of_ble_eq_true rfl, Nat.le_of_ble_eq_true rfl⟩, hts (.static yX1_share) (by decide +kernel), trivial⟩ va_P_nil hK rfl hl.1 rfl (Nat.le_of_ble_eq_true rfl) dX0_heightAfter_16 ⟨Nat.zero_le _, Nat.zero_le _⟩ ?_
  refine lv_lstore (lv' := [(5, .long (zL (if d = 0 then 0 else (st * (g 3 A + g 3 B)).tdiv d))), (0, .ref (a 0)), (1, .int (zI (A : Int))), (2, .int (zI (B : Int))), (3, .int (zI st)), (4, .int (zI d))]) hx hb dX0_heightAfter_19 hl (by decide) rfl (fun ls hl => ?_)
  refine lv_aload_n hx hb dX0_heightAfter_21 rfl (lv_at hl 1 rfl) ?_
  refine va_get (D := (dC, dI)) (ci := 0) (v := .ref (a 3)) (C := RX0) (T := TX0) (N := 11) hx hb hts hinX0 hown hK.1 hP 0 rfl rfl 7 (by decide) f_28 (fun _ h9 => h9) rfl dX0_heightAfter_22 ?_
  refine lv_iload_n hx hb dX0_heightAfter_25 rfl (lv_at hl 2 rfl) ?_
  refine zr_iald hx hb hK.1 hP 3 0 rfl rfl A (g 3 A) (by omega) (by omega) (Nat.le_of_ble_eq_true rfl) rfl dX0_heightAfter_26 ?_
  refine zr_i2l hx hb (by omega) dX0_heightAfter_27 ?_
  refine lv_lload hx hb dX0_heightAfter_28 (lv_at hl 0 rfl) ?_
  refine zr_ladd hx hb dX0_heightAfter_30 ?_
  refine zr_iconst hx hb dX0_heightAfter_31 ?_
  refine zr_ldc hx hb (100000) hown k_133 (by decide) dX0_heightAfter_32 ?_
  refine rd_callN (host := RX1) (As := [.long (zL (g 3 A + (if d = 0 then 0 else (st * (g 3 A + g 3 B)).tdiv d))), .int (zI 0), .int (zI 100000)]) (rest := []) ⟨hx, hb, hml, hown, hts⟩ (c_X1_limited l dC dI cI cZ cS (g 3 A + (if d = 0 then 0 else (st * (g 3 A + g 3 B)).tdiv d)) 0 100000 (by omega) (by omega) (by omega) (by omega)) ⟨va_cnB 3 hts gX0_heightAfter_X1_limited_n124 rfl rfl rfl (hK.2.1 _ (nw_at 12 rfl)) (hts (.initialized RX1) (by decide +kernel)) (by decide +kernel) ⟨Nat.le_of_ble_eq_true rfl, Nat.le_of_ble_eq_true rfl⟩, hts (.static yX1_limited) (by decide +kernel), trivial⟩ va_P_nil hK rfl hl.1 rfl (Nat.le_of_ble_eq_true rfl) dX0_heightAfter_34 ⟨Nat.zero_le _, Nat.zero_le _⟩ ?_
  exact rd_iret hx hb hr hlocks rfl dX0_heightAfter_37
set_option maxHeartbeats 4000000 in
set_option maxRecDepth 100000 in
/-- distanceMoved -/
theorem c_X0_distanceMoved (l : Launch) (dC : Nat → ClassId) (dI : Nat → Nat → Nat) (cI cZ cS : ClassId) (a : Nat → Nat) (g : Nat → Nat → Int) (r : Int) (hg : gB g r) (A B : Nat) (hA : A < 10) (hB : B < 10) : Met l yX0_distanceMoved wsX0_distanceMoved ({ frames := 3, cells := 0, slots := 0, locals := 89 } : Room) (rd_Pc dC dI cI cZ cS (stw cI a g) [.ref (a 0), .int (zI (A : Int)), .int (zI (B : Int))]) (rd_Qc (some (.int (zI (sMov g A B))))) 0 0 nf := by
  refine rd_met (cc := cX0_distanceMoved) (maxL := 5) (ret := (some .int)) (by decide) rfl (Nat.le_of_ble_eq_true rfl) ?_
  intro p e s m below meth c ls hx hb hml hr hlocks hts hown hP hK hl
  have hl : lv_has ls 5 [(0, .ref (a 0)), (1, .int (zI (A : Int))), (2, .int (zI (B : Int)))] := hl
  have hinX0 : ∀ w ∈ u_ws RX0 TX0 11, w ∈ wsX0_distanceMoved := by decide +kernel
  have f_21 := hts (.fieldLink RX0 21 "NetworkCoordinates$State" "xs" "[I") (by decide +kernel)
  have f_25 := hts (.fieldLink RX0 25 "NetworkCoordinates$State" "ys" "[I") (by decide +kernel)
  have b0 := hg.1
  have bA := hg.2.1 A hA
  have bB := hg.2.1 B hB
  have s1 := sPrd_bd hg hA hB
  have s2 := sStp_bd hg hA hB s1
  have s3 := sLim_bd (v := g 1 A + (if sPrd g A B = 0 then sStp g A B (sPrd g A B) else (sStp g A B (sPrd g A B) * (g 1 A - g 1 B)).tdiv (sPrd g A B))) (lo := -100000) (hi := 100000) (by omega)
  have s3 : -100000 ≤ sX g A B (sStp g A B (sPrd g A B)) (sPrd g A B) ∧ sX g A B (sStp g A B (sPrd g A B)) (sPrd g A B) ≤ 100000 := s3
  have s4 := sLim_bd (v := g 2 A + (if sPrd g A B = 0 then 0 else (sStp g A B (sPrd g A B) * (g 2 A - g 2 B)).tdiv (sPrd g A B))) (lo := -100000) (hi := 100000) (by omega)
  have s4 : -100000 ≤ sY g A B (sStp g A B (sPrd g A B)) (sPrd g A B) ∧ sY g A B (sStp g A B (sPrd g A B)) (sPrd g A B) ≤ 100000 := s4
  refine lv_aload_n hx hb dX0_distanceMoved_0 rfl (lv_at hl 0 rfl) ?_
  refine lv_iload_n hx hb dX0_distanceMoved_1 rfl (lv_at hl 1 rfl) ?_
  refine lv_iload_n hx hb dX0_distanceMoved_2 rfl (lv_at hl 2 rfl) ?_
  refine rd_callV (As := [.int (zI (A : Int)), .int (zI (B : Int))]) (rest := []) ⟨hx, hb, hml, hown, hts⟩ (c_X0_predicted l dC dI cI cZ cS a g r hg A B (by omega) (by omega)) (cwV 2 hts gX0_distanceMoved_X0_predicted rfl rfl rfl (by decide +kernel) ⟨Nat.le_of_ble_eq_true rfl, Nat.le_of_ble_eq_true rfl⟩) hP hK 0 rfl rfl rfl hl.1 rfl (Nat.le_of_ble_eq_true rfl) dX0_distanceMoved_3 ⟨Nat.zero_le _, Nat.zero_le _⟩ ?_
  refine lv_istore_n (lv' := [(3, .int (zI (sPrd g A B))), (0, .ref (a 0)), (1, .int (zI (A : Int))), (2, .int (zI (B : Int)))]) hx hb dX0_distanceMoved_6 rfl hl (by decide) rfl (fun ls hl => ?_)
  refine lv_aload_n hx hb dX0_distanceMoved_7 rfl (lv_at hl 1 rfl) ?_
  refine lv_iload_n hx hb dX0_distanceMoved_8 rfl (lv_at hl 2 rfl) ?_
  refine lv_iload_n hx hb dX0_distanceMoved_9 rfl (lv_at hl 3 rfl) ?_
  refine lv_iload_n hx hb dX0_distanceMoved_10 rfl (lv_at hl 0 rfl) ?_
  refine rd_callV (As := [.int (zI (A : Int)), .int (zI (B : Int)), .int (zI (sPrd g A B))]) (rest := []) ⟨hx, hb, hml, hown, hts⟩ (c_X0_stepOf l dC dI cI cZ cS a g r hg A B (by omega) (by omega) (sPrd g A B) (by omega)) (cwV 3 hts gX0_distanceMoved_X0_stepOf rfl rfl rfl (by decide +kernel) ⟨Nat.le_of_ble_eq_true rfl, Nat.le_of_ble_eq_true rfl⟩) hP hK 0 rfl rfl rfl hl.1 rfl (Nat.le_of_ble_eq_true rfl) dX0_distanceMoved_11 ⟨Nat.zero_le _, Nat.zero_le _⟩ ?_
  refine lv_istore (lv' := [(4, .int (zI (sStp g A B (sPrd g A B)))), (3, .int (zI (sPrd g A B))), (0, .ref (a 0)), (1, .int (zI (A : Int))), (2, .int (zI (B : Int)))]) hx hb dX0_distanceMoved_14 hl (by decide) rfl (fun ls hl => ?_)
  refine lv_aload_n hx hb dX0_distanceMoved_16 rfl (lv_at hl 2 rfl) ?_
  refine lv_iload_n hx hb dX0_distanceMoved_17 rfl (lv_at hl 3 rfl) ?_
  refine lv_iload_n hx hb dX0_distanceMoved_18 rfl (lv_at hl 4 rfl) ?_
  refine lv_iload hx hb dX0_distanceMoved_19 (lv_at hl 0 rfl) ?_
  refine lv_iload_n hx hb dX0_distanceMoved_21 rfl (lv_at hl 1 rfl) ?_
  refine rd_callV (As := [.int (zI (A : Int)), .int (zI (B : Int)), .int (zI (sStp g A B (sPrd g A B))), .int (zI (sPrd g A B))]) (rest := []) ⟨hx, hb, hml, hown, hts⟩ (c_X0_xAfter l dC dI cI cZ cS a g r hg A B (by omega) (by omega) (sStp g A B (sPrd g A B)) (sPrd g A B) (by omega) (by omega)) (cwV 4 hts gX0_distanceMoved_X0_xAfter rfl rfl rfl (by decide +kernel) ⟨Nat.le_of_ble_eq_true rfl, Nat.le_of_ble_eq_true rfl⟩) hP hK 0 rfl rfl rfl hl.1 rfl (Nat.le_of_ble_eq_true rfl) dX0_distanceMoved_22 ⟨Nat.zero_le _, Nat.zero_le _⟩ ?_
  refine lv_aload_n hx hb dX0_distanceMoved_25 rfl (lv_at hl 2 rfl) ?_
  refine va_get (D := (dC, dI)) (ci := 0) (v := .ref (a 1)) (C := RX0) (T := TX0) (N := 11) hx hb hts hinX0 hown hK.1 hP 0 rfl rfl 5 (by decide) f_21 (fun _ h9 => h9) rfl dX0_distanceMoved_26 ?_
  refine lv_iload_n hx hb dX0_distanceMoved_29 rfl (lv_at hl 3 rfl) ?_
  refine zr_iald hx hb hK.1 hP 1 0 rfl rfl A (g 1 A) (by omega) (by omega) (Nat.le_of_ble_eq_true rfl) rfl dX0_distanceMoved_30 ?_
  refine zr_isub hx hb dX0_distanceMoved_31 ?_
  refine zr_i2l hx hb (by omega) dX0_distanceMoved_32 ?_
  refine lv_aload_n hx hb dX0_distanceMoved_33 rfl (lv_at hl 2 rfl) ?_
  refine lv_iload_n hx hb dX0_distanceMoved_34 rfl (lv_at hl 3 rfl) ?_
  refine lv_iload_n hx hb dX0_distanceMoved_35 rfl (lv_at hl 4 rfl) ?_
  refine lv_iload hx hb dX0_distanceMoved_36 (lv_at hl 0 rfl) ?_
  refine lv_iload_n hx hb dX0_distanceMoved_38 rfl (lv_at hl 1 rfl) ?_
  refine rd_callV (As := [.int (zI (A : Int)), .int (zI (B : Int)), .int (zI (sStp g A B (sPrd g A B))), .int (zI (sPrd g A B))]) (rest := [.long (zL ((sX g A B (sStp g A B (sPrd g A B)) (sPrd g A B)) - g 1 A))]) ⟨hx, hb, hml, hown, hts⟩ (c_X0_yAfter l dC dI cI cZ cS a g r hg A B (by omega) (by omega) (sStp g A B (sPrd g A B)) (sPrd g A B) (by omega) (by omega)) (cwV 4 hts gX0_distanceMoved_X0_yAfter rfl rfl rfl (by decide +kernel) ⟨Nat.le_of_ble_eq_true rfl, Nat.le_of_ble_eq_true rfl⟩) hP hK 0 rfl rfl rfl hl.1 rfl (Nat.le_of_ble_eq_true rfl) dX0_distanceMoved_39 ⟨Nat.zero_le _, Nat.zero_le _⟩ ?_
  refine lv_aload_n hx hb dX0_distanceMoved_42 rfl (lv_at hl 2 rfl) ?_
  refine va_get (D := (dC, dI)) (ci := 0) (v := .ref (a 2)) (C := RX0) (T := TX0) (N := 11) hx hb hts hinX0 hown hK.1 hP 0 rfl rfl 6 (by decide) f_25 (fun _ h9 => h9) rfl dX0_distanceMoved_43 ?_
  refine lv_iload_n hx hb dX0_distanceMoved_46 rfl (lv_at hl 3 rfl) ?_
  refine zr_iald hx hb hK.1 hP 2 0 rfl rfl A (g 2 A) (by omega) (by omega) (Nat.le_of_ble_eq_true rfl) rfl dX0_distanceMoved_47 ?_
  refine zr_isub hx hb dX0_distanceMoved_48 ?_
  refine zr_i2l hx hb (by omega) dX0_distanceMoved_49 ?_
  refine rd_callN (host := RX1) (As := [.long (zL ((sX g A B (sStp g A B (sPrd g A B)) (sPrd g A B)) - g 1 A)), .long (zL ((sY g A B (sStp g A B (sPrd g A B)) (sPrd g A B)) - g 2 A))]) (rest := []) ⟨hx, hb, hml, hown, hts⟩ (c_X1_planarDistance l dC dI cI cZ cS ((sX g A B (sStp g A B (sPrd g A B)) (sPrd g A B)) - g 1 A) ((sY g A B (sStp g A B (sPrd g A B)) (sPrd g A B)) - g 2 A) (by omega) (by omega)) ⟨va_cnB 2 hts gX0_distanceMoved_X1_planarDistance_n64 rfl rfl rfl (hK.2.1 _ (nw_at 10 rfl)) (hts (.initialized RX1) (by decide +kernel)) (by decide +kernel) ⟨Nat.le_of_ble_eq_true rfl, Nat.le_of_ble_eq_true rfl⟩, hts (.static yX1_planarDistance) (by decide +kernel), trivial⟩ va_P_nil hK rfl hl.1 rfl (Nat.le_of_ble_eq_true rfl) dX0_distanceMoved_50 ⟨Nat.zero_le _, Nat.zero_le _⟩ ?_
  exact rd_iret hx hb hr hlocks rfl dX0_distanceMoved_53
set_option maxHeartbeats 4000000 in
set_option maxRecDepth 100000 in
/-- relative -/
theorem c_X0_relative (l : Launch) (dC : Nat → ClassId) (dI : Nat → Nat → Nat) (cI cZ cS : ClassId) (a : Nat → Nat) (g : Nat → Nat → Int) (r : Int) (hg : gB g r) (A B : Nat) (hA : A < 10) (hB : B < 10) (hk : 1 ≤ g 6 (10 * A + B)) : Met l yX0_relative wsX0_relative ({ frames := 3, cells := 0, slots := 0, locals := 71 } : Room) (rd_Pc dC dI cI cZ cS (stw cI a g) [.ref (a 0), .int (zI (A : Int)), .int (zI (B : Int))]) (rd_Qc (some (.int (zI (sRel g A B))))) 0 0 nf := by
  refine rd_met (cc := cX0_relative) (maxL := 4) (ret := (some .int)) (by decide) rfl (Nat.le_of_ble_eq_true rfl) ?_
  intro p e s m below meth c ls hx hb hml hr hlocks hts hown hP hK hl
  have hl : lv_has ls 4 [(0, .ref (a 0)), (1, .int (zI (A : Int))), (2, .int (zI (B : Int)))] := hl
  have k_101 := hts (.constantLong RX0 101 (1000)) (by decide +kernel)
  have b0 := hg.1
  have bA := hg.2.1 A hA
  have bB := hg.2.1 B hB
  have kAB := hg.2.2 A B hA hB
  have s1 := sPrd_bd hg hA hB
  have s2 := sAbs_bd (z := sPrd g A B - g 6 (10 * A + B)) (A := 482842) (by omega)
  refine lv_aload_n hx hb dX0_relative_0 rfl (lv_at hl 0 rfl) ?_
  refine lv_iload_n hx hb dX0_relative_1 rfl (lv_at hl 1 rfl) ?_
  refine lv_iload_n hx hb dX0_relative_2 rfl (lv_at hl 2 rfl) ?_
  refine rd_callV (As := [.int (zI (A : Int)), .int (zI (B : Int))]) (rest := []) ⟨hx, hb, hml, hown, hts⟩ (c_X0_rttOf l dC dI cI cZ cS a g r hg A B (by omega) (by omega)) (cwV 2 hts gX0_relative_X0_rttOf rfl rfl rfl (by decide +kernel) ⟨Nat.le_of_ble_eq_true rfl, Nat.le_of_ble_eq_true rfl⟩) hP hK 0 rfl rfl rfl hl.1 rfl (Nat.le_of_ble_eq_true rfl) dX0_relative_3 ⟨Nat.zero_le _, Nat.zero_le _⟩ ?_
  refine lv_istore_n (lv' := [(3, .int (zI (g 6 (10 * A + B)))), (0, .ref (a 0)), (1, .int (zI (A : Int))), (2, .int (zI (B : Int)))]) hx hb dX0_relative_6 rfl hl (by decide) rfl (fun ls hl => ?_)
  refine zr_ldc2 hx hb (1000) hown k_101 (by decide) dX0_relative_7 ?_
  refine lv_aload_n hx hb dX0_relative_10 rfl (lv_at hl 1 rfl) ?_
  refine lv_iload_n hx hb dX0_relative_11 rfl (lv_at hl 2 rfl) ?_
  refine lv_iload_n hx hb dX0_relative_12 rfl (lv_at hl 3 rfl) ?_
  refine rd_callV (As := [.int (zI (A : Int)), .int (zI (B : Int))]) (rest := [.long (zL 1000)]) ⟨hx, hb, hml, hown, hts⟩ (c_X0_predicted l dC dI cI cZ cS a g r hg A B (by omega) (by omega)) (cwV 2 hts gX0_relative_X0_predicted rfl rfl rfl (by decide +kernel) ⟨Nat.le_of_ble_eq_true rfl, Nat.le_of_ble_eq_true rfl⟩) hP hK 0 rfl rfl rfl hl.1 rfl (Nat.le_of_ble_eq_true rfl) dX0_relative_13 ⟨Nat.zero_le _, Nat.zero_le _⟩ ?_
  refine lv_iload_n hx hb dX0_relative_16 rfl (lv_at hl 0 rfl) ?_
  refine zr_isub hx hb dX0_relative_17 ?_
  refine va_mabs hx hb (hml.trans hl.1.symm) hown (hts (.methodLink RX0 110 Lib.Math.abs.name) (by decide +kernel)) (hts (.static Lib.Math.abs.name) (by decide +kernel)) (hts (.initialized "java/lang/Math") (by decide +kernel)) (hts (.code Lib.Math.abs.name Lib.Math.abs.code 1 (some .int)) (by decide +kernel)) (Nat.le_of_ble_eq_true rfl) (Nat.le_of_ble_eq_true rfl) (Nat.zero_le _) (Nat.zero_le _) dX0_relative_18 ?_
  rw [zm_abs (by omega)]
  refine zr_i2l hx hb (by omega) dX0_relative_21 ?_
  refine zr_lmul hx hb dX0_relative_22 ?_
  refine lv_iload_n hx hb dX0_relative_23 rfl (lv_at hl 0 rfl) ?_
  refine zr_i2l hx hb (by omega) dX0_relative_24 ?_
  refine rd_callN (host := RX1) (As := [.long (zL (1000 * (sAbs ((sPrd g A B) - (g 6 (10 * A + B)))))), .long (zL (g 6 (10 * A + B)))]) (rest := []) ⟨hx, hb, hml, hown, hts⟩ (c_X1_quotient l dC dI cI cZ cS (1000 * (sAbs ((sPrd g A B) - (g 6 (10 * A + B))))) (g 6 (10 * A + B)) (by omega) (by omega)) ⟨va_cnB 2 hts gX0_relative_X1_quotient_n103 rfl rfl rfl (hK.2.1 _ (nw_at 11 rfl)) (hts (.initialized RX1) (by decide +kernel)) (by decide +kernel) ⟨Nat.le_of_ble_eq_true rfl, Nat.le_of_ble_eq_true rfl⟩, hts (.static yX1_quotient) (by decide +kernel), trivial⟩ va_P_nil hK rfl hl.1 rfl (Nat.le_of_ble_eq_true rfl) dX0_relative_25 ⟨Nat.zero_le _, Nat.zero_le _⟩ ?_
  refine zr_l2i hx hb dX0_relative_28 ?_
  exact rd_iret hx hb hr hlocks rfl dX0_relative_29
set_option maxHeartbeats 4000000 in
set_option maxRecDepth 100000 in
/-- rankOf -/
theorem c_X0_rankOf (l : Launch) (dC : Nat → ClassId) (dI : Nat → Nat → Nat) (cI cZ cS : ClassId) (a : Nat → Nat) (g : Nat → Nat → Int) (r : Int) (hg : gB g r) (A B : Nat) (hA : A < 10) (hB : B < 10) : Met l yX0_rankOf wsX0_rankOf ({ frames := 3, cells := 0, slots := 0, locals := 71 } : Room) (rd_Pc dC dI cI cZ cS (stw cI a g) [.ref (a 0), .int (zI (A : Int)), .int (zI (B : Int))]) (rd_Qc (some (.int (zI (sRk g A B (gN g)))))) 0 0 nf := by
  refine rd_met (cc := cX0_rankOf) (maxL := 7) (ret := (some .int)) (by decide) rfl (Nat.le_of_ble_eq_true rfl) ?_
  intro p e s m below meth c ls hx hb hml hr hlocks hts hown hP hK hl
  have hl : lv_has ls 7 [(0, .ref (a 0)), (1, .int (zI (A : Int))), (2, .int (zI (B : Int)))] := hl
  have hinX0 : ∀ w ∈ u_ws RX0 TX0 11, w ∈ wsX0_rankOf := by decide +kernel
  have f_44 := hts (.fieldLink RX0 44 "NetworkCoordinates$State" "nodes" "I") (by decide +kernel)
  have b0 := hg.1
  have bA := hg.2.1 A hA
  have bB := hg.2.1 B hB
  have hN := gN_eq hg
  have s1 := sPrd_bd hg hA hB
  refine lv_aload_n hx hb dX0_rankOf_0 rfl (lv_at hl 0 rfl) ?_
  refine lv_iload_n hx hb dX0_rankOf_1 rfl (lv_at hl 1 rfl) ?_
  refine lv_iload_n hx hb dX0_rankOf_2 rfl (lv_at hl 2 rfl) ?_
  refine rd_callV (As := [.int (zI (A : Int)), .int (zI (B : Int))]) (rest := []) ⟨hx, hb, hml, hown, hts⟩ (c_X0_predicted l dC dI cI cZ cS a g r hg A B (by omega) (by omega)) (cwV 2 hts gX0_rankOf_X0_predicted rfl rfl rfl (by decide +kernel) ⟨Nat.le_of_ble_eq_true rfl, Nat.le_of_ble_eq_true rfl⟩) hP hK 0 rfl rfl rfl hl.1 rfl (Nat.le_of_ble_eq_true rfl) dX0_rankOf_3 ⟨Nat.zero_le _, Nat.zero_le _⟩ ?_
  refine lv_istore_n (lv' := [(3, .int (zI (sPrd g A B))), (0, .ref (a 0)), (1, .int (zI (A : Int))), (2, .int (zI (B : Int)))]) hx hb dX0_rankOf_6 rfl hl (by decide) rfl (fun ls hl => ?_)
  refine zr_iconst hx hb dX0_rankOf_7 ?_
  refine lv_istore (lv' := [(4, .int (zI 0)), (3, .int (zI (sPrd g A B))), (0, .ref (a 0)), (1, .int (zI (A : Int))), (2, .int (zI (B : Int)))]) hx hb dX0_rankOf_8 hl (by decide) rfl (fun ls hl => ?_)
  refine zr_iconst hx hb dX0_rankOf_10 ?_
  refine lv_istore (lv' := [(5, .int (zI 0)), (4, .int (zI 0)), (3, .int (zI (sPrd g A B))), (0, .ref (a 0)), (1, .int (zI (A : Int))), (2, .int (zI (B : Int)))]) hx hb dX0_rankOf_11 hl (by decide) rfl (fun ls hl => ?_)
  have loop : ∀ (k_loop i : Nat), i + k_loop = gN g → ∀ ls : Array Slot, lv_has ls 7 [(5, .int (zI (i : Int))), (4, .int (zI (sRk g A B i))), (3, .int (zI (sPrd g A B))), (0, .ref (a 0)), (1, .int (zI (A : Int))), (2, .int (zI (B : Int)))] → W p l e ({ frames := 3, cells := 0, slots := 0, locals := 71 } : Room) s m [.ref (a 0), .int (zI (A : Int)), .int (zI (B : Int))].toArray below meth c s.heap [] 0 0 (MQ below (rd_Qc (some (.int (zI (sRk g A B (gN g)))))) [.ref (a 0), .int (zI (A : Int)), .int (zI (B : Int))].toArray s 0 0 nf) (F0 m 13 ls []) := by
    intro k_loop
    induction k_loop with
    | zero =>
      intro i hi ls hl
      refine lv_iload hx hb dX0_rankOf_13 (lv_at hl 0 rfl) ?_
      refine lv_aload_n hx hb dX0_rankOf_15 rfl (lv_at hl 3 rfl) ?_
      refine va_get (D := (dC, dI)) (ci := 0) (v := .int (zI (g 0 0))) (C := RX0) (T := TX0) (N := 11) hx hb hts hinX0 hown hK.1 hP 0 rfl rfl 0 (by decide) f_44 (fun _ h9 => h9) rfl dX0_rankOf_16 ?_
      refine zr_icmp_ge (tgt := 70) hx hb dX0_rankOf_19 (by decide) (by omega) (by omega) (fun c_19 => ?_) (fun c_19 => absurd c_19 (by omega))
      refine lv_iload hx hb dX0_rankOf_70 (lv_at hl 1 rfl) ?_
      exact rd_iret hx hb hr hlocks (by rw [show i = gN g by omega]) dX0_rankOf_72
    | succ k_loop ih_loop =>
      intro i hi ls hl
      have s2 := sPrd_bd (b := i) hg hA (by omega)
      refine lv_iload hx hb dX0_rankOf_13 (lv_at hl 0 rfl) ?_
      refine lv_aload_n hx hb dX0_rankOf_15 rfl (lv_at hl 3 rfl) ?_
      refine va_get (D := (dC, dI)) (ci := 0) (v := .int (zI (g 0 0))) (C := RX0) (T := TX0) (N := 11) hx hb hts hinX0 hown hK.1 hP 0 rfl rfl 0 (by decide) f_44 (fun _ h9 => h9) rfl dX0_rankOf_16 ?_
      refine zr_icmp_ge (tgt := 70) hx hb dX0_rankOf_19 (by decide) (by omega) (by omega) (fun c_19 => absurd c_19 (by omega)) (fun c_19 => ?_)
      refine lv_iload hx hb dX0_rankOf_22 (lv_at hl 0 rfl) ?_
      refine lv_iload_n hx hb dX0_rankOf_24 rfl (lv_at hl 4 rfl) ?_
      refine zr_icmp_eq (tgt := 64) hx hb dX0_rankOf_25 (by decide) (by omega) (by omega) (fun c_25 => ?_) (fun c_25 => ?_)
      · have hl : lv_has ls 7 [(5, .int (zI (i : Int))), (4, .int (zI (sRk g A B (i + 1)))), (3, .int (zI (sPrd g A B))), (0, .ref (a 0)), (1, .int (zI (A : Int))), (2, .int (zI (B : Int)))] := by rw [show sRk g A B (i + 1) = sRk g A B i from (by unfold sRk; rw [sm_succ, if_neg (by omega)]; omega)]; exact hl
        refine zr_iinc (b := ((i + 1 : Nat) : Int)) (lv' := [(5, .int (zI ((i + 1 : Nat) : Int))), (4, .int (zI (sRk g A B (i + 1)))), (3, .int (zI (sPrd g A B))), (0, .ref (a 0)), (1, .int (zI (A : Int))), (2, .int (zI (B : Int)))]) hx hb dX0_rankOf_64 hl (k := 0) rfl (by omega) (by decide) rfl (fun ls hl => ?_)
        refine lv_goto (tgt := 13) hx hb dX0_rankOf_67 (by decide) ?_
        exact ih_loop (i + 1) (by omega) ls (lv_sub hl [0, 1, 2, 3, 4, 5] rfl)
      · refine lv_iload hx hb dX0_rankOf_28 (lv_at hl 0 rfl) ?_
        refine lv_iload_n hx hb dX0_rankOf_30 rfl (lv_at hl 5 rfl) ?_
        refine zr_icmp_eq (tgt := 64) hx hb dX0_rankOf_31 (by decide) (by omega) (by omega) (fun c_31 => ?_) (fun c_31 => ?_)
        · have hl : lv_has ls 7 [(5, .int (zI (i : Int))), (4, .int (zI (sRk g A B (i + 1)))), (3, .int (zI (sPrd g A B))), (0, .ref (a 0)), (1, .int (zI (A : Int))), (2, .int (zI (B : Int)))] := by rw [show sRk g A B (i + 1) = sRk g A B i from (by unfold sRk; rw [sm_succ, if_neg (by omega)]; omega)]; exact hl
          refine zr_iinc (b := ((i + 1 : Nat) : Int)) (lv' := [(5, .int (zI ((i + 1 : Nat) : Int))), (4, .int (zI (sRk g A B (i + 1)))), (3, .int (zI (sPrd g A B))), (0, .ref (a 0)), (1, .int (zI (A : Int))), (2, .int (zI (B : Int)))]) hx hb dX0_rankOf_64 hl (k := 0) rfl (by omega) (by decide) rfl (fun ls hl => ?_)
          refine lv_goto (tgt := 13) hx hb dX0_rankOf_67 (by decide) ?_
          exact ih_loop (i + 1) (by omega) ls (lv_sub hl [0, 1, 2, 3, 4, 5] rfl)
        · refine lv_aload_n hx hb dX0_rankOf_34 rfl (lv_at hl 3 rfl) ?_
          refine lv_iload_n hx hb dX0_rankOf_35 rfl (lv_at hl 4 rfl) ?_
          refine lv_iload hx hb dX0_rankOf_36 (lv_at hl 0 rfl) ?_
          refine rd_callV (As := [.int (zI (A : Int)), .int (zI (i : Int))]) (rest := []) ⟨hx, hb, hml, hown, hts⟩ (c_X0_predicted l dC dI cI cZ cS a g r hg A i (by omega) (by omega)) (cwV 2 hts gX0_rankOf_X0_predicted rfl rfl rfl (by decide +kernel) ⟨Nat.le_of_ble_eq_true rfl, Nat.le_of_ble_eq_true rfl⟩) hP hK 0 rfl rfl rfl hl.1 rfl (Nat.le_of_ble_eq_true rfl) dX0_rankOf_38 ⟨Nat.zero_le _, Nat.zero_le _⟩ ?_
          refine lv_istore (lv' := [(6, .int (zI (sPrd g A i))), (5, .int (zI (i : Int))), (4, .int (zI (sRk g A B i))), (3, .int (zI (sPrd g A B))), (0, .ref (a 0)), (1, .int (zI (A : Int))), (2, .int (zI (B : Int)))]) hx hb dX0_rankOf_41 hl (by decide) rfl (fun ls hl => ?_)
          refine lv_iload hx hb dX0_rankOf_43 (lv_at hl 0 rfl) ?_
          refine lv_iload_n hx hb dX0_rankOf_45 rfl (lv_at hl 3 rfl) ?_
          refine zr_icmp_lt (tgt := 61) hx hb dX0_rankOf_46 (by decide) (by omega) (by omega) (fun c_46 => ?_) (fun c_46 => ?_)
          · refine zr_iinc (b := (sRk g A B (i + 1))) (lv' := [(4, .int (zI (sRk g A B (i + 1)))), (6, .int (zI (sPrd g A i))), (5, .int (zI (i : Int))), (3, .int (zI (sPrd g A B))), (0, .ref (a 0)), (1, .int (zI (A : Int))), (2, .int (zI (B : Int)))]) hx hb dX0_rankOf_61 hl (k := 2) rfl (by unfold sRk; rw [sm_succ, if_pos (by omega)]) (by decide) rfl (fun ls hl => ?_)
            refine zr_iinc (b := ((i + 1 : Nat) : Int)) (lv' := [(5, .int (zI ((i + 1 : Nat) : Int))), (4, .int (zI (sRk g A B (i + 1)))), (6, .int (zI (sPrd g A i))), (3, .int (zI (sPrd g A B))), (0, .ref (a 0)), (1, .int (zI (A : Int))), (2, .int (zI (B : Int)))]) hx hb dX0_rankOf_64 hl (k := 2) rfl (by omega) (by decide) rfl (fun ls hl => ?_)
            refine lv_goto (tgt := 13) hx hb dX0_rankOf_67 (by decide) ?_
            exact ih_loop (i + 1) (by omega) ls (lv_sub hl [0, 1, 3, 4, 5, 6] rfl)
          · refine lv_iload hx hb dX0_rankOf_49 (lv_at hl 0 rfl) ?_
            refine lv_iload_n hx hb dX0_rankOf_51 rfl (lv_at hl 3 rfl) ?_
            refine zr_icmp_ne (tgt := 64) hx hb dX0_rankOf_52 (by decide) (by omega) (by omega) (fun c_52 => ?_) (fun c_52 => ?_)
            · have hl : lv_has ls 7 [(6, .int (zI (sPrd g A i))), (5, .int (zI (i : Int))), (4, .int (zI (sRk g A B (i + 1)))), (3, .int (zI (sPrd g A B))), (0, .ref (a 0)), (1, .int (zI (A : Int))), (2, .int (zI (B : Int)))] := by rw [show sRk g A B (i + 1) = sRk g A B i from (by unfold sRk; rw [sm_succ, if_neg (by omega)]; omega)]; exact hl
              refine zr_iinc (b := ((i + 1 : Nat) : Int)) (lv' := [(5, .int (zI ((i + 1 : Nat) : Int))), (6, .int (zI (sPrd g A i))), (4, .int (zI (sRk g A B (i + 1)))), (3, .int (zI (sPrd g A B))), (0, .ref (a 0)), (1, .int (zI (A : Int))), (2, .int (zI (B : Int)))]) hx hb dX0_rankOf_64 hl (k := 1) rfl (by omega) (by decide) rfl (fun ls hl => ?_)
              refine lv_goto (tgt := 13) hx hb dX0_rankOf_67 (by decide) ?_
              exact ih_loop (i + 1) (by omega) ls (lv_sub hl [0, 2, 3, 4, 5, 6] rfl)
            · refine lv_iload hx hb dX0_rankOf_55 (lv_at hl 1 rfl) ?_
              refine lv_iload_n hx hb dX0_rankOf_57 rfl (lv_at hl 6 rfl) ?_
              refine zr_icmp_ge (tgt := 64) hx hb dX0_rankOf_58 (by decide) (by omega) (by omega) (fun c_58 => ?_) (fun c_58 => ?_)
              · have hl : lv_has ls 7 [(6, .int (zI (sPrd g A i))), (5, .int (zI (i : Int))), (4, .int (zI (sRk g A B (i + 1)))), (3, .int (zI (sPrd g A B))), (0, .ref (a 0)), (1, .int (zI (A : Int))), (2, .int (zI (B : Int)))] := by rw [show sRk g A B (i + 1) = sRk g A B i from (by unfold sRk; rw [sm_succ, if_neg (by omega)]; omega)]; exact hl
                refine zr_iinc (b := ((i + 1 : Nat) : Int)) (lv' := [(5, .int (zI ((i + 1 : Nat) : Int))), (6, .int (zI (sPrd g A i))), (4, .int (zI (sRk g A B (i + 1)))), (3, .int (zI (sPrd g A B))), (0, .ref (a 0)), (1, .int (zI (A : Int))), (2, .int (zI (B : Int)))]) hx hb dX0_rankOf_64 hl (k := 1) rfl (by omega) (by decide) rfl (fun ls hl => ?_)
                refine lv_goto (tgt := 13) hx hb dX0_rankOf_67 (by decide) ?_
                exact ih_loop (i + 1) (by omega) ls (lv_sub hl [0, 2, 3, 4, 5, 6] rfl)
              · refine zr_iinc (b := (sRk g A B (i + 1))) (lv' := [(4, .int (zI (sRk g A B (i + 1)))), (6, .int (zI (sPrd g A i))), (5, .int (zI (i : Int))), (3, .int (zI (sPrd g A B))), (0, .ref (a 0)), (1, .int (zI (A : Int))), (2, .int (zI (B : Int)))]) hx hb dX0_rankOf_61 hl (k := 2) rfl (by unfold sRk; rw [sm_succ, if_pos (by omega)]) (by decide) rfl (fun ls hl => ?_)
                refine zr_iinc (b := ((i + 1 : Nat) : Int)) (lv' := [(5, .int (zI ((i + 1 : Nat) : Int))), (4, .int (zI (sRk g A B (i + 1)))), (6, .int (zI (sPrd g A i))), (3, .int (zI (sPrd g A B))), (0, .ref (a 0)), (1, .int (zI (A : Int))), (2, .int (zI (B : Int)))]) hx hb dX0_rankOf_64 hl (k := 2) rfl (by omega) (by decide) rfl (fun ls hl => ?_)
                refine lv_goto (tgt := 13) hx hb dX0_rankOf_67 (by decide) ?_
                exact ih_loop (i + 1) (by omega) ls (lv_sub hl [0, 1, 3, 4, 5, 6] rfl)
  exact loop (gN g) 0 (by omega) ls (lv_sub hl [0, 1, 2, 3, 4, 5] rfl)
set_option maxHeartbeats 4000000 in
set_option maxRecDepth 100000 in
/-- isTriangle -/
theorem c_X0_isTriangle (l : Launch) (dC : Nat → ClassId) (dI : Nat → Nat → Nat) (cI cZ cS : ClassId) (a : Nat → Nat) (g : Nat → Nat → Int) (r : Int) (hg : gB g r) (A B C : Nat) (hA : A < 10) (hB : B < 10) (hC : C < 10) : Met l yX0_isTriangle wsX0_isTriangle ({ frames := 2, cells := 0, slots := 0, locals := 44 } : Room) (rd_Pc dC dI cI cZ cS (stw cI a g) [.ref (a 0), .int (zI (A : Int)), .int (zI (B : Int)), .int (zI (C : Int))]) (rd_Qc (some (.int (zI (if 1 ≤ g 6 (10 * A + B) ∧ 1 ≤ g 6 (10 * B + C) ∧ 1 ≤ g 6 (10 * A + C) then 1 else 0))))) 0 0 nf := by
  refine rd_met (cc := cX0_isTriangle) (maxL := 4) (ret := (some .boolean)) (by decide) rfl (Nat.le_of_ble_eq_true rfl) ?_
  intro p e s m below meth c ls hx hb hml hr hlocks hts hown hP hK hl
  have hl : lv_has ls 4 [(0, .ref (a 0)), (1, .int (zI (A : Int))), (2, .int (zI (B : Int))), (3, .int (zI (C : Int)))] := hl
  have b0 := hg.1
  have bA := hg.2.1 A hA
  have bB := hg.2.1 B hB
  have bC := hg.2.1 C hC
  refine lv_aload_n hx hb dX0_isTriangle_0 rfl (lv_at hl 0 rfl) ?_
  refine lv_iload_n hx hb dX0_isTriangle_1 rfl (lv_at hl 1 rfl) ?_
  refine lv_iload_n hx hb dX0_isTriangle_2 rfl (lv_at hl 2 rfl) ?_
  refine rd_callV (As := [.int (zI (A : Int)), .int (zI (B : Int))]) (rest := []) ⟨hx, hb, hml, hown, hts⟩ (c_X0_isKnown l dC dI cI cZ cS a g r hg A B (by omega) (by omega)) (cwV 2 hts gX0_isTriangle_X0_isKnown rfl rfl rfl (by decide +kernel) ⟨Nat.le_of_ble_eq_true rfl, Nat.le_of_ble_eq_true rfl⟩) hP hK 0 rfl rfl rfl hl.1 rfl (Nat.le_of_ble_eq_true rfl) dX0_isTriangle_3 ⟨Nat.zero_le _, Nat.zero_le _⟩ ?_
  refine zr_bif_eq (tgt := 31) hx hb dX0_isTriangle_6 (by decide) (fun c_6 => ?_) (fun c_6 => ?_)
  · refine zr_iconst hx hb dX0_isTriangle_31 ?_
    exact rd_zret hx hb hr hlocks (if_neg (by omega)).symm (by omega) dX0_isTriangle_32
  · refine lv_aload_n hx hb dX0_isTriangle_9 rfl (lv_at hl 0 rfl) ?_
    refine lv_iload_n hx hb dX0_isTriangle_10 rfl (lv_at hl 2 rfl) ?_
    refine lv_iload_n hx hb dX0_isTriangle_11 rfl (lv_at hl 3 rfl) ?_
    refine rd_callV (As := [.int (zI (B : Int)), .int (zI (C : Int))]) (rest := []) ⟨hx, hb, hml, hown, hts⟩ (c_X0_isKnown l dC dI cI cZ cS a g r hg B C (by omega) (by omega)) (cwV 2 hts gX0_isTriangle_X0_isKnown rfl rfl rfl (by decide +kernel) ⟨Nat.le_of_ble_eq_true rfl, Nat.le_of_ble_eq_true rfl⟩) hP hK 0 rfl rfl rfl hl.1 rfl (Nat.le_of_ble_eq_true rfl) dX0_isTriangle_12 ⟨Nat.zero_le _, Nat.zero_le _⟩ ?_
    refine zr_bif_eq (tgt := 31) hx hb dX0_isTriangle_15 (by decide) (fun c_15 => ?_) (fun c_15 => ?_)
    · refine zr_iconst hx hb dX0_isTriangle_31 ?_
      exact rd_zret hx hb hr hlocks (if_neg (by omega)).symm (by omega) dX0_isTriangle_32
    · refine lv_aload_n hx hb dX0_isTriangle_18 rfl (lv_at hl 0 rfl) ?_
      refine lv_iload_n hx hb dX0_isTriangle_19 rfl (lv_at hl 1 rfl) ?_
      refine lv_iload_n hx hb dX0_isTriangle_20 rfl (lv_at hl 3 rfl) ?_
      refine rd_callV (As := [.int (zI (A : Int)), .int (zI (C : Int))]) (rest := []) ⟨hx, hb, hml, hown, hts⟩ (c_X0_isKnown l dC dI cI cZ cS a g r hg A C (by omega) (by omega)) (cwV 2 hts gX0_isTriangle_X0_isKnown rfl rfl rfl (by decide +kernel) ⟨Nat.le_of_ble_eq_true rfl, Nat.le_of_ble_eq_true rfl⟩) hP hK 0 rfl rfl rfl hl.1 rfl (Nat.le_of_ble_eq_true rfl) dX0_isTriangle_21 ⟨Nat.zero_le _, Nat.zero_le _⟩ ?_
      refine zr_bif_eq (tgt := 31) hx hb dX0_isTriangle_24 (by decide) (fun c_24 => ?_) (fun c_24 => ?_)
      · refine zr_iconst hx hb dX0_isTriangle_31 ?_
        exact rd_zret hx hb hr hlocks (if_neg (by omega)).symm (by omega) dX0_isTriangle_32
      · refine zr_iconst hx hb dX0_isTriangle_27 ?_
        refine lv_goto (tgt := 32) hx hb dX0_isTriangle_28 (by decide) ?_
        exact rd_zret hx hb hr hlocks (if_pos (by omega)).symm (by omega) dX0_isTriangle_32
set_option maxHeartbeats 4000000 in
set_option maxRecDepth 100000 in
/-- excess -/
theorem c_X0_excess (l : Launch) (dC : Nat → ClassId) (dI : Nat → Nat → Nat) (cI cZ cS : ClassId) (a : Nat → Nat) (g : Nat → Nat → Int) (r : Int) (hg : gB g r) (A B C : Nat) (hA : A < 10) (hB : B < 10) (hC : C < 10) : Met l yX0_excess wsX0_excess ({ frames := 3, cells := 0, slots := 0, locals := 67 } : Room) (rd_Pc dC dI cI cZ cS (stw cI a g) [.ref (a 0), .int (zI (A : Int)), .int (zI (B : Int)), .int (zI (C : Int))]) (rd_Qc (some (.int (zI (sExc g A B C))))) 0 0 nf := by
  refine rd_met (cc := cX0_excess) (maxL := 8) (ret := (some .int)) (by decide) rfl (Nat.le_of_ble_eq_true rfl) ?_
  intro p e s m below meth c ls hx hb hml hr hlocks hts hown hP hK hl
  have hl : lv_has ls 8 [(0, .ref (a 0)), (1, .int (zI (A : Int))), (2, .int (zI (B : Int))), (3, .int (zI (C : Int)))] := hl
  have b0 := hg.1
  have bA := hg.2.1 A hA
  have bB := hg.2.1 B hB
  have bC := hg.2.1 C hC
  have kAB := hg.2.2 A B hA hB
  have kBC := hg.2.2 B C hB hC
  have kAC := hg.2.2 A C hA hC
  have s1 := sExc_bd hg hA hB hC
  refine lv_aload_n hx hb dX0_excess_0 rfl (lv_at hl 0 rfl) ?_
  refine lv_iload_n hx hb dX0_excess_1 rfl (lv_at hl 1 rfl) ?_
  refine lv_iload_n hx hb dX0_excess_2 rfl (lv_at hl 2 rfl) ?_
  refine lv_iload_n hx hb dX0_excess_3 rfl (lv_at hl 3 rfl) ?_
  refine rd_callV (As := [.int (zI (A : Int)), .int (zI (B : Int)), .int (zI (C : Int))]) (rest := []) ⟨hx, hb, hml, hown, hts⟩ (c_X0_isTriangle l dC dI cI cZ cS a g r hg A B C (by omega) (by omega) (by omega)) (cwV 3 hts gX0_excess_X0_isTriangle rfl rfl rfl (by decide +kernel) ⟨Nat.le_of_ble_eq_true rfl, Nat.le_of_ble_eq_true rfl⟩) hP hK 0 rfl rfl rfl hl.1 rfl (Nat.le_of_ble_eq_true rfl) dX0_excess_4 ⟨Nat.zero_le _, Nat.zero_le _⟩ ?_
  refine zr_bif_ne (tgt := 12) hx hb dX0_excess_7 (by decide) (fun c_7 => ?_) (fun c_7 => ?_)
  · refine lv_aload_n hx hb dX0_excess_12 rfl (lv_at hl 0 rfl) ?_
    refine lv_iload_n hx hb dX0_excess_13 rfl (lv_at hl 1 rfl) ?_
    refine lv_iload_n hx hb dX0_excess_14 rfl (lv_at hl 2 rfl) ?_
    refine rd_callV (As := [.int (zI (A : Int)), .int (zI (B : Int))]) (rest := []) ⟨hx, hb, hml, hown, hts⟩ (c_X0_rttOf l dC dI cI cZ cS a g r hg A B (by omega) (by omega)) (cwV 2 hts gX0_excess_X0_rttOf rfl rfl rfl (by decide +kernel) ⟨Nat.le_of_ble_eq_true rfl, Nat.le_of_ble_eq_true rfl⟩) hP hK 0 rfl rfl rfl hl.1 rfl (Nat.le_of_ble_eq_true rfl) dX0_excess_15 ⟨Nat.zero_le _, Nat.zero_le _⟩ ?_
    refine lv_istore (lv' := [(4, .int (zI (g 6 (10 * A + B)))), (0, .ref (a 0)), (1, .int (zI (A : Int))), (2, .int (zI (B : Int))), (3, .int (zI (C : Int)))]) hx hb dX0_excess_18 hl (by decide) rfl (fun ls hl => ?_)
    refine lv_aload_n hx hb dX0_excess_20 rfl (lv_at hl 1 rfl) ?_
    refine lv_iload_n hx hb dX0_excess_21 rfl (lv_at hl 3 rfl) ?_
    refine lv_iload_n hx hb dX0_excess_22 rfl (lv_at hl 4 rfl) ?_
    refine rd_callV (As := [.int (zI (B : Int)), .int (zI (C : Int))]) (rest := []) ⟨hx, hb, hml, hown, hts⟩ (c_X0_rttOf l dC dI cI cZ cS a g r hg B C (by omega) (by omega)) (cwV 2 hts gX0_excess_X0_rttOf rfl rfl rfl (by decide +kernel) ⟨Nat.le_of_ble_eq_true rfl, Nat.le_of_ble_eq_true rfl⟩) hP hK 0 rfl rfl rfl hl.1 rfl (Nat.le_of_ble_eq_true rfl) dX0_excess_23 ⟨Nat.zero_le _, Nat.zero_le _⟩ ?_
    refine lv_istore (lv' := [(5, .int (zI (g 6 (10 * B + C)))), (4, .int (zI (g 6 (10 * A + B)))), (0, .ref (a 0)), (1, .int (zI (A : Int))), (2, .int (zI (B : Int))), (3, .int (zI (C : Int)))]) hx hb dX0_excess_26 hl (by decide) rfl (fun ls hl => ?_)
    refine lv_aload_n hx hb dX0_excess_28 rfl (lv_at hl 2 rfl) ?_
    refine lv_iload_n hx hb dX0_excess_29 rfl (lv_at hl 3 rfl) ?_
    refine lv_iload_n hx hb dX0_excess_30 rfl (lv_at hl 5 rfl) ?_
    refine rd_callV (As := [.int (zI (A : Int)), .int (zI (C : Int))]) (rest := []) ⟨hx, hb, hml, hown, hts⟩ (c_X0_rttOf l dC dI cI cZ cS a g r hg A C (by omega) (by omega)) (cwV 2 hts gX0_excess_X0_rttOf rfl rfl rfl (by decide +kernel) ⟨Nat.le_of_ble_eq_true rfl, Nat.le_of_ble_eq_true rfl⟩) hP hK 0 rfl rfl rfl hl.1 rfl (Nat.le_of_ble_eq_true rfl) dX0_excess_31 ⟨Nat.zero_le _, Nat.zero_le _⟩ ?_
    refine lv_istore (lv' := [(6, .int (zI (g 6 (10 * A + C)))), (5, .int (zI (g 6 (10 * B + C)))), (4, .int (zI (g 6 (10 * A + B)))), (0, .ref (a 0)), (1, .int (zI (A : Int))), (2, .int (zI (B : Int))), (3, .int (zI (C : Int)))]) hx hb dX0_excess_34 hl (by decide) rfl (fun ls hl => ?_)
    refine lv_iload hx hb dX0_excess_36 (lv_at hl 2 rfl) ?_
    refine lv_iload hx hb dX0_excess_38 (lv_at hl 1 rfl) ?_
    refine lv_iload hx hb dX0_excess_40 (lv_at hl 0 rfl) ?_
    refine va_mmax hx hb (hml.trans hl.1.symm) hown (hts (.methodLink RX0 138 Lib.Math.max.name) (by decide +kernel)) (hts (.static Lib.Math.max.name) (by decide +kernel)) (hts (.initialized "java/lang/Math") (by decide +kernel)) (hts (.code Lib.Math.max.name Lib.Math.max.code 2 (some .int)) (by decide +kernel)) (Nat.le_of_ble_eq_true rfl) (Nat.le_of_ble_eq_true rfl) (Nat.zero_le _) (Nat.zero_le _) dX0_excess_42 ?_
    rw [zm_iteI (by omega) (by omega)]
    refine zr_topI (sMx (g 6 (10 * B + C)) (g 6 (10 * A + C))) rfl ?_
    have s2 : 0 ≤ sMx (g 6 (10 * B + C)) (g 6 (10 * A + C)) ∧ sMx (g 6 (10 * B + C)) (g 6 (10 * A + C)) ≤ 20000 := sMx_bd (by omega) (by omega)
    refine va_mmax hx hb (hml.trans hl.1.symm) hown (hts (.methodLink RX0 138 Lib.Math.max.name) (by decide +kernel)) (hts (.static Lib.Math.max.name) (by decide +kernel)) (hts (.initialized "java/lang/Math") (by decide +kernel)) (hts (.code Lib.Math.max.name Lib.Math.max.code 2 (some .int)) (by decide +kernel)) (Nat.le_of_ble_eq_true rfl) (Nat.le_of_ble_eq_true rfl) (Nat.zero_le _) (Nat.zero_le _) dX0_excess_45 ?_
    rw [zm_iteI (by omega) (by omega)]
    refine zr_topI (sG3 g A B C) rfl ?_
    refine lv_istore (lv' := [(7, .int (zI (sG3 g A B C))), (6, .int (zI (g 6 (10 * A + C)))), (5, .int (zI (g 6 (10 * B + C)))), (4, .int (zI (g 6 (10 * A + B)))), (0, .ref (a 0)), (1, .int (zI (A : Int))), (2, .int (zI (B : Int))), (3, .int (zI (C : Int)))]) hx hb dX0_excess_48 hl (by decide) rfl (fun ls hl => ?_)
    refine zr_iconst hx hb dX0_excess_50 ?_
    refine lv_iload hx hb dX0_excess_51 (lv_at hl 0 rfl) ?_
    refine lv_iload hx hb dX0_excess_53 (lv_at hl 3 rfl) ?_
    refine lv_iload hx hb dX0_excess_55 (lv_at hl 2 rfl) ?_
    refine zr_iadd hx hb dX0_excess_57 ?_
    refine lv_iload hx hb dX0_excess_58 (lv_at hl 1 rfl) ?_
    refine zr_iadd hx hb dX0_excess_60 ?_
    refine lv_iload hx hb dX0_excess_61 (lv_at hl 0 rfl) ?_
    refine zr_isub hx hb dX0_excess_63 ?_
    refine zr_isub hx hb dX0_excess_64 ?_
    refine zr_topI (sOv g A B C) rfl ?_
    refine va_mmax hx hb (hml.trans hl.1.symm) hown (hts (.methodLink RX0 138 Lib.Math.max.name) (by decide +kernel)) (hts (.static Lib.Math.max.name) (by decide +kernel)) (hts (.initialized "java/lang/Math") (by decide +kernel)) (hts (.code Lib.Math.max.name Lib.Math.max.code 2 (some .int)) (by decide +kernel)) (Nat.le_of_ble_eq_true rfl) (Nat.le_of_ble_eq_true rfl) (Nat.zero_le _) (Nat.zero_le _) dX0_excess_65 ?_
    rw [zm_iteI (by omega) (by omega)]
    exact rd_iret hx hb hr hlocks (by unfold sExc; rw [if_pos c_7]; rfl) dX0_excess_68
  · refine zr_iconst hx hb dX0_excess_10 ?_
    exact rd_iret hx hb hr hlocks (by unfold sExc; rw [if_neg c_7]) dX0_excess_11
set_option maxHeartbeats 4000000 in
set_option maxRecDepth 100000 in
/-- violationsAt -/
theorem c_X0_violationsAt (l : Launch) (dC : Nat → ClassId) (dI : Nat → Nat → Nat) (cI cZ cS : ClassId) (a : Nat → Nat) (g : Nat → Nat → Int) (r : Int) (hg : gB g r) (A : Nat) (hA : A < 10) : Met l yX0_violationsAt wsX0_violationsAt ({ frames := 4, cells := 0, slots := 0, locals := 94 } : Room) (rd_Pc dC dI cI cZ cS (stw cI a g) [.ref (a 0), .int (zI (A : Int))]) (rd_Qc (some (.int (zI (sVa g A (gN g) (gN g)))))) 0 0 nf := by
  refine rd_met (cc := cX0_violationsAt) (maxL := 5) (ret := (some .int)) (by decide) rfl (Nat.le_of_ble_eq_true rfl) ?_
  intro p e s m below meth c ls hx hb hml hr hlocks hts hown hP hK hl
  have hl : lv_has ls 5 [(0, .ref (a 0)), (1, .int (zI (A : Int)))] := hl
  have hinX0 : ∀ w ∈ u_ws RX0 TX0 11, w ∈ wsX0_violationsAt := by decide +kernel
  have f_44 := hts (.fieldLink RX0 44 "NetworkCoordinates$State" "nodes" "I") (by decide +kernel)
  have b0 := hg.1
  have bA := hg.2.1 A hA
  have hN := gN_eq hg
  refine zr_iconst hx hb dX0_violationsAt_0 ?_
  refine lv_istore_n (lv' := [(2, .int (zI 0)), (0, .ref (a 0)), (1, .int (zI (A : Int)))]) hx hb dX0_violationsAt_1 rfl hl (by decide) rfl (fun ls hl => ?_)
  refine zr_iconst hx hb dX0_violationsAt_2 ?_
  refine lv_istore_n (lv' := [(3, .int (zI 0)), (2, .int (zI 0)), (0, .ref (a 0)), (1, .int (zI (A : Int)))]) hx hb dX0_violationsAt_3 rfl hl (by decide) rfl (fun ls hl => ?_)
  have loop : ∀ (k_loop i : Nat), i + k_loop = gN g → ∀ ls : Array Slot, lv_has ls 5 [(3, .int (zI (i : Int))), (2, .int (zI (sVa g A (gN g) i))), (0, .ref (a 0)), (1, .int (zI (A : Int)))] → W p l e ({ frames := 4, cells := 0, slots := 0, locals := 94 } : Room) s m [.ref (a 0), .int (zI (A : Int))].toArray below meth c s.heap [] 0 0 (MQ below (rd_Qc (some (.int (zI (sVa g A (gN g) (gN g)))))) [.ref (a 0), .int (zI (A : Int))].toArray s 0 0 nf) (F0 m 4 ls []) := by
    intro k_loop
    induction k_loop with
    | zero =>
      intro i hi ls hl
      refine lv_iload_n hx hb dX0_violationsAt_4 rfl (lv_at hl 0 rfl) ?_
      refine lv_aload_n hx hb dX0_violationsAt_5 rfl (lv_at hl 2 rfl) ?_
      refine va_get (D := (dC, dI)) (ci := 0) (v := .int (zI (g 0 0))) (C := RX0) (T := TX0) (N := 11) hx hb hts hinX0 hown hK.1 hP 0 rfl rfl 0 (by decide) f_44 (fun _ h9 => h9) rfl dX0_violationsAt_6 ?_
      refine zr_icmp_ge (tgt := 63) hx hb dX0_violationsAt_9 (by decide) (by omega) (by omega) (fun c_9 => ?_) (fun c_9 => absurd c_9 (by omega))
      refine lv_iload_n hx hb dX0_violationsAt_63 rfl (lv_at hl 1 rfl) ?_
      exact rd_iret hx hb hr hlocks (by rw [show i = gN g by omega]) dX0_violationsAt_64
    | succ k_loop ih_loop =>
      intro i hi ls hl
      refine lv_iload_n hx hb dX0_violationsAt_4 rfl (lv_at hl 0 rfl) ?_
      refine lv_aload_n hx hb dX0_violationsAt_5 rfl (lv_at hl 2 rfl) ?_
      refine va_get (D := (dC, dI)) (ci := 0) (v := .int (zI (g 0 0))) (C := RX0) (T := TX0) (N := 11) hx hb hts hinX0 hown hK.1 hP 0 rfl rfl 0 (by decide) f_44 (fun _ h9 => h9) rfl dX0_violationsAt_6 ?_
      refine zr_icmp_ge (tgt := 63) hx hb dX0_violationsAt_9 (by decide) (by omega) (by omega) (fun c_9 => absurd c_9 (by omega)) (fun c_9 => ?_)
      refine lv_iload_n hx hb dX0_violationsAt_12 rfl (lv_at hl 0 rfl) ?_
      refine zr_iconst hx hb dX0_violationsAt_13 ?_
      refine zr_iadd hx hb dX0_violationsAt_14 ?_
      refine zr_topI ((i + 1 : Nat) : Int) (by omega) ?_
      refine lv_istore (lv' := [(4, .int (zI ((i + 1 : Nat) : Int))), (3, .int (zI (i : Int))), (2, .int (zI (sVa g A (gN g) i))), (0, .ref (a 0)), (1, .int (zI (A : Int)))]) hx hb dX0_violationsAt_15 hl (by decide) rfl (fun ls hl => ?_)
      have inner : ∀ (k_inner j : Nat), j + k_inner = gN g → i < j → ∀ ls : Array Slot, lv_has ls 5 [(4, .int (zI (j : Int))), (3, .int (zI (i : Int))), (2, .int (zI (sVa g A (gN g) i + sVb g A i j))), (0, .ref (a 0)), (1, .int (zI (A : Int)))] → W p l e ({ frames := 4, cells := 0, slots := 0, locals := 94 } : Room) s m [.ref (a 0), .int (zI (A : Int))].toArray below meth c s.heap [] 0 0 (MQ below (rd_Qc (some (.int (zI (sVa g A (gN g) (gN g)))))) [.ref (a 0), .int (zI (A : Int))].toArray s 0 0 nf) (F0 m 17 ls []) := by
        intro k_inner
        induction k_inner with
        | zero =>
          intro j hj hij ls hl
          refine lv_iload hx hb dX0_violationsAt_17 (lv_at hl 0 rfl) ?_
          refine lv_aload_n hx hb dX0_violationsAt_19 rfl (lv_at hl 3 rfl) ?_
          refine va_get (D := (dC, dI)) (ci := 0) (v := .int (zI (g 0 0))) (C := RX0) (T := TX0) (N := 11) hx hb hts hinX0 hown hK.1 hP 0 rfl rfl 0 (by decide) f_44 (fun _ h9 => h9) rfl dX0_violationsAt_20 ?_
          refine zr_icmp_ge (tgt := 57) hx hb dX0_violationsAt_23 (by decide) (by omega) (by omega) (fun c_23 => ?_) (fun c_23 => absurd c_23 (by omega))
          have hl : lv_has ls 5 [(4, .int (zI (j : Int))), (3, .int (zI (i : Int))), (2, .int (zI (sVa g A (gN g) (i + 1)))), (0, .ref (a 0)), (1, .int (zI (A : Int)))] := by rw [show sVa g A (gN g) (i + 1) = sVa g A (gN g) i + sVb g A i j from by unfold sVa; rw [sm_succ, show j = gN g by omega]]; exact hl
          refine zr_iinc (b := ((i + 1 : Nat) : Int)) (lv' := [(3, .int (zI ((i + 1 : Nat) : Int))), (4, .int (zI (j : Int))), (2, .int (zI (sVa g A (gN g) (i + 1)))), (0, .ref (a 0)), (1, .int (zI (A : Int)))]) hx hb dX0_violationsAt_57 hl (k := 1) rfl (by omega) (by decide) rfl (fun ls hl => ?_)
          refine lv_goto (tgt := 4) hx hb dX0_violationsAt_60 (by decide) ?_
          exact ih_loop (i + 1) (by omega) ls (lv_sub hl [0, 2, 3, 4] rfl)
        | succ k_inner ih_inner =>
          intro j hj hij ls hl
          have s1 := sExc_bd (b := i) (c := j) hg hA (by omega) (by omega)
          refine lv_iload hx hb dX0_violationsAt_17 (lv_at hl 0 rfl) ?_
          refine lv_aload_n hx hb dX0_violationsAt_19 rfl (lv_at hl 3 rfl) ?_
          refine va_get (D := (dC, dI)) (ci := 0) (v := .int (zI (g 0 0))) (C := RX0) (T := TX0) (N := 11) hx hb hts hinX0 hown hK.1 hP 0 rfl rfl 0 (by decide) f_44 (fun _ h9 => h9) rfl dX0_violationsAt_20 ?_
          refine zr_icmp_ge (tgt := 57) hx hb dX0_violationsAt_23 (by decide) (by omega) (by omega) (fun c_23 => absurd c_23 (by omega)) (fun c_23 => ?_)
          refine lv_iload_n hx hb dX0_violationsAt_26 rfl (lv_at hl 1 rfl) ?_
          refine lv_iload_n hx hb dX0_violationsAt_27 rfl (lv_at hl 4 rfl) ?_
          refine zr_icmp_eq (tgt := 51) hx hb dX0_violationsAt_28 (by decide) (by omega) (by omega) (fun c_28 => ?_) (fun c_28 => ?_)
          · have hl : lv_has ls 5 [(4, .int (zI (j : Int))), (3, .int (zI (i : Int))), (2, .int (zI (sVa g A (gN g) i + sVb g A i (j + 1)))), (0, .ref (a 0)), (1, .int (zI (A : Int)))] := by rw [show sVb g A i (j + 1) = sVb g A i j from by unfold sVb; rw [sm_succ]; unfold sVc; rw [if_neg (by omega)]; omega]; exact hl
            refine zr_iinc (b := ((j + 1 : Nat) : Int)) (lv' := [(4, .int (zI ((j + 1 : Nat) : Int))), (3, .int (zI (i : Int))), (2, .int (zI (sVa g A (gN g) i + sVb g A i (j + 1)))), (0, .ref (a 0)), (1, .int (zI (A : Int)))]) hx hb dX0_violationsAt_51 hl (k := 0) rfl (by omega) (by decide) rfl (fun ls hl => ?_)
            refine lv_goto (tgt := 17) hx hb dX0_violationsAt_54 (by decide) ?_
            exact ih_inner (j + 1) (by omega) (by omega) ls (lv_sub hl [0, 1, 2, 3, 4] rfl)
          · refine lv_iload hx hb dX0_violationsAt_31 (lv_at hl 0 rfl) ?_
            refine lv_iload_n hx hb dX0_violationsAt_33 rfl (lv_at hl 4 rfl) ?_
            refine zr_icmp_eq (tgt := 51) hx hb dX0_violationsAt_34 (by decide) (by omega) (by omega) (fun c_34 => ?_) (fun c_34 => ?_)
            · have hl : lv_has ls 5 [(4, .int (zI (j : Int))), (3, .int (zI (i : Int))), (2, .int (zI (sVa g A (gN g) i + sVb g A i (j + 1)))), (0, .ref (a 0)), (1, .int (zI (A : Int)))] := by rw [show sVb g A i (j + 1) = sVb g A i j from by unfold sVb; rw [sm_succ]; unfold sVc; rw [if_neg (by omega)]; omega]; exact hl
              refine zr_iinc (b := ((j + 1 : Nat) : Int)) (lv' := [(4, .int (zI ((j + 1 : Nat) : Int))), (3, .int (zI (i : Int))), (2, .int (zI (sVa g A (gN g) i + sVb g A i (j + 1)))), (0, .ref (a 0)), (1, .int (zI (A : Int)))]) hx hb dX0_violationsAt_51 hl (k := 0) rfl (by omega) (by decide) rfl (fun ls hl => ?_)
              refine lv_goto (tgt := 17) hx hb dX0_violationsAt_54 (by decide) ?_
              exact ih_inner (j + 1) (by omega) (by omega) ls (lv_sub hl [0, 1, 2, 3, 4] rfl)
            · refine lv_aload_n hx hb dX0_violationsAt_37 rfl (lv_at hl 3 rfl) ?_
              refine lv_iload_n hx hb dX0_violationsAt_38 rfl (lv_at hl 4 rfl) ?_
              refine lv_iload_n hx hb dX0_violationsAt_39 rfl (lv_at hl 1 rfl) ?_
              refine lv_iload hx hb dX0_violationsAt_40 (lv_at hl 0 rfl) ?_
              refine rd_callV (As := [.int (zI (A : Int)), .int (zI (i : Int)), .int (zI (j : Int))]) (rest := []) ⟨hx, hb, hml, hown, hts⟩ (c_X0_excess l dC dI cI cZ cS a g r hg A i j (by omega) (by omega) (by omega)) (cwV 3 hts gX0_violationsAt_X0_excess rfl rfl rfl (by decide +kernel) ⟨Nat.le_of_ble_eq_true rfl, Nat.le_of_ble_eq_true rfl⟩) hP hK 0 rfl rfl rfl hl.1 rfl (Nat.le_of_ble_eq_true rfl) dX0_violationsAt_42 ⟨Nat.zero_le _, Nat.zero_le _⟩ ?_
              refine zr_if_le (tgt := 51) hx hb dX0_violationsAt_45 (by decide) (by omega) (fun c_45 => ?_) (fun c_45 => ?_)
              · have hl : lv_has ls 5 [(4, .int (zI (j : Int))), (3, .int (zI (i : Int))), (2, .int (zI (sVa g A (gN g) i + sVb g A i (j + 1)))), (0, .ref (a 0)), (1, .int (zI (A : Int)))] := by rw [show sVb g A i (j + 1) = sVb g A i j from by unfold sVb; rw [sm_succ]; unfold sVc; rw [if_neg (by omega)]; omega]; exact hl
                refine zr_iinc (b := ((j + 1 : Nat) : Int)) (lv' := [(4, .int (zI ((j + 1 : Nat) : Int))), (3, .int (zI (i : Int))), (2, .int (zI (sVa g A (gN g) i + sVb g A i (j + 1)))), (0, .ref (a 0)), (1, .int (zI (A : Int)))]) hx hb dX0_violationsAt_51 hl (k := 0) rfl (by omega) (by decide) rfl (fun ls hl => ?_)
                refine lv_goto (tgt := 17) hx hb dX0_violationsAt_54 (by decide) ?_
                exact ih_inner (j + 1) (by omega) (by omega) ls (lv_sub hl [0, 1, 2, 3, 4] rfl)
              · refine zr_iinc (b := (sVa g A (gN g) i + sVb g A i (j + 1))) (lv' := [(2, .int (zI (sVa g A (gN g) i + sVb g A i (j + 1)))), (4, .int (zI (j : Int))), (3, .int (zI (i : Int))), (0, .ref (a 0)), (1, .int (zI (A : Int)))]) hx hb dX0_violationsAt_48 hl (k := 2) rfl (by unfold sVb; rw [sm_succ]; unfold sVc; rw [if_pos (by omega)]; omega) (by decide) rfl (fun ls hl => ?_)
                refine zr_iinc (b := ((j + 1 : Nat) : Int)) (lv' := [(4, .int (zI ((j + 1 : Nat) : Int))), (2, .int (zI (sVa g A (gN g) i + sVb g A i (j + 1)))), (3, .int (zI (i : Int))), (0, .ref (a 0)), (1, .int (zI (A : Int)))]) hx hb dX0_violationsAt_51 hl (k := 1) rfl (by omega) (by decide) rfl (fun ls hl => ?_)
                refine lv_goto (tgt := 17) hx hb dX0_violationsAt_54 (by decide) ?_
                exact ih_inner (j + 1) (by omega) (by omega) ls (lv_sub hl [0, 2, 1, 3, 4] rfl)
      have hl : lv_has ls 5 [(4, .int (zI ((i + 1 : Nat) : Int))), (3, .int (zI (i : Int))), (2, .int (zI (sVa g A (gN g) i + sVb g A i (i + 1)))), (0, .ref (a 0)), (1, .int (zI (A : Int)))] := by rw [sVb_0, Int.add_zero]; exact hl
      exact inner (gN g - (i + 1)) (i + 1) (by omega) (by omega) ls (lv_sub hl [0, 1, 2, 3, 4] rfl)
  exact loop (gN g) 0 (by omega) ls (lv_sub hl [0, 1, 2, 3] rfl)
end
section
/-! OWN ROWS: the writers of the class's state -/
theorem stw_congr {cI : ClassId} {a : Nat → Nat} {g1 g2 : Nat → Nat → Int} (h0 : g1 0 = g2 0) (h1 : g1 1 = g2 1) (h2 : g1 2 = g2 2) (h3 : g1 3 = g2 3) (h4 : g1 4 = g2 4) (h5 : g1 5 = g2 5) (h6 : g1 6 = g2 6) : stw cI a g1 = stw cI a g2 := by
  simp only [stw, stf, h0, h1, h2, h3, h4, h5, h6]
def zfil (f : Nat → Int) (i : Nat) (c : Int) : Nat → Int := fun k => if k < i then c else f k
theorem zfil_step (f : Nat → Int) (i : Nat) (c : Int) : zset (zfil f i c) i c = zfil f (i + 1) c := by
  funext k
  unfold zset zfil
  by_cases h : k = i
  · rw [if_pos h, if_pos (by omega)]
  · rw [if_neg h]
    by_cases q : k < i
    · rw [if_pos q, if_pos (by omega)]
    · rw [if_neg q, if_neg (by omega)]
theorem zfil_0 (f : Nat → Int) (c : Int) : zfil f 0 c = f := by
  funext k
  exact if_neg (by omega)
def sBg (g : Nat → Nat → Int) (n : Int) (i j : Nat) : Nat → Nat → Int
  | 0 => zset (zset (g 0) 0 n) 1 0
  | 1 => zfil (g 1) i 0
  | 2 => zfil (g 2) i 0
  | 3 => zfil (g 3) i 0
  | 4 => zfil (g 4) i 1000
  | 5 => zfil (g 5) i 0
  | 6 => zfil (g 6) j 0
  | q + 7 => g (q + 7)
def sBeg (g : Nat → Nat → Int) (n : Int) : Nat → Nat → Int := sBg g n 10 100
def zcpy (f g : Nat → Int) (n : Nat) : Nat → Int := fun k => if k < n then f k else g k
/-- g with what a copy of g2 gives it -/
def sCpy (g g2 : Nat → Nat → Int) : Nat → Nat → Int
  | 0 => zcpy (g2 0) (g 0) 5
  | 1 => zcpy (g2 1) (g 1) 10
  | 2 => zcpy (g2 2) (g 2) 10
  | 3 => zcpy (g2 3) (g 3) 10
  | 4 => zcpy (g2 4) (g 4) 10
  | 5 => zcpy (g2 5) (g 5) 10
  | 6 => zcpy (g2 6) (g 6) 100
  | q + 7 => g (q + 7)
theorem zcpy_va (f g : Nat → Int) (n : Nat) : va_cpy (fun k => zI (f k)) (fun k => zI (g k)) 0 0 n = fun k => zI (zcpy f g n k) := by
  funext k
  unfold zcpy
  by_cases h : k < n
  · rw [pk_cpy_in (by omega) (by omega), if_pos h]
    show zI (f (0 + (k - 0))) = _
    rw [show 0 + (k - 0) = k by omega]
  · rw [pk_cpy_out (by omega), if_neg h]
section ZC
variable {p : Program} {l : Launch} {e : Env} {R : Room} {s : State} {m : MethodId} {args : Array Value} {below : List Frame} {meth : Method} {c : Code} {H : Heap} {locs : List Loc} {cells slots : Nat} {Q : State → Prop}
variable {cc : ByteArray} {pc : Nat} {ls : Array Slot} {rest : List Value} {D : va_G} {cl : List vw_C} {A : Nat → Prop} {a a0 : Nat} {tys : List (ClassId × FieldType)} {ws : va_W} {H0 : Heap}
theorem zr_copy (hx : p.tables.exec = Jvm.exec) (hb : c.code = cc) (hml : c.maxLocals = ls.size) {own : String} {index : Nat} (hown : s.vm.findClass own = some m.cls) (hlink : (Cond.methodLink own index arraycopyName).before args s = true) (hnat : (Cond.native arraycopyName).before args s = true) (hstat : (Cond.static arraycopyName).before args s = true) (hini : (Cond.initialized "java/lang/System").before args s = true)
    (hK : va_K D cl tys s) (hP : va_P D cl ws H) (hD : va_D A ws) (hS : va_S A H0 H locs) (q0 q1 : Nat) {c0 : ClassId} {n0 : Nat} {f g : Nat → Int} (ha0 : ws[q0]? = some (a0, .inl (c0, n0, .inl (fun k => zI (f k))))) (ha1 : ws[q1]? = some (a, .inl (c0, n0, .inl (fun k => zI (g k))))) (ht0 : tys[0]? = some (c0, .int))
    {z z1 z2 : Int} (k : Nat) (hz : z = (k : Int)) (h1 : z1 = ((0 : Nat) : Int)) (h2 : z2 = ((0 : Nat) : Int)) (hk : k ≤ n0) (hn : n0 < 2147483648)
    (hframes : 1 ≤ R.frames) (hlocals : (rest.map fun v => v.category).sum + (nativeFrameWords "java/lang/System" "arraycopy" 5 + 11) ≤ R.locals) (hdg : decode cc pc = .ok (.invokestatic index, 3))
    (kk : ∀ (H1 : Heap) (locs1 : List Loc), va_P D cl (ws.set q1 (a, .inl (c0, n0, .inl (fun j => zI (zcpy f g k j))))) H1 → va_D A (ws.set q1 (a, .inl (c0, n0, .inl (fun j => zI (zcpy f g k j))))) → va_S A H0 H1 locs1 → W p l e R s m args below meth c H1 locs1 cells slots Q (F0 m (pc + 3) ls rest)) : W p l e R s m args below meth c H locs cells slots Q (F0 m pc ls (.int (zI z) :: .int (zI z2) :: .ref a :: .int (zI z1) :: .ref a0 :: rest)) := by
  have e0 : (zI z1).toNatClampNeg = 0 := zI_clamp h1 (by omega)
  have e2 : (zI z2).toNatClampNeg = 0 := zI_clamp h2 (by omega)
  have e1 : (zI z).toNatClampNeg = k := zI_clamp hz (by omega)
  have nn : ∀ y : Int, 0 ≤ y ∧ y ≤ 2147483647 → ¬ zI y < 0 := fun y hy h => by
    have := (zI_lt (a := y) (b := 0) (by omega) (by omega)).mp h
    omega
  refine va_copyi hx hb hml hown hlink hnat hstat hini hK hP hD hS q0 q1 0 0 ha0 ha1 ht0 ht0 rfl (nn z1 (by omega)) (nn z2 (by omega)) (nn z (by omega)) (by rw [e0, e1]; omega) (by rw [e2, e1]; omega) (fun _ _ => rfl) hframes hlocals hdg (fun H1 locs1 g1 g2 g3 => ?_)
  rw [e0, e1, e2, zcpy_va] at g1 g2
  exact kk H1 locs1 g1 g2 g3
end ZC
set_option maxHeartbeats 4000000 in
set_option maxRecDepth 100000 in
/-- settle -/
theorem c_X0_settle (l : Launch) (dC : Nat → ClassId) (dI : Nat → Nat → Nat) (cI cZ cS : ClassId) (a : Nat → Nat) (g : Nat → Nat → Int) (A : Nat) (x y h e1 : Int) (hA : A < 10) : Met l yX0_settle wsX0_settle ({ frames := 0, cells := 0, slots := 0, locals := 0 } : Room) (wr_Pc dC dI cI cZ cS (stw cI a g) [.ref (a 0), .int (zI (A : Int)), .int (zI x), .int (zI y), .int (zI h), .int (zI e1)]) (wr_Qc dC dI (stw cI a g) (stw cI a (sSet g A x y h e1)) none) 0 0 (wr_ad (stw cI a g)) := by
  refine wr_met (cc := cX0_settle) (maxL := 6) (ret := none) (by decide) rfl (Nat.le_of_ble_eq_true rfl) ?_
  intro p e s m below meth c ls hx hb hml hr hlocks hts hown hP hD hS hK hl
  have hl : lv_has ls 6 [(0, .ref (a 0)), (1, .int (zI (A : Int))), (2, .int (zI x)), (3, .int (zI y)), (4, .int (zI h)), (5, .int (zI e1))] := hl
  have hinX0 : ∀ w ∈ u_ws RX0 TX0 11, w ∈ wsX0_settle := by decide +kernel
  have f_21 := hts (.fieldLink RX0 21 "NetworkCoordinates$State" "xs" "[I") (by decide +kernel)
  have f_25 := hts (.fieldLink RX0 25 "NetworkCoordinates$State" "ys" "[I") (by decide +kernel)
  have f_28 := hts (.fieldLink RX0 28 "NetworkCoordinates$State" "heights" "[I") (by decide +kernel)
  have f_31 := hts (.fieldLink RX0 31 "NetworkCoordinates$State" "errors" "[I") (by decide +kernel)
  refine lv_aload_n hx hb dX0_settle_0 rfl (lv_at hl 0 rfl) ?_
  refine va_get (D := (dC, dI)) (ci := 0) (v := .ref (a 1)) (C := RX0) (T := TX0) (N := 11) hx hb hts hinX0 hown hK.1 hP 0 rfl rfl 5 (by decide) f_21 (fun _ h9 => h9) rfl dX0_settle_1 ?_
  refine lv_iload_n hx hb dX0_settle_4 rfl (lv_at hl 1 rfl) ?_
  refine lv_iload_n hx hb dX0_settle_5 rfl (lv_at hl 2 rfl) ?_
  refine zr_iast hx hb hK.1 hP hD hS 1 0 rfl rfl A (zset (g 1) A x) (by omega) (by omega) (Nat.le_of_ble_eq_true rfl) rfl dX0_settle_6 (fun H locs hP hD hS => ?_)
  have hP : va_P (dC, dI) vwCl (stw cI a (gset g 1 A x)) H := hP
  have hD : va_D (wr_ad (stw cI a g)) (stw cI a (gset g 1 A x)) := hD
  refine lv_aload_n hx hb dX0_settle_7 rfl (lv_at hl 0 rfl) ?_
  refine va_get (D := (dC, dI)) (ci := 0) (v := .ref (a 2)) (C := RX0) (T := TX0) (N := 11) hx hb hts hinX0 hown hK.1 hP 0 rfl rfl 6 (by decide) f_25 (fun _ h9 => h9) rfl dX0_settle_8 ?_
  refine lv_iload_n hx hb dX0_settle_11 rfl (lv_at hl 1 rfl) ?_
  refine lv_iload_n hx hb dX0_settle_12 rfl (lv_at hl 3 rfl) ?_
  refine zr_iast hx hb hK.1 hP hD hS 2 0 rfl rfl A (zset ((gset g 1 A x) 2) A y) (by omega) (by omega) (Nat.le_of_ble_eq_true rfl) rfl dX0_settle_13 (fun H locs hP hD hS => ?_)
  have hP : va_P (dC, dI) vwCl (stw cI a (gset (gset g 1 A x) 2 A y)) H := hP
  have hD : va_D (wr_ad (stw cI a g)) (stw cI a (gset (gset g 1 A x) 2 A y)) := hD
  refine lv_aload_n hx hb dX0_settle_14 rfl (lv_at hl 0 rfl) ?_
  refine va_get (D := (dC, dI)) (ci := 0) (v := .ref (a 3)) (C := RX0) (T := TX0) (N := 11) hx hb hts hinX0 hown hK.1 hP 0 rfl rfl 7 (by decide) f_28 (fun _ h9 => h9) rfl dX0_settle_15 ?_
  refine lv_iload_n hx hb dX0_settle_18 rfl (lv_at hl 1 rfl) ?_
  refine lv_iload hx hb dX0_settle_19 (lv_at hl 4 rfl) ?_
  refine zr_iast hx hb hK.1 hP hD hS 3 0 rfl rfl A (zset ((gset (gset g 1 A x) 2 A y) 3) A h) (by omega) (by omega) (Nat.le_of_ble_eq_true rfl) rfl dX0_settle_21 (fun H locs hP hD hS => ?_)
  have hP : va_P (dC, dI) vwCl (stw cI a (gset (gset (gset g 1 A x) 2 A y) 3 A h)) H := hP
  have hD : va_D (wr_ad (stw cI a g)) (stw cI a (gset (gset (gset g 1 A x) 2 A y) 3 A h)) := hD
  refine lv_aload_n hx hb dX0_settle_22 rfl (lv_at hl 0 rfl) ?_
  refine va_get (D := (dC, dI)) (ci := 0) (v := .ref (a 4)) (C := RX0) (T := TX0) (N := 11) hx hb hts hinX0 hown hK.1 hP 0 rfl rfl 8 (by decide) f_31 (fun _ h9 => h9) rfl dX0_settle_23 ?_
  refine lv_iload_n hx hb dX0_settle_26 rfl (lv_at hl 1 rfl) ?_
  refine lv_iload hx hb dX0_settle_27 (lv_at hl 5 rfl) ?_
  refine zr_iast hx hb hK.1 hP hD hS 4 0 rfl rfl A (zset ((gset (gset (gset g 1 A x) 2 A y) 3 A h) 4) A e1) (by omega) (by omega) (Nat.le_of_ble_eq_true rfl) rfl dX0_settle_29 (fun H locs hP hD hS => ?_)
  have hP : va_P (dC, dI) vwCl (stw cI a (gset (gset (gset (gset g 1 A x) 2 A y) 3 A h) 4 A e1)) H := hP
  have hD : va_D (wr_ad (stw cI a g)) (stw cI a (gset (gset (gset (gset g 1 A x) 2 A y) 3 A h) 4 A e1)) := hD
  exact wr_vret hx hb hr hlocks hP hS dX0_settle_30
set_option maxHeartbeats 4000000 in
set_option maxRecDepth 100000 in
/-- keepRtt -/
theorem c_X0_keepRtt (l : Launch) (dC : Nat → ClassId) (dI : Nat → Nat → Nat) (cI cZ cS : ClassId) (a : Nat → Nat) (g : Nat → Nat → Int) (A B : Nat) (z : Int) (hA : A < 10) (hB : B < 10) : Met l yX0_keepRtt wsX0_keepRtt ({ frames := 0, cells := 0, slots := 0, locals := 0 } : Room) (wr_Pc dC dI cI cZ cS (stw cI a g) [.ref (a 0), .int (zI (A : Int)), .int (zI (B : Int)), .int (zI z)]) (wr_Qc dC dI (stw cI a g) (stw cI a (gset (gset g 6 (10 * A + B) z) 6 (10 * B + A) z)) none) 0 0 (wr_ad (stw cI a g)) := by
  refine wr_met (cc := cX0_keepRtt) (maxL := 4) (ret := none) (by decide) rfl (Nat.le_of_ble_eq_true rfl) ?_
  intro p e s m below meth c ls hx hb hml hr hlocks hts hown hP hD hS hK hl
  have hl : lv_has ls 4 [(0, .ref (a 0)), (1, .int (zI (A : Int))), (2, .int (zI (B : Int))), (3, .int (zI z))] := hl
  have hinX0 : ∀ w ∈ u_ws RX0 TX0 11, w ∈ wsX0_keepRtt := by decide +kernel
  have f_37 := hts (.fieldLink RX0 37 "NetworkCoordinates$State" "rtts" "[I") (by decide +kernel)
  refine lv_aload_n hx hb dX0_keepRtt_0 rfl (lv_at hl 0 rfl) ?_
  refine va_get (D := (dC, dI)) (ci := 0) (v := .ref (a 6)) (C := RX0) (T := TX0) (N := 11) hx hb hts hinX0 hown hK.1 hP 0 rfl rfl 10 (by decide) f_37 (fun _ h9 => h9) rfl dX0_keepRtt_1 ?_
  refine zr_bipush hx hb dX0_keepRtt_4 (by decide) ?_
  refine lv_iload_n hx hb dX0_keepRtt_6 rfl (lv_at hl 1 rfl) ?_
  refine zr_imul hx hb dX0_keepRtt_7 ?_
  refine lv_iload_n hx hb dX0_keepRtt_8 rfl (lv_at hl 2 rfl) ?_
  refine zr_iadd hx hb dX0_keepRtt_9 ?_
  refine lv_iload_n hx hb dX0_keepRtt_10 rfl (lv_at hl 3 rfl) ?_
  refine zr_iast hx hb hK.1 hP hD hS 6 0 rfl rfl ((10 * A) + B) (zset (g 6) ((10 * A) + B) z) (by omega) (by omega) (Nat.le_of_ble_eq_true rfl) rfl dX0_keepRtt_11 (fun H locs hP hD hS => ?_)
  have hP : va_P (dC, dI) vwCl (stw cI a (gset g 6 (10 * A + B) z)) H := hP
  have hD : va_D (wr_ad (stw cI a g)) (stw cI a (gset g 6 (10 * A + B) z)) := hD
  refine lv_aload_n hx hb dX0_keepRtt_12 rfl (lv_at hl 0 rfl) ?_
  refine va_get (D := (dC, dI)) (ci := 0) (v := .ref (a 6)) (C := RX0) (T := TX0) (N := 11) hx hb hts hinX0 hown hK.1 hP 0 rfl rfl 10 (by decide) f_37 (fun _ h9 => h9) rfl dX0_keepRtt_13 ?_
  refine zr_bipush hx hb dX0_keepRtt_16 (by decide) ?_
  refine lv_iload_n hx hb dX0_keepRtt_18 rfl (lv_at hl 2 rfl) ?_
  refine zr_imul hx hb dX0_keepRtt_19 ?_
  refine lv_iload_n hx hb dX0_keepRtt_20 rfl (lv_at hl 1 rfl) ?_
  refine zr_iadd hx hb dX0_keepRtt_21 ?_
  refine lv_iload_n hx hb dX0_keepRtt_22 rfl (lv_at hl 3 rfl) ?_
  refine zr_iast hx hb hK.1 hP hD hS 6 0 rfl rfl ((10 * B) + A) (zset ((gset g 6 (10 * A + B) z) 6) ((10 * B) + A) z) (by omega) (by omega) (Nat.le_of_ble_eq_true rfl) rfl dX0_keepRtt_23 (fun H locs hP hD hS => ?_)
  have hP : va_P (dC, dI) vwCl (stw cI a (gset (gset g 6 (10 * A + B) z) 6 (10 * B + A) z)) H := hP
  have hD : va_D (wr_ad (stw cI a g)) (stw cI a (gset (gset g 6 (10 * A + B) z) 6 (10 * B + A) z)) := hD
  exact wr_vret hx hb hr hlocks hP hS dX0_keepRtt_24
set_option maxHeartbeats 4000000 in
set_option maxRecDepth 100000 in
/-- update -/
theorem c_X0_update (l : Launch) (dC : Nat → ClassId) (dI : Nat → Nat → Nat) (cI cZ cS : ClassId) (a : Nat → Nat) (g : Nat → Nat → Int) (r : Int) (hg : gB g r) (A B : Nat) (hA : A < 10) (hB : B < 10) (hk : 1 ≤ g 6 (10 * A + B)) : Met l yX0_update wsX0_update ({ frames := 3, cells := 0, slots := 0, locals := 89 } : Room) (wr_Pc dC dI cI cZ cS (stw cI a g) [.ref (a 0), .int (zI (A : Int)), .int (zI (B : Int))]) (wr_Qc dC dI (stw cI a g) (stw cI a (sUpd g A B)) none) 0 0 (wr_ad (stw cI a g)) := by
  refine wr_met (cc := cX0_update) (maxL := 8) (ret := none) (by decide) rfl (Nat.le_of_ble_eq_true rfl) ?_
  intro p e s m below meth c ls hx hb hml hr hlocks hts hown hP hD hS hK hl
  have hl : lv_has ls 8 [(0, .ref (a 0)), (1, .int (zI (A : Int))), (2, .int (zI (B : Int)))] := hl
  have s1 := sPrd_bd hg hA hB
  have s2 := sStp_bd hg hA hB s1
  refine lv_aload_n hx hb dX0_update_0 rfl (lv_at hl 0 rfl) ?_
  refine lv_iload_n hx hb dX0_update_1 rfl (lv_at hl 1 rfl) ?_
  refine lv_iload_n hx hb dX0_update_2 rfl (lv_at hl 2 rfl) ?_
  refine rd_callV (As := [.int (zI (A : Int)), .int (zI (B : Int))]) (rest := []) ⟨hx, hb, hml, hown, hts⟩ (c_X0_predicted l dC dI cI cZ cS a g r hg A B (by omega) (by omega)) (cwV 2 hts gX0_update_X0_predicted rfl rfl rfl (by decide +kernel) ⟨Nat.le_of_ble_eq_true rfl, Nat.le_of_ble_eq_true rfl⟩) hP hK 0 rfl rfl rfl hl.1 rfl (Nat.le_of_ble_eq_true rfl) dX0_update_3 ⟨Nat.zero_le _, Nat.zero_le _⟩ ?_
  refine lv_istore_n (lv' := [(3, .int (zI (sPrd g A B))), (0, .ref (a 0)), (1, .int (zI (A : Int))), (2, .int (zI (B : Int)))]) hx hb dX0_update_6 rfl hl (by decide) rfl (fun ls hl => ?_)
  refine lv_aload_n hx hb dX0_update_7 rfl (lv_at hl 1 rfl) ?_
  refine lv_iload_n hx hb dX0_update_8 rfl (lv_at hl 2 rfl) ?_
  refine lv_iload_n hx hb dX0_update_9 rfl (lv_at hl 3 rfl) ?_
  refine lv_iload_n hx hb dX0_update_10 rfl (lv_at hl 0 rfl) ?_
  refine rd_callV (As := [.int (zI (A : Int)), .int (zI (B : Int)), .int (zI (sPrd g A B))]) (rest := []) ⟨hx, hb, hml, hown, hts⟩ (c_X0_stepOf l dC dI cI cZ cS a g r hg A B (by omega) (by omega) (sPrd g A B) (by omega)) (cwV 3 hts gX0_update_X0_stepOf rfl rfl rfl (by decide +kernel) ⟨Nat.le_of_ble_eq_true rfl, Nat.le_of_ble_eq_true rfl⟩) hP hK 0 rfl rfl rfl hl.1 rfl (Nat.le_of_ble_eq_true rfl) dX0_update_11 ⟨Nat.zero_le _, Nat.zero_le _⟩ ?_
  refine lv_istore (lv' := [(4, .int (zI (sStp g A B (sPrd g A B)))), (3, .int (zI (sPrd g A B))), (0, .ref (a 0)), (1, .int (zI (A : Int))), (2, .int (zI (B : Int)))]) hx hb dX0_update_14 hl (by decide) rfl (fun ls hl => ?_)
  refine lv_aload_n hx hb dX0_update_16 rfl (lv_at hl 2 rfl) ?_
  refine lv_iload_n hx hb dX0_update_17 rfl (lv_at hl 3 rfl) ?_
  refine lv_iload_n hx hb dX0_update_18 rfl (lv_at hl 4 rfl) ?_
  refine lv_iload hx hb dX0_update_19 (lv_at hl 0 rfl) ?_
  refine lv_iload_n hx hb dX0_update_21 rfl (lv_at hl 1 rfl) ?_
  refine rd_callV (As := [.int (zI (A : Int)), .int (zI (B : Int)), .int (zI (sStp g A B (sPrd g A B))), .int (zI (sPrd g A B))]) (rest := []) ⟨hx, hb, hml, hown, hts⟩ (c_X0_xAfter l dC dI cI cZ cS a g r hg A B (by omega) (by omega) (sStp g A B (sPrd g A B)) (sPrd g A B) (by omega) (by omega)) (cwV 4 hts gX0_update_X0_xAfter rfl rfl rfl (by decide +kernel) ⟨Nat.le_of_ble_eq_true rfl, Nat.le_of_ble_eq_true rfl⟩) hP hK 0 rfl rfl rfl hl.1 rfl (Nat.le_of_ble_eq_true rfl) dX0_update_22 ⟨Nat.zero_le _, Nat.zero_le _⟩ ?_
  refine lv_istore (lv' := [(5, .int (zI (sX g A B (sStp g A B (sPrd g A B)) (sPrd g A B)))), (4, .int (zI (sStp g A B (sPrd g A B)))), (3, .int (zI (sPrd g A B))), (0, .ref (a 0)), (1, .int (zI (A : Int))), (2, .int (zI (B : Int)))]) hx hb dX0_update_25 hl (by decide) rfl (fun ls hl => ?_)
  refine lv_aload_n hx hb dX0_update_27 rfl (lv_at hl 3 rfl) ?_
  refine lv_iload_n hx hb dX0_update_28 rfl (lv_at hl 4 rfl) ?_
  refine lv_iload_n hx hb dX0_update_29 rfl (lv_at hl 5 rfl) ?_
  refine lv_iload hx hb dX0_update_30 (lv_at hl 1 rfl) ?_
  refine lv_iload_n hx hb dX0_update_32 rfl (lv_at hl 2 rfl) ?_
  refine rd_callV (As := [.int (zI (A : Int)), .int (zI (B : Int)), .int (zI (sStp g A B (sPrd g A B))), .int (zI (sPrd g A B))]) (rest := []) ⟨hx, hb, hml, hown, hts⟩ (c_X0_yAfter l dC dI cI cZ cS a g r hg A B (by omega) (by omega) (sStp g A B (sPrd g A B)) (sPrd g A B) (by omega) (by omega)) (cwV 4 hts gX0_update_X0_yAfter rfl rfl rfl (by decide +kernel) ⟨Nat.le_of_ble_eq_true rfl, Nat.le_of_ble_eq_true rfl⟩) hP hK 0 rfl rfl rfl hl.1 rfl (Nat.le_of_ble_eq_true rfl) dX0_update_33 ⟨Nat.zero_le _, Nat.zero_le _⟩ ?_
  refine lv_istore (lv' := [(6, .int (zI (sY g A B (sStp g A B (sPrd g A B)) (sPrd g A B)))), (5, .int (zI (sX g A B (sStp g A B (sPrd g A B)) (sPrd g A B)))), (4, .int (zI (sStp g A B (sPrd g A B)))), (3, .int (zI (sPrd g A B))), (0, .ref (a 0)), (1, .int (zI (A : Int))), (2, .int (zI (B : Int)))]) hx hb dX0_update_36 hl (by decide) rfl (fun ls hl => ?_)
  refine lv_aload_n hx hb dX0_update_38 rfl (lv_at hl 4 rfl) ?_
  refine lv_iload_n hx hb dX0_update_39 rfl (lv_at hl 5 rfl) ?_
  refine lv_iload_n hx hb dX0_update_40 rfl (lv_at hl 6 rfl) ?_
  refine lv_iload hx hb dX0_update_41 (lv_at hl 2 rfl) ?_
  refine lv_iload_n hx hb dX0_update_43 rfl (lv_at hl 3 rfl) ?_
  refine rd_callV (As := [.int (zI (A : Int)), .int (zI (B : Int)), .int (zI (sStp g A B (sPrd g A B))), .int (zI (sPrd g A B))]) (rest := []) ⟨hx, hb, hml, hown, hts⟩ (c_X0_heightAfter l dC dI cI cZ cS a g r hg A B (by omega) (by omega) (sStp g A B (sPrd g A B)) (sPrd g A B) (by omega) (by omega)) (cwV 4 hts gX0_update_X0_heightAfter rfl rfl rfl (by decide +kernel) ⟨Nat.le_of_ble_eq_true rfl, Nat.le_of_ble_eq_true rfl⟩) hP hK 0 rfl rfl rfl hl.1 rfl (Nat.le_of_ble_eq_true rfl) dX0_update_44 ⟨Nat.zero_le _, Nat.zero_le _⟩ ?_
  refine lv_istore (lv' := [(7, .int (zI (sH g A B (sStp g A B (sPrd g A B)) (sPrd g A B)))), (6, .int (zI (sY g A B (sStp g A B (sPrd g A B)) (sPrd g A B)))), (5, .int (zI (sX g A B (sStp g A B (sPrd g A B)) (sPrd g A B)))), (4, .int (zI (sStp g A B (sPrd g A B)))), (3, .int (zI (sPrd g A B))), (0, .ref (a 0)), (1, .int (zI (A : Int))), (2, .int (zI (B : Int)))]) hx hb dX0_update_47 hl (by decide) rfl (fun ls hl => ?_)
  refine lv_aload_n hx hb dX0_update_49 rfl (lv_at hl 5 rfl) ?_
  refine lv_iload_n hx hb dX0_update_50 rfl (lv_at hl 6 rfl) ?_
  refine lv_iload hx hb dX0_update_51 (lv_at hl 2 rfl) ?_
  refine lv_iload hx hb dX0_update_53 (lv_at hl 1 rfl) ?_
  refine lv_iload hx hb dX0_update_55 (lv_at hl 0 rfl) ?_
  refine lv_aload_n hx hb dX0_update_57 rfl (lv_at hl 5 rfl) ?_
  refine lv_iload_n hx hb dX0_update_58 rfl (lv_at hl 6 rfl) ?_
  refine lv_iload_n hx hb dX0_update_59 rfl (lv_at hl 7 rfl) ?_
  refine lv_iload_n hx hb dX0_update_60 rfl (lv_at hl 4 rfl) ?_
  refine rd_callV (As := [.int (zI (A : Int)), .int (zI (B : Int)), .int (zI (sPrd g A B))]) (rest := [.int (zI (sH g A B (sStp g A B (sPrd g A B)) (sPrd g A B))), .int (zI (sY g A B (sStp g A B (sPrd g A B)) (sPrd g A B))), .int (zI (sX g A B (sStp g A B (sPrd g A B)) (sPrd g A B))), .int (zI (A : Int)), .ref (a 0)]) ⟨hx, hb, hml, hown, hts⟩ (c_X0_errorAfter l dC dI cI cZ cS a g r hg A B (by omega) (by omega) (sPrd g A B) (by omega) (by omega)) (cwV 3 hts gX0_update_X0_errorAfter rfl rfl rfl (by decide +kernel) ⟨Nat.le_of_ble_eq_true rfl, Nat.le_of_ble_eq_true rfl⟩) hP hK 0 rfl rfl rfl hl.1 rfl (Nat.le_of_ble_eq_true rfl) dX0_update_61 ⟨Nat.zero_le _, Nat.zero_le _⟩ ?_
  refine wr_callV (As := [.int (zI (A : Int)), .int (zI (sX g A B (sStp g A B (sPrd g A B)) (sPrd g A B))), .int (zI (sY g A B (sStp g A B (sPrd g A B)) (sPrd g A B))), .int (zI (sH g A B (sStp g A B (sPrd g A B)) (sPrd g A B))), .int (zI (sErr g A B (sPrd g A B)))]) (rest := []) ⟨hx, hb, hml, hown, hts⟩ (c_X0_settle l dC dI cI cZ cS a g A (sX g A B (sStp g A B (sPrd g A B)) (sPrd g A B)) (sY g A B (sStp g A B (sPrd g A B)) (sPrd g A B)) (sH g A B (sStp g A B (sPrd g A B)) (sPrd g A B)) (sErr g A B (sPrd g A B)) (by omega)) (cwV 5 hts gX0_update_X0_settle rfl rfl rfl (by decide +kernel) ⟨Nat.le_of_ble_eq_true rfl, Nat.le_of_ble_eq_true rfl⟩) hP hD hS hK 0 rfl rfl rfl hl.1 rfl (Nat.le_of_ble_eq_true rfl) dX0_update_64 ⟨Nat.zero_le _, Nat.zero_le _⟩ (fun H locs hP1 hk1 hS => ?_)
  have hP : va_P (dC, dI) vwCl (stw cI a (sSet g A (sX g A B (sStp g A B (sPrd g A B)) (sPrd g A B)) (sY g A B (sStp g A B (sPrd g A B)) (sPrd g A B)) (sH g A B (sStp g A B (sPrd g A B)) (sPrd g A B)) (sErr g A B (sPrd g A B)))) H := hP1
  have hD : va_D (wr_ad (stw cI a g)) (stw cI a (sSet g A (sX g A B (sStp g A B (sPrd g A B)) (sPrd g A B)) (sY g A B (sStp g A B (sPrd g A B)) (sPrd g A B)) (sH g A B (sStp g A B (sPrd g A B)) (sPrd g A B)) (sErr g A B (sPrd g A B)))) := va_D_adr hD rfl
  exact wr_vret hx hb hr hlocks hP hS dX0_update_67
set_option maxHeartbeats 4000000 in
set_option maxRecDepth 100000 in
/-- playRound -/
theorem c_X0_playRound (l : Launch) (dC : Nat → ClassId) (dI : Nat → Nat → Nat) (cI cZ cS : ClassId) (a : Nat → Nat) (g : Nat → Nat → Int) (r : Int) (hg : gB g r) (hr1 : r ≤ 2000000000) : Met l yX0_playRound wsX0_playRound ({ frames := 4, cells := 0, slots := 0, locals := 116 } : Room) (wr_Pc dC dI cI cZ cS (stw cI a g) [.ref (a 0)]) (wr_Qc dC dI (stw cI a g) (stw cI a (sRnd g)) (some (.int (zI (sRndC g))))) 0 0 (wr_ad (stw cI a g)) := by
  refine wr_met (cc := cX0_playRound) (maxL := 6) (ret := (some .int)) (by decide) rfl (Nat.le_of_ble_eq_true rfl) ?_
  intro p e s m below meth c ls hx hb hml hr hlocks hts hown hP hD hS hK hl
  have hl : lv_has ls 6 [(0, .ref (a 0))] := hl
  have hinX0 : ∀ w ∈ u_ws RX0 TX0 11, w ∈ wsX0_playRound := by decide +kernel
  have f_44 := hts (.fieldLink RX0 44 "NetworkCoordinates$State" "nodes" "I") (by decide +kernel)
  have f_47 := hts (.fieldLink RX0 47 "NetworkCoordinates$State" "round" "I") (by decide +kernel)
  have b0 := hg.1
  have hN := gN_eq hg
  have hsh := sShf_bd hg
  refine lv_aload_n hx hb dX0_playRound_0 rfl (lv_at hl 0 rfl) ?_
  refine va_get (D := (dC, dI)) (ci := 0) (v := .int (zI (g 0 0))) (C := RX0) (T := TX0) (N := 11) hx hb hts hinX0 hown hK.1 hP 0 rfl rfl 0 (by decide) f_44 (fun _ h9 => h9) rfl dX0_playRound_1 ?_
  refine zr_iconst hx hb dX0_playRound_4 ?_
  refine zr_isub hx hb dX0_playRound_5 ?_
  refine lv_istore_n (lv' := [(1, .int (zI (g 0 0 - 1))), (0, .ref (a 0))]) hx hb dX0_playRound_6 rfl hl (by decide) rfl (fun ls hl => ?_)
  refine lv_iload_n hx hb dX0_playRound_7 rfl (lv_at hl 0 rfl) ?_
  refine zr_iconst hx hb dX0_playRound_8 ?_
  refine zr_icmp_ge (tgt := 14) hx hb dX0_playRound_9 (by decide) (by omega) (by omega) (fun c_9 => ?_) (fun c_9 => absurd c_9 (by omega))
  refine zr_iconst hx hb dX0_playRound_14 ?_
  refine lv_aload_n hx hb dX0_playRound_15 rfl (lv_at hl 1 rfl) ?_
  refine va_get (D := (dC, dI)) (ci := 0) (v := .int (zI (g 0 1))) (C := RX0) (T := TX0) (N := 11) hx hb hts hinX0 hown hK.1 hP 0 rfl rfl 1 (by decide) f_47 (fun _ h9 => h9) rfl dX0_playRound_16 ?_
  refine lv_iload_n hx hb dX0_playRound_19 rfl (lv_at hl 0 rfl) ?_
  refine rd_callS (As := [.int (zI (g 0 1)), .int (zI (g 0 0 - 1))]) (rest := [.int (zI 1)]) ⟨hx, hb, hml, hown, hts⟩ (c_J9_floorMod_7cf53 l dC dI cI cZ cS (g 0 1) (g 0 0 - 1) (by omega) (by omega)) (va_cwS 2 hts gX0_playRound_J9_floorMod_7cf53 rfl rfl rfl (by decide +kernel) ⟨Nat.le_of_ble_eq_true rfl, Nat.le_of_ble_eq_true rfl⟩) va_P_nil hK rfl hl.1 rfl (Nat.le_of_ble_eq_true rfl) dX0_playRound_20 ⟨Nat.zero_le _, Nat.zero_le _⟩ ?_
  refine zr_iadd hx hb dX0_playRound_23 ?_
  refine zr_topI ((1 + sShf g : Nat) : Int) (by omega) ?_
  refine lv_istore_n (lv' := [(2, .int (zI ((1 + sShf g : Nat) : Int))), (1, .int (zI (g 0 0 - 1))), (0, .ref (a 0))]) hx hb dX0_playRound_24 rfl hl (by decide) rfl (fun ls hl => ?_)
  refine zr_iconst hx hb dX0_playRound_25 ?_
  refine lv_istore_n (lv' := [(3, .int (zI 0)), (2, .int (zI ((1 + sShf g : Nat) : Int))), (1, .int (zI (g 0 0 - 1))), (0, .ref (a 0))]) hx hb dX0_playRound_26 rfl hl (by decide) rfl (fun ls hl => ?_)
  refine zr_iconst hx hb dX0_playRound_27 ?_
  refine lv_istore (lv' := [(4, .int (zI 0)), (3, .int (zI 0)), (2, .int (zI ((1 + sShf g : Nat) : Int))), (1, .int (zI (g 0 0 - 1))), (0, .ref (a 0))]) hx hb dX0_playRound_28 hl (by decide) rfl (fun ls hl => ?_)
  have loop : ∀ (k_loop i : Nat), i + k_loop = gN g → ∀ G : Nat → Nat → Int, G = sRow (gN g) (sShf g) g i → ∀ (H : Heap) (locs : List Loc), va_P (dC, dI) vwCl (stw cI a G) H → va_D (wr_ad (stw cI a g)) (stw cI a G) → va_S (wr_ad (stw cI a g)) s.heap H locs → ∀ ls : Array Slot, lv_has ls 6 [(4, .int (zI (i : Int))), (3, .int (zI (sCnt (gN g) (sShf g) g i))), (2, .int (zI ((1 + sShf g : Nat) : Int))), (0, .ref (a 0))] → W p l e ({ frames := 4, cells := 0, slots := 0, locals := 116 } : Room) s m [.ref (a 0)].toArray below meth c H locs 0 0 (MQ below (wr_Qc dC dI (stw cI a g) (stw cI a (sRnd g)) (some (.int (zI (sRndC g))))) [.ref (a 0)].toArray s 0 0 (wr_ad (stw cI a g))) (F0 m 30 ls []) := by
    intro k_loop
    induction k_loop with
    | zero =>
      intro i hi G hG H locs hP hD hS ls hl
      obtain ⟨hGB, hG0, hG5, hG6⟩ := sRow_inv hg hN.2.2 hsh.1 i (by omega)
      rw [← hG] at hGB hG0 hG5 hG6
      have e0 : G 0 0 = g 0 0 := by rw [hG0]
      have e1 : G 0 1 = g 0 1 := by rw [hG0]
      refine lv_iload hx hb dX0_playRound_30 (lv_at hl 0 rfl) ?_
      refine lv_aload_n hx hb dX0_playRound_32 rfl (lv_at hl 3 rfl) ?_
      refine va_get (D := (dC, dI)) (ci := 0) (v := .int (zI (G 0 0))) (C := RX0) (T := TX0) (N := 11) hx hb hts hinX0 hown hK.1 hP 0 rfl rfl 0 (by decide) f_44 (fun _ h9 => h9) rfl dX0_playRound_33 ?_
      refine zr_icmp_ge (tgt := 96) hx hb dX0_playRound_36 (by decide) (by omega) (by omega) (fun c_36 => ?_) (fun c_36 => absurd c_36 (by omega))
      refine lv_aload_n hx hb dX0_playRound_96 rfl (lv_at hl 3 rfl) ?_
      refine lv_dup hx hb dX0_playRound_97 rfl ?_
      refine va_get (D := (dC, dI)) (ci := 0) (v := .int (zI (G 0 1))) (C := RX0) (T := TX0) (N := 11) hx hb hts hinX0 hown hK.1 hP 0 rfl rfl 1 (by decide) f_47 (fun _ h9 => h9) rfl dX0_playRound_98 ?_
      refine zr_iconst hx hb dX0_playRound_101 ?_
      refine zr_iadd hx hb dX0_playRound_102 ?_
      refine zr_topI (g 0 1 + 1) (by rw [e1]) ?_
      refine va_put (D := (dC, dI)) (ci := 0) (v := .int (zI (g 0 1 + 1))) (ty := .int) (C := RX0) (T := TX0) (N := 11) hx hb hts hinX0 tyX0 tyX0_ok nmX0 hown hK.1 hP hD hS 0 rfl rfl 1 (by decide) f_47 (fun _ h9 => h9) rfl (by decide +kernel) rfl rfl (Nat.le_of_ble_eq_true rfl) dX0_playRound_103 (fun H locs hP hD hS => ?_)
      refine lv_iload_n hx hb dX0_playRound_106 rfl (lv_at hl 1 rfl) ?_
      have hi2 : i = gN g := by omega
      subst hi2
      subst hG
      exact wr_iret hx hb hr hlocks (show va_P (dC, dI) vwCl (stw cI a (sRnd g)) H from hP) hS rfl dX0_playRound_107
    | succ k_loop ih_loop =>
      intro i hi G hG H locs hP hD hS ls hl
      obtain ⟨hGB, hG0, hG5, hG6⟩ := sRow_inv hg hN.2.2 hsh.1 i (by omega)
      rw [← hG] at hGB hG0 hG5 hG6
      have e0 : G 0 0 = g 0 0 := by rw [hG0]
      have e1 : G 0 1 = g 0 1 := by rw [hG0]
      have hbd := sB_bd (n := gN g) (sh := sShf g) (i := i) (by omega) hsh.1
      refine lv_iload hx hb dX0_playRound_30 (lv_at hl 0 rfl) ?_
      refine lv_aload_n hx hb dX0_playRound_32 rfl (lv_at hl 3 rfl) ?_
      refine va_get (D := (dC, dI)) (ci := 0) (v := .int (zI (G 0 0))) (C := RX0) (T := TX0) (N := 11) hx hb hts hinX0 hown hK.1 hP 0 rfl rfl 0 (by decide) f_44 (fun _ h9 => h9) rfl dX0_playRound_33 ?_
      refine zr_icmp_ge (tgt := 96) hx hb dX0_playRound_36 (by decide) (by omega) (by omega) (fun c_36 => absurd c_36 (by omega)) (fun c_36 => ?_)
      refine lv_iload hx hb dX0_playRound_39 (lv_at hl 0 rfl) ?_
      refine lv_iload_n hx hb dX0_playRound_41 rfl (lv_at hl 2 rfl) ?_
      refine zr_iadd hx hb dX0_playRound_42 ?_
      refine lv_aload_n hx hb dX0_playRound_43 rfl (lv_at hl 3 rfl) ?_
      refine va_get (D := (dC, dI)) (ci := 0) (v := .int (zI (G 0 0))) (C := RX0) (T := TX0) (N := 11) hx hb hts hinX0 hown hK.1 hP 0 rfl rfl 0 (by decide) f_44 (fun _ h9 => h9) rfl dX0_playRound_44 ?_
      refine zr_icmp_ge (tgt := 57) hx hb dX0_playRound_47 (by decide) (by omega) (by omega) (fun c_47 => ?_) (fun c_47 => ?_)
      · refine lv_iload hx hb dX0_playRound_57 (lv_at hl 0 rfl) ?_
        refine lv_iload_n hx hb dX0_playRound_59 rfl (lv_at hl 2 rfl) ?_
        refine zr_iadd hx hb dX0_playRound_60 ?_
        refine lv_aload_n hx hb dX0_playRound_61 rfl (lv_at hl 3 rfl) ?_
        refine va_get (D := (dC, dI)) (ci := 0) (v := .int (zI (G 0 0))) (C := RX0) (T := TX0) (N := 11) hx hb hts hinX0 hown hK.1 hP 0 rfl rfl 0 (by decide) f_44 (fun _ h9 => h9) rfl dX0_playRound_62 ?_
        refine zr_isub hx hb dX0_playRound_65 ?_
        refine zr_topI ((sB (gN g) (sShf g) i : Nat) : Int) (by unfold sB; rw [if_neg (by omega)]; omega) ?_
        refine lv_istore (lv' := [(5, .int (zI ((sB (gN g) (sShf g) i : Nat) : Int))), (4, .int (zI (i : Int))), (3, .int (zI (sCnt (gN g) (sShf g) g i))), (2, .int (zI ((1 + sShf g : Nat) : Int))), (0, .ref (a 0))]) hx hb dX0_playRound_66 hl (by decide) rfl (fun ls hl => ?_)
        refine lv_aload_n hx hb dX0_playRound_68 rfl (lv_at hl 4 rfl) ?_
        refine lv_iload hx hb dX0_playRound_69 (lv_at hl 1 rfl) ?_
        refine lv_iload hx hb dX0_playRound_71 (lv_at hl 0 rfl) ?_
        refine rd_callV (As := [.int (zI (i : Int)), .int (zI ((sB (gN g) (sShf g) i : Nat) : Int))]) (rest := []) ⟨hx, hb, hml, hown, hts⟩ (c_X0_isKnown l dC dI cI cZ cS a G r hGB i (sB (gN g) (sShf g) i) (by omega) (by omega)) (cwV 2 hts gX0_playRound_X0_isKnown rfl rfl rfl (by decide +kernel) ⟨Nat.le_of_ble_eq_true rfl, Nat.le_of_ble_eq_true rfl⟩) hP hK 0 rfl rfl rfl hl.1 rfl (Nat.le_of_ble_eq_true rfl) dX0_playRound_73 ⟨Nat.zero_le _, Nat.zero_le _⟩ ?_
        refine zr_bif_eq (tgt := 90) hx hb dX0_playRound_76 (by decide) (fun c_76 => ?_) (fun c_76 => ?_)
        · rw [hG6] at c_76
          have hl : lv_has ls 6 [(5, .int (zI ((sB (gN g) (sShf g) i : Nat) : Int))), (4, .int (zI (i : Int))), (3, .int (zI (sCnt (gN g) (sShf g) g (i + 1)))), (2, .int (zI ((1 + sShf g : Nat) : Int))), (0, .ref (a 0))] := by rw [show sCnt (gN g) (sShf g) g (i + 1) = sCnt (gN g) (sShf g) g i from by unfold sCnt; rw [sm_succ, if_neg c_76]; omega]; exact hl
          refine zr_iinc (b := ((i + 1 : Nat) : Int)) (lv' := [(4, .int (zI ((i + 1 : Nat) : Int))), (5, .int (zI ((sB (gN g) (sShf g) i : Nat) : Int))), (3, .int (zI (sCnt (gN g) (sShf g) g (i + 1)))), (2, .int (zI ((1 + sShf g : Nat) : Int))), (0, .ref (a 0))]) hx hb dX0_playRound_90 hl (k := 1) rfl (by omega) (by decide) rfl (fun ls hl => ?_)
          refine lv_goto (tgt := 30) hx hb dX0_playRound_93 (by decide) ?_
          exact ih_loop (i + 1) (by omega) G (by rw [hG]; exact (if_neg c_76).symm) H locs hP hD hS ls (lv_sub hl [0, 2, 3, 4] rfl)
        · have c_76g : 1 ≤ g 6 (10 * i + sB (gN g) (sShf g) i) := by rw [← hG6]; exact c_76
          refine lv_aload_n hx hb dX0_playRound_79 rfl (lv_at hl 4 rfl) ?_
          refine lv_iload hx hb dX0_playRound_80 (lv_at hl 1 rfl) ?_
          refine lv_iload hx hb dX0_playRound_82 (lv_at hl 0 rfl) ?_
          refine wr_callV (As := [.int (zI (i : Int)), .int (zI ((sB (gN g) (sShf g) i : Nat) : Int))]) (rest := []) ⟨hx, hb, hml, hown, hts⟩ (c_X0_update l dC dI cI cZ cS a G r hGB i (sB (gN g) (sShf g) i) (by omega) (by omega) c_76) (cwV 2 hts gX0_playRound_X0_update rfl rfl rfl (by decide +kernel) ⟨Nat.le_of_ble_eq_true rfl, Nat.le_of_ble_eq_true rfl⟩) hP hD hS hK 0 rfl rfl rfl hl.1 rfl (Nat.le_of_ble_eq_true rfl) dX0_playRound_84 ⟨Nat.zero_le _, Nat.zero_le _⟩ (fun H locs hP1 hk1 hS => ?_)
          have hP : va_P (dC, dI) vwCl (stw cI a (sUpd G i (sB (gN g) (sShf g) i))) H := hP1
          have hD : va_D (wr_ad (stw cI a g)) (stw cI a (sUpd G i (sB (gN g) (sShf g) i))) := va_D_adr hD rfl
          refine zr_iinc (b := (sCnt (gN g) (sShf g) g (i + 1))) (lv' := [(3, .int (zI (sCnt (gN g) (sShf g) g (i + 1)))), (5, .int (zI ((sB (gN g) (sShf g) i : Nat) : Int))), (4, .int (zI (i : Int))), (2, .int (zI ((1 + sShf g : Nat) : Int))), (0, .ref (a 0))]) hx hb dX0_playRound_87 hl (k := 2) rfl (by unfold sCnt; rw [sm_succ, if_pos c_76g]) (by decide) rfl (fun ls hl => ?_)
          refine zr_iinc (b := ((i + 1 : Nat) : Int)) (lv' := [(4, .int (zI ((i + 1 : Nat) : Int))), (3, .int (zI (sCnt (gN g) (sShf g) g (i + 1)))), (5, .int (zI ((sB (gN g) (sShf g) i : Nat) : Int))), (2, .int (zI ((1 + sShf g : Nat) : Int))), (0, .ref (a 0))]) hx hb dX0_playRound_90 hl (k := 2) rfl (by omega) (by decide) rfl (fun ls hl => ?_)
          refine lv_goto (tgt := 30) hx hb dX0_playRound_93 (by decide) ?_
          exact ih_loop (i + 1) (by omega) (sUpd G i (sB (gN g) (sShf g) i)) (by rw [hG]; exact (if_pos c_76g).symm) H locs hP hD hS ls (lv_sub hl [0, 1, 3, 4] rfl)
      · refine lv_iload hx hb dX0_playRound_50 (lv_at hl 0 rfl) ?_
        refine lv_iload_n hx hb dX0_playRound_52 rfl (lv_at hl 2 rfl) ?_
        refine zr_iadd hx hb dX0_playRound_53 ?_
        refine zr_topI ((sB (gN g) (sShf g) i : Nat) : Int) (by unfold sB; rw [if_pos (by omega)]; omega) ?_
        refine lv_goto (tgt := 66) hx hb dX0_playRound_54 (by decide) ?_
        refine lv_istore (lv' := [(5, .int (zI ((sB (gN g) (sShf g) i : Nat) : Int))), (4, .int (zI (i : Int))), (3, .int (zI (sCnt (gN g) (sShf g) g i))), (2, .int (zI ((1 + sShf g : Nat) : Int))), (0, .ref (a 0))]) hx hb dX0_playRound_66 hl (by decide) rfl (fun ls hl => ?_)
        refine lv_aload_n hx hb dX0_playRound_68 rfl (lv_at hl 4 rfl) ?_
        refine lv_iload hx hb dX0_playRound_69 (lv_at hl 1 rfl) ?_
        refine lv_iload hx hb dX0_playRound_71 (lv_at hl 0 rfl) ?_
        refine rd_callV (As := [.int (zI (i : Int)), .int (zI ((sB (gN g) (sShf g) i : Nat) : Int))]) (rest := []) ⟨hx, hb, hml, hown, hts⟩ (c_X0_isKnown l dC dI cI cZ cS a G r hGB i (sB (gN g) (sShf g) i) (by omega) (by omega)) (cwV 2 hts gX0_playRound_X0_isKnown rfl rfl rfl (by decide +kernel) ⟨Nat.le_of_ble_eq_true rfl, Nat.le_of_ble_eq_true rfl⟩) hP hK 0 rfl rfl rfl hl.1 rfl (Nat.le_of_ble_eq_true rfl) dX0_playRound_73 ⟨Nat.zero_le _, Nat.zero_le _⟩ ?_
        refine zr_bif_eq (tgt := 90) hx hb dX0_playRound_76 (by decide) (fun c_76 => ?_) (fun c_76 => ?_)
        · rw [hG6] at c_76
          have hl : lv_has ls 6 [(5, .int (zI ((sB (gN g) (sShf g) i : Nat) : Int))), (4, .int (zI (i : Int))), (3, .int (zI (sCnt (gN g) (sShf g) g (i + 1)))), (2, .int (zI ((1 + sShf g : Nat) : Int))), (0, .ref (a 0))] := by rw [show sCnt (gN g) (sShf g) g (i + 1) = sCnt (gN g) (sShf g) g i from by unfold sCnt; rw [sm_succ, if_neg c_76]; omega]; exact hl
          refine zr_iinc (b := ((i + 1 : Nat) : Int)) (lv' := [(4, .int (zI ((i + 1 : Nat) : Int))), (5, .int (zI ((sB (gN g) (sShf g) i : Nat) : Int))), (3, .int (zI (sCnt (gN g) (sShf g) g (i + 1)))), (2, .int (zI ((1 + sShf g : Nat) : Int))), (0, .ref (a 0))]) hx hb dX0_playRound_90 hl (k := 1) rfl (by omega) (by decide) rfl (fun ls hl => ?_)
          refine lv_goto (tgt := 30) hx hb dX0_playRound_93 (by decide) ?_
          exact ih_loop (i + 1) (by omega) G (by rw [hG]; exact (if_neg c_76).symm) H locs hP hD hS ls (lv_sub hl [0, 2, 3, 4] rfl)
        · have c_76g : 1 ≤ g 6 (10 * i + sB (gN g) (sShf g) i) := by rw [← hG6]; exact c_76
          refine lv_aload_n hx hb dX0_playRound_79 rfl (lv_at hl 4 rfl) ?_
          refine lv_iload hx hb dX0_playRound_80 (lv_at hl 1 rfl) ?_
          refine lv_iload hx hb dX0_playRound_82 (lv_at hl 0 rfl) ?_
          refine wr_callV (As := [.int (zI (i : Int)), .int (zI ((sB (gN g) (sShf g) i : Nat) : Int))]) (rest := []) ⟨hx, hb, hml, hown, hts⟩ (c_X0_update l dC dI cI cZ cS a G r hGB i (sB (gN g) (sShf g) i) (by omega) (by omega) c_76) (cwV 2 hts gX0_playRound_X0_update rfl rfl rfl (by decide +kernel) ⟨Nat.le_of_ble_eq_true rfl, Nat.le_of_ble_eq_true rfl⟩) hP hD hS hK 0 rfl rfl rfl hl.1 rfl (Nat.le_of_ble_eq_true rfl) dX0_playRound_84 ⟨Nat.zero_le _, Nat.zero_le _⟩ (fun H locs hP1 hk1 hS => ?_)
          have hP : va_P (dC, dI) vwCl (stw cI a (sUpd G i (sB (gN g) (sShf g) i))) H := hP1
          have hD : va_D (wr_ad (stw cI a g)) (stw cI a (sUpd G i (sB (gN g) (sShf g) i))) := va_D_adr hD rfl
          refine zr_iinc (b := (sCnt (gN g) (sShf g) g (i + 1))) (lv' := [(3, .int (zI (sCnt (gN g) (sShf g) g (i + 1)))), (5, .int (zI ((sB (gN g) (sShf g) i : Nat) : Int))), (4, .int (zI (i : Int))), (2, .int (zI ((1 + sShf g : Nat) : Int))), (0, .ref (a 0))]) hx hb dX0_playRound_87 hl (k := 2) rfl (by unfold sCnt; rw [sm_succ, if_pos c_76g]) (by decide) rfl (fun ls hl => ?_)
          refine zr_iinc (b := ((i + 1 : Nat) : Int)) (lv' := [(4, .int (zI ((i + 1 : Nat) : Int))), (3, .int (zI (sCnt (gN g) (sShf g) g (i + 1)))), (5, .int (zI ((sB (gN g) (sShf g) i : Nat) : Int))), (2, .int (zI ((1 + sShf g : Nat) : Int))), (0, .ref (a 0))]) hx hb dX0_playRound_90 hl (k := 2) rfl (by omega) (by decide) rfl (fun ls hl => ?_)
          refine lv_goto (tgt := 30) hx hb dX0_playRound_93 (by decide) ?_
          exact ih_loop (i + 1) (by omega) (sUpd G i (sB (gN g) (sShf g) i)) (by rw [hG]; exact (if_pos c_76g).symm) H locs hP hD hS ls (lv_sub hl [0, 1, 3, 4] rfl)
  exact loop (gN g) 0 (by omega) g rfl s.heap [] hP hD hS ls (lv_sub hl [0, 1, 2, 4] rfl)
set_option maxHeartbeats 4000000 in
set_option maxRecDepth 100000 in
/-- begin -/
theorem c_X0_begin (l : Launch) (dC : Nat → ClassId) (dI : Nat → Nat → Nat) (cI cZ cS : ClassId) (a : Nat → Nat) (g : Nat → Nat → Int) (n : Int) : Met l yX0_begin wsX0_begin ({ frames := 1, cells := 0, slots := 0, locals := 25 } : Room) (wr_Pc dC dI cI cZ cS (stw cI a g) [.ref (a 0), .int (zI n)]) (wr_Qc dC dI (stw cI a g) (stw cI a (sBeg g n)) none) 0 0 (wr_ad (stw cI a g)) := by
  refine wr_met (cc := cX0_begin) (maxL := 3) (ret := none) (by decide) rfl (Nat.le_of_ble_eq_true rfl) ?_
  intro p e s m below meth c ls hx hb hml hr hlocks hts hown hP hD hS hK hl
  have hl : lv_has ls 3 [(0, .ref (a 0)), (1, .int (zI n))] := hl
  have hinX0 : ∀ w ∈ u_ws RX0 TX0 11, w ∈ wsX0_begin := by decide +kernel
  have f_44 := hts (.fieldLink RX0 44 "NetworkCoordinates$State" "nodes" "I") (by decide +kernel)
  have f_47 := hts (.fieldLink RX0 47 "NetworkCoordinates$State" "round" "I") (by decide +kernel)
  have f_37 := hts (.fieldLink RX0 37 "NetworkCoordinates$State" "rtts" "[I") (by decide +kernel)
  have f_34 := hts (.fieldLink RX0 34 "NetworkCoordinates$State" "lies" "[I") (by decide +kernel)
  refine lv_aload_n hx hb dX0_begin_0 rfl (lv_at hl 0 rfl) ?_
  refine lv_iload_n hx hb dX0_begin_1 rfl (lv_at hl 1 rfl) ?_
  refine va_put (D := (dC, dI)) (ci := 0) (v := .int (zI n)) (ty := .int) (C := RX0) (T := TX0) (N := 11) hx hb hts hinX0 tyX0 tyX0_ok nmX0 hown hK.1 hP hD hS 0 rfl rfl 0 (by decide) f_44 (fun _ h9 => h9) rfl (by decide +kernel) rfl rfl (Nat.le_of_ble_eq_true rfl) dX0_begin_2 (fun H locs hP hD hS => ?_)
  refine lv_aload_n hx hb dX0_begin_5 rfl (lv_at hl 0 rfl) ?_
  refine zr_iconst hx hb dX0_begin_6 ?_
  refine va_put (D := (dC, dI)) (ci := 0) (v := .int (zI 0)) (ty := .int) (C := RX0) (T := TX0) (N := 11) hx hb hts hinX0 tyX0 tyX0_ok nmX0 hown hK.1 hP hD hS 0 rfl rfl 1 (by decide) f_47 (fun _ h9 => h9) rfl (by decide +kernel) rfl rfl (Nat.le_of_ble_eq_true rfl) dX0_begin_7 (fun H locs hP hD hS => ?_)
  have hP : va_P (dC, dI) vwCl (stw cI a (sBg g n 0 0)) H := by rw [stw_congr (g1 := sBg g n 0 0) (g2 := fun q => match q with | 0 => zset (zset (g 0) 0 n) 1 0 | q + 1 => g (q + 1)) rfl (zfil_0 _ _) (zfil_0 _ _) (zfil_0 _ _) (zfil_0 _ _) (zfil_0 _ _) (zfil_0 _ _)]; exact hP
  have hD : va_D (wr_ad (stw cI a g)) (stw cI a (sBg g n 0 0)) := va_D_adr hD rfl
  refine zr_iconst hx hb dX0_begin_10 ?_
  refine lv_istore_n (lv' := [(2, .int (zI 0)), (0, .ref (a 0)), (1, .int (zI n))]) hx hb dX0_begin_11 rfl hl (by decide) rfl (fun ls hl => ?_)
  have loop2 : ∀ (k_loop i : Nat), i + k_loop = 100 → ∀ (H : Heap) (locs : List Loc), va_P (dC, dI) vwCl (stw cI a (sBg g n 10 i)) H → va_D (wr_ad (stw cI a g)) (stw cI a (sBg g n 10 i)) → va_S (wr_ad (stw cI a g)) s.heap H locs → ∀ ls : Array Slot, lv_has ls 3 [(2, .int (zI (i : Int))), (0, .ref (a 0)), (1, .int (zI n))] → W p l e ({ frames := 1, cells := 0, slots := 0, locals := 25 } : Room) s m [.ref (a 0), .int (zI n)].toArray below meth c H locs 0 0 (MQ below (wr_Qc dC dI (stw cI a g) (stw cI a (sBeg g n)) none) [.ref (a 0), .int (zI n)].toArray s 0 0 (wr_ad (stw cI a g))) (F0 m 44 ls []) := by
    intro k_loop
    induction k_loop with
    | zero =>
      intro i hi H locs hP hD hS ls hl
      refine lv_iload_n hx hb dX0_begin_44 rfl (lv_at hl 0 rfl) ?_
      refine lv_aload_n hx hb dX0_begin_45 rfl (lv_at hl 1 rfl) ?_
      refine va_get (D := (dC, dI)) (ci := 0) (v := .ref (a 6)) (C := RX0) (T := TX0) (N := 11) hx hb hts hinX0 hown hK.1 hP 0 rfl rfl 10 (by decide) f_37 (fun _ h9 => h9) rfl dX0_begin_46 ?_
      refine va_alen (v := zI 100) hx hb hK.1 hP 6 0 rfl rfl (show Int32.ofNat 100 = zI 100 by decide) dX0_begin_49 ?_
      refine zr_icmp_ge (tgt := 66) hx hb dX0_begin_50 (by decide) (by omega) (by omega) (fun c_50 => ?_) (fun c_50 => absurd c_50 (by omega))
      exact wr_vret hx hb hr hlocks (show va_P (dC, dI) vwCl (stw cI a (sBeg g n)) H by rw [show i = 100 by omega] at hP; exact hP) hS dX0_begin_66
    | succ k_loop ih_loop =>
      intro i hi H locs hP hD hS ls hl
      refine lv_iload_n hx hb dX0_begin_44 rfl (lv_at hl 0 rfl) ?_
      refine lv_aload_n hx hb dX0_begin_45 rfl (lv_at hl 1 rfl) ?_
      refine va_get (D := (dC, dI)) (ci := 0) (v := .ref (a 6)) (C := RX0) (T := TX0) (N := 11) hx hb hts hinX0 hown hK.1 hP 0 rfl rfl 10 (by decide) f_37 (fun _ h9 => h9) rfl dX0_begin_46 ?_
      refine va_alen (v := zI 100) hx hb hK.1 hP 6 0 rfl rfl (show Int32.ofNat 100 = zI 100 by decide) dX0_begin_49 ?_
      refine zr_icmp_ge (tgt := 66) hx hb dX0_begin_50 (by decide) (by omega) (by omega) (fun c_50 => absurd c_50 (by omega)) (fun c_50 => ?_)
      refine lv_aload_n hx hb dX0_begin_53 rfl (lv_at hl 1 rfl) ?_
      refine va_get (D := (dC, dI)) (ci := 0) (v := .ref (a 6)) (C := RX0) (T := TX0) (N := 11) hx hb hts hinX0 hown hK.1 hP 0 rfl rfl 10 (by decide) f_37 (fun _ h9 => h9) rfl dX0_begin_54 ?_
      refine lv_iload_n hx hb dX0_begin_57 rfl (lv_at hl 0 rfl) ?_
      refine zr_iconst hx hb dX0_begin_58 ?_
      refine zr_iast hx hb hK.1 hP hD hS 6 0 rfl rfl i (sBg g n 10 (i + 1) 6) (by omega) (by omega) (Nat.le_of_ble_eq_true rfl) (zfil_step _ _ _) dX0_begin_59 (fun H locs hP hD hS => ?_)
      refine zr_iinc (b := ((i + 1 : Nat) : Int)) (lv' := [(2, .int (zI ((i + 1 : Nat) : Int))), (0, .ref (a 0)), (1, .int (zI n))]) hx hb dX0_begin_60 hl (k := 0) rfl (by omega) (by decide) rfl (fun ls hl => ?_)
      refine lv_goto (tgt := 44) hx hb dX0_begin_63 (by decide) ?_
      exact ih_loop (i + 1) (by omega) H locs hP (va_D_adr hD rfl) hS ls (lv_sub hl [0, 1, 2] rfl)
  have loop1 : ∀ (k_loop i : Nat), i + k_loop = 10 → ∀ (H : Heap) (locs : List Loc), va_P (dC, dI) vwCl (stw cI a (sBg g n i 0)) H → va_D (wr_ad (stw cI a g)) (stw cI a (sBg g n i 0)) → va_S (wr_ad (stw cI a g)) s.heap H locs → ∀ ls : Array Slot, lv_has ls 3 [(2, .int (zI (i : Int))), (0, .ref (a 0)), (1, .int (zI n))] → W p l e ({ frames := 1, cells := 0, slots := 0, locals := 25 } : Room) s m [.ref (a 0), .int (zI n)].toArray below meth c H locs 0 0 (MQ below (wr_Qc dC dI (stw cI a g) (stw cI a (sBeg g n)) none) [.ref (a 0), .int (zI n)].toArray s 0 0 (wr_ad (stw cI a g))) (F0 m 12 ls []) := by
    intro k_loop
    induction k_loop with
    | zero =>
      intro i hi H locs hP hD hS ls hl
      refine lv_iload_n hx hb dX0_begin_12 rfl (lv_at hl 0 rfl) ?_
      refine zr_bipush hx hb dX0_begin_13 (by decide) ?_
      refine zr_icmp_ge (tgt := 42) hx hb dX0_begin_15 (by decide) (by omega) (by omega) (fun c_15 => ?_) (fun c_15 => absurd c_15 (by omega))
      refine zr_iconst hx hb dX0_begin_42 ?_
      refine lv_istore_n (lv' := [(2, .int (zI 0)), (0, .ref (a 0)), (1, .int (zI n))]) hx hb dX0_begin_43 rfl hl (by decide) rfl (fun ls hl => ?_)
      rw [show i = 10 by omega] at hP hD
      exact loop2 100 0 (by omega) H locs hP hD hS ls (lv_sub hl [0, 1, 2] rfl)
    | succ k_loop ih_loop =>
      intro i hi H locs hP hD hS ls hl
      refine lv_iload_n hx hb dX0_begin_12 rfl (lv_at hl 0 rfl) ?_
      refine zr_bipush hx hb dX0_begin_13 (by decide) ?_
      refine zr_icmp_ge (tgt := 42) hx hb dX0_begin_15 (by decide) (by omega) (by omega) (fun c_15 => absurd c_15 (by omega)) (fun c_15 => ?_)
      refine lv_aload_n hx hb dX0_begin_18 rfl (lv_at hl 1 rfl) ?_
      refine lv_iload_n hx hb dX0_begin_19 rfl (lv_at hl 0 rfl) ?_
      refine zr_iconst hx hb dX0_begin_20 ?_
      refine zr_iconst hx hb dX0_begin_21 ?_
      refine zr_iconst hx hb dX0_begin_22 ?_
      refine zr_sipush hx hb dX0_begin_23 (by decide) ?_
      refine wr_callV (As := [.int (zI (i : Int)), .int (zI 0), .int (zI 0), .int (zI 0), .int (zI 1000)]) (rest := []) ⟨hx, hb, hml, hown, hts⟩ (c_X0_settle l dC dI cI cZ cS a (sBg g n i 0) i 0 0 0 1000 (by omega)) (cwV 5 hts gX0_begin_X0_settle rfl rfl rfl (by decide +kernel) ⟨Nat.le_of_ble_eq_true rfl, Nat.le_of_ble_eq_true rfl⟩) hP hD hS hK 0 rfl rfl rfl hl.1 rfl (Nat.le_of_ble_eq_true rfl) dX0_begin_26 ⟨Nat.zero_le _, Nat.zero_le _⟩ (fun H locs hP1 hk1 hS => ?_)
      have hP : va_P (dC, dI) vwCl (stw cI a (sSet (sBg g n i 0) i 0 0 0 1000)) H := hP1
      have hD : va_D (wr_ad (stw cI a g)) (stw cI a (sSet (sBg g n i 0) i 0 0 0 1000)) := va_D_adr hD rfl
      refine lv_aload_n hx hb dX0_begin_29 rfl (lv_at hl 1 rfl) ?_
      refine va_get (D := (dC, dI)) (ci := 0) (v := .ref (a 5)) (C := RX0) (T := TX0) (N := 11) hx hb hts hinX0 hown hK.1 hP 0 rfl rfl 9 (by decide) f_34 (fun _ h9 => h9) rfl dX0_begin_30 ?_
      refine lv_iload_n hx hb dX0_begin_33 rfl (lv_at hl 0 rfl) ?_
      refine zr_iconst hx hb dX0_begin_34 ?_
      refine zr_iast hx hb hK.1 hP hD hS 5 0 rfl rfl i (zset ((sSet (sBg g n i 0) i 0 0 0 1000) 5) i 0) (by omega) (by omega) (Nat.le_of_ble_eq_true rfl) rfl dX0_begin_35 (fun H locs hP hD hS => ?_)
      refine zr_iinc (b := ((i + 1 : Nat) : Int)) (lv' := [(2, .int (zI ((i + 1 : Nat) : Int))), (0, .ref (a 0)), (1, .int (zI n))]) hx hb dX0_begin_36 hl (k := 0) rfl (by omega) (by decide) rfl (fun ls hl => ?_)
      refine lv_goto (tgt := 12) hx hb dX0_begin_39 (by decide) ?_
      have hP : va_P (dC, dI) vwCl (stw cI a (sBg g n (i + 1) 0)) H := by rw [stw_congr (g1 := sBg g n (i + 1) 0) (g2 := gset (sSet (sBg g n i 0) i 0 0 0 1000) 5 i 0) rfl (zfil_step _ _ _).symm (zfil_step _ _ _).symm (zfil_step _ _ _).symm (zfil_step _ _ _).symm (zfil_step _ _ _).symm rfl]; exact hP
      exact ih_loop (i + 1) (by omega) H locs hP (va_D_adr hD rfl) hS ls (lv_sub hl [0, 1, 2] rfl)
  exact loop1 10 0 (by omega) H locs hP hD hS ls (lv_sub hl [0, 1, 2] rfl)
set_option maxHeartbeats 4000000 in
set_option maxRecDepth 100000 in
/-- copyFrom -/
theorem c_X0_copyFrom (l : Launch) (dC : Nat → ClassId) (dI : Nat → Nat → Nat) (cI cZ cS : ClassId) (a b : Nat → Nat) (g g2 : Nat → Nat → Int) : Met l yX0_copyFrom wsX0_copyFrom ({ frames := 1, cells := 0, slots := 0, locals := 60 } : Room) (wr_Pc dC dI cI cZ cS (stw cI a g ++ stw cI b g2) [.ref (a 0), .ref (b 0)]) (wr_Qc dC dI (stw cI a g ++ stw cI b g2) (stw cI a (sCpy g g2) ++ stw cI b g2) none) 0 0 (wr_ad (stw cI a g ++ stw cI b g2)) := by
  refine wr_met (cc := cX0_copyFrom) (maxL := 2) (ret := none) (by decide) rfl (Nat.le_of_ble_eq_true rfl) ?_
  intro p e s m below meth c ls hx hb hml hr hlocks hts hown hP hD hS hK hl
  have hl : lv_has ls 2 [(0, .ref (a 0)), (1, .ref (b 0))] := hl
  have hinX0 : ∀ w ∈ u_ws RX0 TX0 11, w ∈ wsX0_copyFrom := by decide +kernel
  have f_44 := hts (.fieldLink RX0 44 "NetworkCoordinates$State" "nodes" "I") (by decide +kernel)
  have f_47 := hts (.fieldLink RX0 47 "NetworkCoordinates$State" "round" "I") (by decide +kernel)
  have f_9 := hts (.fieldLink RX0 9 "NetworkCoordinates$State" "errorGain" "I") (by decide +kernel)
  have f_15 := hts (.fieldLink RX0 15 "NetworkCoordinates$State" "moveGain" "I") (by decide +kernel)
  have f_18 := hts (.fieldLink RX0 18 "NetworkCoordinates$State" "maxStep" "I") (by decide +kernel)
  have f_21 := hts (.fieldLink RX0 21 "NetworkCoordinates$State" "xs" "[I") (by decide +kernel)
  have f_25 := hts (.fieldLink RX0 25 "NetworkCoordinates$State" "ys" "[I") (by decide +kernel)
  have f_28 := hts (.fieldLink RX0 28 "NetworkCoordinates$State" "heights" "[I") (by decide +kernel)
  have f_31 := hts (.fieldLink RX0 31 "NetworkCoordinates$State" "errors" "[I") (by decide +kernel)
  have f_34 := hts (.fieldLink RX0 34 "NetworkCoordinates$State" "lies" "[I") (by decide +kernel)
  have f_37 := hts (.fieldLink RX0 37 "NetworkCoordinates$State" "rtts" "[I") (by decide +kernel)
  refine lv_aload_n hx hb dX0_copyFrom_0 rfl (lv_at hl 0 rfl) ?_
  refine lv_aload_n hx hb dX0_copyFrom_1 rfl (lv_at hl 1 rfl) ?_
  refine va_get (D := (dC, dI)) (ci := 0) (v := .int (zI (g2 0 0))) (C := RX0) (T := TX0) (N := 11) hx hb hts hinX0 hown hK.1 hP 7 rfl rfl 0 (by decide) f_44 (fun _ h9 => h9) rfl dX0_copyFrom_2 ?_
  refine va_put (D := (dC, dI)) (ci := 0) (v := .int (zI (g2 0 0))) (ty := .int) (C := RX0) (T := TX0) (N := 11) hx hb hts hinX0 tyX0 tyX0_ok nmX0 hown hK.1 hP hD hS 0 rfl rfl 0 (by decide) f_44 (fun _ h9 => h9) rfl (by decide +kernel) rfl rfl (Nat.le_of_ble_eq_true rfl) dX0_copyFrom_5 (fun H locs hP hD hS => ?_)
  refine lv_aload_n hx hb dX0_copyFrom_8 rfl (lv_at hl 0 rfl) ?_
  refine lv_aload_n hx hb dX0_copyFrom_9 rfl (lv_at hl 1 rfl) ?_
  refine va_get (D := (dC, dI)) (ci := 0) (v := .int (zI (g2 0 1))) (C := RX0) (T := TX0) (N := 11) hx hb hts hinX0 hown hK.1 hP 7 rfl rfl 1 (by decide) f_47 (fun _ h9 => h9) rfl dX0_copyFrom_10 ?_
  refine va_put (D := (dC, dI)) (ci := 0) (v := .int (zI (g2 0 1))) (ty := .int) (C := RX0) (T := TX0) (N := 11) hx hb hts hinX0 tyX0 tyX0_ok nmX0 hown hK.1 hP hD hS 0 rfl rfl 1 (by decide) f_47 (fun _ h9 => h9) rfl (by decide +kernel) rfl rfl (Nat.le_of_ble_eq_true rfl) dX0_copyFrom_13 (fun H locs hP hD hS => ?_)
  refine lv_aload_n hx hb dX0_copyFrom_16 rfl (lv_at hl 0 rfl) ?_
  refine lv_aload_n hx hb dX0_copyFrom_17 rfl (lv_at hl 1 rfl) ?_
  refine va_get (D := (dC, dI)) (ci := 0) (v := .int (zI (g2 0 2))) (C := RX0) (T := TX0) (N := 11) hx hb hts hinX0 hown hK.1 hP 7 rfl rfl 2 (by decide) f_9 (fun _ h9 => h9) rfl dX0_copyFrom_18 ?_
  refine va_put (D := (dC, dI)) (ci := 0) (v := .int (zI (g2 0 2))) (ty := .int) (C := RX0) (T := TX0) (N := 11) hx hb hts hinX0 tyX0 tyX0_ok nmX0 hown hK.1 hP hD hS 0 rfl rfl 2 (by decide) f_9 (fun _ h9 => h9) rfl (by decide +kernel) rfl rfl (Nat.le_of_ble_eq_true rfl) dX0_copyFrom_21 (fun H locs hP hD hS => ?_)
  refine lv_aload_n hx hb dX0_copyFrom_24 rfl (lv_at hl 0 rfl) ?_
  refine lv_aload_n hx hb dX0_copyFrom_25 rfl (lv_at hl 1 rfl) ?_
  refine va_get (D := (dC, dI)) (ci := 0) (v := .int (zI (g2 0 3))) (C := RX0) (T := TX0) (N := 11) hx hb hts hinX0 hown hK.1 hP 7 rfl rfl 3 (by decide) f_15 (fun _ h9 => h9) rfl dX0_copyFrom_26 ?_
  refine va_put (D := (dC, dI)) (ci := 0) (v := .int (zI (g2 0 3))) (ty := .int) (C := RX0) (T := TX0) (N := 11) hx hb hts hinX0 tyX0 tyX0_ok nmX0 hown hK.1 hP hD hS 0 rfl rfl 3 (by decide) f_15 (fun _ h9 => h9) rfl (by decide +kernel) rfl rfl (Nat.le_of_ble_eq_true rfl) dX0_copyFrom_29 (fun H locs hP hD hS => ?_)
  refine lv_aload_n hx hb dX0_copyFrom_32 rfl (lv_at hl 0 rfl) ?_
  refine lv_aload_n hx hb dX0_copyFrom_33 rfl (lv_at hl 1 rfl) ?_
  refine va_get (D := (dC, dI)) (ci := 0) (v := .int (zI (g2 0 4))) (C := RX0) (T := TX0) (N := 11) hx hb hts hinX0 hown hK.1 hP 7 rfl rfl 4 (by decide) f_18 (fun _ h9 => h9) rfl dX0_copyFrom_34 ?_
  refine va_put (D := (dC, dI)) (ci := 0) (v := .int (zI (g2 0 4))) (ty := .int) (C := RX0) (T := TX0) (N := 11) hx hb hts hinX0 tyX0 tyX0_ok nmX0 hown hK.1 hP hD hS 0 rfl rfl 4 (by decide) f_18 (fun _ h9 => h9) rfl (by decide +kernel) rfl rfl (Nat.le_of_ble_eq_true rfl) dX0_copyFrom_37 (fun H locs hP hD hS => ?_)
  refine lv_aload_n hx hb dX0_copyFrom_40 rfl (lv_at hl 1 rfl) ?_
  refine va_get (D := (dC, dI)) (ci := 0) (v := .ref (b 1)) (C := RX0) (T := TX0) (N := 11) hx hb hts hinX0 hown hK.1 hP 7 rfl rfl 5 (by decide) f_21 (fun _ h9 => h9) rfl dX0_copyFrom_41 ?_
  refine zr_iconst hx hb dX0_copyFrom_44 ?_
  refine lv_aload_n hx hb dX0_copyFrom_45 rfl (lv_at hl 0 rfl) ?_
  refine va_get (D := (dC, dI)) (ci := 0) (v := .ref (a 1)) (C := RX0) (T := TX0) (N := 11) hx hb hts hinX0 hown hK.1 hP 0 rfl rfl 5 (by decide) f_21 (fun _ h9 => h9) rfl dX0_copyFrom_46 ?_
  refine zr_iconst hx hb dX0_copyFrom_49 ?_
  refine zr_bipush hx hb dX0_copyFrom_50 (by decide) ?_
  refine zr_copy hx hb (hml.trans hl.1.symm) hown (hts (.methodLink RX0 54 arraycopyName) (by decide +kernel)) (hts (.native arraycopyName) (by decide +kernel)) (hts (.static arraycopyName) (by decide +kernel)) (hts (.initialized "java/lang/System") (by decide +kernel)) hK.1 hP hD hS 8 1 rfl rfl rfl 10 rfl rfl rfl (by decide) (Nat.le_of_ble_eq_true rfl) (Nat.le_of_ble_eq_true rfl) (Nat.le_of_ble_eq_true rfl) dX0_copyFrom_52 (fun H locs hP hD hS => ?_)
  refine lv_aload_n hx hb dX0_copyFrom_55 rfl (lv_at hl 1 rfl) ?_
  refine va_get (D := (dC, dI)) (ci := 0) (v := .ref (b 2)) (C := RX0) (T := TX0) (N := 11) hx hb hts hinX0 hown hK.1 hP 7 rfl rfl 6 (by decide) f_25 (fun _ h9 => h9) rfl dX0_copyFrom_56 ?_
  refine zr_iconst hx hb dX0_copyFrom_59 ?_
  refine lv_aload_n hx hb dX0_copyFrom_60 rfl (lv_at hl 0 rfl) ?_
  refine va_get (D := (dC, dI)) (ci := 0) (v := .ref (a 2)) (C := RX0) (T := TX0) (N := 11) hx hb hts hinX0 hown hK.1 hP 0 rfl rfl 6 (by decide) f_25 (fun _ h9 => h9) rfl dX0_copyFrom_61 ?_
  refine zr_iconst hx hb dX0_copyFrom_64 ?_
  refine zr_bipush hx hb dX0_copyFrom_65 (by decide) ?_
  refine zr_copy hx hb (hml.trans hl.1.symm) hown (hts (.methodLink RX0 54 arraycopyName) (by decide +kernel)) (hts (.native arraycopyName) (by decide +kernel)) (hts (.static arraycopyName) (by decide +kernel)) (hts (.initialized "java/lang/System") (by decide +kernel)) hK.1 hP hD hS 9 2 rfl rfl rfl 10 rfl rfl rfl (by decide) (Nat.le_of_ble_eq_true rfl) (Nat.le_of_ble_eq_true rfl) (Nat.le_of_ble_eq_true rfl) dX0_copyFrom_67 (fun H locs hP hD hS => ?_)
  refine lv_aload_n hx hb dX0_copyFrom_70 rfl (lv_at hl 1 rfl) ?_
  refine va_get (D := (dC, dI)) (ci := 0) (v := .ref (b 3)) (C := RX0) (T := TX0) (N := 11) hx hb hts hinX0 hown hK.1 hP 7 rfl rfl 7 (by decide) f_28 (fun _ h9 => h9) rfl dX0_copyFrom_71 ?_
  refine zr_iconst hx hb dX0_copyFrom_74 ?_
  refine lv_aload_n hx hb dX0_copyFrom_75 rfl (lv_at hl 0 rfl) ?_
  refine va_get (D := (dC, dI)) (ci := 0) (v := .ref (a 3)) (C := RX0) (T := TX0) (N := 11) hx hb hts hinX0 hown hK.1 hP 0 rfl rfl 7 (by decide) f_28 (fun _ h9 => h9) rfl dX0_copyFrom_76 ?_
  refine zr_iconst hx hb dX0_copyFrom_79 ?_
  refine zr_bipush hx hb dX0_copyFrom_80 (by decide) ?_
  refine zr_copy hx hb (hml.trans hl.1.symm) hown (hts (.methodLink RX0 54 arraycopyName) (by decide +kernel)) (hts (.native arraycopyName) (by decide +kernel)) (hts (.static arraycopyName) (by decide +kernel)) (hts (.initialized "java/lang/System") (by decide +kernel)) hK.1 hP hD hS 10 3 rfl rfl rfl 10 rfl rfl rfl (by decide) (Nat.le_of_ble_eq_true rfl) (Nat.le_of_ble_eq_true rfl) (Nat.le_of_ble_eq_true rfl) dX0_copyFrom_82 (fun H locs hP hD hS => ?_)
  refine lv_aload_n hx hb dX0_copyFrom_85 rfl (lv_at hl 1 rfl) ?_
  refine va_get (D := (dC, dI)) (ci := 0) (v := .ref (b 4)) (C := RX0) (T := TX0) (N := 11) hx hb hts hinX0 hown hK.1 hP 7 rfl rfl 8 (by decide) f_31 (fun _ h9 => h9) rfl dX0_copyFrom_86 ?_
  refine zr_iconst hx hb dX0_copyFrom_89 ?_
  refine lv_aload_n hx hb dX0_copyFrom_90 rfl (lv_at hl 0 rfl) ?_
  refine va_get (D := (dC, dI)) (ci := 0) (v := .ref (a 4)) (C := RX0) (T := TX0) (N := 11) hx hb hts hinX0 hown hK.1 hP 0 rfl rfl 8 (by decide) f_31 (fun _ h9 => h9) rfl dX0_copyFrom_91 ?_
  refine zr_iconst hx hb dX0_copyFrom_94 ?_
  refine zr_bipush hx hb dX0_copyFrom_95 (by decide) ?_
  refine zr_copy hx hb (hml.trans hl.1.symm) hown (hts (.methodLink RX0 54 arraycopyName) (by decide +kernel)) (hts (.native arraycopyName) (by decide +kernel)) (hts (.static arraycopyName) (by decide +kernel)) (hts (.initialized "java/lang/System") (by decide +kernel)) hK.1 hP hD hS 11 4 rfl rfl rfl 10 rfl rfl rfl (by decide) (Nat.le_of_ble_eq_true rfl) (Nat.le_of_ble_eq_true rfl) (Nat.le_of_ble_eq_true rfl) dX0_copyFrom_97 (fun H locs hP hD hS => ?_)
  refine lv_aload_n hx hb dX0_copyFrom_100 rfl (lv_at hl 1 rfl) ?_
  refine va_get (D := (dC, dI)) (ci := 0) (v := .ref (b 5)) (C := RX0) (T := TX0) (N := 11) hx hb hts hinX0 hown hK.1 hP 7 rfl rfl 9 (by decide) f_34 (fun _ h9 => h9) rfl dX0_copyFrom_101 ?_
  refine zr_iconst hx hb dX0_copyFrom_104 ?_
  refine lv_aload_n hx hb dX0_copyFrom_105 rfl (lv_at hl 0 rfl) ?_
  refine va_get (D := (dC, dI)) (ci := 0) (v := .ref (a 5)) (C := RX0) (T := TX0) (N := 11) hx hb hts hinX0 hown hK.1 hP 0 rfl rfl 9 (by decide) f_34 (fun _ h9 => h9) rfl dX0_copyFrom_106 ?_
  refine zr_iconst hx hb dX0_copyFrom_109 ?_
  refine zr_bipush hx hb dX0_copyFrom_110 (by decide) ?_
  refine zr_copy hx hb (hml.trans hl.1.symm) hown (hts (.methodLink RX0 54 arraycopyName) (by decide +kernel)) (hts (.native arraycopyName) (by decide +kernel)) (hts (.static arraycopyName) (by decide +kernel)) (hts (.initialized "java/lang/System") (by decide +kernel)) hK.1 hP hD hS 12 5 rfl rfl rfl 10 rfl rfl rfl (by decide) (Nat.le_of_ble_eq_true rfl) (Nat.le_of_ble_eq_true rfl) (Nat.le_of_ble_eq_true rfl) dX0_copyFrom_112 (fun H locs hP hD hS => ?_)
  refine lv_aload_n hx hb dX0_copyFrom_115 rfl (lv_at hl 1 rfl) ?_
  refine va_get (D := (dC, dI)) (ci := 0) (v := .ref (b 6)) (C := RX0) (T := TX0) (N := 11) hx hb hts hinX0 hown hK.1 hP 7 rfl rfl 10 (by decide) f_37 (fun _ h9 => h9) rfl dX0_copyFrom_116 ?_
  refine zr_iconst hx hb dX0_copyFrom_119 ?_
  refine lv_aload_n hx hb dX0_copyFrom_120 rfl (lv_at hl 0 rfl) ?_
  refine va_get (D := (dC, dI)) (ci := 0) (v := .ref (a 6)) (C := RX0) (T := TX0) (N := 11) hx hb hts hinX0 hown hK.1 hP 0 rfl rfl 10 (by decide) f_37 (fun _ h9 => h9) rfl dX0_copyFrom_121 ?_
  refine zr_iconst hx hb dX0_copyFrom_124 ?_
  refine zr_bipush hx hb dX0_copyFrom_125 (by decide) ?_
  refine zr_copy hx hb (hml.trans hl.1.symm) hown (hts (.methodLink RX0 54 arraycopyName) (by decide +kernel)) (hts (.native arraycopyName) (by decide +kernel)) (hts (.static arraycopyName) (by decide +kernel)) (hts (.initialized "java/lang/System") (by decide +kernel)) hK.1 hP hD hS 13 6 rfl rfl rfl 100 rfl rfl rfl (by decide) (Nat.le_of_ble_eq_true rfl) (Nat.le_of_ble_eq_true rfl) (Nat.le_of_ble_eq_true rfl) dX0_copyFrom_127 (fun H locs hP hD hS => ?_)
  exact wr_vret hx hb hr hlocks (show va_P (dC, dI) vwCl (stw cI a (sCpy g g2) ++ stw cI b g2) H from hP) hS dX0_copyFrom_130
end
section
/-! OWN ROWS: the reference's one row of numbers; what the calls answer -/
abbrev mdf (cI cZ : ClassId) (b : Nat → Nat) (f : Nat → Int) (w : Nat → Int) (S B o : Nat → Int) : va_W := [(b 0, .inr (2, [.ref (b 1), .ref (b 2), .ref (b 3), .int (zI (w 0)), .int (zI (w 1)), .int (zI (w 2)), .int (zI (w 3)), .int (zI (w 4)), .int (zI (w 5)), .int (zI (w 6)), .ref (b 4)])), (b 1, .inl (cI, 155, .inl (fun k => zI (f k)))), (b 2, .inl (cI, 310, .inl (fun k => zI (S k)))), (b 3, .inl (cZ, 2, .inl (fun k => zI (B k)))), (b 4, .inl (cI, 10, .inl (fun k => zI (o k))))]
theorem flat_0 {g : Nat → Nat → Int} {k : Nat} (h : k < 5) : flat g k = g 0 k := by unfold flat; rw [if_pos h]
theorem flat_1 {g : Nat → Nat → Int} {k : Nat} (h : k < 10) : flat g (5 + k) = g 1 k := by
  unfold flat; rw [if_neg (by omega), if_pos (by omega), show 5 + k - 5 = k by omega]
theorem flat_2 {g : Nat → Nat → Int} {k : Nat} (h : k < 10) : flat g (15 + k) = g 2 k := by
  unfold flat; rw [if_neg (by omega), if_neg (by omega), if_pos (by omega), show 15 + k - 15 = k by omega]
theorem flat_3 {g : Nat → Nat → Int} {k : Nat} (h : k < 10) : flat g (25 + k) = g 3 k := by
  unfold flat; rw [if_neg (by omega), if_neg (by omega), if_neg (by omega), if_pos (by omega), show 25 + k - 25 = k by omega]
theorem flat_4 {g : Nat → Nat → Int} {k : Nat} (h : k < 10) : flat g (35 + k) = g 4 k := by
  unfold flat; rw [if_neg (by omega), if_neg (by omega), if_neg (by omega), if_neg (by omega), if_pos (by omega), show 35 + k - 35 = k by omega]
theorem flat_5 {g : Nat → Nat → Int} {k : Nat} (h : k < 10) : flat g (45 + k) = g 5 k := by
  unfold flat; rw [if_neg (by omega), if_neg (by omega), if_neg (by omega), if_neg (by omega), if_neg (by omega), if_pos (by omega), show 45 + k - 45 = k by omega]
theorem flat_6 {g : Nat → Nat → Int} {k : Nat} : flat g (55 + k) = g 6 k := by
  unfold flat; rw [if_neg (by omega), if_neg (by omega), if_neg (by omega), if_neg (by omega), if_neg (by omega), if_neg (by omega), show 55 + k - 55 = k by omega]
/-- two rows of numbers that agree at every place of every part -/
theorem flat_ext {f1 : Nat → Int} {g : Nat → Nat → Int} (h0 : ∀ k, k < 5 → f1 k = g 0 k) (h1 : ∀ k, k < 10 → f1 (5 + k) = g 1 k) (h2 : ∀ k, k < 10 → f1 (15 + k) = g 2 k) (h3 : ∀ k, k < 10 → f1 (25 + k) = g 3 k) (h4 : ∀ k, k < 10 → f1 (35 + k) = g 4 k) (h5 : ∀ k, k < 10 → f1 (45 + k) = g 5 k) (h6 : ∀ k, f1 (55 + k) = g 6 k) : f1 = flat g := by
  funext k
  rcases Nat.lt_or_ge k 5 with q | q
  · rw [flat_0 q]; exact h0 k q
  rcases Nat.lt_or_ge k 15 with q1 | q1
  · obtain ⟨j, rfl⟩ : ∃ j, k = 5 + j := ⟨k - 5, by omega⟩
    rw [flat_1 (by omega)]; exact h1 j (by omega)
  rcases Nat.lt_or_ge k 25 with q2 | q2
  · obtain ⟨j, rfl⟩ : ∃ j, k = 15 + j := ⟨k - 15, by omega⟩
    rw [flat_2 (by omega)]; exact h2 j (by omega)
  rcases Nat.lt_or_ge k 35 with q3 | q3
  · obtain ⟨j, rfl⟩ : ∃ j, k = 25 + j := ⟨k - 25, by omega⟩
    rw [flat_3 (by omega)]; exact h3 j (by omega)
  rcases Nat.lt_or_ge k 45 with q4 | q4
  · obtain ⟨j, rfl⟩ : ∃ j, k = 35 + j := ⟨k - 35, by omega⟩
    rw [flat_4 (by omega)]; exact h4 j (by omega)
  rcases Nat.lt_or_ge k 55 with q5 | q5
  · obtain ⟨j, rfl⟩ : ∃ j, k = 45 + j := ⟨k - 45, by omega⟩
    rw [flat_5 (by omega)]; exact h5 j (by omega)
  · obtain ⟨j, rfl⟩ : ∃ j, k = 55 + j := ⟨k - 55, by omega⟩
    rw [flat_6]; exact h6 j
theorem zset_sh (f f1 : Nat → Int) (c A k : Nat) (z : Int) (h : f (c + k) = f1 k) : zset f (c + A) z (c + k) = zset f1 A z k := by
  unfold zset
  by_cases q : k = A
  · rw [if_pos (by omega), if_pos q]
  · rw [if_neg (by omega), if_neg q, h]
theorem flat_s0 {g : Nat → Nat → Int} {A : Nat} {z : Int} (h : A < 5) : zset (flat g) A z = flat (gset g 0 A z) :=
  flat_ext (fun k hk => by show zset (flat g) A z k = zset (g 0) A z k; unfold zset; rw [flat_0 hk]) (fun k hk => by rw [zset_ne (by omega)]; exact flat_1 hk) (fun k hk => by rw [zset_ne (by omega)]; exact flat_2 hk) (fun k hk => by rw [zset_ne (by omega)]; exact flat_3 hk) (fun k hk => by rw [zset_ne (by omega)]; exact flat_4 hk) (fun k hk => by rw [zset_ne (by omega)]; exact flat_5 hk) (fun k => by rw [zset_ne (by omega)]; exact flat_6)
theorem flat_s1 {g : Nat → Nat → Int} {A : Nat} {z : Int} (h : A < 10) : zset (flat g) (5 + A) z = flat (gset g 1 A z) :=
  flat_ext (fun k hk => by rw [zset_ne (by omega)]; exact flat_0 hk) (fun k hk => zset_sh _ _ 5 A k z (flat_1 hk)) (fun k hk => by rw [zset_ne (by omega)]; exact flat_2 hk) (fun k hk => by rw [zset_ne (by omega)]; exact flat_3 hk) (fun k hk => by rw [zset_ne (by omega)]; exact flat_4 hk) (fun k hk => by rw [zset_ne (by omega)]; exact flat_5 hk) (fun k => by rw [zset_ne (by omega)]; exact flat_6)
theorem flat_s2 {g : Nat → Nat → Int} {A : Nat} {z : Int} (h : A < 10) : zset (flat g) (15 + A) z = flat (gset g 2 A z) :=
  flat_ext (fun k hk => by rw [zset_ne (by omega)]; exact flat_0 hk) (fun k hk => by rw [zset_ne (by omega)]; exact flat_1 hk) (fun k hk => zset_sh _ _ 15 A k z (flat_2 hk)) (fun k hk => by rw [zset_ne (by omega)]; exact flat_3 hk) (fun k hk => by rw [zset_ne (by omega)]; exact flat_4 hk) (fun k hk => by rw [zset_ne (by omega)]; exact flat_5 hk) (fun k => by rw [zset_ne (by omega)]; exact flat_6)
theorem flat_s3 {g : Nat → Nat → Int} {A : Nat} {z : Int} (h : A < 10) : zset (flat g) (25 + A) z = flat (gset g 3 A z) :=
  flat_ext (fun k hk => by rw [zset_ne (by omega)]; exact flat_0 hk) (fun k hk => by rw [zset_ne (by omega)]; exact flat_1 hk) (fun k hk => by rw [zset_ne (by omega)]; exact flat_2 hk) (fun k hk => zset_sh _ _ 25 A k z (flat_3 hk)) (fun k hk => by rw [zset_ne (by omega)]; exact flat_4 hk) (fun k hk => by rw [zset_ne (by omega)]; exact flat_5 hk) (fun k => by rw [zset_ne (by omega)]; exact flat_6)
theorem flat_s4 {g : Nat → Nat → Int} {A : Nat} {z : Int} (h : A < 10) : zset (flat g) (35 + A) z = flat (gset g 4 A z) :=
  flat_ext (fun k hk => by rw [zset_ne (by omega)]; exact flat_0 hk) (fun k hk => by rw [zset_ne (by omega)]; exact flat_1 hk) (fun k hk => by rw [zset_ne (by omega)]; exact flat_2 hk) (fun k hk => by rw [zset_ne (by omega)]; exact flat_3 hk) (fun k hk => zset_sh _ _ 35 A k z (flat_4 hk)) (fun k hk => by rw [zset_ne (by omega)]; exact flat_5 hk) (fun k => by rw [zset_ne (by omega)]; exact flat_6)
theorem flat_s5 {g : Nat → Nat → Int} {A : Nat} {z : Int} (h : A < 10) : zset (flat g) (45 + A) z = flat (gset g 5 A z) :=
  flat_ext (fun k hk => by rw [zset_ne (by omega)]; exact flat_0 hk) (fun k hk => by rw [zset_ne (by omega)]; exact flat_1 hk) (fun k hk => by rw [zset_ne (by omega)]; exact flat_2 hk) (fun k hk => by rw [zset_ne (by omega)]; exact flat_3 hk) (fun k hk => by rw [zset_ne (by omega)]; exact flat_4 hk) (fun k hk => zset_sh _ _ 45 A k z (flat_5 hk)) (fun k => by rw [zset_ne (by omega)]; exact flat_6)
theorem flat_s6 {g : Nat → Nat → Int} {A : Nat} {z : Int} : zset (flat g) (55 + A) z = flat (gset g 6 A z) :=
  flat_ext (fun k hk => by rw [zset_ne (by omega)]; exact flat_0 hk) (fun k hk => by rw [zset_ne (by omega)]; exact flat_1 hk) (fun k hk => by rw [zset_ne (by omega)]; exact flat_2 hk) (fun k hk => by rw [zset_ne (by omega)]; exact flat_3 hk) (fun k hk => by rw [zset_ne (by omega)]; exact flat_4 hk) (fun k hk => by rw [zset_ne (by omega)]; exact flat_5 hk) (fun k => zset_sh _ _ 55 A k z flat_6)
def bgf (f : Nat → Int) (n : Int) (k : Nat) : Nat → Int := fun j => if j = 0 then n else if j = 1 then 0 else if 5 ≤ j ∧ j < k then (if 35 ≤ j ∧ j < 45 then 1000 else 0) else f j
theorem bgf_0 (f : Nat → Int) (n : Int) : zset (zset f 0 n) 1 0 = bgf f n 5 := by
  funext j
  unfold zset bgf
  by_cases h1 : j = 1
  · subst h1; rfl
  · by_cases h0 : j = 0
    · subst h0; rfl
    · rw [if_neg h1, if_neg h0, if_neg h0, if_neg h1, if_neg (by omega)]
theorem bgf_s (f : Nat → Int) (n : Int) {k : Nat} (hk : 5 ≤ k) {z : Int} (hz : z = if 35 ≤ k ∧ k < 45 then 1000 else 0) : zset (bgf f n k) k z = bgf f n (k + 1) := by
  funext j
  unfold zset bgf
  by_cases h : j = k
  · rw [if_pos h, if_neg (by omega), if_neg (by omega), if_pos (by omega), hz, h]
  · rw [if_neg h]
    by_cases h0 : j = 0
    · rw [if_pos h0, if_pos h0]
    rw [if_neg h0, if_neg h0]
    by_cases h1 : j = 1
    · rw [if_pos h1, if_pos h1]
    rw [if_neg h1, if_neg h1]
    by_cases h2 : 5 ≤ j ∧ j < k
    · rw [if_pos h2, if_pos (c := 5 ≤ j ∧ j < k + 1) (by omega)]
    · rw [if_neg h2, if_neg (c := 5 ≤ j ∧ j < k + 1) (by omega)]
theorem bgf_end (g : Nat → Nat → Int) (n : Int) : bgf (flat g) n 155 = flat (sBeg g n) := by
  refine flat_ext (fun k hk => ?_) (fun k hk => ?_) (fun k hk => ?_) (fun k hk => ?_) (fun k hk => ?_) (fun k hk => ?_) (fun k => ?_)
  · show _ = zset (zset (g 0) 0 n) 1 0 k
    unfold bgf zset
    by_cases h1 : k = 1
    · subst h1; rfl
    · by_cases h0 : k = 0
      · subst h0; rfl
      · rw [if_neg h0, if_neg h1, if_neg (by omega), if_neg h1, if_neg h0, flat_0 hk]
  · show _ = zfil (g 1) 10 0 k
    unfold bgf zfil
    rw [if_neg (by omega), if_neg (by omega), if_pos (by omega), if_neg (by omega), if_pos hk]
  · show _ = zfil (g 2) 10 0 k
    unfold bgf zfil
    rw [if_neg (by omega), if_neg (by omega), if_pos (by omega), if_neg (by omega), if_pos hk]
  · show _ = zfil (g 3) 10 0 k
    unfold bgf zfil
    rw [if_neg (by omega), if_neg (by omega), if_pos (by omega), if_neg (by omega), if_pos hk]
  · show _ = zfil (g 4) 10 1000 k
    unfold bgf zfil
    rw [if_neg (by omega), if_neg (by omega), if_pos (by omega), if_pos (by omega), if_pos hk]
  · show _ = zfil (g 5) 10 0 k
    unfold bgf zfil
    rw [if_neg (by omega), if_neg (by omega), if_pos (by omega), if_neg (by omega), if_pos hk]
  · show _ = zfil (g 6) 100 0 k
    unfold bgf zfil
    rw [if_neg (by omega), if_neg (by omega)]
    by_cases h : k < 100
    · rw [if_pos (by omega), if_neg (by omega), if_pos h]
    · rw [if_neg (by omega), if_neg h, flat_6]
/-! what refuses a pair -/
def sPf (g : Nat → Nat → Int) (p q : Int) : Int := if (0 ≤ p ∧ p ≤ g 0 0 - 1) ∧ (0 ≤ q ∧ q ≤ g 0 0 - 1) then (if p = q then -1000003 else 0) else -1000001
theorem sPf_rng (g : Nat → Nat → Int) (p q : Int) : -1000003 ≤ sPf g p q ∧ sPf g p q ≤ 0 := by
  unfold sPf
  split
  · split <;> omega
  · omega
theorem sPf_0 {g : Nat → Nat → Int} {p q : Int} (h : sPf g p q = 0) : (0 ≤ p ∧ p ≤ g 0 0 - 1) ∧ (0 ≤ q ∧ q ≤ g 0 0 - 1) ∧ p ≠ q := by
  unfold sPf at h
  split at h
  · rename_i c
    split at h
    · omega
    · rename_i d
      exact ⟨c.1, c.2, d⟩
  · omega
def sKf (g : Nat → Nat → Int) (p q : Int) : Int := if sPf g p q = 0 then (if 1 ≤ g 6 (10 * p.toNat + q.toNat) then 0 else -1000004) else sPf g p q
theorem sKf_rng (g : Nat → Nat → Int) (p q : Int) : -1000004 ≤ sKf g p q ∧ sKf g p q ≤ 0 := by
  have := sPf_rng g p q
  unfold sKf
  split
  · split <;> omega
  · omega
theorem sKf_0 {g : Nat → Nat → Int} {p q : Int} (h : sKf g p q = 0) : sPf g p q = 0 ∧ 1 ≤ g 6 (10 * p.toNat + q.toNat) := by
  unfold sKf at h
  split at h
  · rename_i c
    split at h
    · rename_i d
      exact ⟨c, d⟩
    · omega
  · rename_i c
    exact absurd h c
/-- two nodes that pass: as naturals -/
theorem z_nodes {g : Nat → Nat → Int} {r p q : Int} (hg : gB g r) (h : sPf g p q = 0) : ∃ A B : Nat, p = (A : Int) ∧ q = (B : Int) ∧ A < gN g ∧ B < gN g ∧ A < 10 ∧ B < 10 ∧ A ≠ B ∧ p.toNat = A ∧ q.toNat = B := by
  have h1 := sPf_0 h
  have h2 := gN_eq hg
  exact ⟨p.toNat, q.toNat, by omega, by omega, by omega, by omega, by omega, by omega, by omega, rfl, rfl⟩
/-! what the calls answer, and what they make of the state -/
def aReset (g : Nat → Nat → Int) (n : Int) : Int := if 2 ≤ n ∧ n ≤ 10 then g 0 0 else -1000002
def nReset (g : Nat → Nat → Int) (n : Int) : Nat → Nat → Int := if 2 ≤ n ∧ n ≤ 10 then sBeg g n else g
def aSetRtt (g : Nat → Nat → Int) (p q z : Int) : Int := if sPf g p q = 0 then (if 0 ≤ z ∧ z ≤ 20000 then g 6 (10 * p.toNat + q.toNat) else -1000002) else sPf g p q
def nSetRtt (g : Nat → Nat → Int) (p q z : Int) : Nat → Nat → Int := if sPf g p q = 0 ∧ 0 ≤ z ∧ z ≤ 20000 then gset (gset g 6 (10 * p.toNat + q.toNat) z) 6 (10 * q.toNat + p.toNat) z else g
def aRtt (g : Nat → Nat → Int) (p q : Int) : Int := if sKf g p q = 0 then g 6 (10 * p.toNat + q.toNat) else sKf g p q
def aSetLie (g : Nat → Nat → Int) (p z : Int) : Int := if 0 ≤ p ∧ p ≤ g 0 0 - 1 then (if 0 ≤ z ∧ z ≤ 20000 then g 5 p.toNat else -1000002) else -1000001
def nSetLie (g : Nat → Nat → Int) (p z : Int) : Nat → Nat → Int := if (0 ≤ p ∧ p ≤ g 0 0 - 1) ∧ (0 ≤ z ∧ z ≤ 20000) then gset g 5 p.toNat z else g
def aSetGains (g : Nat → Nat → Int) (x y : Int) : Int := if (1 ≤ x ∧ x ≤ 1000) ∧ (1 ≤ y ∧ y ≤ 1000) then 10000 * g 0 2 + g 0 3 else -1000002
def nSetGains (g : Nat → Nat → Int) (x y : Int) : Nat → Nat → Int := if (1 ≤ x ∧ x ≤ 1000) ∧ (1 ≤ y ∧ y ≤ 1000) then gset (gset g 0 2 x) 0 3 y else g
def aSetMaxStep (g : Nat → Nat → Int) (z : Int) : Int := if 1 ≤ z ∧ z ≤ 20000 then g 0 4 else -1000002
def nSetMaxStep (g : Nat → Nat → Int) (z : Int) : Nat → Nat → Int := if 1 ≤ z ∧ z ≤ 20000 then gset g 0 4 z else g
def okPl (x y h : Int) : Prop := (-100000 ≤ x ∧ x ≤ 100000) ∧ (-100000 ≤ y ∧ y ≤ 100000) ∧ (0 ≤ h ∧ h ≤ 100000)
def aPlace (g : Nat → Nat → Int) (p x y h : Int) : Int := if 0 ≤ p ∧ p ≤ g 0 0 - 1 then (if (-100000 ≤ x ∧ x ≤ 100000) ∧ (-100000 ≤ y ∧ y ≤ 100000) ∧ (0 ≤ h ∧ h ≤ 100000) then g 4 p.toNat else -1000002) else -1000001
def nPlace (g : Nat → Nat → Int) (p x y h : Int) : Nat → Nat → Int := if (0 ≤ p ∧ p ≤ g 0 0 - 1) ∧ (-100000 ≤ x ∧ x ≤ 100000) ∧ (-100000 ≤ y ∧ y ≤ 100000) ∧ (0 ≤ h ∧ h ≤ 100000) then sSet g p.toNat x y h 1000 else g
def aOf (r : Nat) (g : Nat → Nat → Int) (p : Int) : Int := if 0 ≤ p ∧ p ≤ g 0 0 - 1 then g r p.toNat else -1000001
def aPredict (g : Nat → Nat → Int) (p q : Int) : Int := if sPf g p q = 0 then sPrd g p.toNat q.toNat else sPf g p q
def aMeasure (g : Nat → Nat → Int) (p q : Int) : Int := if sKf g p q = 0 then sSmp g p.toNat q.toNat else sKf g p q
def nMeasure (g : Nat → Nat → Int) (p q : Int) : Nat → Nat → Int := if sKf g p q = 0 then sUpd g p.toNat q.toNat else g
def aRun (g : Nat → Nat → Int) (k : Int) : Int := if 1 ≤ k ∧ k ≤ 100 then sRunC g k.toNat else -1000002
def nRun (g : Nat → Nat → Int) (k : Int) : Nat → Nat → Int := if 1 ≤ k ∧ k ≤ 100 then sRun g k.toNat else g
def aRelErr (g : Nat → Nat → Int) (p q : Int) : Int := if sKf g p q = 0 then sRel g p.toNat q.toNat else sKf g p q
def aMove (g : Nat → Nat → Int) (p q : Int) : Int := if sKf g p q = 0 then sMov g p.toNat q.toNat else sKf g p q
def sMsI (g : Nat → Nat → Int) (a j : Nat) : Int := sm j (fun b => if a < b ∧ 1 ≤ g 6 (10 * a + b) then sRel g a b else 0)
def sMcI (g : Nat → Nat → Int) (a j : Nat) : Int := sm j (fun b => if a < b ∧ 1 ≤ g 6 (10 * a + b) then 1 else 0)
def sMs (g : Nat → Nat → Int) (n i : Nat) : Int := sm i (fun a => sMsI g a n)
def sMc (g : Nat → Nat → Int) (n i : Nat) : Int := sm i (fun a => sMcI g a n)
theorem sMsI_0 (g : Nat → Nat → Int) (a : Nat) : sMsI g a (a + 1) = 0 := sm_zero (fun c hc => if_neg (by omega))
theorem sMcI_0 (g : Nat → Nat → Int) (a : Nat) : sMcI g a (a + 1) = 0 := sm_zero (fun c hc => if_neg (by omega))
theorem sMc_bd {g : Nat → Nat → Int} {n : Nat} (hn : n ≤ 10) : 0 ≤ sMc g n n ∧ sMc g n n ≤ 100 := by
  have h1 : ∀ a, 0 ≤ sMcI g a n ∧ sMcI g a n ≤ 10 := fun a => by
    have := sm_bd (n := n) (f := fun b => if a < b ∧ 1 ≤ g 6 (10 * a + b) then (1 : Int) else 0) (c := 1) (fun i _ => by split <;> omega)
    unfold sMcI
    omega
  have := sm_bd (n := n) (f := fun a => sMcI g a n) (c := 10) (fun i _ => h1 i)
  unfold sMc
  omega
theorem sMs_bd {g : Nat → Nat → Int} {r : Int} (hg : gB g r) {n : Nat} (hn : n ≤ 10) : 0 ≤ sMs g n n ∧ sMs g n n ≤ 48284200000 := by
  have h1 : ∀ a, a < n → 0 ≤ sMsI g a n ∧ sMsI g a n ≤ 4828420000 := fun a ha => by
    have := sm_bd (n := n) (f := fun b => if a < b ∧ 1 ≤ g 6 (10 * a + b) then sRel g a b else 0) (c := 482842000) (fun i hi => by
      split
      · rename_i h; exact sRel_bd hg (by omega) (by omega) h.2
      · omega)
    unfold sMsI
    omega
  have := sm_bd (n := n) (f := fun a => sMsI g a n) (c := 4828420000) (fun i hi => h1 i hi)
  unfold sMs
  omega
def aMean (g : Nat → Nat → Int) : Int := if sMc g (gN g) (gN g) = 0 then -1000005 else (sMs g (gN g) (gN g)).tdiv (sMc g (gN g) (gN g))
def sWs (g : Nat → Nat → Int) (a b : Nat) (q : Int × Int) : Int × Int := if 1 ≤ g 6 (10 * a + b) ∧ q.2 < sRel g a b then (10 * (a : Int) + (b : Int), sRel g a b) else q
def sWi (g : Nat → Nat → Int) (a : Nat) (q : Int × Int) : Nat → Int × Int
  | 0 => q
  | k + 1 => if a < k then sWs g a k (sWi g a q k) else sWi g a q k
def sWo (g : Nat → Nat → Int) (n : Nat) : Nat → Int × Int
  | 0 => (-1000005, -1)
  | i + 1 => sWi g i (sWo g n i) n
theorem sWi_0 (g : Nat → Nat → Int) (a : Nat) (q : Int × Int) : ∀ k, k ≤ a + 1 → sWi g a q k = q := by
  intro k
  induction k with
  | zero => exact fun _ => rfl
  | succ k ih =>
    intro h
    unfold sWi
    rw [if_neg (by omega)]
    exact ih (by omega)
theorem sWi_bd {g : Nat → Nat → Int} {r : Int} (hg : gB g r) {a : Nat} (ha : a < 10) {q : Int × Int} (hq : -1 ≤ q.2 ∧ q.2 ≤ 482842000) : ∀ k, k ≤ 10 → -1 ≤ (sWi g a q k).2 ∧ (sWi g a q k).2 ≤ 482842000 := by
  intro k
  induction k with
  | zero => exact fun _ => hq
  | succ k ih =>
    intro h
    have h1 := ih (by omega)
    unfold sWi
    split
    · unfold sWs
      split
      · rename_i h2
        have := sRel_bd hg ha (show k < 10 by omega) h2.1
        dsimp only
        omega
      · exact h1
    · exact h1
theorem sWo_bd {g : Nat → Nat → Int} {r : Int} (hg : gB g r) {n : Nat} (hn : n ≤ 10) : ∀ i, i ≤ n → -1 ≤ (sWo g n i).2 ∧ (sWo g n i).2 ≤ 482842000 := by
  intro i
  induction i with
  | zero => exact fun _ => by unfold sWo; omega
  | succ i ih =>
    intro h
    unfold sWo
    exact sWi_bd hg (by omega) (ih (by omega)) n hn
def sNr (g : Nat → Nat → Int) (a : Nat) (rk ini : Int) : Nat → Int
  | 0 => ini
  | k + 1 => if k ≠ a ∧ sRk g a k (gN g) = rk then (k : Int) else sNr g a rk ini k
def aNear (ini : Int) (g : Nat → Nat → Int) (p rk : Int) : Int := if 0 ≤ p ∧ p ≤ g 0 0 - 1 then (if 0 ≤ rk ∧ rk ≤ g 0 0 - 2 then sNr g p.toNat rk ini (gN g) else -1000002) else -1000001
theorem sRk_bd {g : Nat → Nat → Int} {a b n : Nat} (hn : n ≤ 10) : 0 ≤ sRk g a b n ∧ sRk g a b n ≤ 10 := by
  have := sm_bd (n := n) (f := fun q => if q ≠ a ∧ q ≠ b ∧ (sPrd g a q < sPrd g a b ∨ sPrd g a q = sPrd g a b ∧ q < b) then (1 : Int) else 0) (c := 1) (fun i _ => by split <;> omega)
  unfold sRk
  omega
def sWay (g : Nat → Nat → Int) (a b k : Nat) : Int := sPrd g a k + sPrd g k b
def sRm (g : Nat → Nat → Int) (a b : Nat) : Nat → Int × Int
  | 0 => (-1000005, 0)
  | k + 1 => if k ≠ a ∧ k ≠ b ∧ ((sRm g a b k).1 < 0 ∨ sWay g a b k < (sRm g a b k).2) then ((k : Int), sWay g a b k) else sRm g a b k
def sRc (g : Nat → Nat → Int) (a b : Nat) : Nat → Int × Int
  | 0 => (-1000005, 2147483647)
  | k + 1 => if k ≠ a ∧ k ≠ b ∧ sWay g a b k < (sRc g a b k).2 then ((k : Int), sWay g a b k) else sRc g a b k
theorem sWay_bd {g : Nat → Nat → Int} {r : Int} (hg : gB g r) {a b k : Nat} (ha : a < 10) (hb : b < 10) (hk : k < 10) : 0 ≤ sWay g a b k ∧ sWay g a b k ≤ 965684 := by
  have h1 := sPrd_bd hg ha hk
  have h2 := sPrd_bd hg hk hb
  unfold sWay
  omega
theorem sRm_bd {g : Nat → Nat → Int} {r : Int} (hg : gB g r) {a b : Nat} (ha : a < 10) (hb : b < 10) : ∀ k, k ≤ 10 → (-1000005 ≤ (sRm g a b k).1 ∧ (sRm g a b k).1 ≤ 10) ∧ 0 ≤ (sRm g a b k).2 ∧ (sRm g a b k).2 ≤ 965684 := by
  intro k
  induction k with
  | zero => exact fun _ => by unfold sRm; omega
  | succ k ih =>
    intro h
    have h1 := ih (by omega)
    have h2 := sWay_bd hg ha hb (show k < 10 by omega)
    unfold sRm
    split
    · dsimp only; omega
    · exact h1
theorem sRc_bd {g : Nat → Nat → Int} {r : Int} (hg : gB g r) {a b : Nat} (ha : a < 10) (hb : b < 10) : ∀ k, k ≤ 10 → (-1000005 ≤ (sRc g a b k).1 ∧ (sRc g a b k).1 ≤ 10) ∧ 0 ≤ (sRc g a b k).2 ∧ (sRc g a b k).2 ≤ 2147483647 := by
  intro k
  induction k with
  | zero => exact fun _ => by unfold sRc; omega
  | succ k ih =>
    intro h
    have h1 := ih (by omega)
    have h2 := sWay_bd hg ha hb (show k < 10 by omega)
    unfold sRc
    split
    · dsimp only; omega
    · exact h1
/-- the relay found the one way is that found the other way -/
theorem sRmc {g : Nat → Nat → Int} {r : Int} (hg : gB g r) {a b : Nat} (ha : a < 10) (hb : b < 10) : ∀ k, k ≤ 10 → ((sRm g a b k).1 = -1000005 ∧ (sRc g a b k).1 = -1000005 ∧ (sRc g a b k).2 = 2147483647) ∨ (0 ≤ (sRm g a b k).1 ∧ sRm g a b k = sRc g a b k) := by
  intro k
  induction k with
  | zero => exact fun _ => Or.inl ⟨rfl, rfl, rfl⟩
  | succ k ih =>
    intro h
    have h2 := sWay_bd hg ha hb (show k < 10 by omega)
    unfold sRm sRc
    by_cases c : k ≠ a ∧ k ≠ b
    · rcases ih (by omega) with ⟨e1, e2, e3⟩ | ⟨e1, e2⟩
      · rw [if_pos ⟨c.1, c.2, Or.inl (by omega)⟩, if_pos ⟨c.1, c.2, by omega⟩]
        exact Or.inr ⟨by dsimp only; omega, rfl⟩
      · rw [← e2]
        by_cases d : sWay g a b k < (sRm g a b k).2
        · rw [if_pos ⟨c.1, c.2, Or.inr d⟩, if_pos ⟨c.1, c.2, d⟩]
          exact Or.inr ⟨by dsimp only; omega, rfl⟩
        · rw [if_neg (fun z => by rcases z.2.2 with z | z <;> omega), if_neg (fun z => d z.2.2)]
          exact Or.inr ⟨e1, rfl⟩
    · rw [if_neg (fun z => c ⟨z.1, z.2.1⟩), if_neg (fun z => c ⟨z.1, z.2.1⟩)]
      exact ih (by omega)
def aRelayM (g : Nat → Nat → Int) (p q : Int) : Int := if sPf g p q = 0 then (sRm g p.toNat q.toNat (gN g)).1 else sPf g p q
def aRelayC (g : Nat → Nat → Int) (p q : Int) : Int := if sPf g p q = 0 then (sRc g p.toNat q.toNat (gN g)).1 else sPf g p q
end
section
/-! OWN ROWS: the readers of the reference -/
set_option maxHeartbeats 4000000 in
set_option maxRecDepth 100000 in
/-- isNode -/
theorem c_X2_isNode (l : Launch) (dC : Nat → ClassId) (dI : Nat → Nat → Nat) (cI cZ cS : ClassId) (b : Nat → Nat) (g : Nat → Nat → Int) (w S V o : Nat → Int) (r : Int) (hg : gB g r) (u : Int) (hu : -2147483648 ≤ u ∧ u ≤ 2147483647) : Met l yX2_isNode wsX2_isNode ({ frames := 1, cells := 0, slots := 0, locals := 22 } : Room) (rd_Pc dC dI cI cZ cS (mdw cI cZ b g w S V o) [.ref (b 0), .int (zI u)]) (rd_Qc (some (.int (zI (if 0 ≤ u ∧ u ≤ g 0 0 - 1 then 1 else 0))))) 0 0 nf := by
  refine rd_met (cc := cX2_isNode) (maxL := 2) (ret := (some .boolean)) (by decide) rfl (Nat.le_of_ble_eq_true rfl) ?_
  intro p e s m below meth c ls hx hb hml hr hlocks hts hown hP hK hl
  have hl : lv_has ls 2 [(0, .ref (b 0)), (1, .int (zI u))] := hl
  have hinX2 : ∀ w ∈ u_ws RX2 TX2 11, w ∈ wsX2_isNode := by decide +kernel
  have f_7 := hts (.fieldLink RX2 7 "NetworkCoordinatesModel" "state" "[I") (by decide +kernel)
  have b0 := hg.1
  refine lv_iload_n hx hb dX2_isNode_0 rfl (lv_at hl 1 rfl) ?_
  refine zr_iconst hx hb dX2_isNode_1 ?_
  refine lv_aload_n hx hb dX2_isNode_2 rfl (lv_at hl 0 rfl) ?_
  refine va_get (D := (dC, dI)) (ci := 2) (v := .ref (b 1)) (C := RX2) (T := TX2) (N := 11) hx hb hts hinX2 hown hK.1 hP 0 rfl rfl 0 (by decide) f_7 (fun _ h9 => h9) rfl dX2_isNode_3 ?_
  refine zr_iconst hx hb dX2_isNode_6 ?_
  refine zr_iald hx hb hK.1 hP 1 0 rfl rfl 0 (g 0 0) (by omega) (by omega) (Nat.le_of_ble_eq_true rfl) (flat_0 (by decide)) dX2_isNode_7 ?_
  refine zr_iconst hx hb dX2_isNode_8 ?_
  refine zr_isub hx hb dX2_isNode_9 ?_
  refine rd_callS (As := [.int (zI u), .int (zI 0), .int (zI (g 0 0 - 1))]) (rest := []) ⟨hx, hb, hml, hown, hts⟩ (c_X2_in l dC dI cI cZ cS u 0 (g 0 0 - 1) (by omega) (by omega) (by omega)) (va_cwS 3 hts gX2_isNode_X2_in rfl rfl rfl (by decide +kernel) ⟨Nat.le_of_ble_eq_true rfl, Nat.le_of_ble_eq_true rfl⟩) va_P_nil hK rfl hl.1 rfl (Nat.le_of_ble_eq_true rfl) dX2_isNode_10 ⟨Nat.zero_le _, Nat.zero_le _⟩ ?_
  exact rd_zret hx hb hr hlocks rfl (by split <;> omega) dX2_isNode_13
set_option maxHeartbeats 4000000 in
set_option maxRecDepth 100000 in
/-- of -/
theorem c_X2_of (l : Launch) (dC : Nat → ClassId) (dI : Nat → Nat → Nat) (cI cZ cS : ClassId) (b : Nat → Nat) (g : Nat → Nat → Int) (w S V o : Nat → Int) (r : Int) (hg : gB g r) (c1 : Nat) (hc1 : c1 ≤ 145) (u : Int) (hu : -2147483648 ≤ u ∧ u ≤ 2147483647) : Met l yX2_of wsX2_of ({ frames := 2, cells := 0, slots := 0, locals := 43 } : Room) (rd_Pc dC dI cI cZ cS (mdw cI cZ b g w S V o) [.ref (b 0), .int (zI (c1 : Int)), .int (zI u)]) (rd_Qc (some (.int (zI (if 0 ≤ u ∧ u ≤ g 0 0 - 1 then flat g (c1 + u.toNat) else -1000001))))) 0 0 nf := by
  refine rd_met (cc := cX2_of) (maxL := 3) (ret := (some .int)) (by decide) rfl (Nat.le_of_ble_eq_true rfl) ?_
  intro p e s m below meth c ls hx hb hml hr hlocks hts hown hP hK hl
  have hl : lv_has ls 3 [(0, .ref (b 0)), (1, .int (zI (c1 : Int))), (2, .int (zI u))] := hl
  have hinX2 : ∀ w ∈ u_ws RX2 TX2 11, w ∈ wsX2_of := by decide +kernel
  have k_40 := hts (.constant RX2 40 (-1000001)) (by decide +kernel)
  have f_7 := hts (.fieldLink RX2 7 "NetworkCoordinatesModel" "state" "[I") (by decide +kernel)
  have b0 := hg.1
  refine lv_aload_n hx hb dX2_of_0 rfl (lv_at hl 0 rfl) ?_
  refine lv_iload_n hx hb dX2_of_1 rfl (lv_at hl 2 rfl) ?_
  refine rd_callV (As := [.int (zI u)]) (rest := []) ⟨hx, hb, hml, hown, hts⟩ (c_X2_isNode l dC dI cI cZ cS b g w S V o r hg   u (by omega) ) (cwV 1 hts gX2_of_X2_isNode rfl rfl rfl (by decide +kernel) ⟨Nat.le_of_ble_eq_true rfl, Nat.le_of_ble_eq_true rfl⟩) hP hK 0 rfl rfl rfl hl.1 rfl (Nat.le_of_ble_eq_true rfl) dX2_of_2 ⟨Nat.zero_le _, Nat.zero_le _⟩ ?_
  refine zr_bif_eq (tgt := 19) hx hb dX2_of_5 (by decide) (fun c_5 => ?_) (fun c_5 => ?_)
  · refine zr_ldc hx hb (-1000001) hown k_40 (by decide) dX2_of_19 ?_
    exact rd_iret hx hb hr hlocks (if_neg c_5).symm dX2_of_21
  · refine lv_aload_n hx hb dX2_of_8 rfl (lv_at hl 0 rfl) ?_
    refine va_get (D := (dC, dI)) (ci := 2) (v := .ref (b 1)) (C := RX2) (T := TX2) (N := 11) hx hb hts hinX2 hown hK.1 hP 0 rfl rfl 0 (by decide) f_7 (fun _ h9 => h9) rfl dX2_of_9 ?_
    refine lv_iload_n hx hb dX2_of_12 rfl (lv_at hl 1 rfl) ?_
    refine lv_iload_n hx hb dX2_of_13 rfl (lv_at hl 2 rfl) ?_
    refine zr_iadd hx hb dX2_of_14 ?_
    refine zr_iald hx hb hK.1 hP 1 0 rfl rfl (c1 + u.toNat) (flat g (c1 + u.toNat)) (by omega) (by omega) (Nat.le_of_ble_eq_true rfl) rfl dX2_of_15 ?_
    refine lv_goto (tgt := 21) hx hb dX2_of_16 (by decide) ?_
    exact rd_iret hx hb hr hlocks (if_pos c_5).symm dX2_of_21
set_option maxHeartbeats 4000000 in
set_option maxRecDepth 100000 in
/-- x -/
theorem c_X2_x (l : Launch) (dC : Nat → ClassId) (dI : Nat → Nat → Nat) (cI cZ cS : ClassId) (b : Nat → Nat) (g : Nat → Nat → Int) (w S V o : Nat → Int) (r : Int) (hg : gB g r) (u : Int) (hu : -2147483648 ≤ u ∧ u ≤ 2147483647) : Met l yX2_x wsX2_x ({ frames := 3, cells := 0, slots := 0, locals := 65 } : Room) (rd_Pc dC dI cI cZ cS (mdw cI cZ b g w S V o) [.ref (b 0), .int (zI u)]) (rd_Qc (some (.int (zI (aOf 1 g u))))) 0 0 nf := by
  refine rd_met (cc := cX2_x) (maxL := 2) (ret := (some .int)) (by decide) rfl (Nat.le_of_ble_eq_true rfl) ?_
  intro p e s m below meth c ls hx hb hml hr hlocks hts hown hP hK hl
  have hl : lv_has ls 2 [(0, .ref (b 0)), (1, .int (zI u))] := hl
  have b0 := hg.1
  have e1 : (if 0 ≤ u ∧ u ≤ g 0 0 - 1 then flat g (5 + u.toNat) else -1000001) = aOf 1 g u := by
    unfold aOf
    split
    · exact flat_1 (by omega)
    · rfl
  refine lv_aload_n hx hb dX2_x_0 rfl (lv_at hl 0 rfl) ?_
  refine zr_iconst hx hb dX2_x_1 ?_
  refine lv_iload_n hx hb dX2_x_2 rfl (lv_at hl 1 rfl) ?_
  refine rd_callV (As := [.int (zI 5), .int (zI u)]) (rest := []) ⟨hx, hb, hml, hown, hts⟩ (e1 ▸ c_X2_of l dC dI cI cZ cS b g w S V o r hg 5 (by decide) u hu) (cwV 2 hts gX2_x_X2_of rfl rfl rfl (by decide +kernel) ⟨Nat.le_of_ble_eq_true rfl, Nat.le_of_ble_eq_true rfl⟩) hP hK 0 rfl rfl rfl hl.1 rfl (Nat.le_of_ble_eq_true rfl) dX2_x_3 ⟨Nat.zero_le _, Nat.zero_le _⟩ ?_
  exact rd_iret hx hb hr hlocks rfl dX2_x_6
set_option maxHeartbeats 4000000 in
set_option maxRecDepth 100000 in
/-- y -/
theorem c_X2_y (l : Launch) (dC : Nat → ClassId) (dI : Nat → Nat → Nat) (cI cZ cS : ClassId) (b : Nat → Nat) (g : Nat → Nat → Int) (w S V o : Nat → Int) (r : Int) (hg : gB g r) (u : Int) (hu : -2147483648 ≤ u ∧ u ≤ 2147483647) : Met l yX2_y wsX2_y ({ frames := 3, cells := 0, slots := 0, locals := 65 } : Room) (rd_Pc dC dI cI cZ cS (mdw cI cZ b g w S V o) [.ref (b 0), .int (zI u)]) (rd_Qc (some (.int (zI (aOf 2 g u))))) 0 0 nf := by
  refine rd_met (cc := cX2_y) (maxL := 2) (ret := (some .int)) (by decide) rfl (Nat.le_of_ble_eq_true rfl) ?_
  intro p e s m below meth c ls hx hb hml hr hlocks hts hown hP hK hl
  have hl : lv_has ls 2 [(0, .ref (b 0)), (1, .int (zI u))] := hl
  have b0 := hg.1
  have e1 : (if 0 ≤ u ∧ u ≤ g 0 0 - 1 then flat g (15 + u.toNat) else -1000001) = aOf 2 g u := by
    unfold aOf
    split
    · exact flat_2 (by omega)
    · rfl
  refine lv_aload_n hx hb dX2_y_0 rfl (lv_at hl 0 rfl) ?_
  refine zr_bipush hx hb dX2_y_1 (by decide) ?_
  refine lv_iload_n hx hb dX2_y_3 rfl (lv_at hl 1 rfl) ?_
  refine rd_callV (As := [.int (zI 15), .int (zI u)]) (rest := []) ⟨hx, hb, hml, hown, hts⟩ (e1 ▸ c_X2_of l dC dI cI cZ cS b g w S V o r hg 15 (by decide) u hu) (cwV 2 hts gX2_y_X2_of rfl rfl rfl (by decide +kernel) ⟨Nat.le_of_ble_eq_true rfl, Nat.le_of_ble_eq_true rfl⟩) hP hK 0 rfl rfl rfl hl.1 rfl (Nat.le_of_ble_eq_true rfl) dX2_y_4 ⟨Nat.zero_le _, Nat.zero_le _⟩ ?_
  exact rd_iret hx hb hr hlocks rfl dX2_y_7
set_option maxHeartbeats 4000000 in
set_option maxRecDepth 100000 in
/-- height -/
theorem c_X2_height (l : Launch) (dC : Nat → ClassId) (dI : Nat → Nat → Nat) (cI cZ cS : ClassId) (b : Nat → Nat) (g : Nat → Nat → Int) (w S V o : Nat → Int) (r : Int) (hg : gB g r) (u : Int) (hu : -2147483648 ≤ u ∧ u ≤ 2147483647) : Met l yX2_height wsX2_height ({ frames := 3, cells := 0, slots := 0, locals := 65 } : Room) (rd_Pc dC dI cI cZ cS (mdw cI cZ b g w S V o) [.ref (b 0), .int (zI u)]) (rd_Qc (some (.int (zI (aOf 3 g u))))) 0 0 nf := by
  refine rd_met (cc := cX2_height) (maxL := 2) (ret := (some .int)) (by decide) rfl (Nat.le_of_ble_eq_true rfl) ?_
  intro p e s m below meth c ls hx hb hml hr hlocks hts hown hP hK hl
  have hl : lv_has ls 2 [(0, .ref (b 0)), (1, .int (zI u))] := hl
  have b0 := hg.1
  have e1 : (if 0 ≤ u ∧ u ≤ g 0 0 - 1 then flat g (25 + u.toNat) else -1000001) = aOf 3 g u := by
    unfold aOf
    split
    · exact flat_3 (by omega)
    · rfl
  refine lv_aload_n hx hb dX2_height_0 rfl (lv_at hl 0 rfl) ?_
  refine zr_bipush hx hb dX2_height_1 (by decide) ?_
  refine lv_iload_n hx hb dX2_height_3 rfl (lv_at hl 1 rfl) ?_
  refine rd_callV (As := [.int (zI 25), .int (zI u)]) (rest := []) ⟨hx, hb, hml, hown, hts⟩ (e1 ▸ c_X2_of l dC dI cI cZ cS b g w S V o r hg 25 (by decide) u hu) (cwV 2 hts gX2_height_X2_of rfl rfl rfl (by decide +kernel) ⟨Nat.le_of_ble_eq_true rfl, Nat.le_of_ble_eq_true rfl⟩) hP hK 0 rfl rfl rfl hl.1 rfl (Nat.le_of_ble_eq_true rfl) dX2_height_4 ⟨Nat.zero_le _, Nat.zero_le _⟩ ?_
  exact rd_iret hx hb hr hlocks rfl dX2_height_7
set_option maxHeartbeats 4000000 in
set_option maxRecDepth 100000 in
/-- error -/
theorem c_X2_error (l : Launch) (dC : Nat → ClassId) (dI : Nat → Nat → Nat) (cI cZ cS : ClassId) (b : Nat → Nat) (g : Nat → Nat → Int) (w S V o : Nat → Int) (r : Int) (hg : gB g r) (u : Int) (hu : -2147483648 ≤ u ∧ u ≤ 2147483647) : Met l yX2_error wsX2_error ({ frames := 3, cells := 0, slots := 0, locals := 65 } : Room) (rd_Pc dC dI cI cZ cS (mdw cI cZ b g w S V o) [.ref (b 0), .int (zI u)]) (rd_Qc (some (.int (zI (aOf 4 g u))))) 0 0 nf := by
  refine rd_met (cc := cX2_error) (maxL := 2) (ret := (some .int)) (by decide) rfl (Nat.le_of_ble_eq_true rfl) ?_
  intro p e s m below meth c ls hx hb hml hr hlocks hts hown hP hK hl
  have hl : lv_has ls 2 [(0, .ref (b 0)), (1, .int (zI u))] := hl
  have b0 := hg.1
  have e1 : (if 0 ≤ u ∧ u ≤ g 0 0 - 1 then flat g (35 + u.toNat) else -1000001) = aOf 4 g u := by
    unfold aOf
    split
    · exact flat_4 (by omega)
    · rfl
  refine lv_aload_n hx hb dX2_error_0 rfl (lv_at hl 0 rfl) ?_
  refine zr_bipush hx hb dX2_error_1 (by decide) ?_
  refine lv_iload_n hx hb dX2_error_3 rfl (lv_at hl 1 rfl) ?_
  refine rd_callV (As := [.int (zI 35), .int (zI u)]) (rest := []) ⟨hx, hb, hml, hown, hts⟩ (e1 ▸ c_X2_of l dC dI cI cZ cS b g w S V o r hg 35 (by decide) u hu) (cwV 2 hts gX2_error_X2_of rfl rfl rfl (by decide +kernel) ⟨Nat.le_of_ble_eq_true rfl, Nat.le_of_ble_eq_true rfl⟩) hP hK 0 rfl rfl rfl hl.1 rfl (Nat.le_of_ble_eq_true rfl) dX2_error_4 ⟨Nat.zero_le _, Nat.zero_le _⟩ ?_
  exact rd_iret hx hb hr hlocks rfl dX2_error_7
set_option maxHeartbeats 4000000 in
set_option maxRecDepth 100000 in
/-- wrongPair -/
theorem c_X2_wrongPair (l : Launch) (dC : Nat → ClassId) (dI : Nat → Nat → Nat) (cI cZ cS : ClassId) (b : Nat → Nat) (g : Nat → Nat → Int) (w S V o : Nat → Int) (r : Int) (hg : gB g r) (u : Int) (hu : -2147483648 ≤ u ∧ u ≤ 2147483647) (v : Int) (hv : -2147483648 ≤ v ∧ v ≤ 2147483647) : Met l yX2_wrongPair wsX2_wrongPair ({ frames := 2, cells := 0, slots := 0, locals := 43 } : Room) (rd_Pc dC dI cI cZ cS (mdw cI cZ b g w S V o) [.ref (b 0), .int (zI u), .int (zI v)]) (rd_Qc (some (.int (zI (sPf g u v))))) 0 0 nf := by
  refine rd_met (cc := cX2_wrongPair) (maxL := 3) (ret := (some .int)) (by decide) rfl (Nat.le_of_ble_eq_true rfl) ?_
  intro p e s m below meth c ls hx hb hml hr hlocks hts hown hP hK hl
  have hl : lv_has ls 3 [(0, .ref (b 0)), (1, .int (zI u)), (2, .int (zI v))] := hl
  have k_40 := hts (.constant RX2 40 (-1000001)) (by decide +kernel)
  have k_41 := hts (.constant RX2 41 (-1000003)) (by decide +kernel)
  have b0 := hg.1
  refine lv_aload_n hx hb dX2_wrongPair_0 rfl (lv_at hl 0 rfl) ?_
  refine lv_iload_n hx hb dX2_wrongPair_1 rfl (lv_at hl 1 rfl) ?_
  refine rd_callV (As := [.int (zI u)]) (rest := []) ⟨hx, hb, hml, hown, hts⟩ (c_X2_isNode l dC dI cI cZ cS b g w S V o r hg   u (by omega) ) (cwV 1 hts gX2_wrongPair_X2_isNode rfl rfl rfl (by decide +kernel) ⟨Nat.le_of_ble_eq_true rfl, Nat.le_of_ble_eq_true rfl⟩) hP hK 0 rfl rfl rfl hl.1 rfl (Nat.le_of_ble_eq_true rfl) dX2_wrongPair_2 ⟨Nat.zero_le _, Nat.zero_le _⟩ ?_
  refine zr_bif_eq (tgt := 16) hx hb dX2_wrongPair_5 (by decide) (fun c_5 => ?_) (fun c_5 => ?_)
  · refine zr_ldc hx hb (-1000001) hown k_40 (by decide) dX2_wrongPair_16 ?_
    refine lv_goto (tgt := 32) hx hb dX2_wrongPair_18 (by decide) ?_
    exact rd_iret hx hb hr hlocks (by unfold sPf; rw [if_neg (by omega)]) dX2_wrongPair_32
  · refine lv_aload_n hx hb dX2_wrongPair_8 rfl (lv_at hl 0 rfl) ?_
    refine lv_iload_n hx hb dX2_wrongPair_9 rfl (lv_at hl 2 rfl) ?_
    refine rd_callV (As := [.int (zI v)]) (rest := []) ⟨hx, hb, hml, hown, hts⟩ (c_X2_isNode l dC dI cI cZ cS b g w S V o r hg   v (by omega) ) (cwV 1 hts gX2_wrongPair_X2_isNode rfl rfl rfl (by decide +kernel) ⟨Nat.le_of_ble_eq_true rfl, Nat.le_of_ble_eq_true rfl⟩) hP hK 0 rfl rfl rfl hl.1 rfl (Nat.le_of_ble_eq_true rfl) dX2_wrongPair_10 ⟨Nat.zero_le _, Nat.zero_le _⟩ ?_
    refine zr_bif_ne (tgt := 21) hx hb dX2_wrongPair_13 (by decide) (fun c_13 => ?_) (fun c_13 => ?_)
    · refine lv_iload_n hx hb dX2_wrongPair_21 rfl (lv_at hl 1 rfl) ?_
      refine lv_iload_n hx hb dX2_wrongPair_22 rfl (lv_at hl 2 rfl) ?_
      refine zr_icmp_ne (tgt := 31) hx hb dX2_wrongPair_23 (by decide) (by omega) (by omega) (fun c_23 => ?_) (fun c_23 => ?_)
      · refine zr_iconst hx hb dX2_wrongPair_31 ?_
        exact rd_iret hx hb hr hlocks (by unfold sPf; rw [if_pos (by omega), if_neg (by omega)]) dX2_wrongPair_32
      · refine zr_ldc hx hb (-1000003) hown k_41 (by decide) dX2_wrongPair_26 ?_
        refine lv_goto (tgt := 32) hx hb dX2_wrongPair_28 (by decide) ?_
        exact rd_iret hx hb hr hlocks (by unfold sPf; rw [if_pos (by omega), if_pos (by omega)]) dX2_wrongPair_32
    · refine zr_ldc hx hb (-1000001) hown k_40 (by decide) dX2_wrongPair_16 ?_
      refine lv_goto (tgt := 32) hx hb dX2_wrongPair_18 (by decide) ?_
      exact rd_iret hx hb hr hlocks (by unfold sPf; rw [if_neg (by omega)]) dX2_wrongPair_32
set_option maxHeartbeats 4000000 in
set_option maxRecDepth 100000 in
/-- wrongKnown -/
theorem c_X2_wrongKnown (l : Launch) (dC : Nat → ClassId) (dI : Nat → Nat → Nat) (cI cZ cS : ClassId) (b : Nat → Nat) (g : Nat → Nat → Int) (w S V o : Nat → Int) (r : Int) (hg : gB g r) (u : Int) (hu : -2147483648 ≤ u ∧ u ≤ 2147483647) (v : Int) (hv : -2147483648 ≤ v ∧ v ≤ 2147483647) : Met l yX2_wrongKnown wsX2_wrongKnown ({ frames := 3, cells := 0, slots := 0, locals := 65 } : Room) (rd_Pc dC dI cI cZ cS (mdw cI cZ b g w S V o) [.ref (b 0), .int (zI u), .int (zI v)]) (rd_Qc (some (.int (zI (sKf g u v))))) 0 0 nf := by
  refine rd_met (cc := cX2_wrongKnown) (maxL := 4) (ret := (some .int)) (by decide) rfl (Nat.le_of_ble_eq_true rfl) ?_
  intro p e s m below meth c ls hx hb hml hr hlocks hts hown hP hK hl
  have hl : lv_has ls 4 [(0, .ref (b 0)), (1, .int (zI u)), (2, .int (zI v))] := hl
  have hinX2 : ∀ w ∈ u_ws RX2 TX2 11, w ∈ wsX2_wrongKnown := by decide +kernel
  have f_7 := hts (.fieldLink RX2 7 "NetworkCoordinatesModel" "state" "[I") (by decide +kernel)
  have k_49 := hts (.constant RX2 49 (-1000004)) (by decide +kernel)
  have b0 := hg.1
  have s0 := sPf_rng g u v
  refine lv_aload_n hx hb dX2_wrongKnown_0 rfl (lv_at hl 0 rfl) ?_
  refine lv_iload_n hx hb dX2_wrongKnown_1 rfl (lv_at hl 1 rfl) ?_
  refine lv_iload_n hx hb dX2_wrongKnown_2 rfl (lv_at hl 2 rfl) ?_
  refine rd_callV (As := [.int (zI u), .int (zI v)]) (rest := []) ⟨hx, hb, hml, hown, hts⟩ (c_X2_wrongPair l dC dI cI cZ cS b g w S V o r hg   u (by omega) v (by omega) ) (cwV 2 hts gX2_wrongKnown_X2_wrongPair rfl rfl rfl (by decide +kernel) ⟨Nat.le_of_ble_eq_true rfl, Nat.le_of_ble_eq_true rfl⟩) hP hK 0 rfl rfl rfl hl.1 rfl (Nat.le_of_ble_eq_true rfl) dX2_wrongKnown_3 ⟨Nat.zero_le _, Nat.zero_le _⟩ ?_
  refine lv_istore_n (lv' := [(3, .int (zI (sPf g u v))), (0, .ref (b 0)), (1, .int (zI u)), (2, .int (zI v))]) hx hb dX2_wrongKnown_6 rfl hl (by decide) rfl (fun ls hl => ?_)
  refine lv_iload_n hx hb dX2_wrongKnown_7 rfl (lv_at hl 0 rfl) ?_
  refine zr_if_eq (tgt := 15) hx hb dX2_wrongKnown_8 (by decide) (by omega) (fun c_8 => ?_) (fun c_8 => ?_)
  · obtain ⟨A, B, rfl, rfl, hA2, hB2, hA, hB, hAB, eA, eB⟩ := z_nodes hg c_8
    have kAB := hg.2.2 A B hA hB
    refine lv_aload_n hx hb dX2_wrongKnown_15 rfl (lv_at hl 1 rfl) ?_
    refine va_get (D := (dC, dI)) (ci := 2) (v := .ref (b 1)) (C := RX2) (T := TX2) (N := 11) hx hb hts hinX2 hown hK.1 hP 0 rfl rfl 0 (by decide) f_7 (fun _ h9 => h9) rfl dX2_wrongKnown_16 ?_
    refine lv_iload_n hx hb dX2_wrongKnown_19 rfl (lv_at hl 2 rfl) ?_
    refine lv_iload_n hx hb dX2_wrongKnown_20 rfl (lv_at hl 3 rfl) ?_
    refine rd_callS (As := [.int (zI (A : Int)), .int (zI (B : Int))]) (rest := [.ref (b 1)]) ⟨hx, hb, hml, hown, hts⟩ (c_X2_cell l dC dI cI cZ cS A B) (va_cwS 2 hts gX2_wrongKnown_X2_cell rfl rfl rfl (by decide +kernel) ⟨Nat.le_of_ble_eq_true rfl, Nat.le_of_ble_eq_true rfl⟩) va_P_nil hK rfl hl.1 rfl (Nat.le_of_ble_eq_true rfl) dX2_wrongKnown_21 ⟨Nat.zero_le _, Nat.zero_le _⟩ ?_
    refine zr_iald hx hb hK.1 hP 1 0 rfl rfl (55 + (10 * A + B)) (g 6 (10 * A + B)) (by omega) (by omega) (Nat.le_of_ble_eq_true rfl) flat_6 dX2_wrongKnown_24 ?_
    refine zr_if_ne (tgt := 33) hx hb dX2_wrongKnown_25 (by decide) (by omega) (fun c_25 => ?_) (fun c_25 => ?_)
    · refine zr_iconst hx hb dX2_wrongKnown_33 ?_
      exact rd_iret hx hb hr hlocks (by unfold sKf; rw [if_pos c_8, eA, eB, if_pos (by omega)]) dX2_wrongKnown_34
    · refine zr_ldc hx hb (-1000004) hown k_49 (by decide) dX2_wrongKnown_28 ?_
      refine lv_goto (tgt := 34) hx hb dX2_wrongKnown_30 (by decide) ?_
      exact rd_iret hx hb hr hlocks (by unfold sKf; rw [if_pos c_8, eA, eB, if_neg (by omega)]) dX2_wrongKnown_34
  · refine lv_iload_n hx hb dX2_wrongKnown_11 rfl (lv_at hl 0 rfl) ?_
    refine lv_goto (tgt := 34) hx hb dX2_wrongKnown_12 (by decide) ?_
    exact rd_iret hx hb hr hlocks (by unfold sKf; rw [if_neg c_8]) dX2_wrongKnown_34
set_option maxHeartbeats 4000000 in
set_option maxRecDepth 100000 in
/-- rtt -/
theorem c_X2_rtt (l : Launch) (dC : Nat → ClassId) (dI : Nat → Nat → Nat) (cI cZ cS : ClassId) (b : Nat → Nat) (g : Nat → Nat → Int) (w S V o : Nat → Int) (r : Int) (hg : gB g r) (u : Int) (hu : -2147483648 ≤ u ∧ u ≤ 2147483647) (v : Int) (hv : -2147483648 ≤ v ∧ v ≤ 2147483647) : Met l yX2_rtt wsX2_rtt ({ frames := 4, cells := 0, slots := 0, locals := 88 } : Room) (rd_Pc dC dI cI cZ cS (mdw cI cZ b g w S V o) [.ref (b 0), .int (zI u), .int (zI v)]) (rd_Qc (some (.int (zI (aRtt g u v))))) 0 0 nf := by
  refine rd_met (cc := cX2_rtt) (maxL := 4) (ret := (some .int)) (by decide) rfl (Nat.le_of_ble_eq_true rfl) ?_
  intro p e s m below meth c ls hx hb hml hr hlocks hts hown hP hK hl
  have hl : lv_has ls 4 [(0, .ref (b 0)), (1, .int (zI u)), (2, .int (zI v))] := hl
  have hinX2 : ∀ w ∈ u_ws RX2 TX2 11, w ∈ wsX2_rtt := by decide +kernel
  have f_7 := hts (.fieldLink RX2 7 "NetworkCoordinatesModel" "state" "[I") (by decide +kernel)
  have b0 := hg.1
  have s0 := sKf_rng g u v
  refine lv_aload_n hx hb dX2_rtt_0 rfl (lv_at hl 0 rfl) ?_
  refine lv_iload_n hx hb dX2_rtt_1 rfl (lv_at hl 1 rfl) ?_
  refine lv_iload_n hx hb dX2_rtt_2 rfl (lv_at hl 2 rfl) ?_
  refine rd_callV (As := [.int (zI u), .int (zI v)]) (rest := []) ⟨hx, hb, hml, hown, hts⟩ (c_X2_wrongKnown l dC dI cI cZ cS b g w S V o r hg   u (by omega) v (by omega) ) (cwV 2 hts gX2_rtt_X2_wrongKnown rfl rfl rfl (by decide +kernel) ⟨Nat.le_of_ble_eq_true rfl, Nat.le_of_ble_eq_true rfl⟩) hP hK 0 rfl rfl rfl hl.1 rfl (Nat.le_of_ble_eq_true rfl) dX2_rtt_3 ⟨Nat.zero_le _, Nat.zero_le _⟩ ?_
  refine lv_istore_n (lv' := [(3, .int (zI (sKf g u v))), (0, .ref (b 0)), (1, .int (zI u)), (2, .int (zI v))]) hx hb dX2_rtt_6 rfl hl (by decide) rfl (fun ls hl => ?_)
  refine lv_iload_n hx hb dX2_rtt_7 rfl (lv_at hl 0 rfl) ?_
  refine zr_if_eq (tgt := 15) hx hb dX2_rtt_8 (by decide) (by omega) (fun c_8 => ?_) (fun c_8 => ?_)
  · obtain ⟨c1, c2⟩ := sKf_0 c_8
    obtain ⟨A, B, rfl, rfl, hA2, hB2, hA, hB, hAB, eA, eB⟩ := z_nodes hg c1
    have kAB := hg.2.2 A B hA hB
    rw [eA, eB] at c2
    refine lv_aload_n hx hb dX2_rtt_15 rfl (lv_at hl 1 rfl) ?_
    refine va_get (D := (dC, dI)) (ci := 2) (v := .ref (b 1)) (C := RX2) (T := TX2) (N := 11) hx hb hts hinX2 hown hK.1 hP 0 rfl rfl 0 (by decide) f_7 (fun _ h9 => h9) rfl dX2_rtt_16 ?_
    refine lv_iload_n hx hb dX2_rtt_19 rfl (lv_at hl 2 rfl) ?_
    refine lv_iload_n hx hb dX2_rtt_20 rfl (lv_at hl 3 rfl) ?_
    refine rd_callS (As := [.int (zI (A : Int)), .int (zI (B : Int))]) (rest := [.ref (b 1)]) ⟨hx, hb, hml, hown, hts⟩ (c_X2_cell l dC dI cI cZ cS A B) (va_cwS 2 hts gX2_rtt_X2_cell rfl rfl rfl (by decide +kernel) ⟨Nat.le_of_ble_eq_true rfl, Nat.le_of_ble_eq_true rfl⟩) va_P_nil hK rfl hl.1 rfl (Nat.le_of_ble_eq_true rfl) dX2_rtt_21 ⟨Nat.zero_le _, Nat.zero_le _⟩ ?_
    refine zr_iald hx hb hK.1 hP 1 0 rfl rfl (55 + (10 * A + B)) (g 6 (10 * A + B)) (by omega) (by omega) (Nat.le_of_ble_eq_true rfl) flat_6 dX2_rtt_24 ?_
    exact rd_iret hx hb hr hlocks (by unfold aRtt; rw [if_pos c_8, eA, eB]) dX2_rtt_25
  · refine lv_iload_n hx hb dX2_rtt_11 rfl (lv_at hl 0 rfl) ?_
    refine lv_goto (tgt := 25) hx hb dX2_rtt_12 (by decide) ?_
    exact rd_iret hx hb hr hlocks (by unfold aRtt; rw [if_neg c_8]) dX2_rtt_25
set_option maxHeartbeats 4000000 in
set_option maxRecDepth 100000 in
/-- predicted -/
theorem c_X2_predicted (l : Launch) (dC : Nat → ClassId) (dI : Nat → Nat → Nat) (cI cZ cS : ClassId) (b : Nat → Nat) (g : Nat → Nat → Int) (w S V o : Nat → Int) (r : Int) (hg : gB g r) (A B : Nat) (hA : A < 10) (hB : B < 10) : Met l yX2_predicted wsX2_predicted ({ frames := 2, cells := 0, slots := 0, locals := 50 } : Room) (rd_Pc dC dI cI cZ cS (mdw cI cZ b g w S V o) [.ref (b 0), .int (zI (A : Int)), .int (zI (B : Int))]) (rd_Qc (some (.int (zI (sPrd g A B))))) 0 0 nf := by
  refine rd_met (cc := cX2_predicted) (maxL := 3) (ret := (some .int)) (by decide) rfl (Nat.le_of_ble_eq_true rfl) ?_
  intro p e s m below meth c ls hx hb hml hr hlocks hts hown hP hK hl
  have hl : lv_has ls 3 [(0, .ref (b 0)), (1, .int (zI (A : Int))), (2, .int (zI (B : Int)))] := hl
  have hinX2 : ∀ w ∈ u_ws RX2 TX2 11, w ∈ wsX2_predicted := by decide +kernel
  have f_7 := hts (.fieldLink RX2 7 "NetworkCoordinatesModel" "state" "[I") (by decide +kernel)
  have b0 := hg.1
  have bA := hg.2.1 A hA
  have bB := hg.2.1 B hB
  refine lv_aload_n hx hb dX2_predicted_0 rfl (lv_at hl 0 rfl) ?_
  refine va_get (D := (dC, dI)) (ci := 2) (v := .ref (b 1)) (C := RX2) (T := TX2) (N := 11) hx hb hts hinX2 hown hK.1 hP 0 rfl rfl 0 (by decide) f_7 (fun _ h9 => h9) rfl dX2_predicted_1 ?_
  refine zr_iconst hx hb dX2_predicted_4 ?_
  refine lv_iload_n hx hb dX2_predicted_5 rfl (lv_at hl 1 rfl) ?_
  refine zr_iadd hx hb dX2_predicted_6 ?_
  refine zr_iald hx hb hK.1 hP 1 0 rfl rfl (5 + A) (g 1 A) (by omega) (by omega) (Nat.le_of_ble_eq_true rfl) (flat_1 (by omega)) dX2_predicted_7 ?_
  refine lv_aload_n hx hb dX2_predicted_8 rfl (lv_at hl 0 rfl) ?_
  refine va_get (D := (dC, dI)) (ci := 2) (v := .ref (b 1)) (C := RX2) (T := TX2) (N := 11) hx hb hts hinX2 hown hK.1 hP 0 rfl rfl 0 (by decide) f_7 (fun _ h9 => h9) rfl dX2_predicted_9 ?_
  refine zr_iconst hx hb dX2_predicted_12 ?_
  refine lv_iload_n hx hb dX2_predicted_13 rfl (lv_at hl 2 rfl) ?_
  refine zr_iadd hx hb dX2_predicted_14 ?_
  refine zr_iald hx hb hK.1 hP 1 0 rfl rfl (5 + B) (g 1 B) (by omega) (by omega) (Nat.le_of_ble_eq_true rfl) (flat_1 (by omega)) dX2_predicted_15 ?_
  refine zr_isub hx hb dX2_predicted_16 ?_
  refine zr_i2l hx hb (by omega) dX2_predicted_17 ?_
  refine lv_aload_n hx hb dX2_predicted_18 rfl (lv_at hl 0 rfl) ?_
  refine va_get (D := (dC, dI)) (ci := 2) (v := .ref (b 1)) (C := RX2) (T := TX2) (N := 11) hx hb hts hinX2 hown hK.1 hP 0 rfl rfl 0 (by decide) f_7 (fun _ h9 => h9) rfl dX2_predicted_19 ?_
  refine zr_bipush hx hb dX2_predicted_22 (by decide) ?_
  refine lv_iload_n hx hb dX2_predicted_24 rfl (lv_at hl 1 rfl) ?_
  refine zr_iadd hx hb dX2_predicted_25 ?_
  refine zr_iald hx hb hK.1 hP 1 0 rfl rfl (15 + A) (g 2 A) (by omega) (by omega) (Nat.le_of_ble_eq_true rfl) (flat_2 (by omega)) dX2_predicted_26 ?_
  refine lv_aload_n hx hb dX2_predicted_27 rfl (lv_at hl 0 rfl) ?_
  refine va_get (D := (dC, dI)) (ci := 2) (v := .ref (b 1)) (C := RX2) (T := TX2) (N := 11) hx hb hts hinX2 hown hK.1 hP 0 rfl rfl 0 (by decide) f_7 (fun _ h9 => h9) rfl dX2_predicted_28 ?_
  refine zr_bipush hx hb dX2_predicted_31 (by decide) ?_
  refine lv_iload_n hx hb dX2_predicted_33 rfl (lv_at hl 2 rfl) ?_
  refine zr_iadd hx hb dX2_predicted_34 ?_
  refine zr_iald hx hb hK.1 hP 1 0 rfl rfl (15 + B) (g 2 B) (by omega) (by omega) (Nat.le_of_ble_eq_true rfl) (flat_2 (by omega)) dX2_predicted_35 ?_
  refine zr_isub hx hb dX2_predicted_36 ?_
  refine zr_i2l hx hb (by omega) dX2_predicted_37 ?_
  refine rd_callS (As := [.long (zL (g 1 A - g 1 B)), .long (zL (g 2 A - g 2 B))]) (rest := []) ⟨hx, hb, hml, hown, hts⟩ (c_X2_planar l dC dI cI cZ cS (g 1 A - g 1 B) (g 2 A - g 2 B) (by omega) (by omega)) (va_cwS 2 hts gX2_predicted_X2_planar rfl rfl rfl (by decide +kernel) ⟨Nat.le_of_ble_eq_true rfl, Nat.le_of_ble_eq_true rfl⟩) va_P_nil hK rfl hl.1 rfl (Nat.le_of_ble_eq_true rfl) dX2_predicted_38 ⟨Nat.zero_le _, Nat.zero_le _⟩ ?_
  refine lv_aload_n hx hb dX2_predicted_41 rfl (lv_at hl 0 rfl) ?_
  refine va_get (D := (dC, dI)) (ci := 2) (v := .ref (b 1)) (C := RX2) (T := TX2) (N := 11) hx hb hts hinX2 hown hK.1 hP 0 rfl rfl 0 (by decide) f_7 (fun _ h9 => h9) rfl dX2_predicted_42 ?_
  refine zr_bipush hx hb dX2_predicted_45 (by decide) ?_
  refine lv_iload_n hx hb dX2_predicted_47 rfl (lv_at hl 1 rfl) ?_
  refine zr_iadd hx hb dX2_predicted_48 ?_
  refine zr_iald hx hb hK.1 hP 1 0 rfl rfl (25 + A) (g 3 A) (by omega) (by omega) (Nat.le_of_ble_eq_true rfl) (flat_3 (by omega)) dX2_predicted_49 ?_
  refine zr_iadd hx hb dX2_predicted_50 ?_
  refine lv_aload_n hx hb dX2_predicted_51 rfl (lv_at hl 0 rfl) ?_
  refine va_get (D := (dC, dI)) (ci := 2) (v := .ref (b 1)) (C := RX2) (T := TX2) (N := 11) hx hb hts hinX2 hown hK.1 hP 0 rfl rfl 0 (by decide) f_7 (fun _ h9 => h9) rfl dX2_predicted_52 ?_
  refine zr_bipush hx hb dX2_predicted_55 (by decide) ?_
  refine lv_iload_n hx hb dX2_predicted_57 rfl (lv_at hl 2 rfl) ?_
  refine zr_iadd hx hb dX2_predicted_58 ?_
  refine zr_iald hx hb hK.1 hP 1 0 rfl rfl (25 + B) (g 3 B) (by omega) (by omega) (Nat.le_of_ble_eq_true rfl) (flat_3 (by omega)) dX2_predicted_59 ?_
  refine zr_iadd hx hb dX2_predicted_60 ?_
  exact rd_iret hx hb hr hlocks rfl dX2_predicted_61
set_option maxHeartbeats 4000000 in
set_option maxRecDepth 100000 in
/-- predict -/
theorem c_X2_predict (l : Launch) (dC : Nat → ClassId) (dI : Nat → Nat → Nat) (cI cZ cS : ClassId) (b : Nat → Nat) (g : Nat → Nat → Int) (w S V o : Nat → Int) (r : Int) (hg : gB g r) (u : Int) (hu : -2147483648 ≤ u ∧ u ≤ 2147483647) (v : Int) (hv : -2147483648 ≤ v ∧ v ≤ 2147483647) : Met l yX2_predict wsX2_predict ({ frames := 3, cells := 0, slots := 0, locals := 72 } : Room) (rd_Pc dC dI cI cZ cS (mdw cI cZ b g w S V o) [.ref (b 0), .int (zI u), .int (zI v)]) (rd_Qc (some (.int (zI (aPredict g u v))))) 0 0 nf := by
  refine rd_met (cc := cX2_predict) (maxL := 4) (ret := (some .int)) (by decide) rfl (Nat.le_of_ble_eq_true rfl) ?_
  intro p e s m below meth c ls hx hb hml hr hlocks hts hown hP hK hl
  have hl : lv_has ls 4 [(0, .ref (b 0)), (1, .int (zI u)), (2, .int (zI v))] := hl
  have b0 := hg.1
  have s0 := sPf_rng g u v
  refine lv_aload_n hx hb dX2_predict_0 rfl (lv_at hl 0 rfl) ?_
  refine lv_iload_n hx hb dX2_predict_1 rfl (lv_at hl 1 rfl) ?_
  refine lv_iload_n hx hb dX2_predict_2 rfl (lv_at hl 2 rfl) ?_
  refine rd_callV (As := [.int (zI u), .int (zI v)]) (rest := []) ⟨hx, hb, hml, hown, hts⟩ (c_X2_wrongPair l dC dI cI cZ cS b g w S V o r hg   u (by omega) v (by omega) ) (cwV 2 hts gX2_predict_X2_wrongPair rfl rfl rfl (by decide +kernel) ⟨Nat.le_of_ble_eq_true rfl, Nat.le_of_ble_eq_true rfl⟩) hP hK 0 rfl rfl rfl hl.1 rfl (Nat.le_of_ble_eq_true rfl) dX2_predict_3 ⟨Nat.zero_le _, Nat.zero_le _⟩ ?_
  refine lv_istore_n (lv' := [(3, .int (zI (sPf g u v))), (0, .ref (b 0)), (1, .int (zI u)), (2, .int (zI v))]) hx hb dX2_predict_6 rfl hl (by decide) rfl (fun ls hl => ?_)
  refine lv_iload_n hx hb dX2_predict_7 rfl (lv_at hl 0 rfl) ?_
  refine zr_if_eq (tgt := 15) hx hb dX2_predict_8 (by decide) (by omega) (fun c_8 => ?_) (fun c_8 => ?_)
  · obtain ⟨A, B, rfl, rfl, hA2, hB2, hA, hB, hAB, eA, eB⟩ := z_nodes hg c_8
    have kAB := hg.2.2 A B hA hB
    refine lv_aload_n hx hb dX2_predict_15 rfl (lv_at hl 1 rfl) ?_
    refine lv_iload_n hx hb dX2_predict_16 rfl (lv_at hl 2 rfl) ?_
    refine lv_iload_n hx hb dX2_predict_17 rfl (lv_at hl 3 rfl) ?_
    refine rd_callV (As := [.int (zI (A : Int)), .int (zI (B : Int))]) (rest := []) ⟨hx, hb, hml, hown, hts⟩ (c_X2_predicted l dC dI cI cZ cS b g w S V o r hg A B (by omega) (by omega)  ) (cwV 2 hts gX2_predict_X2_predicted rfl rfl rfl (by decide +kernel) ⟨Nat.le_of_ble_eq_true rfl, Nat.le_of_ble_eq_true rfl⟩) hP hK 0 rfl rfl rfl hl.1 rfl (Nat.le_of_ble_eq_true rfl) dX2_predict_18 ⟨Nat.zero_le _, Nat.zero_le _⟩ ?_
    exact rd_iret hx hb hr hlocks (by unfold aPredict; rw [if_pos c_8, eA, eB]) dX2_predict_21
  · refine lv_iload_n hx hb dX2_predict_11 rfl (lv_at hl 0 rfl) ?_
    refine lv_goto (tgt := 21) hx hb dX2_predict_12 (by decide) ?_
    exact rd_iret hx hb hr hlocks (by unfold aPredict; rw [if_neg c_8]) dX2_predict_21
set_option maxHeartbeats 4000000 in
set_option maxRecDepth 100000 in
/-- sample -/
theorem c_X2_sample (l : Launch) (dC : Nat → ClassId) (dI : Nat → Nat → Nat) (cI cZ cS : ClassId) (b : Nat → Nat) (g : Nat → Nat → Int) (w S V o : Nat → Int) (r : Int) (hg : gB g r) (A B : Nat) (hA : A < 10) (hB : B < 10) : Met l yX2_sample wsX2_sample ({ frames := 1, cells := 0, slots := 0, locals := 21 } : Room) (rd_Pc dC dI cI cZ cS (mdw cI cZ b g w S V o) [.ref (b 0), .int (zI (A : Int)), .int (zI (B : Int))]) (rd_Qc (some (.int (zI (sSmp g A B))))) 0 0 nf := by
  refine rd_met (cc := cX2_sample) (maxL := 3) (ret := (some .int)) (by decide) rfl (Nat.le_of_ble_eq_true rfl) ?_
  intro p e s m below meth c ls hx hb hml hr hlocks hts hown hP hK hl
  have hl : lv_has ls 3 [(0, .ref (b 0)), (1, .int (zI (A : Int))), (2, .int (zI (B : Int)))] := hl
  have hinX2 : ∀ w ∈ u_ws RX2 TX2 11, w ∈ wsX2_sample := by decide +kernel
  have f_7 := hts (.fieldLink RX2 7 "NetworkCoordinatesModel" "state" "[I") (by decide +kernel)
  have b0 := hg.1
  have bA := hg.2.1 A hA
  have bB := hg.2.1 B hB
  refine lv_aload_n hx hb dX2_sample_0 rfl (lv_at hl 0 rfl) ?_
  refine va_get (D := (dC, dI)) (ci := 2) (v := .ref (b 1)) (C := RX2) (T := TX2) (N := 11) hx hb hts hinX2 hown hK.1 hP 0 rfl rfl 0 (by decide) f_7 (fun _ h9 => h9) rfl dX2_sample_1 ?_
  refine lv_iload_n hx hb dX2_sample_4 rfl (lv_at hl 1 rfl) ?_
  refine lv_iload_n hx hb dX2_sample_5 rfl (lv_at hl 2 rfl) ?_
  refine rd_callS (As := [.int (zI (A : Int)), .int (zI (B : Int))]) (rest := [.ref (b 1)]) ⟨hx, hb, hml, hown, hts⟩ (c_X2_cell l dC dI cI cZ cS A B) (va_cwS 2 hts gX2_sample_X2_cell rfl rfl rfl (by decide +kernel) ⟨Nat.le_of_ble_eq_true rfl, Nat.le_of_ble_eq_true rfl⟩) va_P_nil hK rfl hl.1 rfl (Nat.le_of_ble_eq_true rfl) dX2_sample_6 ⟨Nat.zero_le _, Nat.zero_le _⟩ ?_
  refine zr_iald hx hb hK.1 hP 1 0 rfl rfl (55 + (10 * A + B)) (g 6 (10 * A + B)) (by omega) (by omega) (Nat.le_of_ble_eq_true rfl) flat_6 dX2_sample_9 ?_
  refine lv_aload_n hx hb dX2_sample_10 rfl (lv_at hl 0 rfl) ?_
  refine va_get (D := (dC, dI)) (ci := 2) (v := .ref (b 1)) (C := RX2) (T := TX2) (N := 11) hx hb hts hinX2 hown hK.1 hP 0 rfl rfl 0 (by decide) f_7 (fun _ h9 => h9) rfl dX2_sample_11 ?_
  refine zr_bipush hx hb dX2_sample_14 (by decide) ?_
  refine lv_iload_n hx hb dX2_sample_16 rfl (lv_at hl 2 rfl) ?_
  refine zr_iadd hx hb dX2_sample_17 ?_
  refine zr_iald hx hb hK.1 hP 1 0 rfl rfl (45 + B) (g 5 B) (by omega) (by omega) (Nat.le_of_ble_eq_true rfl) (flat_5 (by omega)) dX2_sample_18 ?_
  refine zr_iadd hx hb dX2_sample_19 ?_
  exact rd_iret hx hb hr hlocks rfl dX2_sample_20
set_option maxHeartbeats 4000000 in
set_option maxRecDepth 100000 in
/-- errorOf -/
theorem c_X2_errorOf (l : Launch) (dC : Nat → ClassId) (dI : Nat → Nat → Nat) (cI cZ cS : ClassId) (b : Nat → Nat) (g : Nat → Nat → Int) (w S V o : Nat → Int) (r : Int) (hg : gB g r) (A B : Nat) (hA : A < 10) (hB : B < 10) (hk : 1 ≤ g 6 (10 * A + B)) : Met l yX2_errorOf wsX2_errorOf ({ frames := 3, cells := 0, slots := 0, locals := 72 } : Room) (rd_Pc dC dI cI cZ cS (mdw cI cZ b g w S V o) [.ref (b 0), .int (zI (A : Int)), .int (zI (B : Int))]) (rd_Qc (some (.int (zI (sRel g A B))))) 0 0 nf := by
  refine rd_met (cc := cX2_errorOf) (maxL := 5) (ret := (some .int)) (by decide) rfl (Nat.le_of_ble_eq_true rfl) ?_
  intro p e s m below meth c ls hx hb hml hr hlocks hts hown hP hK hl
  have hl : lv_has ls 5 [(0, .ref (b 0)), (1, .int (zI (A : Int))), (2, .int (zI (B : Int)))] := hl
  have hinX2 : ∀ w ∈ u_ws RX2 TX2 11, w ∈ wsX2_errorOf := by decide +kernel
  have f_7 := hts (.fieldLink RX2 7 "NetworkCoordinatesModel" "state" "[I") (by decide +kernel)
  have k_75 := hts (.constantLong RX2 75 (1000)) (by decide +kernel)
  have b0 := hg.1
  have bA := hg.2.1 A hA
  have bB := hg.2.1 B hB
  have kAB := hg.2.2 A B hA hB
  have s1 := sPrd_bd hg hA hB
  have s2 := sAbs_bd (z := sPrd g A B - g 6 (10 * A + B)) (A := 482842) (by omega)
  refine lv_aload_n hx hb dX2_errorOf_0 rfl (lv_at hl 0 rfl) ?_
  refine va_get (D := (dC, dI)) (ci := 2) (v := .ref (b 1)) (C := RX2) (T := TX2) (N := 11) hx hb hts hinX2 hown hK.1 hP 0 rfl rfl 0 (by decide) f_7 (fun _ h9 => h9) rfl dX2_errorOf_1 ?_
  refine lv_iload_n hx hb dX2_errorOf_4 rfl (lv_at hl 1 rfl) ?_
  refine lv_iload_n hx hb dX2_errorOf_5 rfl (lv_at hl 2 rfl) ?_
  refine rd_callS (As := [.int (zI (A : Int)), .int (zI (B : Int))]) (rest := [.ref (b 1)]) ⟨hx, hb, hml, hown, hts⟩ (c_X2_cell l dC dI cI cZ cS A B) (va_cwS 2 hts gX2_errorOf_X2_cell rfl rfl rfl (by decide +kernel) ⟨Nat.le_of_ble_eq_true rfl, Nat.le_of_ble_eq_true rfl⟩) va_P_nil hK rfl hl.1 rfl (Nat.le_of_ble_eq_true rfl) dX2_errorOf_6 ⟨Nat.zero_le _, Nat.zero_le _⟩ ?_
  refine zr_iald hx hb hK.1 hP 1 0 rfl rfl (55 + (10 * A + B)) (g 6 (10 * A + B)) (by omega) (by omega) (Nat.le_of_ble_eq_true rfl) flat_6 dX2_errorOf_9 ?_
  refine zr_i2l hx hb (by omega) dX2_errorOf_10 ?_
  refine lv_lstore_n (lv' := [(3, .long (zL (g 6 (10 * A + B)))), (0, .ref (b 0)), (1, .int (zI (A : Int))), (2, .int (zI (B : Int)))]) hx hb dX2_errorOf_11 rfl hl (by decide) rfl (fun ls hl => ?_)
  refine zr_ldc2 hx hb (1000) hown k_75 (by decide) dX2_errorOf_12 ?_
  refine lv_aload_n hx hb dX2_errorOf_15 rfl (lv_at hl 1 rfl) ?_
  refine lv_iload_n hx hb dX2_errorOf_16 rfl (lv_at hl 2 rfl) ?_
  refine lv_iload_n hx hb dX2_errorOf_17 rfl (lv_at hl 3 rfl) ?_
  refine rd_callV (As := [.int (zI (A : Int)), .int (zI (B : Int))]) (rest := [.long (zL 1000)]) ⟨hx, hb, hml, hown, hts⟩ (c_X2_predicted l dC dI cI cZ cS b g w S V o r hg A B (by omega) (by omega)  ) (cwV 2 hts gX2_errorOf_X2_predicted rfl rfl rfl (by decide +kernel) ⟨Nat.le_of_ble_eq_true rfl, Nat.le_of_ble_eq_true rfl⟩) hP hK 0 rfl rfl rfl hl.1 rfl (Nat.le_of_ble_eq_true rfl) dX2_errorOf_18 ⟨Nat.zero_le _, Nat.zero_le _⟩ ?_
  refine zr_i2l hx hb (by omega) dX2_errorOf_21 ?_
  refine lv_lload_n hx hb dX2_errorOf_22 rfl (lv_at hl 0 rfl) ?_
  refine zr_lsub hx hb dX2_errorOf_23 ?_
  refine rd_callS (As := [.long (zL ((sPrd g A B) - g 6 (10 * A + B)))]) (rest := [.long (zL 1000)]) ⟨hx, hb, hml, hown, hts⟩ (c_X2_plain l dC dI cI cZ cS ((sPrd g A B) - g 6 (10 * A + B)) (by omega)) (va_cwS 1 hts gX2_errorOf_X2_plain rfl rfl rfl (by decide +kernel) ⟨Nat.le_of_ble_eq_true rfl, Nat.le_of_ble_eq_true rfl⟩) va_P_nil hK rfl hl.1 rfl (Nat.le_of_ble_eq_true rfl) dX2_errorOf_24 ⟨Nat.zero_le _, Nat.zero_le _⟩ ?_
  refine zr_lmul hx hb dX2_errorOf_27 ?_
  refine lv_lload_n hx hb dX2_errorOf_28 rfl (lv_at hl 0 rfl) ?_
  refine zr_ldiv hx hb (by omega) (by omega) dX2_errorOf_29 ?_
  refine zr_l2i hx hb dX2_errorOf_30 ?_
  exact rd_iret hx hb hr hlocks rfl dX2_errorOf_31
set_option maxHeartbeats 4000000 in
set_option maxRecDepth 100000 in
/-- roundCounter -/
theorem c_X2_roundCounter (l : Launch) (dC : Nat → ClassId) (dI : Nat → Nat → Nat) (cI cZ cS : ClassId) (b : Nat → Nat) (g : Nat → Nat → Int) (w S V o : Nat → Int) (r : Int) (hg : gB g r) : Met l yX2_roundCounter wsX2_roundCounter ({ frames := 0, cells := 0, slots := 0, locals := 0 } : Room) (rd_Pc dC dI cI cZ cS (mdw cI cZ b g w S V o) [.ref (b 0)]) (rd_Qc (some (.int (zI (g 0 1))))) 0 0 nf := by
  refine rd_met (cc := cX2_roundCounter) (maxL := 1) (ret := (some .int)) (by decide) rfl (Nat.le_of_ble_eq_true rfl) ?_
  intro p e s m below meth c ls hx hb hml hr hlocks hts hown hP hK hl
  have hl : lv_has ls 1 [(0, .ref (b 0))] := hl
  have hinX2 : ∀ w ∈ u_ws RX2 TX2 11, w ∈ wsX2_roundCounter := by decide +kernel
  have f_7 := hts (.fieldLink RX2 7 "NetworkCoordinatesModel" "state" "[I") (by decide +kernel)
  have b0 := hg.1
  refine lv_aload_n hx hb dX2_roundCounter_0 rfl (lv_at hl 0 rfl) ?_
  refine va_get (D := (dC, dI)) (ci := 2) (v := .ref (b 1)) (C := RX2) (T := TX2) (N := 11) hx hb hts hinX2 hown hK.1 hP 0 rfl rfl 0 (by decide) f_7 (fun _ h9 => h9) rfl dX2_roundCounter_1 ?_
  refine zr_iconst hx hb dX2_roundCounter_4 ?_
  refine zr_iald hx hb hK.1 hP 1 0 rfl rfl 1 (g 0 1) (by omega) (by omega) (Nat.le_of_ble_eq_true rfl) (flat_0 (by decide)) dX2_roundCounter_5 ?_
  exact rd_iret hx hb hr hlocks rfl dX2_roundCounter_6
set_option maxHeartbeats 4000000 in
set_option maxRecDepth 100000 in
/-- meanError -/
theorem c_X2_meanError (l : Launch) (dC : Nat → ClassId) (dI : Nat → Nat → Nat) (cI cZ cS : ClassId) (b : Nat → Nat) (g : Nat → Nat → Int) (w S V o : Nat → Int) (r : Int) (hg : gB g r) : Met l yX2_meanError wsX2_meanError ({ frames := 4, cells := 0, slots := 0, locals := 96 } : Room) (rd_Pc dC dI cI cZ cS (mdw cI cZ b g w S V o) [.ref (b 0)]) (rd_Qc (some (.int (zI (aMean g))))) 0 0 nf := by
  refine rd_met (cc := cX2_meanError) (maxL := 6) (ret := (some .int)) (by decide) rfl (Nat.le_of_ble_eq_true rfl) ?_
  intro p e s m below meth c ls hx hb hml hr hlocks hts hown hP hK hl
  have hl : lv_has ls 6 [(0, .ref (b 0))] := hl
  have hinX2 : ∀ w ∈ u_ws RX2 TX2 11, w ∈ wsX2_meanError := by decide +kernel
  have f_7 := hts (.fieldLink RX2 7 "NetworkCoordinatesModel" "state" "[I") (by decide +kernel)
  have k_111 := hts (.constant RX2 111 (-1000005)) (by decide +kernel)
  have b0 := hg.1
  have hN := gN_eq hg
  have q1 := sMc_bd (g := g) hN.2.2
  have q2 := sMs_bd hg hN.2.2
  refine zr_lconst hx hb 0 (by decide) dX2_meanError_0 ?_
  refine lv_lstore_n (lv' := [(1, .long (zL 0)), (0, .ref (b 0))]) hx hb dX2_meanError_1 rfl hl (by decide) rfl (fun ls hl => ?_)
  refine zr_iconst hx hb dX2_meanError_2 ?_
  refine lv_istore_n (lv' := [(3, .int (zI 0)), (1, .long (zL 0)), (0, .ref (b 0))]) hx hb dX2_meanError_3 rfl hl (by decide) rfl (fun ls hl => ?_)
  refine zr_iconst hx hb dX2_meanError_4 ?_
  refine lv_istore (lv' := [(4, .int (zI 0)), (3, .int (zI 0)), (1, .long (zL 0)), (0, .ref (b 0))]) hx hb dX2_meanError_5 hl (by decide) rfl (fun ls hl => ?_)
  have loop : ∀ (k_loop i : Nat), i + k_loop = gN g → ∀ ls : Array Slot, lv_has ls 6 [(4, .int (zI (i : Int))), (3, .int (zI (sMc g (gN g) i))), (1, .long (zL (sMs g (gN g) i))), (0, .ref (b 0))] → W p l e ({ frames := 4, cells := 0, slots := 0, locals := 96 } : Room) s m [.ref (b 0)].toArray below meth c s.heap [] 0 0 (MQ below (rd_Qc (some (.int (zI (aMean g))))) [.ref (b 0)].toArray s 0 0 nf) (F0 m 7 ls []) := by
    intro k_loop
    induction k_loop with
    | zero =>
      intro i hi ls hl
      refine lv_iload hx hb dX2_meanError_7 (lv_at hl 0 rfl) ?_
      refine lv_aload_n hx hb dX2_meanError_9 rfl (lv_at hl 3 rfl) ?_
      refine va_get (D := (dC, dI)) (ci := 2) (v := .ref (b 1)) (C := RX2) (T := TX2) (N := 11) hx hb hts hinX2 hown hK.1 hP 0 rfl rfl 0 (by decide) f_7 (fun _ h9 => h9) rfl dX2_meanError_10 ?_
      refine zr_iconst hx hb dX2_meanError_13 ?_
      refine zr_iald hx hb hK.1 hP 1 0 rfl rfl 0 (g 0 0) (by omega) (by omega) (Nat.le_of_ble_eq_true rfl) (flat_0 (by decide)) dX2_meanError_14 ?_
      refine zr_icmp_ge (tgt := 77) hx hb dX2_meanError_15 (by decide) (by omega) (by omega) (fun c_15 => ?_) (fun c_15 => absurd c_15 (by omega))
      have hi2 : i = gN g := by omega
      subst hi2
      refine lv_iload_n hx hb dX2_meanError_77 rfl (lv_at hl 1 rfl) ?_
      refine zr_if_ne (tgt := 86) hx hb dX2_meanError_78 (by decide) (by omega) (fun c_78 => ?_) (fun c_78 => ?_)
      · refine lv_lload_n hx hb dX2_meanError_86 rfl (lv_at hl 2 rfl) ?_
        refine lv_iload_n hx hb dX2_meanError_87 rfl (lv_at hl 1 rfl) ?_
        refine zr_i2l hx hb (by omega) dX2_meanError_88 ?_
        refine zr_ldiv hx hb (by omega) (by omega) dX2_meanError_89 ?_
        refine zr_l2i hx hb dX2_meanError_90 ?_
        exact rd_iret hx hb hr hlocks (by unfold aMean; rw [if_neg c_78]) dX2_meanError_91
      · refine zr_ldc hx hb (-1000005) hown k_111 (by decide) dX2_meanError_81 ?_
        refine lv_goto (tgt := 91) hx hb dX2_meanError_83 (by decide) ?_
        exact rd_iret hx hb hr hlocks (by unfold aMean; rw [if_pos c_78]) dX2_meanError_91
    | succ k_loop ih_loop =>
      intro i hi ls hl
      refine lv_iload hx hb dX2_meanError_7 (lv_at hl 0 rfl) ?_
      refine lv_aload_n hx hb dX2_meanError_9 rfl (lv_at hl 3 rfl) ?_
      refine va_get (D := (dC, dI)) (ci := 2) (v := .ref (b 1)) (C := RX2) (T := TX2) (N := 11) hx hb hts hinX2 hown hK.1 hP 0 rfl rfl 0 (by decide) f_7 (fun _ h9 => h9) rfl dX2_meanError_10 ?_
      refine zr_iconst hx hb dX2_meanError_13 ?_
      refine zr_iald hx hb hK.1 hP 1 0 rfl rfl 0 (g 0 0) (by omega) (by omega) (Nat.le_of_ble_eq_true rfl) (flat_0 (by decide)) dX2_meanError_14 ?_
      refine zr_icmp_ge (tgt := 77) hx hb dX2_meanError_15 (by decide) (by omega) (by omega) (fun c_15 => absurd c_15 (by omega)) (fun c_15 => ?_)
      refine lv_iload hx hb dX2_meanError_18 (lv_at hl 0 rfl) ?_
      refine zr_iconst hx hb dX2_meanError_20 ?_
      refine zr_iadd hx hb dX2_meanError_21 ?_
      refine zr_topI ((i + 1 : Nat) : Int) (by omega) ?_
      refine lv_istore (lv' := [(5, .int (zI ((i + 1 : Nat) : Int))), (4, .int (zI (i : Int))), (3, .int (zI (sMc g (gN g) i))), (1, .long (zL (sMs g (gN g) i))), (0, .ref (b 0))]) hx hb dX2_meanError_22 hl (by decide) rfl (fun ls hl => ?_)
      have inner : ∀ (k_inner j : Nat), j + k_inner = gN g → i < j → ∀ ls : Array Slot, lv_has ls 6 [(5, .int (zI (j : Int))), (4, .int (zI (i : Int))), (3, .int (zI (sMc g (gN g) i + sMcI g i j))), (1, .long (zL (sMs g (gN g) i + sMsI g i j))), (0, .ref (b 0))] → W p l e ({ frames := 4, cells := 0, slots := 0, locals := 96 } : Room) s m [.ref (b 0)].toArray below meth c s.heap [] 0 0 (MQ below (rd_Qc (some (.int (zI (aMean g))))) [.ref (b 0)].toArray s 0 0 nf) (F0 m 24 ls []) := by
        intro k_inner
        induction k_inner with
        | zero =>
          intro j hj hij ls hl
          refine lv_iload hx hb dX2_meanError_24 (lv_at hl 0 rfl) ?_
          refine lv_aload_n hx hb dX2_meanError_26 rfl (lv_at hl 4 rfl) ?_
          refine va_get (D := (dC, dI)) (ci := 2) (v := .ref (b 1)) (C := RX2) (T := TX2) (N := 11) hx hb hts hinX2 hown hK.1 hP 0 rfl rfl 0 (by decide) f_7 (fun _ h9 => h9) rfl dX2_meanError_27 ?_
          refine zr_iconst hx hb dX2_meanError_30 ?_
          refine zr_iald hx hb hK.1 hP 1 0 rfl rfl 0 (g 0 0) (by omega) (by omega) (Nat.le_of_ble_eq_true rfl) (flat_0 (by decide)) dX2_meanError_31 ?_
          refine zr_icmp_ge (tgt := 71) hx hb dX2_meanError_32 (by decide) (by omega) (by omega) (fun c_32 => ?_) (fun c_32 => absurd c_32 (by omega))
          have hj2 : j = gN g := by omega
          have hl : lv_has ls 6 [(5, .int (zI (j : Int))), (4, .int (zI (i : Int))), (3, .int (zI (sMc g (gN g) (i + 1)))), (1, .long (zL (sMs g (gN g) (i + 1)))), (0, .ref (b 0))] := by rw [show sMc g (gN g) (i + 1) = sMc g (gN g) i + sMcI g i j from by rw [hj2]; rfl, show sMs g (gN g) (i + 1) = sMs g (gN g) i + sMsI g i j from by rw [hj2]; rfl]; exact hl
          refine zr_iinc (b := ((i + 1 : Nat) : Int)) (lv' := [(4, .int (zI ((i + 1 : Nat) : Int))), (5, .int (zI (j : Int))), (3, .int (zI (sMc g (gN g) (i + 1)))), (1, .long (zL (sMs g (gN g) (i + 1)))), (0, .ref (b 0))]) hx hb dX2_meanError_71 hl (k := 1) rfl (by omega) (by decide) rfl (fun ls hl => ?_)
          refine lv_goto (tgt := 7) hx hb dX2_meanError_74 (by decide) ?_
          exact ih_loop (i + 1) (by omega) ls (lv_sub hl [0, 2, 3, 4] rfl)
        | succ k_inner ih_inner =>
          intro j hj hij ls hl
          have hi10 : i < 10 := by omega
          have hj10 : j < 10 := by omega
          have kij := hg.2.2 i j hi10 hj10
          refine lv_iload hx hb dX2_meanError_24 (lv_at hl 0 rfl) ?_
          refine lv_aload_n hx hb dX2_meanError_26 rfl (lv_at hl 4 rfl) ?_
          refine va_get (D := (dC, dI)) (ci := 2) (v := .ref (b 1)) (C := RX2) (T := TX2) (N := 11) hx hb hts hinX2 hown hK.1 hP 0 rfl rfl 0 (by decide) f_7 (fun _ h9 => h9) rfl dX2_meanError_27 ?_
          refine zr_iconst hx hb dX2_meanError_30 ?_
          refine zr_iald hx hb hK.1 hP 1 0 rfl rfl 0 (g 0 0) (by omega) (by omega) (Nat.le_of_ble_eq_true rfl) (flat_0 (by decide)) dX2_meanError_31 ?_
          refine zr_icmp_ge (tgt := 71) hx hb dX2_meanError_32 (by decide) (by omega) (by omega) (fun c_32 => absurd c_32 (by omega)) (fun c_32 => ?_)
          refine lv_aload_n hx hb dX2_meanError_35 rfl (lv_at hl 4 rfl) ?_
          refine va_get (D := (dC, dI)) (ci := 2) (v := .ref (b 1)) (C := RX2) (T := TX2) (N := 11) hx hb hts hinX2 hown hK.1 hP 0 rfl rfl 0 (by decide) f_7 (fun _ h9 => h9) rfl dX2_meanError_36 ?_
          refine lv_iload hx hb dX2_meanError_39 (lv_at hl 1 rfl) ?_
          refine lv_iload hx hb dX2_meanError_41 (lv_at hl 0 rfl) ?_
          refine rd_callS (As := [.int (zI (i : Int)), .int (zI (j : Int))]) (rest := [.ref (b 1)]) ⟨hx, hb, hml, hown, hts⟩ (c_X2_cell l dC dI cI cZ cS i j) (va_cwS 2 hts gX2_meanError_X2_cell rfl rfl rfl (by decide +kernel) ⟨Nat.le_of_ble_eq_true rfl, Nat.le_of_ble_eq_true rfl⟩) va_P_nil hK rfl hl.1 rfl (Nat.le_of_ble_eq_true rfl) dX2_meanError_43 ⟨Nat.zero_le _, Nat.zero_le _⟩ ?_
          refine zr_iald hx hb hK.1 hP 1 0 rfl rfl (55 + (10 * i + j)) (g 6 (10 * i + j)) (by omega) (by omega) (Nat.le_of_ble_eq_true rfl) flat_6 dX2_meanError_46 ?_
          refine zr_if_le (tgt := 65) hx hb dX2_meanError_47 (by decide) (by omega) (fun c_47 => ?_) (fun c_47 => ?_)
          · have hl : lv_has ls 6 [(5, .int (zI (j : Int))), (4, .int (zI (i : Int))), (3, .int (zI (sMc g (gN g) i + sMcI g i (j + 1)))), (1, .long (zL (sMs g (gN g) i + sMsI g i (j + 1)))), (0, .ref (b 0))] := by rw [show sMcI g i (j + 1) = sMcI g i j from by unfold sMcI; rw [sm_succ, if_neg (by omega)]; omega, show sMsI g i (j + 1) = sMsI g i j from by unfold sMsI; rw [sm_succ, if_neg (by omega)]; omega]; exact hl
            refine zr_iinc (b := ((j + 1 : Nat) : Int)) (lv' := [(5, .int (zI ((j + 1 : Nat) : Int))), (4, .int (zI (i : Int))), (3, .int (zI (sMc g (gN g) i + sMcI g i (j + 1)))), (1, .long (zL (sMs g (gN g) i + sMsI g i (j + 1)))), (0, .ref (b 0))]) hx hb dX2_meanError_65 hl (k := 0) rfl (by omega) (by decide) rfl (fun ls hl => ?_)
            refine lv_goto (tgt := 24) hx hb dX2_meanError_68 (by decide) ?_
            exact ih_inner (j + 1) (by omega) (by omega) ls (lv_sub hl [0, 1, 2, 3, 4] rfl)
          · have hrl := sRel_bd hg hi10 hj10 (by omega)
            refine lv_lload_n hx hb dX2_meanError_50 rfl (lv_at hl 3 rfl) ?_
            refine lv_aload_n hx hb dX2_meanError_51 rfl (lv_at hl 4 rfl) ?_
            refine lv_iload hx hb dX2_meanError_52 (lv_at hl 1 rfl) ?_
            refine lv_iload hx hb dX2_meanError_54 (lv_at hl 0 rfl) ?_
            refine rd_callV (As := [.int (zI (i : Int)), .int (zI (j : Int))]) (rest := [.long (zL (sMs g (gN g) i + sMsI g i j))]) ⟨hx, hb, hml, hown, hts⟩ (c_X2_errorOf l dC dI cI cZ cS b g w S V o r hg i j (by omega) (by omega)  (by omega)) (cwV 2 hts gX2_meanError_X2_errorOf rfl rfl rfl (by decide +kernel) ⟨Nat.le_of_ble_eq_true rfl, Nat.le_of_ble_eq_true rfl⟩) hP hK 0 rfl rfl rfl hl.1 rfl (Nat.le_of_ble_eq_true rfl) dX2_meanError_56 ⟨Nat.zero_le _, Nat.zero_le _⟩ ?_
            refine zr_i2l hx hb (by omega) dX2_meanError_59 ?_
            refine zr_ladd hx hb dX2_meanError_60 ?_
            refine zr_topL (sMs g (gN g) i + sMsI g i (j + 1)) (by unfold sMsI; rw [sm_succ, if_pos (by omega)]; omega) ?_
            refine lv_lstore_n (lv' := [(1, .long (zL (sMs g (gN g) i + sMsI g i (j + 1)))), (5, .int (zI (j : Int))), (4, .int (zI (i : Int))), (3, .int (zI (sMc g (gN g) i + sMcI g i j))), (0, .ref (b 0))]) hx hb dX2_meanError_61 rfl hl (by decide) rfl (fun ls hl => ?_)
            refine zr_iinc (b := (sMc g (gN g) i + sMcI g i (j + 1))) (lv' := [(3, .int (zI (sMc g (gN g) i + sMcI g i (j + 1)))), (1, .long (zL (sMs g (gN g) i + sMsI g i (j + 1)))), (5, .int (zI (j : Int))), (4, .int (zI (i : Int))), (0, .ref (b 0))]) hx hb dX2_meanError_62 hl (k := 3) rfl (by unfold sMcI; rw [sm_succ, if_pos (by omega)]; omega) (by decide) rfl (fun ls hl => ?_)
            refine zr_iinc (b := ((j + 1 : Nat) : Int)) (lv' := [(5, .int (zI ((j + 1 : Nat) : Int))), (3, .int (zI (sMc g (gN g) i + sMcI g i (j + 1)))), (1, .long (zL (sMs g (gN g) i + sMsI g i (j + 1)))), (4, .int (zI (i : Int))), (0, .ref (b 0))]) hx hb dX2_meanError_65 hl (k := 2) rfl (by omega) (by decide) rfl (fun ls hl => ?_)
            refine lv_goto (tgt := 24) hx hb dX2_meanError_68 (by decide) ?_
            exact ih_inner (j + 1) (by omega) (by omega) ls (lv_sub hl [0, 3, 1, 2, 4] rfl)
      have hl : lv_has ls 6 [(5, .int (zI ((i + 1 : Nat) : Int))), (4, .int (zI (i : Int))), (3, .int (zI (sMc g (gN g) i + sMcI g i (i + 1)))), (1, .long (zL (sMs g (gN g) i + sMsI g i (i + 1)))), (0, .ref (b 0))] := by rw [sMcI_0, sMsI_0, Int.add_zero, Int.add_zero]; exact hl
      exact inner (gN g - (i + 1)) (i + 1) (by omega) (by omega) ls (lv_sub hl [0, 1, 2, 3, 4] rfl)
  exact loop (gN g) 0 (by omega) ls (lv_sub hl [0, 1, 2, 3] rfl)
set_option maxHeartbeats 4000000 in
set_option maxRecDepth 100000 in
/-- worstPair -/
theorem c_X2_worstPair (l : Launch) (dC : Nat → ClassId) (dI : Nat → Nat → Nat) (cI cZ cS : ClassId) (b : Nat → Nat) (g : Nat → Nat → Int) (w S V o : Nat → Int) (r : Int) (hg : gB g r) : Met l yX2_worstPair wsX2_worstPair ({ frames := 4, cells := 0, slots := 0, locals := 96 } : Room) (rd_Pc dC dI cI cZ cS (mdw cI cZ b g w S V o) [.ref (b 0)]) (rd_Qc (some (.int (zI ((sWo g (gN g) (gN g)).1))))) 0 0 nf := by
  refine rd_met (cc := cX2_worstPair) (maxL := 5) (ret := (some .int)) (by decide) rfl (Nat.le_of_ble_eq_true rfl) ?_
  intro p e s m below meth c ls hx hb hml hr hlocks hts hown hP hK hl
  have hl : lv_has ls 5 [(0, .ref (b 0))] := hl
  have hinX2 : ∀ w ∈ u_ws RX2 TX2 11, w ∈ wsX2_worstPair := by decide +kernel
  have k_111 := hts (.constant RX2 111 (-1000005)) (by decide +kernel)
  have f_7 := hts (.fieldLink RX2 7 "NetworkCoordinatesModel" "state" "[I") (by decide +kernel)
  have b0 := hg.1
  have hN := gN_eq hg
  refine zr_ldc hx hb (-1000005) hown k_111 (by decide) dX2_worstPair_0 ?_
  refine lv_istore_n (lv' := [(1, .int (zI (-1000005))), (0, .ref (b 0))]) hx hb dX2_worstPair_2 rfl hl (by decide) rfl (fun ls hl => ?_)
  refine zr_iconst hx hb dX2_worstPair_3 ?_
  refine lv_istore_n (lv' := [(2, .int (zI (-1))), (1, .int (zI (-1000005))), (0, .ref (b 0))]) hx hb dX2_worstPair_4 rfl hl (by decide) rfl (fun ls hl => ?_)
  refine zr_iconst hx hb dX2_worstPair_5 ?_
  refine lv_istore_n (lv' := [(3, .int (zI 0)), (2, .int (zI (-1))), (1, .int (zI (-1000005))), (0, .ref (b 0))]) hx hb dX2_worstPair_6 rfl hl (by decide) rfl (fun ls hl => ?_)
  have loop : ∀ (k_loop i : Nat), i + k_loop = gN g → ∀ ls : Array Slot, lv_has ls 5 [(3, .int (zI (i : Int))), (2, .int (zI ((sWo g (gN g) i).2))), (1, .int (zI ((sWo g (gN g) i).1))), (0, .ref (b 0))] → W p l e ({ frames := 4, cells := 0, slots := 0, locals := 96 } : Room) s m [.ref (b 0)].toArray below meth c s.heap [] 0 0 (MQ below (rd_Qc (some (.int (zI ((sWo g (gN g) (gN g)).1))))) [.ref (b 0)].toArray s 0 0 nf) (F0 m 7 ls []) := by
    intro k_loop
    induction k_loop with
    | zero =>
      intro i hi ls hl
      refine lv_iload_n hx hb dX2_worstPair_7 rfl (lv_at hl 0 rfl) ?_
      refine lv_aload_n hx hb dX2_worstPair_8 rfl (lv_at hl 3 rfl) ?_
      refine va_get (D := (dC, dI)) (ci := 2) (v := .ref (b 1)) (C := RX2) (T := TX2) (N := 11) hx hb hts hinX2 hown hK.1 hP 0 rfl rfl 0 (by decide) f_7 (fun _ h9 => h9) rfl dX2_worstPair_9 ?_
      refine zr_iconst hx hb dX2_worstPair_12 ?_
      refine zr_iald hx hb hK.1 hP 1 0 rfl rfl 0 (g 0 0) (by omega) (by omega) (Nat.le_of_ble_eq_true rfl) (flat_0 (by decide)) dX2_worstPair_13 ?_
      refine zr_icmp_ge (tgt := 86) hx hb dX2_worstPair_14 (by decide) (by omega) (by omega) (fun c_14 => ?_) (fun c_14 => absurd c_14 (by omega))
      refine lv_iload_n hx hb dX2_worstPair_86 rfl (lv_at hl 2 rfl) ?_
      exact rd_iret hx hb hr hlocks (by rw [show i = gN g by omega]) dX2_worstPair_87
    | succ k_loop ih_loop =>
      intro i hi ls hl
      refine lv_iload_n hx hb dX2_worstPair_7 rfl (lv_at hl 0 rfl) ?_
      refine lv_aload_n hx hb dX2_worstPair_8 rfl (lv_at hl 3 rfl) ?_
      refine va_get (D := (dC, dI)) (ci := 2) (v := .ref (b 1)) (C := RX2) (T := TX2) (N := 11) hx hb hts hinX2 hown hK.1 hP 0 rfl rfl 0 (by decide) f_7 (fun _ h9 => h9) rfl dX2_worstPair_9 ?_
      refine zr_iconst hx hb dX2_worstPair_12 ?_
      refine zr_iald hx hb hK.1 hP 1 0 rfl rfl 0 (g 0 0) (by omega) (by omega) (Nat.le_of_ble_eq_true rfl) (flat_0 (by decide)) dX2_worstPair_13 ?_
      refine zr_icmp_ge (tgt := 86) hx hb dX2_worstPair_14 (by decide) (by omega) (by omega) (fun c_14 => absurd c_14 (by omega)) (fun c_14 => ?_)
      refine lv_iload_n hx hb dX2_worstPair_17 rfl (lv_at hl 0 rfl) ?_
      refine zr_iconst hx hb dX2_worstPair_18 ?_
      refine zr_iadd hx hb dX2_worstPair_19 ?_
      refine zr_topI ((i + 1 : Nat) : Int) (by omega) ?_
      refine lv_istore (lv' := [(4, .int (zI ((i + 1 : Nat) : Int))), (3, .int (zI (i : Int))), (2, .int (zI ((sWo g (gN g) i).2))), (1, .int (zI ((sWo g (gN g) i).1))), (0, .ref (b 0))]) hx hb dX2_worstPair_20 hl (by decide) rfl (fun ls hl => ?_)
      have inner : ∀ (k_inner j : Nat), j + k_inner = gN g → i < j → ∀ ls : Array Slot, lv_has ls 5 [(4, .int (zI (j : Int))), (3, .int (zI (i : Int))), (2, .int (zI ((sWi g i (sWo g (gN g) i) j).2))), (1, .int (zI ((sWi g i (sWo g (gN g) i) j).1))), (0, .ref (b 0))] → W p l e ({ frames := 4, cells := 0, slots := 0, locals := 96 } : Room) s m [.ref (b 0)].toArray below meth c s.heap [] 0 0 (MQ below (rd_Qc (some (.int (zI ((sWo g (gN g) (gN g)).1))))) [.ref (b 0)].toArray s 0 0 nf) (F0 m 22 ls []) := by
        intro k_inner
        induction k_inner with
        | zero =>
          intro j hj hij ls hl
          refine lv_iload hx hb dX2_worstPair_22 (lv_at hl 0 rfl) ?_
          refine lv_aload_n hx hb dX2_worstPair_24 rfl (lv_at hl 4 rfl) ?_
          refine va_get (D := (dC, dI)) (ci := 2) (v := .ref (b 1)) (C := RX2) (T := TX2) (N := 11) hx hb hts hinX2 hown hK.1 hP 0 rfl rfl 0 (by decide) f_7 (fun _ h9 => h9) rfl dX2_worstPair_25 ?_
          refine zr_iconst hx hb dX2_worstPair_28 ?_
          refine zr_iald hx hb hK.1 hP 1 0 rfl rfl 0 (g 0 0) (by omega) (by omega) (Nat.le_of_ble_eq_true rfl) (flat_0 (by decide)) dX2_worstPair_29 ?_
          refine zr_icmp_ge (tgt := 80) hx hb dX2_worstPair_30 (by decide) (by omega) (by omega) (fun c_30 => ?_) (fun c_30 => absurd c_30 (by omega))
          have hj2 : j = gN g := by omega
          have hl : lv_has ls 5 [(4, .int (zI (j : Int))), (3, .int (zI (i : Int))), (2, .int (zI ((sWo g (gN g) (i + 1)).2))), (1, .int (zI ((sWo g (gN g) (i + 1)).1))), (0, .ref (b 0))] := by rw [show sWo g (gN g) (i + 1) = sWi g i (sWo g (gN g) i) j from by rw [hj2]; rfl]; exact hl
          refine zr_iinc (b := ((i + 1 : Nat) : Int)) (lv' := [(3, .int (zI ((i + 1 : Nat) : Int))), (4, .int (zI (j : Int))), (2, .int (zI ((sWo g (gN g) (i + 1)).2))), (1, .int (zI ((sWo g (gN g) (i + 1)).1))), (0, .ref (b 0))]) hx hb dX2_worstPair_80 hl (k := 1) rfl (by omega) (by decide) rfl (fun ls hl => ?_)
          refine lv_goto (tgt := 7) hx hb dX2_worstPair_83 (by decide) ?_
          exact ih_loop (i + 1) (by omega) ls (lv_sub hl [0, 2, 3, 4] rfl)
        | succ k_inner ih_inner =>
          intro j hj hij ls hl
          have hi10 : i < 10 := by omega
          have hj10 : j < 10 := by omega
          have kij := hg.2.2 i j hi10 hj10
          refine lv_iload hx hb dX2_worstPair_22 (lv_at hl 0 rfl) ?_
          refine lv_aload_n hx hb dX2_worstPair_24 rfl (lv_at hl 4 rfl) ?_
          refine va_get (D := (dC, dI)) (ci := 2) (v := .ref (b 1)) (C := RX2) (T := TX2) (N := 11) hx hb hts hinX2 hown hK.1 hP 0 rfl rfl 0 (by decide) f_7 (fun _ h9 => h9) rfl dX2_worstPair_25 ?_
          refine zr_iconst hx hb dX2_worstPair_28 ?_
          refine zr_iald hx hb hK.1 hP 1 0 rfl rfl 0 (g 0 0) (by omega) (by omega) (Nat.le_of_ble_eq_true rfl) (flat_0 (by decide)) dX2_worstPair_29 ?_
          refine zr_icmp_ge (tgt := 80) hx hb dX2_worstPair_30 (by decide) (by omega) (by omega) (fun c_30 => absurd c_30 (by omega)) (fun c_30 => ?_)
          refine lv_aload_n hx hb dX2_worstPair_33 rfl (lv_at hl 4 rfl) ?_
          refine va_get (D := (dC, dI)) (ci := 2) (v := .ref (b 1)) (C := RX2) (T := TX2) (N := 11) hx hb hts hinX2 hown hK.1 hP 0 rfl rfl 0 (by decide) f_7 (fun _ h9 => h9) rfl dX2_worstPair_34 ?_
          refine lv_iload_n hx hb dX2_worstPair_37 rfl (lv_at hl 1 rfl) ?_
          refine lv_iload hx hb dX2_worstPair_38 (lv_at hl 0 rfl) ?_
          refine rd_callS (As := [.int (zI (i : Int)), .int (zI (j : Int))]) (rest := [.ref (b 1)]) ⟨hx, hb, hml, hown, hts⟩ (c_X2_cell l dC dI cI cZ cS i j) (va_cwS 2 hts gX2_worstPair_X2_cell rfl rfl rfl (by decide +kernel) ⟨Nat.le_of_ble_eq_true rfl, Nat.le_of_ble_eq_true rfl⟩) va_P_nil hK rfl hl.1 rfl (Nat.le_of_ble_eq_true rfl) dX2_worstPair_40 ⟨Nat.zero_le _, Nat.zero_le _⟩ ?_
          refine zr_iald hx hb hK.1 hP 1 0 rfl rfl (55 + (10 * i + j)) (g 6 (10 * i + j)) (by omega) (by omega) (Nat.le_of_ble_eq_true rfl) flat_6 dX2_worstPair_43 ?_
          refine zr_if_le (tgt := 74) hx hb dX2_worstPair_44 (by decide) (by omega) (fun c_44 => ?_) (fun c_44 => ?_)
          · have e1 : sWi g i (sWo g (gN g) i) (j + 1) = sWi g i (sWo g (gN g) i) j := by rw [show sWi g i (sWo g (gN g) i) (j + 1) = (if i < j then sWs g i j (sWi g i (sWo g (gN g) i) j) else sWi g i (sWo g (gN g) i) j) from rfl, if_pos hij]; unfold sWs; exact if_neg (by omega)
            have hl : lv_has ls 5 [(4, .int (zI (j : Int))), (3, .int (zI (i : Int))), (2, .int (zI ((sWi g i (sWo g (gN g) i) (j + 1)).2))), (1, .int (zI ((sWi g i (sWo g (gN g) i) (j + 1)).1))), (0, .ref (b 0))] := by rw [e1]; exact hl
            refine zr_iinc (b := ((j + 1 : Nat) : Int)) (lv' := [(4, .int (zI ((j + 1 : Nat) : Int))), (3, .int (zI (i : Int))), (2, .int (zI ((sWi g i (sWo g (gN g) i) (j + 1)).2))), (1, .int (zI ((sWi g i (sWo g (gN g) i) (j + 1)).1))), (0, .ref (b 0))]) hx hb dX2_worstPair_74 hl (k := 0) rfl (by omega) (by decide) rfl (fun ls hl => ?_)
            refine lv_goto (tgt := 22) hx hb dX2_worstPair_77 (by decide) ?_
            exact ih_inner (j + 1) (by omega) (by omega) ls (lv_sub hl [0, 1, 2, 3, 4] rfl)
          · have hrl := sRel_bd hg hi10 hj10 (by omega)
            have hwb := sWi_bd hg hi10 (sWo_bd hg hN.2.2 i (by omega)) j (by omega)
            refine lv_aload_n hx hb dX2_worstPair_47 rfl (lv_at hl 4 rfl) ?_
            refine lv_iload_n hx hb dX2_worstPair_48 rfl (lv_at hl 1 rfl) ?_
            refine lv_iload hx hb dX2_worstPair_49 (lv_at hl 0 rfl) ?_
            refine rd_callV (As := [.int (zI (i : Int)), .int (zI (j : Int))]) (rest := []) ⟨hx, hb, hml, hown, hts⟩ (c_X2_errorOf l dC dI cI cZ cS b g w S V o r hg i j (by omega) (by omega)  (by omega)) (cwV 2 hts gX2_worstPair_X2_errorOf rfl rfl rfl (by decide +kernel) ⟨Nat.le_of_ble_eq_true rfl, Nat.le_of_ble_eq_true rfl⟩) hP hK 0 rfl rfl rfl hl.1 rfl (Nat.le_of_ble_eq_true rfl) dX2_worstPair_51 ⟨Nat.zero_le _, Nat.zero_le _⟩ ?_
            refine lv_iload_n hx hb dX2_worstPair_54 rfl (lv_at hl 2 rfl) ?_
            refine zr_icmp_le (tgt := 74) hx hb dX2_worstPair_55 (by decide) (by omega) (by omega) (fun c_55 => ?_) (fun c_55 => ?_)
            · have e1 : sWi g i (sWo g (gN g) i) (j + 1) = sWi g i (sWo g (gN g) i) j := by rw [show sWi g i (sWo g (gN g) i) (j + 1) = (if i < j then sWs g i j (sWi g i (sWo g (gN g) i) j) else sWi g i (sWo g (gN g) i) j) from rfl, if_pos hij]; unfold sWs; exact if_neg (by omega)
              have hl : lv_has ls 5 [(4, .int (zI (j : Int))), (3, .int (zI (i : Int))), (2, .int (zI ((sWi g i (sWo g (gN g) i) (j + 1)).2))), (1, .int (zI ((sWi g i (sWo g (gN g) i) (j + 1)).1))), (0, .ref (b 0))] := by rw [e1]; exact hl
              refine zr_iinc (b := ((j + 1 : Nat) : Int)) (lv' := [(4, .int (zI ((j + 1 : Nat) : Int))), (3, .int (zI (i : Int))), (2, .int (zI ((sWi g i (sWo g (gN g) i) (j + 1)).2))), (1, .int (zI ((sWi g i (sWo g (gN g) i) (j + 1)).1))), (0, .ref (b 0))]) hx hb dX2_worstPair_74 hl (k := 0) rfl (by omega) (by decide) rfl (fun ls hl => ?_)
              refine lv_goto (tgt := 22) hx hb dX2_worstPair_77 (by decide) ?_
              exact ih_inner (j + 1) (by omega) (by omega) ls (lv_sub hl [0, 1, 2, 3, 4] rfl)
            · have e1 : sWi g i (sWo g (gN g) i) (j + 1) = (10 * (i : Int) + (j : Int), sRel g i j) := by rw [show sWi g i (sWo g (gN g) i) (j + 1) = (if i < j then sWs g i j (sWi g i (sWo g (gN g) i) j) else sWi g i (sWo g (gN g) i) j) from rfl, if_pos hij]; unfold sWs; exact if_pos (by omega)
              refine lv_aload_n hx hb dX2_worstPair_58 rfl (lv_at hl 4 rfl) ?_
              refine lv_iload_n hx hb dX2_worstPair_59 rfl (lv_at hl 1 rfl) ?_
              refine lv_iload hx hb dX2_worstPair_60 (lv_at hl 0 rfl) ?_
              refine rd_callV (As := [.int (zI (i : Int)), .int (zI (j : Int))]) (rest := []) ⟨hx, hb, hml, hown, hts⟩ (c_X2_errorOf l dC dI cI cZ cS b g w S V o r hg i j (by omega) (by omega)  (by omega)) (cwV 2 hts gX2_worstPair_X2_errorOf rfl rfl rfl (by decide +kernel) ⟨Nat.le_of_ble_eq_true rfl, Nat.le_of_ble_eq_true rfl⟩) hP hK 0 rfl rfl rfl hl.1 rfl (Nat.le_of_ble_eq_true rfl) dX2_worstPair_62 ⟨Nat.zero_le _, Nat.zero_le _⟩ ?_
              refine zr_topI ((sWi g i (sWo g (gN g) i) (j + 1)).2) (by rw [e1]) ?_
              refine lv_istore_n (lv' := [(2, .int (zI ((sWi g i (sWo g (gN g) i) (j + 1)).2))), (4, .int (zI (j : Int))), (3, .int (zI (i : Int))), (1, .int (zI ((sWi g i (sWo g (gN g) i) j).1))), (0, .ref (b 0))]) hx hb dX2_worstPair_65 rfl hl (by decide) rfl (fun ls hl => ?_)
              refine zr_bipush hx hb dX2_worstPair_66 (by decide) ?_
              refine lv_iload_n hx hb dX2_worstPair_68 rfl (lv_at hl 2 rfl) ?_
              refine zr_imul hx hb dX2_worstPair_69 ?_
              refine lv_iload hx hb dX2_worstPair_70 (lv_at hl 1 rfl) ?_
              refine zr_iadd hx hb dX2_worstPair_72 ?_
              refine zr_topI ((sWi g i (sWo g (gN g) i) (j + 1)).1) (by rw [e1]) ?_
              refine lv_istore_n (lv' := [(1, .int (zI ((sWi g i (sWo g (gN g) i) (j + 1)).1))), (2, .int (zI ((sWi g i (sWo g (gN g) i) (j + 1)).2))), (4, .int (zI (j : Int))), (3, .int (zI (i : Int))), (0, .ref (b 0))]) hx hb dX2_worstPair_73 rfl hl (by decide) rfl (fun ls hl => ?_)
              refine zr_iinc (b := ((j + 1 : Nat) : Int)) (lv' := [(4, .int (zI ((j + 1 : Nat) : Int))), (1, .int (zI ((sWi g i (sWo g (gN g) i) (j + 1)).1))), (2, .int (zI ((sWi g i (sWo g (gN g) i) (j + 1)).2))), (3, .int (zI (i : Int))), (0, .ref (b 0))]) hx hb dX2_worstPair_74 hl (k := 2) rfl (by omega) (by decide) rfl (fun ls hl => ?_)
              refine lv_goto (tgt := 22) hx hb dX2_worstPair_77 (by decide) ?_
              exact ih_inner (j + 1) (by omega) (by omega) ls (lv_sub hl [0, 3, 2, 1, 4] rfl)
      have hl : lv_has ls 5 [(4, .int (zI ((i + 1 : Nat) : Int))), (3, .int (zI (i : Int))), (2, .int (zI ((sWi g i (sWo g (gN g) i) (i + 1)).2))), (1, .int (zI ((sWi g i (sWo g (gN g) i) (i + 1)).1))), (0, .ref (b 0))] := by rw [sWi_0 g i _ (i + 1) (Nat.le_refl _)]; exact hl
      exact inner (gN g - (i + 1)) (i + 1) (by omega) (by omega) ls (lv_sub hl [0, 1, 2, 3, 4] rfl)
  exact loop (gN g) 0 (by omega) ls (lv_sub hl [0, 1, 2, 3] rfl)
set_option maxHeartbeats 4000000 in
set_option maxRecDepth 100000 in
/-- relativeError -/
theorem c_X2_relativeError (l : Launch) (dC : Nat → ClassId) (dI : Nat → Nat → Nat) (cI cZ cS : ClassId) (b : Nat → Nat) (g : Nat → Nat → Int) (w S V o : Nat → Int) (r : Int) (hg : gB g r) (u : Int) (hu : -2147483648 ≤ u ∧ u ≤ 2147483647) (v : Int) (hv : -2147483648 ≤ v ∧ v ≤ 2147483647) : Met l yX2_relativeError wsX2_relativeError ({ frames := 4, cells := 0, slots := 0, locals := 96 } : Room) (rd_Pc dC dI cI cZ cS (mdw cI cZ b g w S V o) [.ref (b 0), .int (zI u), .int (zI v)]) (rd_Qc (some (.int (zI (aRelErr g u v))))) 0 0 nf := by
  refine rd_met (cc := cX2_relativeError) (maxL := 4) (ret := (some .int)) (by decide) rfl (Nat.le_of_ble_eq_true rfl) ?_
  intro p e s m below meth c ls hx hb hml hr hlocks hts hown hP hK hl
  have hl : lv_has ls 4 [(0, .ref (b 0)), (1, .int (zI u)), (2, .int (zI v))] := hl
  have b0 := hg.1
  have s0 := sKf_rng g u v
  refine lv_aload_n hx hb dX2_relativeError_0 rfl (lv_at hl 0 rfl) ?_
  refine lv_iload_n hx hb dX2_relativeError_1 rfl (lv_at hl 1 rfl) ?_
  refine lv_iload_n hx hb dX2_relativeError_2 rfl (lv_at hl 2 rfl) ?_
  refine rd_callV (As := [.int (zI u), .int (zI v)]) (rest := []) ⟨hx, hb, hml, hown, hts⟩ (c_X2_wrongKnown l dC dI cI cZ cS b g w S V o r hg   u (by omega) v (by omega) ) (cwV 2 hts gX2_relativeError_X2_wrongKnown rfl rfl rfl (by decide +kernel) ⟨Nat.le_of_ble_eq_true rfl, Nat.le_of_ble_eq_true rfl⟩) hP hK 0 rfl rfl rfl hl.1 rfl (Nat.le_of_ble_eq_true rfl) dX2_relativeError_3 ⟨Nat.zero_le _, Nat.zero_le _⟩ ?_
  refine lv_istore_n (lv' := [(3, .int (zI (sKf g u v))), (0, .ref (b 0)), (1, .int (zI u)), (2, .int (zI v))]) hx hb dX2_relativeError_6 rfl hl (by decide) rfl (fun ls hl => ?_)
  refine lv_iload_n hx hb dX2_relativeError_7 rfl (lv_at hl 0 rfl) ?_
  refine zr_if_eq (tgt := 15) hx hb dX2_relativeError_8 (by decide) (by omega) (fun c_8 => ?_) (fun c_8 => ?_)
  · obtain ⟨c1, c2⟩ := sKf_0 c_8
    obtain ⟨A, B, rfl, rfl, hA2, hB2, hA, hB, hAB, eA, eB⟩ := z_nodes hg c1
    have kAB := hg.2.2 A B hA hB
    rw [eA, eB] at c2
    refine lv_aload_n hx hb dX2_relativeError_15 rfl (lv_at hl 1 rfl) ?_
    refine lv_iload_n hx hb dX2_relativeError_16 rfl (lv_at hl 2 rfl) ?_
    refine lv_iload_n hx hb dX2_relativeError_17 rfl (lv_at hl 3 rfl) ?_
    refine rd_callV (As := [.int (zI (A : Int)), .int (zI (B : Int))]) (rest := []) ⟨hx, hb, hml, hown, hts⟩ (c_X2_errorOf l dC dI cI cZ cS b g w S V o r hg A B (by omega) (by omega)  (by omega)) (cwV 2 hts gX2_relativeError_X2_errorOf rfl rfl rfl (by decide +kernel) ⟨Nat.le_of_ble_eq_true rfl, Nat.le_of_ble_eq_true rfl⟩) hP hK 0 rfl rfl rfl hl.1 rfl (Nat.le_of_ble_eq_true rfl) dX2_relativeError_18 ⟨Nat.zero_le _, Nat.zero_le _⟩ ?_
    exact rd_iret hx hb hr hlocks (by unfold aRelErr; rw [if_pos c_8, eA, eB]) dX2_relativeError_21
  · refine lv_iload_n hx hb dX2_relativeError_11 rfl (lv_at hl 0 rfl) ?_
    refine lv_goto (tgt := 21) hx hb dX2_relativeError_12 (by decide) ?_
    exact rd_iret hx hb hr hlocks (by unfold aRelErr; rw [if_neg c_8]) dX2_relativeError_21
set_option maxHeartbeats 4000000 in
set_option maxRecDepth 100000 in
/-- rankOf -/
theorem c_X2_rankOf (l : Launch) (dC : Nat → ClassId) (dI : Nat → Nat → Nat) (cI cZ cS : ClassId) (b : Nat → Nat) (g : Nat → Nat → Int) (w S V o : Nat → Int) (r : Int) (hg : gB g r) (A B : Nat) (hA : A < 10) (hB : B < 10) : Met l yX2_rankOf wsX2_rankOf ({ frames := 3, cells := 0, slots := 0, locals := 72 } : Room) (rd_Pc dC dI cI cZ cS (mdw cI cZ b g w S V o) [.ref (b 0), .int (zI (A : Int)), .int (zI (B : Int))]) (rd_Qc (some (.int (zI (sRk g A B (gN g)))))) 0 0 nf := by
  refine rd_met (cc := cX2_rankOf) (maxL := 7) (ret := (some .int)) (by decide) rfl (Nat.le_of_ble_eq_true rfl) ?_
  intro p e s m below meth c ls hx hb hml hr hlocks hts hown hP hK hl
  have hl : lv_has ls 7 [(0, .ref (b 0)), (1, .int (zI (A : Int))), (2, .int (zI (B : Int)))] := hl
  have hinX2 : ∀ w ∈ u_ws RX2 TX2 11, w ∈ wsX2_rankOf := by decide +kernel
  have f_7 := hts (.fieldLink RX2 7 "NetworkCoordinatesModel" "state" "[I") (by decide +kernel)
  have b0 := hg.1
  have bA := hg.2.1 A hA
  have bB := hg.2.1 B hB
  have hN := gN_eq hg
  have s1 := sPrd_bd hg hA hB
  refine zr_iconst hx hb dX2_rankOf_0 ?_
  refine lv_istore_n (lv' := [(3, .int (zI 0)), (0, .ref (b 0)), (1, .int (zI (A : Int))), (2, .int (zI (B : Int)))]) hx hb dX2_rankOf_1 rfl hl (by decide) rfl (fun ls hl => ?_)
  refine lv_aload_n hx hb dX2_rankOf_2 rfl (lv_at hl 1 rfl) ?_
  refine lv_iload_n hx hb dX2_rankOf_3 rfl (lv_at hl 2 rfl) ?_
  refine lv_iload_n hx hb dX2_rankOf_4 rfl (lv_at hl 3 rfl) ?_
  refine rd_callV (As := [.int (zI (A : Int)), .int (zI (B : Int))]) (rest := []) ⟨hx, hb, hml, hown, hts⟩ (c_X2_predicted l dC dI cI cZ cS b g w S V o r hg A B (by omega) (by omega)  ) (cwV 2 hts gX2_rankOf_X2_predicted rfl rfl rfl (by decide +kernel) ⟨Nat.le_of_ble_eq_true rfl, Nat.le_of_ble_eq_true rfl⟩) hP hK 0 rfl rfl rfl hl.1 rfl (Nat.le_of_ble_eq_true rfl) dX2_rankOf_5 ⟨Nat.zero_le _, Nat.zero_le _⟩ ?_
  refine lv_istore (lv' := [(4, .int (zI (sPrd g A B))), (3, .int (zI 0)), (0, .ref (b 0)), (1, .int (zI (A : Int))), (2, .int (zI (B : Int)))]) hx hb dX2_rankOf_8 hl (by decide) rfl (fun ls hl => ?_)
  refine zr_iconst hx hb dX2_rankOf_10 ?_
  refine lv_istore (lv' := [(5, .int (zI 0)), (4, .int (zI (sPrd g A B))), (3, .int (zI 0)), (0, .ref (b 0)), (1, .int (zI (A : Int))), (2, .int (zI (B : Int)))]) hx hb dX2_rankOf_11 hl (by decide) rfl (fun ls hl => ?_)
  have loop : ∀ (k_loop i : Nat), i + k_loop = gN g → ∀ ls : Array Slot, lv_has ls 7 [(5, .int (zI (i : Int))), (4, .int (zI (sPrd g A B))), (3, .int (zI (sRk g A B i))), (0, .ref (b 0)), (1, .int (zI (A : Int))), (2, .int (zI (B : Int)))] → W p l e ({ frames := 3, cells := 0, slots := 0, locals := 72 } : Room) s m [.ref (b 0), .int (zI (A : Int)), .int (zI (B : Int))].toArray below meth c s.heap [] 0 0 (MQ below (rd_Qc (some (.int (zI (sRk g A B (gN g)))))) [.ref (b 0), .int (zI (A : Int)), .int (zI (B : Int))].toArray s 0 0 nf) (F0 m 13 ls []) := by
    intro k_loop
    induction k_loop with
    | zero =>
      intro i hi ls hl
      refine lv_iload hx hb dX2_rankOf_13 (lv_at hl 0 rfl) ?_
      refine lv_aload_n hx hb dX2_rankOf_15 rfl (lv_at hl 3 rfl) ?_
      refine va_get (D := (dC, dI)) (ci := 2) (v := .ref (b 1)) (C := RX2) (T := TX2) (N := 11) hx hb hts hinX2 hown hK.1 hP 0 rfl rfl 0 (by decide) f_7 (fun _ h9 => h9) rfl dX2_rankOf_16 ?_
      refine zr_iconst hx hb dX2_rankOf_19 ?_
      refine zr_iald hx hb hK.1 hP 1 0 rfl rfl 0 (g 0 0) (by omega) (by omega) (Nat.le_of_ble_eq_true rfl) (flat_0 (by decide)) dX2_rankOf_20 ?_
      refine zr_icmp_ge (tgt := 79) hx hb dX2_rankOf_21 (by decide) (by omega) (by omega) (fun c_21 => ?_) (fun c_21 => absurd c_21 (by omega))
      refine lv_iload_n hx hb dX2_rankOf_79 rfl (lv_at hl 2 rfl) ?_
      exact rd_iret hx hb hr hlocks (by rw [show i = gN g by omega]) dX2_rankOf_80
    | succ k_loop ih_loop =>
      intro i hi ls hl
      have s2 := sPrd_bd (b := i) hg hA (by omega)
      refine lv_iload hx hb dX2_rankOf_13 (lv_at hl 0 rfl) ?_
      refine lv_aload_n hx hb dX2_rankOf_15 rfl (lv_at hl 3 rfl) ?_
      refine va_get (D := (dC, dI)) (ci := 2) (v := .ref (b 1)) (C := RX2) (T := TX2) (N := 11) hx hb hts hinX2 hown hK.1 hP 0 rfl rfl 0 (by decide) f_7 (fun _ h9 => h9) rfl dX2_rankOf_16 ?_
      refine zr_iconst hx hb dX2_rankOf_19 ?_
      refine zr_iald hx hb hK.1 hP 1 0 rfl rfl 0 (g 0 0) (by omega) (by omega) (Nat.le_of_ble_eq_true rfl) (flat_0 (by decide)) dX2_rankOf_20 ?_
      refine zr_icmp_ge (tgt := 79) hx hb dX2_rankOf_21 (by decide) (by omega) (by omega) (fun c_21 => absurd c_21 (by omega)) (fun c_21 => ?_)
      refine lv_iload hx hb dX2_rankOf_24 (lv_at hl 0 rfl) ?_
      refine lv_iload_n hx hb dX2_rankOf_26 rfl (lv_at hl 4 rfl) ?_
      refine zr_icmp_eq (tgt := 73) hx hb dX2_rankOf_27 (by decide) (by omega) (by omega) (fun c_27 => ?_) (fun c_27 => ?_)
      · have hl : lv_has ls 7 [(5, .int (zI (i : Int))), (4, .int (zI (sPrd g A B))), (3, .int (zI (sRk g A B (i + 1)))), (0, .ref (b 0)), (1, .int (zI (A : Int))), (2, .int (zI (B : Int)))] := by rw [show sRk g A B (i + 1) = sRk g A B i from by unfold sRk; rw [sm_succ, if_neg (by omega)]; omega]; exact hl
        refine zr_iinc (b := ((i + 1 : Nat) : Int)) (lv' := [(5, .int (zI ((i + 1 : Nat) : Int))), (4, .int (zI (sPrd g A B))), (3, .int (zI (sRk g A B (i + 1)))), (0, .ref (b 0)), (1, .int (zI (A : Int))), (2, .int (zI (B : Int)))]) hx hb dX2_rankOf_73 hl (k := 0) rfl (by omega) (by decide) rfl (fun ls hl => ?_)
        refine lv_goto (tgt := 13) hx hb dX2_rankOf_76 (by decide) ?_
        exact ih_loop (i + 1) (by omega) ls (lv_sub hl [0, 1, 2, 3, 4, 5] rfl)
      · refine lv_iload hx hb dX2_rankOf_30 (lv_at hl 0 rfl) ?_
        refine lv_iload_n hx hb dX2_rankOf_32 rfl (lv_at hl 5 rfl) ?_
        refine zr_icmp_eq (tgt := 73) hx hb dX2_rankOf_33 (by decide) (by omega) (by omega) (fun c_33 => ?_) (fun c_33 => ?_)
        · have hl : lv_has ls 7 [(5, .int (zI (i : Int))), (4, .int (zI (sPrd g A B))), (3, .int (zI (sRk g A B (i + 1)))), (0, .ref (b 0)), (1, .int (zI (A : Int))), (2, .int (zI (B : Int)))] := by rw [show sRk g A B (i + 1) = sRk g A B i from by unfold sRk; rw [sm_succ, if_neg (by omega)]; omega]; exact hl
          refine zr_iinc (b := ((i + 1 : Nat) : Int)) (lv' := [(5, .int (zI ((i + 1 : Nat) : Int))), (4, .int (zI (sPrd g A B))), (3, .int (zI (sRk g A B (i + 1)))), (0, .ref (b 0)), (1, .int (zI (A : Int))), (2, .int (zI (B : Int)))]) hx hb dX2_rankOf_73 hl (k := 0) rfl (by omega) (by decide) rfl (fun ls hl => ?_)
          refine lv_goto (tgt := 13) hx hb dX2_rankOf_76 (by decide) ?_
          exact ih_loop (i + 1) (by omega) ls (lv_sub hl [0, 1, 2, 3, 4, 5] rfl)
        · refine lv_aload_n hx hb dX2_rankOf_36 rfl (lv_at hl 3 rfl) ?_
          refine lv_iload_n hx hb dX2_rankOf_37 rfl (lv_at hl 4 rfl) ?_
          refine lv_iload hx hb dX2_rankOf_38 (lv_at hl 0 rfl) ?_
          refine rd_callV (As := [.int (zI (A : Int)), .int (zI (i : Int))]) (rest := []) ⟨hx, hb, hml, hown, hts⟩ (c_X2_predicted l dC dI cI cZ cS b g w S V o r hg A i (by omega) (by omega)  ) (cwV 2 hts gX2_rankOf_X2_predicted rfl rfl rfl (by decide +kernel) ⟨Nat.le_of_ble_eq_true rfl, Nat.le_of_ble_eq_true rfl⟩) hP hK 0 rfl rfl rfl hl.1 rfl (Nat.le_of_ble_eq_true rfl) dX2_rankOf_40 ⟨Nat.zero_le _, Nat.zero_le _⟩ ?_
          refine lv_istore (lv' := [(6, .int (zI (sPrd g A i))), (5, .int (zI (i : Int))), (4, .int (zI (sPrd g A B))), (3, .int (zI (sRk g A B i))), (0, .ref (b 0)), (1, .int (zI (A : Int))), (2, .int (zI (B : Int)))]) hx hb dX2_rankOf_43 hl (by decide) rfl (fun ls hl => ?_)
          refine lv_iload_n hx hb dX2_rankOf_45 rfl (lv_at hl 3 rfl) ?_
          refine lv_iload hx hb dX2_rankOf_46 (lv_at hl 0 rfl) ?_
          refine lv_iload hx hb dX2_rankOf_48 (lv_at hl 2 rfl) ?_
          refine zr_icmp_lt (tgt := 66) hx hb dX2_rankOf_50 (by decide) (by omega) (by omega) (fun c_50 => ?_) (fun c_50 => ?_)
          · refine zr_iconst hx hb dX2_rankOf_66 ?_
            refine lv_goto (tgt := 71) hx hb dX2_rankOf_67 (by decide) ?_
            refine zr_iadd hx hb dX2_rankOf_71 ?_
            refine zr_topI (sRk g A B (i + 1)) (by unfold sRk; rw [sm_succ, if_pos (by omega)]) ?_
            refine lv_istore_n (lv' := [(3, .int (zI (sRk g A B (i + 1)))), (6, .int (zI (sPrd g A i))), (5, .int (zI (i : Int))), (4, .int (zI (sPrd g A B))), (0, .ref (b 0)), (1, .int (zI (A : Int))), (2, .int (zI (B : Int)))]) hx hb dX2_rankOf_72 rfl hl (by decide) rfl (fun ls hl => ?_)
            refine zr_iinc (b := ((i + 1 : Nat) : Int)) (lv' := [(5, .int (zI ((i + 1 : Nat) : Int))), (3, .int (zI (sRk g A B (i + 1)))), (6, .int (zI (sPrd g A i))), (4, .int (zI (sPrd g A B))), (0, .ref (b 0)), (1, .int (zI (A : Int))), (2, .int (zI (B : Int)))]) hx hb dX2_rankOf_73 hl (k := 2) rfl (by omega) (by decide) rfl (fun ls hl => ?_)
            refine lv_goto (tgt := 13) hx hb dX2_rankOf_76 (by decide) ?_
            exact ih_loop (i + 1) (by omega) ls (lv_sub hl [0, 3, 1, 4, 5, 6] rfl)
          · refine lv_iload hx hb dX2_rankOf_53 (lv_at hl 0 rfl) ?_
            refine lv_iload hx hb dX2_rankOf_55 (lv_at hl 2 rfl) ?_
            refine zr_icmp_ne (tgt := 70) hx hb dX2_rankOf_57 (by decide) (by omega) (by omega) (fun c_57 => ?_) (fun c_57 => ?_)
            · refine zr_iconst hx hb dX2_rankOf_70 ?_
              refine zr_iadd hx hb dX2_rankOf_71 ?_
              refine zr_topI (sRk g A B (i + 1)) (by unfold sRk; rw [sm_succ, if_neg (by omega)]) ?_
              refine lv_istore_n (lv' := [(3, .int (zI (sRk g A B (i + 1)))), (6, .int (zI (sPrd g A i))), (5, .int (zI (i : Int))), (4, .int (zI (sPrd g A B))), (0, .ref (b 0)), (1, .int (zI (A : Int))), (2, .int (zI (B : Int)))]) hx hb dX2_rankOf_72 rfl hl (by decide) rfl (fun ls hl => ?_)
              refine zr_iinc (b := ((i + 1 : Nat) : Int)) (lv' := [(5, .int (zI ((i + 1 : Nat) : Int))), (3, .int (zI (sRk g A B (i + 1)))), (6, .int (zI (sPrd g A i))), (4, .int (zI (sPrd g A B))), (0, .ref (b 0)), (1, .int (zI (A : Int))), (2, .int (zI (B : Int)))]) hx hb dX2_rankOf_73 hl (k := 2) rfl (by omega) (by decide) rfl (fun ls hl => ?_)
              refine lv_goto (tgt := 13) hx hb dX2_rankOf_76 (by decide) ?_
              exact ih_loop (i + 1) (by omega) ls (lv_sub hl [0, 3, 1, 4, 5, 6] rfl)
            · refine lv_iload hx hb dX2_rankOf_60 (lv_at hl 1 rfl) ?_
              refine lv_iload_n hx hb dX2_rankOf_62 rfl (lv_at hl 6 rfl) ?_
              refine zr_icmp_ge (tgt := 70) hx hb dX2_rankOf_63 (by decide) (by omega) (by omega) (fun c_63 => ?_) (fun c_63 => ?_)
              · refine zr_iconst hx hb dX2_rankOf_70 ?_
                refine zr_iadd hx hb dX2_rankOf_71 ?_
                refine zr_topI (sRk g A B (i + 1)) (by unfold sRk; rw [sm_succ, if_neg (by omega)]) ?_
                refine lv_istore_n (lv' := [(3, .int (zI (sRk g A B (i + 1)))), (6, .int (zI (sPrd g A i))), (5, .int (zI (i : Int))), (4, .int (zI (sPrd g A B))), (0, .ref (b 0)), (1, .int (zI (A : Int))), (2, .int (zI (B : Int)))]) hx hb dX2_rankOf_72 rfl hl (by decide) rfl (fun ls hl => ?_)
                refine zr_iinc (b := ((i + 1 : Nat) : Int)) (lv' := [(5, .int (zI ((i + 1 : Nat) : Int))), (3, .int (zI (sRk g A B (i + 1)))), (6, .int (zI (sPrd g A i))), (4, .int (zI (sPrd g A B))), (0, .ref (b 0)), (1, .int (zI (A : Int))), (2, .int (zI (B : Int)))]) hx hb dX2_rankOf_73 hl (k := 2) rfl (by omega) (by decide) rfl (fun ls hl => ?_)
                refine lv_goto (tgt := 13) hx hb dX2_rankOf_76 (by decide) ?_
                exact ih_loop (i + 1) (by omega) ls (lv_sub hl [0, 3, 1, 4, 5, 6] rfl)
              · refine zr_iconst hx hb dX2_rankOf_66 ?_
                refine lv_goto (tgt := 71) hx hb dX2_rankOf_67 (by decide) ?_
                refine zr_iadd hx hb dX2_rankOf_71 ?_
                refine zr_topI (sRk g A B (i + 1)) (by unfold sRk; rw [sm_succ, if_pos (by omega)]) ?_
                refine lv_istore_n (lv' := [(3, .int (zI (sRk g A B (i + 1)))), (6, .int (zI (sPrd g A i))), (5, .int (zI (i : Int))), (4, .int (zI (sPrd g A B))), (0, .ref (b 0)), (1, .int (zI (A : Int))), (2, .int (zI (B : Int)))]) hx hb dX2_rankOf_72 rfl hl (by decide) rfl (fun ls hl => ?_)
                refine zr_iinc (b := ((i + 1 : Nat) : Int)) (lv' := [(5, .int (zI ((i + 1 : Nat) : Int))), (3, .int (zI (sRk g A B (i + 1)))), (6, .int (zI (sPrd g A i))), (4, .int (zI (sPrd g A B))), (0, .ref (b 0)), (1, .int (zI (A : Int))), (2, .int (zI (B : Int)))]) hx hb dX2_rankOf_73 hl (k := 2) rfl (by omega) (by decide) rfl (fun ls hl => ?_)
                refine lv_goto (tgt := 13) hx hb dX2_rankOf_76 (by decide) ?_
                exact ih_loop (i + 1) (by omega) ls (lv_sub hl [0, 3, 1, 4, 5, 6] rfl)
  exact loop (gN g) 0 (by omega) ls (lv_sub hl [0, 1, 2, 3, 4, 5] rfl)
set_option maxHeartbeats 4000000 in
set_option maxRecDepth 100000 in
/-- nearest -/
theorem c_X2_nearest (l : Launch) (dC : Nat → ClassId) (dI : Nat → Nat → Nat) (cI cZ cS : ClassId) (b : Nat → Nat) (g : Nat → Nat → Int) (w S V o : Nat → Int) (r : Int) (hg : gB g r) (u : Int) (hu : -2147483648 ≤ u ∧ u ≤ 2147483647) (k : Int) (hk : -2147483648 ≤ k ∧ k ≤ 2147483647) : Met l yX2_nearest wsX2_nearest ({ frames := 4, cells := 0, slots := 0, locals := 98 } : Room) (rd_Pc dC dI cI cZ cS (mdw cI cZ b g w S V o) [.ref (b 0), .int (zI u), .int (zI k)]) (rd_Qc (some (.int (zI (aNear u g u k))))) 0 0 nf := by
  refine rd_met (cc := cX2_nearest) (maxL := 5) (ret := (some .int)) (by decide) rfl (Nat.le_of_ble_eq_true rfl) ?_
  intro p e s m below meth c ls hx hb hml hr hlocks hts hown hP hK hl
  have hl : lv_has ls 5 [(0, .ref (b 0)), (1, .int (zI u)), (2, .int (zI k))] := hl
  have hinX2 : ∀ w ∈ u_ws RX2 TX2 11, w ∈ wsX2_nearest := by decide +kernel
  have f_7 := hts (.fieldLink RX2 7 "NetworkCoordinatesModel" "state" "[I") (by decide +kernel)
  have k_35 := hts (.constant RX2 35 (-1000002)) (by decide +kernel)
  have k_40 := hts (.constant RX2 40 (-1000001)) (by decide +kernel)
  have b0 := hg.1
  have hN := gN_eq hg
  refine lv_aload_n hx hb dX2_nearest_0 rfl (lv_at hl 0 rfl) ?_
  refine lv_iload_n hx hb dX2_nearest_1 rfl (lv_at hl 1 rfl) ?_
  refine rd_callV (As := [.int (zI u)]) (rest := []) ⟨hx, hb, hml, hown, hts⟩ (c_X2_isNode l dC dI cI cZ cS b g w S V o r hg   u (by omega) ) (cwV 1 hts gX2_nearest_X2_isNode rfl rfl rfl (by decide +kernel) ⟨Nat.le_of_ble_eq_true rfl, Nat.le_of_ble_eq_true rfl⟩) hP hK 0 rfl rfl rfl hl.1 rfl (Nat.le_of_ble_eq_true rfl) dX2_nearest_2 ⟨Nat.zero_le _, Nat.zero_le _⟩ ?_
  refine zr_bif_ne (tgt := 11) hx hb dX2_nearest_5 (by decide) (fun c_5 => ?_) (fun c_5 => ?_)
  · refine lv_iload_n hx hb dX2_nearest_11 rfl (lv_at hl 2 rfl) ?_
    refine zr_iconst hx hb dX2_nearest_12 ?_
    refine lv_aload_n hx hb dX2_nearest_13 rfl (lv_at hl 0 rfl) ?_
    refine va_get (D := (dC, dI)) (ci := 2) (v := .ref (b 1)) (C := RX2) (T := TX2) (N := 11) hx hb hts hinX2 hown hK.1 hP 0 rfl rfl 0 (by decide) f_7 (fun _ h9 => h9) rfl dX2_nearest_14 ?_
    refine zr_iconst hx hb dX2_nearest_17 ?_
    refine zr_iald hx hb hK.1 hP 1 0 rfl rfl 0 (g 0 0) (by omega) (by omega) (Nat.le_of_ble_eq_true rfl) (flat_0 (by decide)) dX2_nearest_18 ?_
    refine zr_iconst hx hb dX2_nearest_19 ?_
    refine zr_isub hx hb dX2_nearest_20 ?_
    refine rd_callS (As := [.int (zI k), .int (zI 0), .int (zI (g 0 0 - 2))]) (rest := []) ⟨hx, hb, hml, hown, hts⟩ (c_X2_in l dC dI cI cZ cS k 0 (g 0 0 - 2) (by omega) (by omega) (by omega)) (va_cwS 3 hts gX2_nearest_X2_in rfl rfl rfl (by decide +kernel) ⟨Nat.le_of_ble_eq_true rfl, Nat.le_of_ble_eq_true rfl⟩) va_P_nil hK rfl hl.1 rfl (Nat.le_of_ble_eq_true rfl) dX2_nearest_21 ⟨Nat.zero_le _, Nat.zero_le _⟩ ?_
    refine zr_bif_ne (tgt := 30) hx hb dX2_nearest_24 (by decide) (fun c_24 => ?_) (fun c_24 => ?_)
    · obtain ⟨A, rfl⟩ : ∃ A : Nat, u = (A : Int) := ⟨u.toNat, by omega⟩
      have eA : ((A : Nat) : Int).toNat = A := by omega
      refine lv_iload_n hx hb dX2_nearest_30 rfl (lv_at hl 1 rfl) ?_
      refine lv_istore_n (lv' := [(3, .int (zI (A : Int))), (0, .ref (b 0)), (1, .int (zI (A : Int))), (2, .int (zI k))]) hx hb dX2_nearest_31 rfl hl (by decide) rfl (fun ls hl => ?_)
      refine zr_iconst hx hb dX2_nearest_32 ?_
      refine lv_istore (lv' := [(4, .int (zI 0)), (3, .int (zI (A : Int))), (0, .ref (b 0)), (1, .int (zI (A : Int))), (2, .int (zI k))]) hx hb dX2_nearest_33 hl (by decide) rfl (fun ls hl => ?_)
      have loop : ∀ (k_loop i : Nat), i + k_loop = gN g → ∀ ls : Array Slot, lv_has ls 5 [(4, .int (zI (i : Int))), (3, .int (zI (sNr g A k (A : Int) i))), (0, .ref (b 0)), (1, .int (zI (A : Int))), (2, .int (zI k))] → W p l e ({ frames := 4, cells := 0, slots := 0, locals := 98 } : Room) s m [.ref (b 0), .int (zI (A : Int)), .int (zI k)].toArray below meth c s.heap [] 0 0 (MQ below (rd_Qc (some (.int (zI (aNear (A : Int) g (A : Int) k))))) [.ref (b 0), .int (zI (A : Int)), .int (zI k)].toArray s 0 0 nf) (F0 m 35 ls []) := by
        intro k_loop
        induction k_loop with
        | zero =>
          intro i hi ls hl
          refine lv_iload hx hb dX2_nearest_35 (lv_at hl 0 rfl) ?_
          refine lv_aload_n hx hb dX2_nearest_37 rfl (lv_at hl 2 rfl) ?_
          refine va_get (D := (dC, dI)) (ci := 2) (v := .ref (b 1)) (C := RX2) (T := TX2) (N := 11) hx hb hts hinX2 hown hK.1 hP 0 rfl rfl 0 (by decide) f_7 (fun _ h9 => h9) rfl dX2_nearest_38 ?_
          refine zr_iconst hx hb dX2_nearest_41 ?_
          refine zr_iald hx hb hK.1 hP 1 0 rfl rfl 0 (g 0 0) (by omega) (by omega) (Nat.le_of_ble_eq_true rfl) (flat_0 (by decide)) dX2_nearest_42 ?_
          refine zr_icmp_ge (tgt := 76) hx hb dX2_nearest_43 (by decide) (by omega) (by omega) (fun c_43 => ?_) (fun c_43 => absurd c_43 (by omega))
          refine lv_iload_n hx hb dX2_nearest_76 rfl (lv_at hl 1 rfl) ?_
          exact rd_iret hx hb hr hlocks (by unfold aNear; rw [if_pos c_5, if_pos c_24, eA, show i = gN g by omega]) dX2_nearest_77
        | succ k_loop ih_loop =>
          intro i hi ls hl
          have s2 := sRk_bd (g := g) (a := A) (b := i) hN.2.2
          refine lv_iload hx hb dX2_nearest_35 (lv_at hl 0 rfl) ?_
          refine lv_aload_n hx hb dX2_nearest_37 rfl (lv_at hl 2 rfl) ?_
          refine va_get (D := (dC, dI)) (ci := 2) (v := .ref (b 1)) (C := RX2) (T := TX2) (N := 11) hx hb hts hinX2 hown hK.1 hP 0 rfl rfl 0 (by decide) f_7 (fun _ h9 => h9) rfl dX2_nearest_38 ?_
          refine zr_iconst hx hb dX2_nearest_41 ?_
          refine zr_iald hx hb hK.1 hP 1 0 rfl rfl 0 (g 0 0) (by omega) (by omega) (Nat.le_of_ble_eq_true rfl) (flat_0 (by decide)) dX2_nearest_42 ?_
          refine zr_icmp_ge (tgt := 76) hx hb dX2_nearest_43 (by decide) (by omega) (by omega) (fun c_43 => absurd c_43 (by omega)) (fun c_43 => ?_)
          refine lv_iload hx hb dX2_nearest_46 (lv_at hl 0 rfl) ?_
          refine lv_iload_n hx hb dX2_nearest_48 rfl (lv_at hl 3 rfl) ?_
          refine zr_icmp_eq (tgt := 68) hx hb dX2_nearest_49 (by decide) (by omega) (by omega) (fun c_49 => ?_) (fun c_49 => ?_)
          · refine lv_iload_n hx hb dX2_nearest_68 rfl (lv_at hl 1 rfl) ?_
            refine zr_topI (sNr g A k (A : Int) (i + 1)) (if_neg (c := i ≠ A ∧ sRk g A i (gN g) = k) (by omega)).symm ?_
            refine lv_istore_n (lv' := [(3, .int (zI (sNr g A k (A : Int) (i + 1)))), (4, .int (zI (i : Int))), (0, .ref (b 0)), (1, .int (zI (A : Int))), (2, .int (zI k))]) hx hb dX2_nearest_69 rfl hl (by decide) rfl (fun ls hl => ?_)
            refine zr_iinc (b := ((i + 1 : Nat) : Int)) (lv' := [(4, .int (zI ((i + 1 : Nat) : Int))), (3, .int (zI (sNr g A k (A : Int) (i + 1)))), (0, .ref (b 0)), (1, .int (zI (A : Int))), (2, .int (zI k))]) hx hb dX2_nearest_70 hl (k := 1) rfl (by omega) (by decide) rfl (fun ls hl => ?_)
            refine lv_goto (tgt := 35) hx hb dX2_nearest_73 (by decide) ?_
            exact ih_loop (i + 1) (by omega) ls (lv_sub hl [0, 1, 2, 3, 4] rfl)
          · refine lv_aload_n hx hb dX2_nearest_52 rfl (lv_at hl 2 rfl) ?_
            refine lv_iload_n hx hb dX2_nearest_53 rfl (lv_at hl 3 rfl) ?_
            refine lv_iload hx hb dX2_nearest_54 (lv_at hl 0 rfl) ?_
            refine rd_callV (As := [.int (zI (A : Int)), .int (zI (i : Int))]) (rest := []) ⟨hx, hb, hml, hown, hts⟩ (c_X2_rankOf l dC dI cI cZ cS b g w S V o r hg A i (by omega) (by omega)  ) (cwV 2 hts gX2_nearest_X2_rankOf rfl rfl rfl (by decide +kernel) ⟨Nat.le_of_ble_eq_true rfl, Nat.le_of_ble_eq_true rfl⟩) hP hK 0 rfl rfl rfl hl.1 rfl (Nat.le_of_ble_eq_true rfl) dX2_nearest_56 ⟨Nat.zero_le _, Nat.zero_le _⟩ ?_
            refine lv_iload_n hx hb dX2_nearest_59 rfl (lv_at hl 4 rfl) ?_
            refine zr_icmp_ne (tgt := 68) hx hb dX2_nearest_60 (by decide) (by omega) (by omega) (fun c_60 => ?_) (fun c_60 => ?_)
            · refine lv_iload_n hx hb dX2_nearest_68 rfl (lv_at hl 1 rfl) ?_
              refine zr_topI (sNr g A k (A : Int) (i + 1)) (if_neg (c := i ≠ A ∧ sRk g A i (gN g) = k) (by omega)).symm ?_
              refine lv_istore_n (lv' := [(3, .int (zI (sNr g A k (A : Int) (i + 1)))), (4, .int (zI (i : Int))), (0, .ref (b 0)), (1, .int (zI (A : Int))), (2, .int (zI k))]) hx hb dX2_nearest_69 rfl hl (by decide) rfl (fun ls hl => ?_)
              refine zr_iinc (b := ((i + 1 : Nat) : Int)) (lv' := [(4, .int (zI ((i + 1 : Nat) : Int))), (3, .int (zI (sNr g A k (A : Int) (i + 1)))), (0, .ref (b 0)), (1, .int (zI (A : Int))), (2, .int (zI k))]) hx hb dX2_nearest_70 hl (k := 1) rfl (by omega) (by decide) rfl (fun ls hl => ?_)
              refine lv_goto (tgt := 35) hx hb dX2_nearest_73 (by decide) ?_
              exact ih_loop (i + 1) (by omega) ls (lv_sub hl [0, 1, 2, 3, 4] rfl)
            · refine lv_iload hx hb dX2_nearest_63 (lv_at hl 0 rfl) ?_
              refine lv_goto (tgt := 69) hx hb dX2_nearest_65 (by decide) ?_
              refine zr_topI (sNr g A k (A : Int) (i + 1)) (if_pos (c := i ≠ A ∧ sRk g A i (gN g) = k) (by omega)).symm ?_
              refine lv_istore_n (lv' := [(3, .int (zI (sNr g A k (A : Int) (i + 1)))), (4, .int (zI (i : Int))), (0, .ref (b 0)), (1, .int (zI (A : Int))), (2, .int (zI k))]) hx hb dX2_nearest_69 rfl hl (by decide) rfl (fun ls hl => ?_)
              refine zr_iinc (b := ((i + 1 : Nat) : Int)) (lv' := [(4, .int (zI ((i + 1 : Nat) : Int))), (3, .int (zI (sNr g A k (A : Int) (i + 1)))), (0, .ref (b 0)), (1, .int (zI (A : Int))), (2, .int (zI k))]) hx hb dX2_nearest_70 hl (k := 1) rfl (by omega) (by decide) rfl (fun ls hl => ?_)
              refine lv_goto (tgt := 35) hx hb dX2_nearest_73 (by decide) ?_
              exact ih_loop (i + 1) (by omega) ls (lv_sub hl [0, 1, 2, 3, 4] rfl)
      exact loop (gN g) 0 (by omega) ls (lv_sub hl [0, 1, 2, 3, 4] rfl)
    · refine zr_ldc hx hb (-1000002) hown k_35 (by decide) dX2_nearest_27 ?_
      exact rd_iret hx hb hr hlocks (by unfold aNear; rw [if_pos c_5, if_neg c_24]) dX2_nearest_29
  · refine zr_ldc hx hb (-1000001) hown k_40 (by decide) dX2_nearest_8 ?_
    exact rd_iret hx hb hr hlocks (by unfold aNear; rw [if_neg c_5]) dX2_nearest_10
set_option maxHeartbeats 4000000 in
set_option maxRecDepth 100000 in
/-- relay -/
theorem c_X2_relay (l : Launch) (dC : Nat → ClassId) (dI : Nat → Nat → Nat) (cI cZ cS : ClassId) (b : Nat → Nat) (g : Nat → Nat → Int) (w S V o : Nat → Int) (r : Int) (hg : gB g r) (u : Int) (hu : -2147483648 ≤ u ∧ u ≤ 2147483647) (v : Int) (hv : -2147483648 ≤ v ∧ v ≤ 2147483647) : Met l yX2_relay wsX2_relay ({ frames := 3, cells := 0, slots := 0, locals := 72 } : Room) (rd_Pc dC dI cI cZ cS (mdw cI cZ b g w S V o) [.ref (b 0), .int (zI u), .int (zI v)]) (rd_Qc (some (.int (zI (aRelayM g u v))))) 0 0 nf := by
  refine rd_met (cc := cX2_relay) (maxL := 8) (ret := (some .int)) (by decide) rfl (Nat.le_of_ble_eq_true rfl) ?_
  intro p e s m below meth c ls hx hb hml hr hlocks hts hown hP hK hl
  have hl : lv_has ls 8 [(0, .ref (b 0)), (1, .int (zI u)), (2, .int (zI v))] := hl
  have hinX2 : ∀ w ∈ u_ws RX2 TX2 11, w ∈ wsX2_relay := by decide +kernel
  have k_111 := hts (.constant RX2 111 (-1000005)) (by decide +kernel)
  have f_7 := hts (.fieldLink RX2 7 "NetworkCoordinatesModel" "state" "[I") (by decide +kernel)
  have b0 := hg.1
  have hN := gN_eq hg
  have s0 := sPf_rng g u v
  refine lv_aload_n hx hb dX2_relay_0 rfl (lv_at hl 0 rfl) ?_
  refine lv_iload_n hx hb dX2_relay_1 rfl (lv_at hl 1 rfl) ?_
  refine lv_iload_n hx hb dX2_relay_2 rfl (lv_at hl 2 rfl) ?_
  refine rd_callV (As := [.int (zI u), .int (zI v)]) (rest := []) ⟨hx, hb, hml, hown, hts⟩ (c_X2_wrongPair l dC dI cI cZ cS b g w S V o r hg   u (by omega) v (by omega) ) (cwV 2 hts gX2_relay_X2_wrongPair rfl rfl rfl (by decide +kernel) ⟨Nat.le_of_ble_eq_true rfl, Nat.le_of_ble_eq_true rfl⟩) hP hK 0 rfl rfl rfl hl.1 rfl (Nat.le_of_ble_eq_true rfl) dX2_relay_3 ⟨Nat.zero_le _, Nat.zero_le _⟩ ?_
  refine lv_istore_n (lv' := [(3, .int (zI (sPf g u v))), (0, .ref (b 0)), (1, .int (zI u)), (2, .int (zI v))]) hx hb dX2_relay_6 rfl hl (by decide) rfl (fun ls hl => ?_)
  refine lv_iload_n hx hb dX2_relay_7 rfl (lv_at hl 0 rfl) ?_
  refine zr_if_eq (tgt := 13) hx hb dX2_relay_8 (by decide) (by omega) (fun c_8 => ?_) (fun c_8 => ?_)
  · obtain ⟨A, B, rfl, rfl, hA2, hB2, hA, hB, hAB, eA, eB⟩ := z_nodes hg c_8
    have kAB := hg.2.2 A B hA hB
    refine zr_ldc hx hb (-1000005) hown k_111 (by decide) dX2_relay_13 ?_
    refine lv_istore (lv' := [(4, .int (zI (-1000005))), (3, .int (zI (sPf g (A : Int) (B : Int)))), (0, .ref (b 0)), (1, .int (zI (A : Int))), (2, .int (zI (B : Int)))]) hx hb dX2_relay_15 hl (by decide) rfl (fun ls hl => ?_)
    refine zr_iconst hx hb dX2_relay_17 ?_
    refine lv_istore (lv' := [(5, .int (zI 0)), (4, .int (zI (-1000005))), (3, .int (zI (sPf g (A : Int) (B : Int)))), (0, .ref (b 0)), (1, .int (zI (A : Int))), (2, .int (zI (B : Int)))]) hx hb dX2_relay_18 hl (by decide) rfl (fun ls hl => ?_)
    refine zr_iconst hx hb dX2_relay_20 ?_
    refine lv_istore (lv' := [(6, .int (zI 0)), (5, .int (zI 0)), (4, .int (zI (-1000005))), (3, .int (zI (sPf g (A : Int) (B : Int)))), (0, .ref (b 0)), (1, .int (zI (A : Int))), (2, .int (zI (B : Int)))]) hx hb dX2_relay_21 hl (by decide) rfl (fun ls hl => ?_)
    have loop : ∀ (k_loop i : Nat), i + k_loop = gN g → ∀ ls : Array Slot, lv_has ls 8 [(6, .int (zI (i : Int))), (5, .int (zI ((sRm g A B i).2))), (4, .int (zI ((sRm g A B i).1))), (0, .ref (b 0)), (1, .int (zI (A : Int))), (2, .int (zI (B : Int)))] → W p l e ({ frames := 3, cells := 0, slots := 0, locals := 72 } : Room) s m [.ref (b 0), .int (zI (A : Int)), .int (zI (B : Int))].toArray below meth c s.heap [] 0 0 (MQ below (rd_Qc (some (.int (zI (aRelayM g (A : Int) (B : Int)))))) [.ref (b 0), .int (zI (A : Int)), .int (zI (B : Int))].toArray s 0 0 nf) (F0 m 23 ls []) := by
      intro k_loop
      induction k_loop with
      | zero =>
        intro i hi ls hl
        refine lv_iload hx hb dX2_relay_23 (lv_at hl 0 rfl) ?_
        refine lv_aload_n hx hb dX2_relay_25 rfl (lv_at hl 3 rfl) ?_
        refine va_get (D := (dC, dI)) (ci := 2) (v := .ref (b 1)) (C := RX2) (T := TX2) (N := 11) hx hb hts hinX2 hown hK.1 hP 0 rfl rfl 0 (by decide) f_7 (fun _ h9 => h9) rfl dX2_relay_26 ?_
        refine zr_iconst hx hb dX2_relay_29 ?_
        refine zr_iald hx hb hK.1 hP 1 0 rfl rfl 0 (g 0 0) (by omega) (by omega) (Nat.le_of_ble_eq_true rfl) (flat_0 (by decide)) dX2_relay_30 ?_
        refine zr_icmp_ge (tgt := 89) hx hb dX2_relay_31 (by decide) (by omega) (by omega) (fun c_31 => ?_) (fun c_31 => absurd c_31 (by omega))
        refine lv_iload hx hb dX2_relay_89 (lv_at hl 2 rfl) ?_
        exact rd_iret hx hb hr hlocks (by unfold aRelayM; rw [if_pos c_8, eA, eB, show i = gN g by omega]) dX2_relay_91
      | succ k_loop ih_loop =>
        intro i hi ls hl
        have s1 := sWay_bd hg hA hB (show i < 10 by omega)
        have s2 := sRm_bd hg hA hB i (by omega)
        refine lv_iload hx hb dX2_relay_23 (lv_at hl 0 rfl) ?_
        refine lv_aload_n hx hb dX2_relay_25 rfl (lv_at hl 3 rfl) ?_
        refine va_get (D := (dC, dI)) (ci := 2) (v := .ref (b 1)) (C := RX2) (T := TX2) (N := 11) hx hb hts hinX2 hown hK.1 hP 0 rfl rfl 0 (by decide) f_7 (fun _ h9 => h9) rfl dX2_relay_26 ?_
        refine zr_iconst hx hb dX2_relay_29 ?_
        refine zr_iald hx hb hK.1 hP 1 0 rfl rfl 0 (g 0 0) (by omega) (by omega) (Nat.le_of_ble_eq_true rfl) (flat_0 (by decide)) dX2_relay_30 ?_
        refine zr_icmp_ge (tgt := 89) hx hb dX2_relay_31 (by decide) (by omega) (by omega) (fun c_31 => absurd c_31 (by omega)) (fun c_31 => ?_)
        refine lv_iload hx hb dX2_relay_34 (lv_at hl 0 rfl) ?_
        refine lv_iload_n hx hb dX2_relay_36 rfl (lv_at hl 4 rfl) ?_
        refine zr_icmp_eq (tgt := 83) hx hb dX2_relay_37 (by decide) (by omega) (by omega) (fun c_37 => ?_) (fun c_37 => ?_)
        · have e1 : sRm g A B (i + 1) = sRm g A B i := by rw [show sRm g A B (i + 1) = (if i ≠ A ∧ i ≠ B ∧ ((sRm g A B i).1 < 0 ∨ sWay g A B i < (sRm g A B i).2) then ((i : Int), sWay g A B i) else sRm g A B i) from rfl]; exact if_neg (by omega)
          have hl : lv_has ls 8 [(6, .int (zI (i : Int))), (5, .int (zI ((sRm g A B (i + 1)).2))), (4, .int (zI ((sRm g A B (i + 1)).1))), (0, .ref (b 0)), (1, .int (zI (A : Int))), (2, .int (zI (B : Int)))] := by rw [e1]; exact hl
          refine zr_iinc (b := ((i + 1 : Nat) : Int)) (lv' := [(6, .int (zI ((i + 1 : Nat) : Int))), (5, .int (zI ((sRm g A B (i + 1)).2))), (4, .int (zI ((sRm g A B (i + 1)).1))), (0, .ref (b 0)), (1, .int (zI (A : Int))), (2, .int (zI (B : Int)))]) hx hb dX2_relay_83 hl (k := 0) rfl (by omega) (by decide) rfl (fun ls hl => ?_)
          refine lv_goto (tgt := 23) hx hb dX2_relay_86 (by decide) ?_
          exact ih_loop (i + 1) (by omega) ls (lv_sub hl [0, 1, 2, 3, 4, 5] rfl)
        · refine lv_iload hx hb dX2_relay_40 (lv_at hl 0 rfl) ?_
          refine lv_iload_n hx hb dX2_relay_42 rfl (lv_at hl 5 rfl) ?_
          refine zr_icmp_eq (tgt := 83) hx hb dX2_relay_43 (by decide) (by omega) (by omega) (fun c_43 => ?_) (fun c_43 => ?_)
          · have e1 : sRm g A B (i + 1) = sRm g A B i := by rw [show sRm g A B (i + 1) = (if i ≠ A ∧ i ≠ B ∧ ((sRm g A B i).1 < 0 ∨ sWay g A B i < (sRm g A B i).2) then ((i : Int), sWay g A B i) else sRm g A B i) from rfl]; exact if_neg (by omega)
            have hl : lv_has ls 8 [(6, .int (zI (i : Int))), (5, .int (zI ((sRm g A B (i + 1)).2))), (4, .int (zI ((sRm g A B (i + 1)).1))), (0, .ref (b 0)), (1, .int (zI (A : Int))), (2, .int (zI (B : Int)))] := by rw [e1]; exact hl
            refine zr_iinc (b := ((i + 1 : Nat) : Int)) (lv' := [(6, .int (zI ((i + 1 : Nat) : Int))), (5, .int (zI ((sRm g A B (i + 1)).2))), (4, .int (zI ((sRm g A B (i + 1)).1))), (0, .ref (b 0)), (1, .int (zI (A : Int))), (2, .int (zI (B : Int)))]) hx hb dX2_relay_83 hl (k := 0) rfl (by omega) (by decide) rfl (fun ls hl => ?_)
            refine lv_goto (tgt := 23) hx hb dX2_relay_86 (by decide) ?_
            exact ih_loop (i + 1) (by omega) ls (lv_sub hl [0, 1, 2, 3, 4, 5] rfl)
          · refine lv_aload_n hx hb dX2_relay_46 rfl (lv_at hl 3 rfl) ?_
            refine lv_iload_n hx hb dX2_relay_47 rfl (lv_at hl 4 rfl) ?_
            refine lv_iload hx hb dX2_relay_48 (lv_at hl 0 rfl) ?_
            refine rd_callV (As := [.int (zI (A : Int)), .int (zI (i : Int))]) (rest := []) ⟨hx, hb, hml, hown, hts⟩ (c_X2_predicted l dC dI cI cZ cS b g w S V o r hg A i (by omega) (by omega)  ) (cwV 2 hts gX2_relay_X2_predicted rfl rfl rfl (by decide +kernel) ⟨Nat.le_of_ble_eq_true rfl, Nat.le_of_ble_eq_true rfl⟩) hP hK 0 rfl rfl rfl hl.1 rfl (Nat.le_of_ble_eq_true rfl) dX2_relay_50 ⟨Nat.zero_le _, Nat.zero_le _⟩ ?_
            refine lv_aload_n hx hb dX2_relay_53 rfl (lv_at hl 3 rfl) ?_
            refine lv_iload hx hb dX2_relay_54 (lv_at hl 0 rfl) ?_
            refine lv_iload_n hx hb dX2_relay_56 rfl (lv_at hl 5 rfl) ?_
            refine rd_callV (As := [.int (zI (i : Int)), .int (zI (B : Int))]) (rest := [.int (zI (sPrd g A i))]) ⟨hx, hb, hml, hown, hts⟩ (c_X2_predicted l dC dI cI cZ cS b g w S V o r hg i B (by omega) (by omega)  ) (cwV 2 hts gX2_relay_X2_predicted rfl rfl rfl (by decide +kernel) ⟨Nat.le_of_ble_eq_true rfl, Nat.le_of_ble_eq_true rfl⟩) hP hK 0 rfl rfl rfl hl.1 rfl (Nat.le_of_ble_eq_true rfl) dX2_relay_57 ⟨Nat.zero_le _, Nat.zero_le _⟩ ?_
            refine zr_iadd hx hb dX2_relay_60 ?_
            refine zr_topI (sWay g A B i) rfl ?_
            refine lv_istore (lv' := [(7, .int (zI (sWay g A B i))), (6, .int (zI (i : Int))), (5, .int (zI ((sRm g A B i).2))), (4, .int (zI ((sRm g A B i).1))), (0, .ref (b 0)), (1, .int (zI (A : Int))), (2, .int (zI (B : Int)))]) hx hb dX2_relay_61 hl (by decide) rfl (fun ls hl => ?_)
            refine lv_iload hx hb dX2_relay_63 (lv_at hl 3 rfl) ?_
            refine zr_if_lt (tgt := 75) hx hb dX2_relay_65 (by decide) (by omega) (fun c_65 => ?_) (fun c_65 => ?_)
            · have e1 : sRm g A B (i + 1) = ((i : Int), sWay g A B i) := by rw [show sRm g A B (i + 1) = (if i ≠ A ∧ i ≠ B ∧ ((sRm g A B i).1 < 0 ∨ sWay g A B i < (sRm g A B i).2) then ((i : Int), sWay g A B i) else sRm g A B i) from rfl]; exact if_pos (by omega)
              refine lv_iload hx hb dX2_relay_75 (lv_at hl 1 rfl) ?_
              refine zr_topI ((sRm g A B (i + 1)).1) (by rw [e1]) ?_
              refine lv_istore (lv' := [(4, .int (zI ((sRm g A B (i + 1)).1))), (7, .int (zI (sWay g A B i))), (6, .int (zI (i : Int))), (5, .int (zI ((sRm g A B i).2))), (0, .ref (b 0)), (1, .int (zI (A : Int))), (2, .int (zI (B : Int)))]) hx hb dX2_relay_77 hl (by decide) rfl (fun ls hl => ?_)
              refine lv_iload hx hb dX2_relay_79 (lv_at hl 1 rfl) ?_
              refine zr_topI ((sRm g A B (i + 1)).2) (by rw [e1]) ?_
              refine lv_istore (lv' := [(5, .int (zI ((sRm g A B (i + 1)).2))), (4, .int (zI ((sRm g A B (i + 1)).1))), (7, .int (zI (sWay g A B i))), (6, .int (zI (i : Int))), (0, .ref (b 0)), (1, .int (zI (A : Int))), (2, .int (zI (B : Int)))]) hx hb dX2_relay_81 hl (by decide) rfl (fun ls hl => ?_)
              refine zr_iinc (b := ((i + 1 : Nat) : Int)) (lv' := [(6, .int (zI ((i + 1 : Nat) : Int))), (5, .int (zI ((sRm g A B (i + 1)).2))), (4, .int (zI ((sRm g A B (i + 1)).1))), (7, .int (zI (sWay g A B i))), (0, .ref (b 0)), (1, .int (zI (A : Int))), (2, .int (zI (B : Int)))]) hx hb dX2_relay_83 hl (k := 3) rfl (by omega) (by decide) rfl (fun ls hl => ?_)
              refine lv_goto (tgt := 23) hx hb dX2_relay_86 (by decide) ?_
              exact ih_loop (i + 1) (by omega) ls (lv_sub hl [0, 1, 2, 4, 5, 6] rfl)
            · refine lv_iload hx hb dX2_relay_68 (lv_at hl 0 rfl) ?_
              refine lv_iload hx hb dX2_relay_70 (lv_at hl 2 rfl) ?_
              refine zr_icmp_ge (tgt := 83) hx hb dX2_relay_72 (by decide) (by omega) (by omega) (fun c_72 => ?_) (fun c_72 => ?_)
              · have e1 : sRm g A B (i + 1) = sRm g A B i := by rw [show sRm g A B (i + 1) = (if i ≠ A ∧ i ≠ B ∧ ((sRm g A B i).1 < 0 ∨ sWay g A B i < (sRm g A B i).2) then ((i : Int), sWay g A B i) else sRm g A B i) from rfl]; exact if_neg (by omega)
                have hl : lv_has ls 8 [(7, .int (zI (sWay g A B i))), (6, .int (zI (i : Int))), (5, .int (zI ((sRm g A B (i + 1)).2))), (4, .int (zI ((sRm g A B (i + 1)).1))), (0, .ref (b 0)), (1, .int (zI (A : Int))), (2, .int (zI (B : Int)))] := by rw [e1]; exact hl
                refine zr_iinc (b := ((i + 1 : Nat) : Int)) (lv' := [(6, .int (zI ((i + 1 : Nat) : Int))), (7, .int (zI (sWay g A B i))), (5, .int (zI ((sRm g A B (i + 1)).2))), (4, .int (zI ((sRm g A B (i + 1)).1))), (0, .ref (b 0)), (1, .int (zI (A : Int))), (2, .int (zI (B : Int)))]) hx hb dX2_relay_83 hl (k := 1) rfl (by omega) (by decide) rfl (fun ls hl => ?_)
                refine lv_goto (tgt := 23) hx hb dX2_relay_86 (by decide) ?_
                exact ih_loop (i + 1) (by omega) ls (lv_sub hl [0, 2, 3, 4, 5, 6] rfl)
              · have e1 : sRm g A B (i + 1) = ((i : Int), sWay g A B i) := by rw [show sRm g A B (i + 1) = (if i ≠ A ∧ i ≠ B ∧ ((sRm g A B i).1 < 0 ∨ sWay g A B i < (sRm g A B i).2) then ((i : Int), sWay g A B i) else sRm g A B i) from rfl]; exact if_pos (by omega)
                refine lv_iload hx hb dX2_relay_75 (lv_at hl 1 rfl) ?_
                refine zr_topI ((sRm g A B (i + 1)).1) (by rw [e1]) ?_
                refine lv_istore (lv' := [(4, .int (zI ((sRm g A B (i + 1)).1))), (7, .int (zI (sWay g A B i))), (6, .int (zI (i : Int))), (5, .int (zI ((sRm g A B i).2))), (0, .ref (b 0)), (1, .int (zI (A : Int))), (2, .int (zI (B : Int)))]) hx hb dX2_relay_77 hl (by decide) rfl (fun ls hl => ?_)
                refine lv_iload hx hb dX2_relay_79 (lv_at hl 1 rfl) ?_
                refine zr_topI ((sRm g A B (i + 1)).2) (by rw [e1]) ?_
                refine lv_istore (lv' := [(5, .int (zI ((sRm g A B (i + 1)).2))), (4, .int (zI ((sRm g A B (i + 1)).1))), (7, .int (zI (sWay g A B i))), (6, .int (zI (i : Int))), (0, .ref (b 0)), (1, .int (zI (A : Int))), (2, .int (zI (B : Int)))]) hx hb dX2_relay_81 hl (by decide) rfl (fun ls hl => ?_)
                refine zr_iinc (b := ((i + 1 : Nat) : Int)) (lv' := [(6, .int (zI ((i + 1 : Nat) : Int))), (5, .int (zI ((sRm g A B (i + 1)).2))), (4, .int (zI ((sRm g A B (i + 1)).1))), (7, .int (zI (sWay g A B i))), (0, .ref (b 0)), (1, .int (zI (A : Int))), (2, .int (zI (B : Int)))]) hx hb dX2_relay_83 hl (k := 3) rfl (by omega) (by decide) rfl (fun ls hl => ?_)
                refine lv_goto (tgt := 23) hx hb dX2_relay_86 (by decide) ?_
                exact ih_loop (i + 1) (by omega) ls (lv_sub hl [0, 1, 2, 4, 5, 6] rfl)
    exact loop (gN g) 0 (by omega) ls (lv_sub hl [0, 1, 2, 4, 5, 6] rfl)
  · refine lv_iload_n hx hb dX2_relay_11 rfl (lv_at hl 0 rfl) ?_
    exact rd_iret hx hb hr hlocks (by unfold aRelayM; rw [if_neg c_8]) dX2_relay_12
set_option maxHeartbeats 4000000 in
set_option maxRecDepth 100000 in
/-- isTriangle -/
theorem c_X2_isTriangle (l : Launch) (dC : Nat → ClassId) (dI : Nat → Nat → Nat) (cI cZ cS : ClassId) (b : Nat → Nat) (g : Nat → Nat → Int) (w S V o : Nat → Int) (r : Int) (hg : gB g r) (A B C : Nat) (hA : A < 10) (hB : B < 10) (hC : C < 10) : Met l yX2_isTriangle wsX2_isTriangle ({ frames := 1, cells := 0, slots := 0, locals := 21 } : Room) (rd_Pc dC dI cI cZ cS (mdw cI cZ b g w S V o) [.ref (b 0), .int (zI (A : Int)), .int (zI (B : Int)), .int (zI (C : Int))]) (rd_Qc (some (.int (zI (if 1 ≤ g 6 (10 * A + B) ∧ 1 ≤ g 6 (10 * B + C) ∧ 1 ≤ g 6 (10 * A + C) then 1 else 0))))) 0 0 nf := by
  refine rd_met (cc := cX2_isTriangle) (maxL := 4) (ret := (some .boolean)) (by decide) rfl (Nat.le_of_ble_eq_true rfl) ?_
  intro p e s m below meth c ls hx hb hml hr hlocks hts hown hP hK hl
  have hl : lv_has ls 4 [(0, .ref (b 0)), (1, .int (zI (A : Int))), (2, .int (zI (B : Int))), (3, .int (zI (C : Int)))] := hl
  have hinX2 : ∀ w ∈ u_ws RX2 TX2 11, w ∈ wsX2_isTriangle := by decide +kernel
  have f_7 := hts (.fieldLink RX2 7 "NetworkCoordinatesModel" "state" "[I") (by decide +kernel)
  have b0 := hg.1
  have bA := hg.2.1 A hA
  have bB := hg.2.1 B hB
  have bC := hg.2.1 C hC
  have kAB := hg.2.2 A B hA hB
  have kBC := hg.2.2 B C hB hC
  have kAC := hg.2.2 A C hA hC
  refine lv_aload_n hx hb dX2_isTriangle_0 rfl (lv_at hl 0 rfl) ?_
  refine va_get (D := (dC, dI)) (ci := 2) (v := .ref (b 1)) (C := RX2) (T := TX2) (N := 11) hx hb hts hinX2 hown hK.1 hP 0 rfl rfl 0 (by decide) f_7 (fun _ h9 => h9) rfl dX2_isTriangle_1 ?_
  refine lv_iload_n hx hb dX2_isTriangle_4 rfl (lv_at hl 1 rfl) ?_
  refine lv_iload_n hx hb dX2_isTriangle_5 rfl (lv_at hl 2 rfl) ?_
  refine rd_callS (As := [.int (zI (A : Int)), .int (zI (B : Int))]) (rest := [.ref (b 1)]) ⟨hx, hb, hml, hown, hts⟩ (c_X2_cell l dC dI cI cZ cS A B) (va_cwS 2 hts gX2_isTriangle_X2_cell rfl rfl rfl (by decide +kernel) ⟨Nat.le_of_ble_eq_true rfl, Nat.le_of_ble_eq_true rfl⟩) va_P_nil hK rfl hl.1 rfl (Nat.le_of_ble_eq_true rfl) dX2_isTriangle_6 ⟨Nat.zero_le _, Nat.zero_le _⟩ ?_
  refine zr_iald hx hb hK.1 hP 1 0 rfl rfl (55 + (10 * A + B)) (g 6 (10 * A + B)) (by omega) (by omega) (Nat.le_of_ble_eq_true rfl) flat_6 dX2_isTriangle_9 ?_
  refine zr_if_le (tgt := 43) hx hb dX2_isTriangle_10 (by decide) (by omega) (fun c_10 => ?_) (fun c_10 => ?_)
  · refine zr_iconst hx hb dX2_isTriangle_43 ?_
    exact rd_zret hx hb hr hlocks (if_neg (by omega)).symm (by omega) dX2_isTriangle_44
  · refine lv_aload_n hx hb dX2_isTriangle_13 rfl (lv_at hl 0 rfl) ?_
    refine va_get (D := (dC, dI)) (ci := 2) (v := .ref (b 1)) (C := RX2) (T := TX2) (N := 11) hx hb hts hinX2 hown hK.1 hP 0 rfl rfl 0 (by decide) f_7 (fun _ h9 => h9) rfl dX2_isTriangle_14 ?_
    refine lv_iload_n hx hb dX2_isTriangle_17 rfl (lv_at hl 1 rfl) ?_
    refine lv_iload_n hx hb dX2_isTriangle_18 rfl (lv_at hl 3 rfl) ?_
    refine rd_callS (As := [.int (zI (A : Int)), .int (zI (C : Int))]) (rest := [.ref (b 1)]) ⟨hx, hb, hml, hown, hts⟩ (c_X2_cell l dC dI cI cZ cS A C) (va_cwS 2 hts gX2_isTriangle_X2_cell rfl rfl rfl (by decide +kernel) ⟨Nat.le_of_ble_eq_true rfl, Nat.le_of_ble_eq_true rfl⟩) va_P_nil hK rfl hl.1 rfl (Nat.le_of_ble_eq_true rfl) dX2_isTriangle_19 ⟨Nat.zero_le _, Nat.zero_le _⟩ ?_
    refine zr_iald hx hb hK.1 hP 1 0 rfl rfl (55 + (10 * A + C)) (g 6 (10 * A + C)) (by omega) (by omega) (Nat.le_of_ble_eq_true rfl) flat_6 dX2_isTriangle_22 ?_
    refine zr_if_le (tgt := 43) hx hb dX2_isTriangle_23 (by decide) (by omega) (fun c_23 => ?_) (fun c_23 => ?_)
    · refine zr_iconst hx hb dX2_isTriangle_43 ?_
      exact rd_zret hx hb hr hlocks (if_neg (by omega)).symm (by omega) dX2_isTriangle_44
    · refine lv_aload_n hx hb dX2_isTriangle_26 rfl (lv_at hl 0 rfl) ?_
      refine va_get (D := (dC, dI)) (ci := 2) (v := .ref (b 1)) (C := RX2) (T := TX2) (N := 11) hx hb hts hinX2 hown hK.1 hP 0 rfl rfl 0 (by decide) f_7 (fun _ h9 => h9) rfl dX2_isTriangle_27 ?_
      refine lv_iload_n hx hb dX2_isTriangle_30 rfl (lv_at hl 2 rfl) ?_
      refine lv_iload_n hx hb dX2_isTriangle_31 rfl (lv_at hl 3 rfl) ?_
      refine rd_callS (As := [.int (zI (B : Int)), .int (zI (C : Int))]) (rest := [.ref (b 1)]) ⟨hx, hb, hml, hown, hts⟩ (c_X2_cell l dC dI cI cZ cS B C) (va_cwS 2 hts gX2_isTriangle_X2_cell rfl rfl rfl (by decide +kernel) ⟨Nat.le_of_ble_eq_true rfl, Nat.le_of_ble_eq_true rfl⟩) va_P_nil hK rfl hl.1 rfl (Nat.le_of_ble_eq_true rfl) dX2_isTriangle_32 ⟨Nat.zero_le _, Nat.zero_le _⟩ ?_
      refine zr_iald hx hb hK.1 hP 1 0 rfl rfl (55 + (10 * B + C)) (g 6 (10 * B + C)) (by omega) (by omega) (Nat.le_of_ble_eq_true rfl) flat_6 dX2_isTriangle_35 ?_
      refine zr_if_le (tgt := 43) hx hb dX2_isTriangle_36 (by decide) (by omega) (fun c_36 => ?_) (fun c_36 => ?_)
      · refine zr_iconst hx hb dX2_isTriangle_43 ?_
        exact rd_zret hx hb hr hlocks (if_neg (by omega)).symm (by omega) dX2_isTriangle_44
      · refine zr_iconst hx hb dX2_isTriangle_39 ?_
        refine lv_goto (tgt := 44) hx hb dX2_isTriangle_40 (by decide) ?_
        exact rd_zret hx hb hr hlocks (if_pos (by omega)).symm (by omega) dX2_isTriangle_44
set_option maxHeartbeats 4000000 in
set_option maxRecDepth 100000 in
/-- excess -/
theorem c_X2_excess (l : Launch) (dC : Nat → ClassId) (dI : Nat → Nat → Nat) (cI cZ cS : ClassId) (b : Nat → Nat) (g : Nat → Nat → Int) (w S V o : Nat → Int) (r : Int) (hg : gB g r) (A B C : Nat) (hA : A < 10) (hB : B < 10) (hC : C < 10) : Met l yX2_excess wsX2_excess ({ frames := 1, cells := 0, slots := 0, locals := 21 } : Room) (rd_Pc dC dI cI cZ cS (mdw cI cZ b g w S V o) [.ref (b 0), .int (zI (A : Int)), .int (zI (B : Int)), .int (zI (C : Int))]) (rd_Qc (some (.int (zI (sOv g A B C))))) 0 0 nf := by
  refine rd_met (cc := cX2_excess) (maxL := 8) (ret := (some .int)) (by decide) rfl (Nat.le_of_ble_eq_true rfl) ?_
  intro p e s m below meth c ls hx hb hml hr hlocks hts hown hP hK hl
  have hl : lv_has ls 8 [(0, .ref (b 0)), (1, .int (zI (A : Int))), (2, .int (zI (B : Int))), (3, .int (zI (C : Int)))] := hl
  have hinX2 : ∀ w ∈ u_ws RX2 TX2 11, w ∈ wsX2_excess := by decide +kernel
  have f_7 := hts (.fieldLink RX2 7 "NetworkCoordinatesModel" "state" "[I") (by decide +kernel)
  have b0 := hg.1
  have bA := hg.2.1 A hA
  have bB := hg.2.1 B hB
  have bC := hg.2.1 C hC
  have kAB := hg.2.2 A B hA hB
  have kBC := hg.2.2 B C hB hC
  have kAC := hg.2.2 A C hA hC
  refine lv_aload_n hx hb dX2_excess_0 rfl (lv_at hl 0 rfl) ?_
  refine va_get (D := (dC, dI)) (ci := 2) (v := .ref (b 1)) (C := RX2) (T := TX2) (N := 11) hx hb hts hinX2 hown hK.1 hP 0 rfl rfl 0 (by decide) f_7 (fun _ h9 => h9) rfl dX2_excess_1 ?_
  refine lv_iload_n hx hb dX2_excess_4 rfl (lv_at hl 1 rfl) ?_
  refine lv_iload_n hx hb dX2_excess_5 rfl (lv_at hl 2 rfl) ?_
  refine rd_callS (As := [.int (zI (A : Int)), .int (zI (B : Int))]) (rest := [.ref (b 1)]) ⟨hx, hb, hml, hown, hts⟩ (c_X2_cell l dC dI cI cZ cS A B) (va_cwS 2 hts gX2_excess_X2_cell rfl rfl rfl (by decide +kernel) ⟨Nat.le_of_ble_eq_true rfl, Nat.le_of_ble_eq_true rfl⟩) va_P_nil hK rfl hl.1 rfl (Nat.le_of_ble_eq_true rfl) dX2_excess_6 ⟨Nat.zero_le _, Nat.zero_le _⟩ ?_
  refine zr_iald hx hb hK.1 hP 1 0 rfl rfl (55 + (10 * A + B)) (g 6 (10 * A + B)) (by omega) (by omega) (Nat.le_of_ble_eq_true rfl) flat_6 dX2_excess_9 ?_
  refine lv_istore (lv' := [(4, .int (zI (g 6 (10 * A + B)))), (0, .ref (b 0)), (1, .int (zI (A : Int))), (2, .int (zI (B : Int))), (3, .int (zI (C : Int)))]) hx hb dX2_excess_10 hl (by decide) rfl (fun ls hl => ?_)
  refine lv_aload_n hx hb dX2_excess_12 rfl (lv_at hl 1 rfl) ?_
  refine va_get (D := (dC, dI)) (ci := 2) (v := .ref (b 1)) (C := RX2) (T := TX2) (N := 11) hx hb hts hinX2 hown hK.1 hP 0 rfl rfl 0 (by decide) f_7 (fun _ h9 => h9) rfl dX2_excess_13 ?_
  refine lv_iload_n hx hb dX2_excess_16 rfl (lv_at hl 2 rfl) ?_
  refine lv_iload_n hx hb dX2_excess_17 rfl (lv_at hl 4 rfl) ?_
  refine rd_callS (As := [.int (zI (A : Int)), .int (zI (C : Int))]) (rest := [.ref (b 1)]) ⟨hx, hb, hml, hown, hts⟩ (c_X2_cell l dC dI cI cZ cS A C) (va_cwS 2 hts gX2_excess_X2_cell rfl rfl rfl (by decide +kernel) ⟨Nat.le_of_ble_eq_true rfl, Nat.le_of_ble_eq_true rfl⟩) va_P_nil hK rfl hl.1 rfl (Nat.le_of_ble_eq_true rfl) dX2_excess_18 ⟨Nat.zero_le _, Nat.zero_le _⟩ ?_
  refine zr_iald hx hb hK.1 hP 1 0 rfl rfl (55 + (10 * A + C)) (g 6 (10 * A + C)) (by omega) (by omega) (Nat.le_of_ble_eq_true rfl) flat_6 dX2_excess_21 ?_
  refine lv_istore (lv' := [(5, .int (zI (g 6 (10 * A + C)))), (4, .int (zI (g 6 (10 * A + B)))), (0, .ref (b 0)), (1, .int (zI (A : Int))), (2, .int (zI (B : Int))), (3, .int (zI (C : Int)))]) hx hb dX2_excess_22 hl (by decide) rfl (fun ls hl => ?_)
  refine lv_aload_n hx hb dX2_excess_24 rfl (lv_at hl 2 rfl) ?_
  refine va_get (D := (dC, dI)) (ci := 2) (v := .ref (b 1)) (C := RX2) (T := TX2) (N := 11) hx hb hts hinX2 hown hK.1 hP 0 rfl rfl 0 (by decide) f_7 (fun _ h9 => h9) rfl dX2_excess_25 ?_
  refine lv_iload_n hx hb dX2_excess_28 rfl (lv_at hl 4 rfl) ?_
  refine lv_iload_n hx hb dX2_excess_29 rfl (lv_at hl 5 rfl) ?_
  refine rd_callS (As := [.int (zI (B : Int)), .int (zI (C : Int))]) (rest := [.ref (b 1)]) ⟨hx, hb, hml, hown, hts⟩ (c_X2_cell l dC dI cI cZ cS B C) (va_cwS 2 hts gX2_excess_X2_cell rfl rfl rfl (by decide +kernel) ⟨Nat.le_of_ble_eq_true rfl, Nat.le_of_ble_eq_true rfl⟩) va_P_nil hK rfl hl.1 rfl (Nat.le_of_ble_eq_true rfl) dX2_excess_30 ⟨Nat.zero_le _, Nat.zero_le _⟩ ?_
  refine zr_iald hx hb hK.1 hP 1 0 rfl rfl (55 + (10 * B + C)) (g 6 (10 * B + C)) (by omega) (by omega) (Nat.le_of_ble_eq_true rfl) flat_6 dX2_excess_33 ?_
  refine lv_istore (lv' := [(6, .int (zI (g 6 (10 * B + C)))), (5, .int (zI (g 6 (10 * A + C)))), (4, .int (zI (g 6 (10 * A + B)))), (0, .ref (b 0)), (1, .int (zI (A : Int))), (2, .int (zI (B : Int))), (3, .int (zI (C : Int)))]) hx hb dX2_excess_34 hl (by decide) rfl (fun ls hl => ?_)
  refine lv_iload hx hb dX2_excess_36 (lv_at hl 2 rfl) ?_
  refine lv_iload hx hb dX2_excess_38 (lv_at hl 1 rfl) ?_
  refine zr_icmp_le (tgt := 48) hx hb dX2_excess_40 (by decide) (by omega) (by omega) (fun c_40 => ?_) (fun c_40 => ?_)
  · refine lv_iload hx hb dX2_excess_48 (lv_at hl 1 rfl) ?_
    refine lv_istore (lv' := [(7, .int (zI (g 6 (10 * A + C)))), (6, .int (zI (g 6 (10 * B + C)))), (5, .int (zI (g 6 (10 * A + C)))), (4, .int (zI (g 6 (10 * A + B)))), (0, .ref (b 0)), (1, .int (zI (A : Int))), (2, .int (zI (B : Int))), (3, .int (zI (C : Int)))]) hx hb dX2_excess_50 hl (by decide) rfl (fun ls hl => ?_)
    refine lv_iload hx hb dX2_excess_52 (lv_at hl 1 rfl) ?_
    refine lv_iload hx hb dX2_excess_54 (lv_at hl 0 rfl) ?_
    refine zr_icmp_le (tgt := 64) hx hb dX2_excess_56 (by decide) (by omega) (by omega) (fun c_56 => ?_) (fun c_56 => ?_)
    · refine lv_iload hx hb dX2_excess_64 (lv_at hl 0 rfl) ?_
      refine lv_istore (lv' := [(7, .int (zI (g 6 (10 * A + C)))), (6, .int (zI (g 6 (10 * B + C)))), (5, .int (zI (g 6 (10 * A + C)))), (4, .int (zI (g 6 (10 * A + B)))), (0, .ref (b 0)), (1, .int (zI (A : Int))), (2, .int (zI (B : Int))), (3, .int (zI (C : Int)))]) hx hb dX2_excess_66 hl (by decide) rfl (fun ls hl => ?_)
      refine zr_iconst hx hb dX2_excess_68 ?_
      refine lv_iload hx hb dX2_excess_69 (lv_at hl 0 rfl) ?_
      refine zr_imul hx hb dX2_excess_71 ?_
      refine lv_iload hx hb dX2_excess_72 (lv_at hl 3 rfl) ?_
      refine zr_isub hx hb dX2_excess_74 ?_
      refine lv_iload hx hb dX2_excess_75 (lv_at hl 2 rfl) ?_
      refine zr_isub hx hb dX2_excess_77 ?_
      refine lv_iload hx hb dX2_excess_78 (lv_at hl 1 rfl) ?_
      refine zr_isub hx hb dX2_excess_80 ?_
      exact rd_iret hx hb hr hlocks (by unfold sOv sG3 sMx; split <;> (try split) <;> omega) dX2_excess_81
    · refine lv_iload hx hb dX2_excess_59 (lv_at hl 1 rfl) ?_
      refine lv_goto (tgt := 66) hx hb dX2_excess_61 (by decide) ?_
      refine lv_istore (lv' := [(7, .int (zI (g 6 (10 * B + C)))), (6, .int (zI (g 6 (10 * B + C)))), (5, .int (zI (g 6 (10 * A + C)))), (4, .int (zI (g 6 (10 * A + B)))), (0, .ref (b 0)), (1, .int (zI (A : Int))), (2, .int (zI (B : Int))), (3, .int (zI (C : Int)))]) hx hb dX2_excess_66 hl (by decide) rfl (fun ls hl => ?_)
      refine zr_iconst hx hb dX2_excess_68 ?_
      refine lv_iload hx hb dX2_excess_69 (lv_at hl 0 rfl) ?_
      refine zr_imul hx hb dX2_excess_71 ?_
      refine lv_iload hx hb dX2_excess_72 (lv_at hl 3 rfl) ?_
      refine zr_isub hx hb dX2_excess_74 ?_
      refine lv_iload hx hb dX2_excess_75 (lv_at hl 2 rfl) ?_
      refine zr_isub hx hb dX2_excess_77 ?_
      refine lv_iload hx hb dX2_excess_78 (lv_at hl 1 rfl) ?_
      refine zr_isub hx hb dX2_excess_80 ?_
      exact rd_iret hx hb hr hlocks (by unfold sOv sG3 sMx; split <;> (try split) <;> omega) dX2_excess_81
  · refine lv_iload hx hb dX2_excess_43 (lv_at hl 2 rfl) ?_
    refine lv_goto (tgt := 50) hx hb dX2_excess_45 (by decide) ?_
    refine lv_istore (lv' := [(7, .int (zI (g 6 (10 * A + B)))), (6, .int (zI (g 6 (10 * B + C)))), (5, .int (zI (g 6 (10 * A + C)))), (4, .int (zI (g 6 (10 * A + B)))), (0, .ref (b 0)), (1, .int (zI (A : Int))), (2, .int (zI (B : Int))), (3, .int (zI (C : Int)))]) hx hb dX2_excess_50 hl (by decide) rfl (fun ls hl => ?_)
    refine lv_iload hx hb dX2_excess_52 (lv_at hl 1 rfl) ?_
    refine lv_iload hx hb dX2_excess_54 (lv_at hl 0 rfl) ?_
    refine zr_icmp_le (tgt := 64) hx hb dX2_excess_56 (by decide) (by omega) (by omega) (fun c_56 => ?_) (fun c_56 => ?_)
    · refine lv_iload hx hb dX2_excess_64 (lv_at hl 0 rfl) ?_
      refine lv_istore (lv' := [(7, .int (zI (g 6 (10 * A + B)))), (6, .int (zI (g 6 (10 * B + C)))), (5, .int (zI (g 6 (10 * A + C)))), (4, .int (zI (g 6 (10 * A + B)))), (0, .ref (b 0)), (1, .int (zI (A : Int))), (2, .int (zI (B : Int))), (3, .int (zI (C : Int)))]) hx hb dX2_excess_66 hl (by decide) rfl (fun ls hl => ?_)
      refine zr_iconst hx hb dX2_excess_68 ?_
      refine lv_iload hx hb dX2_excess_69 (lv_at hl 0 rfl) ?_
      refine zr_imul hx hb dX2_excess_71 ?_
      refine lv_iload hx hb dX2_excess_72 (lv_at hl 3 rfl) ?_
      refine zr_isub hx hb dX2_excess_74 ?_
      refine lv_iload hx hb dX2_excess_75 (lv_at hl 2 rfl) ?_
      refine zr_isub hx hb dX2_excess_77 ?_
      refine lv_iload hx hb dX2_excess_78 (lv_at hl 1 rfl) ?_
      refine zr_isub hx hb dX2_excess_80 ?_
      exact rd_iret hx hb hr hlocks (by unfold sOv sG3 sMx; split <;> (try split) <;> omega) dX2_excess_81
    · refine lv_iload hx hb dX2_excess_59 (lv_at hl 1 rfl) ?_
      refine lv_goto (tgt := 66) hx hb dX2_excess_61 (by decide) ?_
      refine lv_istore (lv' := [(7, .int (zI (g 6 (10 * B + C)))), (6, .int (zI (g 6 (10 * B + C)))), (5, .int (zI (g 6 (10 * A + C)))), (4, .int (zI (g 6 (10 * A + B)))), (0, .ref (b 0)), (1, .int (zI (A : Int))), (2, .int (zI (B : Int))), (3, .int (zI (C : Int)))]) hx hb dX2_excess_66 hl (by decide) rfl (fun ls hl => ?_)
      refine zr_iconst hx hb dX2_excess_68 ?_
      refine lv_iload hx hb dX2_excess_69 (lv_at hl 0 rfl) ?_
      refine zr_imul hx hb dX2_excess_71 ?_
      refine lv_iload hx hb dX2_excess_72 (lv_at hl 3 rfl) ?_
      refine zr_isub hx hb dX2_excess_74 ?_
      refine lv_iload hx hb dX2_excess_75 (lv_at hl 2 rfl) ?_
      refine zr_isub hx hb dX2_excess_77 ?_
      refine lv_iload hx hb dX2_excess_78 (lv_at hl 1 rfl) ?_
      refine zr_isub hx hb dX2_excess_80 ?_
      exact rd_iret hx hb hr hlocks (by unfold sOv sG3 sMx; split <;> (try split) <;> omega) dX2_excess_81
end
