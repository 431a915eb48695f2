-- ===== PART A: goes FIRST, ahead of the names: the tables' words, and 'selects' of the private methods out of them =====
/-- a private method of a class that the tables say can be made, by its rows of tables_1 -/
def lw_okq (q : MethodName × Nat) : Prop := (q.1.cls ≠ "java/lang/invoke/MethodHandle" ∧ q.1.cls ≠ "java/lang/invoke/VarHandle") ∧ Cond.instantiable q.1.cls q.2 ∈ tables_1 ∧ Cond.privateMethod q.1 ∈ tables_1 ∧ Cond.instanceMethod q.1 ∈ tables_1
theorem lw_p0 : lw_okq (⟨"HotGround", "isWell", "(I)Z"⟩, 6) := ⟨⟨by decide +kernel, by decide +kernel⟩, List.mem_of_getElem? (i := 10) (by decide +kernel), List.mem_of_getElem? (i := 192) (by decide +kernel), List.mem_of_getElem? (i := 193) (by decide +kernel)⟩
theorem lw_p1 : lw_okq (⟨"HotGround$Wells", "plain", "(II)I"⟩, 6) := ⟨⟨by decide +kernel, by decide +kernel⟩, List.mem_of_getElem? (i := 18) (by decide +kernel), List.mem_of_getElem? (i := 215) (by decide +kernel), List.mem_of_getElem? (i := 216) (by decide +kernel)⟩
theorem lw_p2 : lw_okq (⟨"HotGround", "meeting", "()I"⟩, 6) := ⟨⟨by decide +kernel, by decide +kernel⟩, List.mem_of_getElem? (i := 10) (by decide +kernel), List.mem_of_getElem? (i := 269) (by decide +kernel), List.mem_of_getElem? (i := 270) (by decide +kernel)⟩
theorem lw_p3 : lw_okq (⟨"HotGround", "setLeak", "(II)I"⟩, 6) := ⟨⟨by decide +kernel, by decide +kernel⟩, List.mem_of_getElem? (i := 10) (by decide +kernel), List.mem_of_getElem? (i := 285) (by decide +kernel), List.mem_of_getElem? (i := 286) (by decide +kernel)⟩
theorem lw_p4 : lw_okq (⟨"HotGround", "setFeed", "(II)I"⟩, 6) := ⟨⟨by decide +kernel, by decide +kernel⟩, List.mem_of_getElem? (i := 10) (by decide +kernel), List.mem_of_getElem? (i := 289) (by decide +kernel), List.mem_of_getElem? (i := 290) (by decide +kernel)⟩
theorem lw_p5 : lw_okq (⟨"HotGround", "setGivenShare", "(I)I"⟩, 6) := ⟨⟨by decide +kernel, by decide +kernel⟩, List.mem_of_getElem? (i := 10) (by decide +kernel), List.mem_of_getElem? (i := 293) (by decide +kernel), List.mem_of_getElem? (i := 294) (by decide +kernel)⟩
theorem lw_p6 : lw_okq (⟨"HotGround", "setGivenBox", "(I)I"⟩, 6) := ⟨⟨by decide +kernel, by decide +kernel⟩, List.mem_of_getElem? (i := 10) (by decide +kernel), List.mem_of_getElem? (i := 297) (by decide +kernel), List.mem_of_getElem? (i := 298) (by decide +kernel)⟩
theorem lw_p7 : lw_okq (⟨"HotGround", "passYear", "()V"⟩, 6) := ⟨⟨by decide +kernel, by decide +kernel⟩, List.mem_of_getElem? (i := 10) (by decide +kernel), List.mem_of_getElem? (i := 305) (by decide +kernel), List.mem_of_getElem? (i := 306) (by decide +kernel)⟩
theorem lw_p8 : lw_okq (⟨"HotGround", "takeAll", "(I)J"⟩, 6) := ⟨⟨by decide +kernel, by decide +kernel⟩, List.mem_of_getElem? (i := 10) (by decide +kernel), List.mem_of_getElem? (i := 309) (by decide +kernel), List.mem_of_getElem? (i := 310) (by decide +kernel)⟩
theorem lw_p9 : lw_okq (⟨"HotGround$Ground", "heatOf", "(IJ)J"⟩, 7) := ⟨⟨by decide +kernel, by decide +kernel⟩, List.mem_of_getElem? (i := 75) (by decide +kernel), List.mem_of_getElem? (i := 320) (by decide +kernel), List.mem_of_getElem? (i := 321) (by decide +kernel)⟩
theorem lw_p10 : lw_okq (⟨"HotGround$Ground", "book", "(IJJ)V"⟩, 7) := ⟨⟨by decide +kernel, by decide +kernel⟩, List.mem_of_getElem? (i := 75) (by decide +kernel), List.mem_of_getElem? (i := 324) (by decide +kernel), List.mem_of_getElem? (i := 325) (by decide +kernel)⟩
theorem lw_p11 : lw_okq (⟨"HotGround$Ground", "pour", "(IJJ)V"⟩, 7) := ⟨⟨by decide +kernel, by decide +kernel⟩, List.mem_of_getElem? (i := 75) (by decide +kernel), List.mem_of_getElem? (i := 334) (by decide +kernel), List.mem_of_getElem? (i := 335) (by decide +kernel)⟩
theorem lw_p12 : lw_okq (⟨"HotGround$Offers", "keeps", "(I)Z"⟩, 5) := ⟨⟨by decide +kernel, by decide +kernel⟩, List.mem_of_getElem? (i := 130) (by decide +kernel), List.mem_of_getElem? (i := 416) (by decide +kernel), List.mem_of_getElem? (i := 417) (by decide +kernel)⟩
theorem lw_p13 : lw_okq (⟨"HotGroundModel", "isWell", "(I)Z"⟩, 27) := ⟨⟨by decide +kernel, by decide +kernel⟩, List.mem_of_getElem? (i := 445) (by decide +kernel), List.mem_of_getElem? (i := 544) (by decide +kernel), List.mem_of_getElem? (i := 545) (by decide +kernel)⟩
theorem lw_p14 : lw_okq (⟨"HotGroundModel", "flowOf", "(II)I"⟩, 27) := ⟨⟨by decide +kernel, by decide +kernel⟩, List.mem_of_getElem? (i := 445) (by decide +kernel), List.mem_of_getElem? (i := 558) (by decide +kernel), List.mem_of_getElem? (i := 559) (by decide +kernel)⟩
theorem lw_p15 : lw_okq (⟨"HotGroundModel", "supply", "(I)I"⟩, 27) := ⟨⟨by decide +kernel, by decide +kernel⟩, List.mem_of_getElem? (i := 445) (by decide +kernel), List.mem_of_getElem? (i := 578) (by decide +kernel), List.mem_of_getElem? (i := 579) (by decide +kernel)⟩
def lw_privs_1 : List (MethodName × Nat) := [(⟨"HotGround", "isWell", "(I)Z"⟩, 6), (⟨"HotGround$Wells", "plain", "(II)I"⟩, 6), (⟨"HotGround", "meeting", "()I"⟩, 6), (⟨"HotGround", "setLeak", "(II)I"⟩, 6), (⟨"HotGround", "setFeed", "(II)I"⟩, 6), (⟨"HotGround", "setGivenShare", "(I)I"⟩, 6), (⟨"HotGround", "setGivenBox", "(I)I"⟩, 6), (⟨"HotGround", "passYear", "()V"⟩, 6), (⟨"HotGround", "takeAll", "(I)J"⟩, 6), (⟨"HotGround$Ground", "heatOf", "(IJ)J"⟩, 7), (⟨"HotGround$Ground", "book", "(IJJ)V"⟩, 7), (⟨"HotGround$Ground", "pour", "(IJJ)V"⟩, 7), (⟨"HotGround$Offers", "keeps", "(I)Z"⟩, 5), (⟨"HotGroundModel", "isWell", "(I)Z"⟩, 27), (⟨"HotGroundModel", "flowOf", "(II)I"⟩, 27), (⟨"HotGroundModel", "supply", "(I)I"⟩, 27)]
theorem lw_r1 : ∀ q ∈ lw_privs_1, lw_okq q := List.forall_mem_cons.mpr ⟨lw_p0, List.forall_mem_cons.mpr ⟨lw_p1, List.forall_mem_cons.mpr ⟨lw_p2, List.forall_mem_cons.mpr ⟨lw_p3, List.forall_mem_cons.mpr ⟨lw_p4, List.forall_mem_cons.mpr ⟨lw_p5, List.forall_mem_cons.mpr ⟨lw_p6, List.forall_mem_cons.mpr ⟨lw_p7, List.forall_mem_cons.mpr ⟨lw_p8, List.forall_mem_cons.mpr ⟨lw_p9, List.forall_mem_cons.mpr ⟨lw_p10, List.forall_mem_cons.mpr ⟨lw_p11, List.forall_mem_cons.mpr ⟨lw_p12, List.forall_mem_cons.mpr ⟨lw_p13, List.forall_mem_cons.mpr ⟨lw_p14, List.forall_mem_cons.mpr ⟨lw_p15, fun _ h => absurd h List.not_mem_nil⟩⟩⟩⟩⟩⟩⟩⟩⟩⟩⟩⟩⟩⟩⟩⟩
theorem lw_p16 : lw_okq (⟨"HotGroundModel", "draw", "(I)I"⟩, 27) := ⟨⟨by decide +kernel, by decide +kernel⟩, List.mem_of_getElem? (i := 445) (by decide +kernel), List.mem_of_getElem? (i := 585) (by decide +kernel), List.mem_of_getElem? (i := 586) (by decide +kernel)⟩
theorem lw_p17 : lw_okq (⟨"HotGroundModel", "oneYear", "()V"⟩, 27) := ⟨⟨by decide +kernel, by decide +kernel⟩, List.mem_of_getElem? (i := 445) (by decide +kernel), List.mem_of_getElem? (i := 609) (by decide +kernel), List.mem_of_getElem? (i := 610) (by decide +kernel)⟩
theorem lw_p18 : lw_okq (⟨"HotGroundModel", "wellsGive", "(I)V"⟩, 27) := ⟨⟨by decide +kernel, by decide +kernel⟩, List.mem_of_getElem? (i := 445) (by decide +kernel), List.mem_of_getElem? (i := 614) (by decide +kernel), List.mem_of_getElem? (i := 615) (by decide +kernel)⟩
theorem lw_p19 : lw_okq (⟨"HotGroundModel", "goes", "(IJ)J"⟩, 27) := ⟨⟨by decide +kernel, by decide +kernel⟩, List.mem_of_getElem? (i := 445) (by decide +kernel), List.mem_of_getElem? (i := 618) (by decide +kernel), List.mem_of_getElem? (i := 619) (by decide +kernel)⟩
theorem lw_p20 : lw_okq (⟨"HotGroundModel", "comes", "(IJJ)V"⟩, 27) := ⟨⟨by decide +kernel, by decide +kernel⟩, List.mem_of_getElem? (i := 445) (by decide +kernel), List.mem_of_getElem? (i := 624) (by decide +kernel), List.mem_of_getElem? (i := 625) (by decide +kernel)⟩
theorem lw_p21 : lw_okq (⟨"HotGroundModel", "leaks", "(I)V"⟩, 27) := ⟨⟨by decide +kernel, by decide +kernel⟩, List.mem_of_getElem? (i := 445) (by decide +kernel), List.mem_of_getElem? (i := 628) (by decide +kernel), List.mem_of_getElem? (i := 629) (by decide +kernel)⟩
theorem lw_p22 : lw_okq (⟨"HotGroundModel", "lack", "(II)I"⟩, 27) := ⟨⟨by decide +kernel, by decide +kernel⟩, List.mem_of_getElem? (i := 445) (by decide +kernel), List.mem_of_getElem? (i := 671) (by decide +kernel), List.mem_of_getElem? (i := 672) (by decide +kernel)⟩
theorem lw_p23 : lw_okq (⟨"HotGroundModel", "costOf", "(I)I"⟩, 27) := ⟨⟨by decide +kernel, by decide +kernel⟩, List.mem_of_getElem? (i := 445) (by decide +kernel), List.mem_of_getElem? (i := 675) (by decide +kernel), List.mem_of_getElem? (i := 676) (by decide +kernel)⟩
def lw_privs_2 : List (MethodName × Nat) := [(⟨"HotGroundModel", "draw", "(I)I"⟩, 27), (⟨"HotGroundModel", "oneYear", "()V"⟩, 27), (⟨"HotGroundModel", "wellsGive", "(I)V"⟩, 27), (⟨"HotGroundModel", "goes", "(IJ)J"⟩, 27), (⟨"HotGroundModel", "comes", "(IJJ)V"⟩, 27), (⟨"HotGroundModel", "leaks", "(I)V"⟩, 27), (⟨"HotGroundModel", "lack", "(II)I"⟩, 27), (⟨"HotGroundModel", "costOf", "(I)I"⟩, 27)]
theorem lw_r2 : ∀ q ∈ lw_privs_2, lw_okq q := List.forall_mem_cons.mpr ⟨lw_p16, List.forall_mem_cons.mpr ⟨lw_p17, List.forall_mem_cons.mpr ⟨lw_p18, List.forall_mem_cons.mpr ⟨lw_p19, List.forall_mem_cons.mpr ⟨lw_p20, List.forall_mem_cons.mpr ⟨lw_p21, List.forall_mem_cons.mpr ⟨lw_p22, List.forall_mem_cons.mpr ⟨lw_p23, fun _ h => absurd h List.not_mem_nil⟩⟩⟩⟩⟩⟩⟩⟩
def lw_privs : List (MethodName × Nat) := lw_privs_1 ++ (lw_privs_2)
def lw_tbl : List Cond := k2_sels lw_privs ++ tables_1
theorem lw_privs_ok : ∀ q ∈ lw_privs, lw_okq q := by
  show ∀ q ∈ lw_privs_1 ++ (lw_privs_2), lw_okq q
  exact List.forall_mem_append.mpr ⟨lw_r1, lw_r2⟩
-- ===== end of PART A; then your names; then what follows =====
/-! ===== BEGIN words of one list among another's, by their places ===== -/
theorem goodIn_r {big : List Cond} (ws : List Cond) (ps : List Nat) (hp : ws = ps.filterMap (fun i => big[i]?)) (h : ws.all goodWord = true) : GoodIn big ws := by
  intro w hw
  have h1 := List.all_eq_true.mp h w hw
  rw [hp] at hw
  obtain ⟨i, -, hi⟩ := List.mem_filterMap.mp hw
  have hm : w ∈ big := by first | exact List.mem_of_getElem? hi | exact List.getElem?_mem hi
  exact ⟨hm, good_of_word h1⟩
theorem goodIn_app {big a b : List Cond} (ha : GoodIn big a) (hb : GoodIn big b) : GoodIn big (a ++ b) := fun w h => (List.mem_append.mp h).elim (ha w) (hb w)
theorem goodIn_ca {big a b : List Cond} {c : Cond} (ha : GoodIn big (c :: a)) (hb : GoodIn big b) : GoodIn big (c :: (a ++ b)) := fun w h => (List.mem_cons.mp h).elim (fun e => ha w (List.mem_cons.mpr (Or.inl e))) (fun h => (List.mem_append.mp h).elim (fun h => ha w (List.mem_cons.mpr (Or.inr h))) (hb w))
theorem goodIn_sub {big ws : List Cond} (hm : ∀ w ∈ ws, w ∈ big) (h : ws.all goodWord = true) : GoodIn big ws := fun w hw => ⟨hm w hw, good_of_word (List.all_eq_true.mp h w hw)⟩
/-! ===== END ===== -/

/-! ===== BEGIN printed: names, fields, word lists, decode rows ===== -/
def RX0 : String := "HotGround$Ground"
def TX0 : u_T := fun k => match k with
  | 0 => ("HotGround$Ground", "mass", "[J", true)
  | 1 => ("HotGround$Ground", "heat", "[J", true)
  | 2 => ("HotGround$Ground", "feed", "[I", true)
  | 3 => ("HotGround$Ground", "leak", "[I", true)
  | 4 => ("HotGround$Ground", "givenShare", "I", false)
  | 5 => ("HotGround$Ground", "givenBox", "I", false)
  | _ => ("HotGround$Ground", "sums", "[J", true)
def tyX0 : Nat → FieldType := fun k => match k with
  | 0 => .array .long
  | 1 => .array .long
  | 2 => .array .int
  | 3 => .array .int
  | 4 => .int
  | 5 => .int
  | _ => .array .long
abbrev wsX00 : List Cond := u_ws RX0 TX0 7
theorem nmX0 : ∀ a, a < 7 → ∀ b, b < 7 → a ≠ b → (TX0 a).2.1 ≠ (TX0 b).2.1 := by decide +kernel
theorem tyX0_ok : ∀ k, k < 7 → parseFieldDescriptor (TX0 k).2.2.1 = some (tyX0 k) := by decide +kernel
abbrev cX0_init : ByteArray := prog_2_method_1_code
def yX0_init : MethodName := ⟨RX0, "<init>", "()V"⟩
abbrev cX0_heatOf : ByteArray := prog_2_method_2_code
def yX0_heatOf : MethodName := ⟨RX0, "heatOf", "(IJ)J"⟩
abbrev cX0_take : ByteArray := prog_2_method_3_code
def yX0_take : MethodName := ⟨RX0, "take", "(IJ)J"⟩
abbrev cX0_giveBack : ByteArray := prog_2_method_4_code
def yX0_giveBack : MethodName := ⟨RX0, "giveBack", "(J)V"⟩
abbrev cX0_leakAll : ByteArray := prog_2_method_5_code
def yX0_leakAll : MethodName := ⟨RX0, "leakAll", "()V"⟩
abbrev cX0_feedAll : ByteArray := prog_2_method_6_code
def yX0_feedAll : MethodName := ⟨RX0, "feedAll", "()V"⟩
abbrev cX0_pour : ByteArray := prog_2_method_7_code
def yX0_pour : MethodName := ⟨RX0, "pour", "(IJJ)V"⟩
abbrev cX0_book : ByteArray := prog_2_method_8_code
def yX0_book : MethodName := ⟨RX0, "book", "(IJJ)V"⟩
def RX1 : String := "HotGround$Kernel"
def TX1 : u_T := fun k => match k with
  | 0 => ("HotGround$Kernel", "count", "I", false)
  | 1 => ("HotGround$Kernel", "shares", "[I", true)
  | _ => ("HotGround$Kernel", "amounts", "[I", true)
def tyX1 : Nat → FieldType := fun k => match k with
  | 0 => .int
  | 1 => .array .int
  | _ => .array .int
abbrev wsX10 : List Cond := u_ws RX1 TX1 3
theorem nmX1 : ∀ a, a < 3 → ∀ b, b < 3 → a ≠ b → (TX1 a).2.1 ≠ (TX1 b).2.1 := by decide +kernel
theorem tyX1_ok : ∀ k, k < 3 → parseFieldDescriptor (TX1 k).2.2.1 = some (tyX1 k) := by decide +kernel
abbrev cX1_init : ByteArray := prog_3_method_1_code
def yX1_init : MethodName := ⟨RX1, "<init>", "()V"⟩
abbrev cX1_together : ByteArray := prog_3_method_2_code
def yX1_together : MethodName := ⟨RX1, "together", "()I"⟩
abbrev cX1_comes : ByteArray := prog_3_method_3_code
def yX1_comes : MethodName := ⟨RX1, "comes", "(I)I"⟩
def RX2 : String := "HotGround$Offers"
def TX2 : u_T := fun k => match k with
  | 0 => ("HotGround$Offers", "count", "I", false)
  | 1 => ("HotGround$Offers", "cost", "[I", true)
  | 2 => ("HotGround$Offers", "from", "[I", true)
  | 3 => ("HotGround$Offers", "steam", "[I", true)
  | _ => ("HotGround$Offers", "promised", "[I", true)
def tyX2 : Nat → FieldType := fun k => match k with
  | 0 => .int
  | 1 => .array .int
  | 2 => .array .int
  | 3 => .array .int
  | _ => .array .int
abbrev wsX20 : List Cond := u_ws RX2 TX2 5
theorem nmX2 : ∀ a, a < 5 → ∀ b, b < 5 → a ≠ b → (TX2 a).2.1 ≠ (TX2 b).2.1 := by decide +kernel
theorem tyX2_ok : ∀ k, k < 5 → parseFieldDescriptor (TX2 k).2.2.1 = some (tyX2 k) := by decide +kernel
abbrev cX2_init : ByteArray := prog_4_method_1_code
def yX2_init : MethodName := ⟨RX2, "<init>", "()V"⟩
abbrev cX2_add : ByteArray := prog_4_method_2_code
def yX2_add : MethodName := ⟨RX2, "add", "(III)I"⟩
abbrev cX2_sets : ByteArray := prog_4_method_3_code
def yX2_sets : MethodName := ⟨RX2, "sets", "()I"⟩
abbrev cX2_price : ByteArray := prog_4_method_4_code
def yX2_price : MethodName := ⟨RX2, "price", "(I)I"⟩
abbrev cX2_missing : ByteArray := prog_4_method_5_code
def yX2_missing : MethodName := ⟨RX2, "missing", "(II)I"⟩
abbrev cX2_keeps : ByteArray := prog_4_method_6_code
def yX2_keeps : MethodName := ⟨RX2, "keeps", "(I)Z"⟩
abbrev cX2_cheapest : ByteArray := prog_4_method_7_code
def yX2_cheapest : MethodName := ⟨RX2, "cheapest", "()I"⟩
def RX3 : String := "HotGround$Plant"
def TX3 : u_T := fun k => match k with
  | 0 => ("HotGround$Plant", "count", "I", false)
  | 1 => ("HotGround$Plant", "least", "[I", true)
  | 2 => ("HotGround$Plant", "rate", "[I", true)
  | 3 => ("HotGround$Plant", "most", "[I", true)
  | _ => ("HotGround$Plant", "on", "[Z", true)
def tyX3 : Nat → FieldType := fun k => match k with
  | 0 => .int
  | 1 => .array .int
  | 2 => .array .int
  | 3 => .array .int
  | _ => .array .boolean
abbrev wsX30 : List Cond := u_ws RX3 TX3 5
theorem nmX3 : ∀ a, a < 5 → ∀ b, b < 5 → a ≠ b → (TX3 a).2.1 ≠ (TX3 b).2.1 := by decide +kernel
theorem tyX3_ok : ∀ k, k < 5 → parseFieldDescriptor (TX3 k).2.2.1 = some (tyX3 k) := by decide +kernel
abbrev cX3_init : ByteArray := prog_5_method_1_code
def yX3_init : MethodName := ⟨RX3, "<init>", "()V"⟩
abbrev cX3_add : ByteArray := prog_5_method_2_code
def yX3_add : MethodName := ⟨RX3, "add", "(III)I"⟩
abbrev cX3_draw : ByteArray := prog_5_method_3_code
def yX3_draw : MethodName := ⟨RX3, "draw", "(I)I"⟩
def RX4 : String := "HotGround$Wells"
def TX4 : u_T := fun k => match k with
  | 0 => ("HotGround$Wells", "count", "I", false)
  | 1 => ("HotGround$Wells", "kind", "[I", true)
  | 2 => ("HotGround$Wells", "box", "[I", true)
  | 3 => ("HotGround$Wells", "age", "[I", true)
  | 4 => ("HotGround$Wells", "open", "[Z", true)
  | _ => ("HotGround$Wells", "corners", "[I", true)
def tyX4 : Nat → FieldType := fun k => match k with
  | 0 => .int
  | 1 => .array .int
  | 2 => .array .int
  | 3 => .array .int
  | 4 => .array .boolean
  | _ => .array .int
abbrev wsX40 : List Cond := u_ws RX4 TX4 6
theorem nmX4 : ∀ a, a < 6 → ∀ b, b < 6 → a ≠ b → (TX4 a).2.1 ≠ (TX4 b).2.1 := by decide +kernel
theorem tyX4_ok : ∀ k, k < 6 → parseFieldDescriptor (TX4 k).2.2.1 = some (tyX4 k) := by decide +kernel
abbrev cX4_init : ByteArray := prog_6_method_1_code
def yX4_init : MethodName := ⟨RX4, "<init>", "()V"⟩
abbrev cX4_add : ByteArray := prog_6_method_2_code
def yX4_add : MethodName := ⟨RX4, "add", "(II)I"⟩
abbrev cX4_shape : ByteArray := prog_6_method_3_code
def yX4_shape : MethodName := ⟨RX4, "shape", "(IIIIII)V"⟩
abbrev cX4_weight : ByteArray := prog_6_method_4_code
def yX4_weight : MethodName := ⟨RX4, "weight", "(I)I"⟩
abbrev cX4_fifths : ByteArray := prog_6_method_5_code
def yX4_fifths : MethodName := ⟨RX4, "fifths", "(II)I"⟩
abbrev cX4_plain : ByteArray := prog_6_method_6_code
def yX4_plain : MethodName := ⟨RX4, "plain", "(II)I"⟩
abbrev cX4_scaled : ByteArray := prog_6_method_7_code
def yX4_scaled : MethodName := ⟨RX4, "scaled", "(II)I"⟩
abbrev cX4_tested : ByteArray := prog_6_method_8_code
def yX4_tested : MethodName := ⟨RX4, "tested", "(I)I"⟩
abbrev cX4_steam : ByteArray := prog_6_method_9_code
def yX4_steam : MethodName := ⟨RX4, "steam", "(II)I"⟩
abbrev cX4_supply : ByteArray := prog_6_method_10_code
def yX4_supply : MethodName := ⟨RX4, "supply", "(I)I"⟩
abbrev cX4_water : ByteArray := prog_6_method_11_code
def yX4_water : MethodName := ⟨RX4, "water", "(I)I"⟩
abbrev cX4_grow : ByteArray := prog_6_method_12_code
def yX4_grow : MethodName := ⟨RX4, "grow", "()V"⟩
def RX5 : String := "HotGround"
def TX5 : u_T := fun k => match k with
  | 0 => ("HotGround", "wells", "LHotGround$Wells;", true)
  | 1 => ("HotGround", "plant", "LHotGround$Plant;", true)
  | 2 => ("HotGround", "ground", "LHotGround$Ground;", true)
  | 3 => ("HotGround", "kernel", "LHotGround$Kernel;", true)
  | 4 => ("HotGround", "offers", "LHotGround$Offers;", true)
  | _ => ("HotGround", "trace", "J", false)
def tyX5 : Nat → FieldType := fun k => match k with
  | 0 => .object "HotGround$Wells"
  | 1 => .object "HotGround$Plant"
  | 2 => .object "HotGround$Ground"
  | 3 => .object "HotGround$Kernel"
  | 4 => .object "HotGround$Offers"
  | _ => .long
abbrev wsX50 : List Cond := u_ws RX5 TX5 6
theorem nmX5 : ∀ a, a < 6 → ∀ b, b < 6 → a ≠ b → (TX5 a).2.1 ≠ (TX5 b).2.1 := by decide +kernel
theorem tyX5_ok : ∀ k, k < 6 → parseFieldDescriptor (TX5 k).2.2.1 = some (tyX5 k) := by decide +kernel
abbrev cX5_init : ByteArray := prog_1_method_1_code
def yX5_init : MethodName := ⟨RX5, "<init>", "()V"⟩
abbrev cX5_well : ByteArray := prog_1_method_2_code
def yX5_well : MethodName := ⟨RX5, "well", "(IIIIIII)I"⟩
abbrev cX5_open : ByteArray := prog_1_method_3_code
def yX5_open : MethodName := ⟨RX5, "open", "(IZ)I"⟩
abbrev cX5_clean : ByteArray := prog_1_method_4_code
def yX5_clean : MethodName := ⟨RX5, "clean", "(I)I"⟩
abbrev cX5_flow : ByteArray := prog_1_method_5_code
def yX5_flow : MethodName := ⟨RX5, "flow", "(II)I"⟩
abbrev cX5_about : ByteArray := prog_1_method_6_code
def yX5_about : MethodName := ⟨RX5, "about", "(II)I"⟩
abbrev cX5_turbine : ByteArray := prog_1_method_7_code
def yX5_turbine : MethodName := ⟨RX5, "turbine", "(III)I"⟩
abbrev cX5_on : ByteArray := prog_1_method_8_code
def yX5_on : MethodName := ⟨RX5, "on", "(IZ)I"⟩
abbrev cX5_at : ByteArray := prog_1_method_9_code
def yX5_at : MethodName := ⟨RX5, "at", "(II)I"⟩
abbrev cX5_point : ByteArray := prog_1_method_10_code
def yX5_point : MethodName := ⟨RX5, "point", "()I"⟩
abbrev cX5_fill : ByteArray := prog_1_method_11_code
def yX5_fill : MethodName := ⟨RX5, "fill", "(III)I"⟩
abbrev cX5_set : ByteArray := prog_1_method_12_code
def yX5_set : MethodName := ⟨RX5, "set", "(III)I"⟩
abbrev cX5_year : ByteArray := prog_1_method_13_code
def yX5_year : MethodName := ⟨RX5, "year", "(I)I"⟩
abbrev cX5_box : ByteArray := prog_1_method_14_code
def yX5_box : MethodName := ⟨RX5, "box", "(II)J"⟩
abbrev cX5_sum : ByteArray := prog_1_method_15_code
def yX5_sum : MethodName := ⟨RX5, "sum", "(I)J"⟩
abbrev cX5_share : ByteArray := prog_1_method_16_code
def yX5_share : MethodName := ⟨RX5, "share", "(II)I"⟩
abbrev cX5_put : ByteArray := prog_1_method_17_code
def yX5_put : MethodName := ⟨RX5, "put", "(I)I"⟩
abbrev cX5_back : ByteArray := prog_1_method_18_code
def yX5_back : MethodName := ⟨RX5, "back", "(I)I"⟩
abbrev cX5_cut : ByteArray := prog_1_method_19_code
def yX5_cut : MethodName := ⟨RX5, "cut", "()I"⟩
abbrev cX5_candidate : ByteArray := prog_1_method_20_code
def yX5_candidate : MethodName := ⟨RX5, "candidate", "(III)I"⟩
abbrev cX5_promise : ByteArray := prog_1_method_21_code
def yX5_promise : MethodName := ⟨RX5, "promise", "(II)I"⟩
abbrev cX5_plan : ByteArray := prog_1_method_22_code
def yX5_plan : MethodName := ⟨RX5, "plan", "(I)I"⟩
abbrev cX5_lacks : ByteArray := prog_1_method_23_code
def yX5_lacks : MethodName := ⟨RX5, "lacks", "(II)I"⟩
abbrev cX5_count : ByteArray := prog_1_method_24_code
def yX5_count : MethodName := ⟨RX5, "count", "(I)I"⟩
abbrev cX5_trace : ByteArray := prog_1_method_25_code
def yX5_trace : MethodName := ⟨RX5, "trace", "()J"⟩
abbrev cX5_within : ByteArray := prog_1_method_26_code
def yX5_within : MethodName := ⟨RX5, "within", "(III)Z"⟩
abbrev cX5_isPressure : ByteArray := prog_1_method_27_code
def yX5_isPressure : MethodName := ⟨RX5, "isPressure", "(I)Z"⟩
abbrev cX5_isBox : ByteArray := prog_1_method_28_code
def yX5_isBox : MethodName := ⟨RX5, "isBox", "(I)Z"⟩
abbrev cX5_isPlanYear : ByteArray := prog_1_method_29_code
def yX5_isPlanYear : MethodName := ⟨RX5, "isPlanYear", "(I)Z"⟩
abbrev cX5_isWell : ByteArray := prog_1_method_30_code
def yX5_isWell : MethodName := ⟨RX5, "isWell", "(I)Z"⟩
abbrev cX5_trues : ByteArray := prog_1_method_31_code
def yX5_trues : MethodName := ⟨RX5, "trues", "([ZI)I"⟩
abbrev cX5_setLeak : ByteArray := prog_1_method_32_code
def yX5_setLeak : MethodName := ⟨RX5, "setLeak", "(II)I"⟩
abbrev cX5_setFeed : ByteArray := prog_1_method_33_code
def yX5_setFeed : MethodName := ⟨RX5, "setFeed", "(II)I"⟩
abbrev cX5_setGivenShare : ByteArray := prog_1_method_34_code
def yX5_setGivenShare : MethodName := ⟨RX5, "setGivenShare", "(I)I"⟩
abbrev cX5_setGivenBox : ByteArray := prog_1_method_35_code
def yX5_setGivenBox : MethodName := ⟨RX5, "setGivenBox", "(I)I"⟩
abbrev cX5_meeting : ByteArray := prog_1_method_36_code
def yX5_meeting : MethodName := ⟨RX5, "meeting", "()I"⟩
abbrev cX5_passYear : ByteArray := prog_1_method_37_code
def yX5_passYear : MethodName := ⟨RX5, "passYear", "()V"⟩
abbrev cX5_takeAll : ByteArray := prog_1_method_38_code
def yX5_takeAll : MethodName := ⟨RX5, "takeAll", "(I)J"⟩
def RX6 : String := "HotGroundModel"
def TX6 : u_T := fun k => match k with
  | 0 => ("HotGroundModel", "wells", "I", false)
  | 1 => ("HotGroundModel", "kind", "[I", true)
  | 2 => ("HotGroundModel", "inBox", "[I", true)
  | 3 => ("HotGroundModel", "age", "[I", true)
  | 4 => ("HotGroundModel", "isOpen", "[Z", true)
  | 5 => ("HotGroundModel", "corner", "[I", true)
  | 6 => ("HotGroundModel", "trace", "J", false)
  | 7 => ("HotGroundModel", "turbines", "I", false)
  | 8 => ("HotGroundModel", "least", "[I", true)
  | 9 => ("HotGroundModel", "rate", "[I", true)
  | 10 => ("HotGroundModel", "most", "[I", true)
  | 11 => ("HotGroundModel", "isOn", "[Z", true)
  | 12 => ("HotGroundModel", "mass", "[J", true)
  | 13 => ("HotGroundModel", "heat", "[J", true)
  | 14 => ("HotGroundModel", "leak", "[I", true)
  | 15 => ("HotGroundModel", "feed", "[I", true)
  | 16 => ("HotGroundModel", "givenShare", "I", false)
  | 17 => ("HotGroundModel", "givenBox", "I", false)
  | 18 => ("HotGroundModel", "sums", "[J", true)
  | 19 => ("HotGroundModel", "share", "[I", true)
  | 20 => ("HotGroundModel", "told", "I", false)
  | 21 => ("HotGroundModel", "put", "[I", true)
  | 22 => ("HotGroundModel", "candidates", "I", false)
  | 23 => ("HotGroundModel", "cost", "[I", true)
  | 24 => ("HotGroundModel", "fromYear", "[I", true)
  | 25 => ("HotGroundModel", "gives", "[I", true)
  | _ => ("HotGroundModel", "promise", "[I", true)
def tyX6 : Nat → FieldType := fun k => match k with
  | 0 => .int
  | 1 => .array .int
  | 2 => .array .int
  | 3 => .array .int
  | 4 => .array .boolean
  | 5 => .array .int
  | 6 => .long
  | 7 => .int
  | 8 => .array .int
  | 9 => .array .int
  | 10 => .array .int
  | 11 => .array .boolean
  | 12 => .array .long
  | 13 => .array .long
  | 14 => .array .int
  | 15 => .array .int
  | 16 => .int
  | 17 => .int
  | 18 => .array .long
  | 19 => .array .int
  | 20 => .int
  | 21 => .array .int
  | 22 => .int
  | 23 => .array .int
  | 24 => .array .int
  | 25 => .array .int
  | _ => .array .int
abbrev wsX60 : List Cond := u_ws RX6 TX6 27
theorem nmX6 : ∀ a, a < 27 → ∀ b, b < 27 → a ≠ b → (TX6 a).2.1 ≠ (TX6 b).2.1 := by decide +kernel
theorem tyX6_ok : ∀ k, k < 27 → parseFieldDescriptor (TX6 k).2.2.1 = some (tyX6 k) := by decide +kernel
abbrev cX6_init : ByteArray := prog_8_method_1_code
def yX6_init : MethodName := ⟨RX6, "<init>", "()V"⟩
abbrev cX6_in : ByteArray := prog_8_method_3_code
def yX6_in : MethodName := ⟨RX6, "in", "(III)Z"⟩
abbrev cX6_isWell : ByteArray := prog_8_method_4_code
def yX6_isWell : MethodName := ⟨RX6, "isWell", "(I)Z"⟩
abbrev cX6_well : ByteArray := prog_8_method_5_code
def yX6_well : MethodName := ⟨RX6, "well", "(IIIIIII)I"⟩
abbrev cX6_open : ByteArray := prog_8_method_6_code
def yX6_open : MethodName := ⟨RX6, "open", "(IZ)I"⟩
abbrev cX6_clean : ByteArray := prog_8_method_7_code
def yX6_clean : MethodName := ⟨RX6, "clean", "(I)I"⟩
abbrev cX6_flowOf : ByteArray := prog_8_method_8_code
def yX6_flowOf : MethodName := ⟨RX6, "flowOf", "(II)I"⟩
abbrev cX6_steamOf : ByteArray := prog_8_method_9_code
def yX6_steamOf : MethodName := ⟨RX6, "steamOf", "(II)I"⟩
abbrev cX6_flow : ByteArray := prog_8_method_10_code
def yX6_flow : MethodName := ⟨RX6, "flow", "(II)I"⟩
abbrev cX6_about : ByteArray := prog_8_method_11_code
def yX6_about : MethodName := ⟨RX6, "about", "(II)I"⟩
abbrev cX6_turbine : ByteArray := prog_8_method_12_code
def yX6_turbine : MethodName := ⟨RX6, "turbine", "(III)I"⟩
abbrev cX6_on : ByteArray := prog_8_method_13_code
def yX6_on : MethodName := ⟨RX6, "on", "(IZ)I"⟩
abbrev cX6_supply : ByteArray := prog_8_method_14_code
def yX6_supply : MethodName := ⟨RX6, "supply", "(I)I"⟩
abbrev cX6_draw : ByteArray := prog_8_method_15_code
def yX6_draw : MethodName := ⟨RX6, "draw", "(I)I"⟩
abbrev cX6_at : ByteArray := prog_8_method_16_code
def yX6_at : MethodName := ⟨RX6, "at", "(II)I"⟩
abbrev cX6_point : ByteArray := prog_8_method_17_code
def yX6_point : MethodName := ⟨RX6, "point", "()I"⟩
abbrev cX6_isBox : ByteArray := prog_8_method_18_code
def yX6_isBox : MethodName := ⟨RX6, "isBox", "(I)Z"⟩
abbrev cX6_fill : ByteArray := prog_8_method_19_code
def yX6_fill : MethodName := ⟨RX6, "fill", "(III)I"⟩
abbrev cX6_set : ByteArray := prog_8_method_20_code
def yX6_set : MethodName := ⟨RX6, "set", "(III)I"⟩
abbrev cX6_goes : ByteArray := prog_8_method_21_code
def yX6_goes : MethodName := ⟨RX6, "goes", "(IJ)J"⟩
abbrev cX6_comes : ByteArray := prog_8_method_22_code
def yX6_comes : MethodName := ⟨RX6, "comes", "(IJJ)V"⟩
abbrev cX6_wellsGive : ByteArray := prog_8_method_23_code
def yX6_wellsGive : MethodName := ⟨RX6, "wellsGive", "(I)V"⟩
abbrev cX6_leaks : ByteArray := prog_8_method_24_code
def yX6_leaks : MethodName := ⟨RX6, "leaks", "(I)V"⟩
abbrev cX6_oneYear : ByteArray := prog_8_method_25_code
def yX6_oneYear : MethodName := ⟨RX6, "oneYear", "()V"⟩
abbrev cX6_year : ByteArray := prog_8_method_26_code
def yX6_year : MethodName := ⟨RX6, "year", "(I)I"⟩
abbrev cX6_box : ByteArray := prog_8_method_27_code
def yX6_box : MethodName := ⟨RX6, "box", "(II)J"⟩
abbrev cX6_sum : ByteArray := prog_8_method_28_code
def yX6_sum : MethodName := ⟨RX6, "sum", "(I)J"⟩
abbrev cX6_share : ByteArray := prog_8_method_29_code
def yX6_share : MethodName := ⟨RX6, "share", "(II)I"⟩
abbrev cX6_put : ByteArray := prog_8_method_30_code
def yX6_put : MethodName := ⟨RX6, "put", "(I)I"⟩
abbrev cX6_back : ByteArray := prog_8_method_31_code
def yX6_back : MethodName := ⟨RX6, "back", "(I)I"⟩
abbrev cX6_cut : ByteArray := prog_8_method_32_code
def yX6_cut : MethodName := ⟨RX6, "cut", "()I"⟩
abbrev cX6_candidate : ByteArray := prog_8_method_33_code
def yX6_candidate : MethodName := ⟨RX6, "candidate", "(III)I"⟩
abbrev cX6_promise : ByteArray := prog_8_method_34_code
def yX6_promise : MethodName := ⟨RX6, "promise", "(II)I"⟩
abbrev cX6_lack : ByteArray := prog_8_method_35_code
def yX6_lack : MethodName := ⟨RX6, "lack", "(II)I"⟩
abbrev cX6_costOf : ByteArray := prog_8_method_36_code
def yX6_costOf : MethodName := ⟨RX6, "costOf", "(I)I"⟩
abbrev cX6_plan : ByteArray := prog_8_method_37_code
def yX6_plan : MethodName := ⟨RX6, "plan", "(I)I"⟩
abbrev cX6_lacks : ByteArray := prog_8_method_38_code
def yX6_lacks : MethodName := ⟨RX6, "lacks", "(II)I"⟩
abbrev cX6_count : ByteArray := prog_8_method_39_code
def yX6_count : MethodName := ⟨RX6, "count", "(I)I"⟩
abbrev cX6_trace : ByteArray := prog_8_method_40_code
def yX6_trace : MethodName := ⟨RX6, "trace", "()J"⟩
def RJ9 : String := "java/lang/Math"
def TJ9 : u_T := fun k => match k with
  | _ => ("", "", "", false)
def tyJ9 : Nat → FieldType := fun k => match k with
  | _ => .int
abbrev wsJ90 : List Cond := u_ws RJ9 TJ9 0
theorem nmJ9 : ∀ a, a < 0 → ∀ b, b < 0 → a ≠ b → (TJ9 a).2.1 ≠ (TJ9 b).2.1 := by decide +kernel
theorem tyJ9_ok : ∀ k, k < 0 → parseFieldDescriptor (TJ9 k).2.2.1 = some (tyJ9 k) := by decide +kernel
abbrev cJ9_max_7cf53 : ByteArray := prog_9_method_65_code
def yJ9_max_7cf53 : MethodName := ⟨RJ9, "max", "(II)I"⟩
abbrev cJ9_min_7cf53 : ByteArray := prog_9_method_69_code
def yJ9_min_7cf53 : MethodName := ⟨RJ9, "min", "(II)I"⟩
abbrev cJ9_min_f86c9 : ByteArray := prog_9_method_70_code
def yJ9_min_f86c9 : MethodName := ⟨RJ9, "min", "(JJ)J"⟩
def RL : String := "HotGroundLaw"
abbrev cL_law : ByteArray := code
def yL_law : MethodName := ⟨RL, "law", "([I)Z"⟩
def wsX0_init : List Cond := .code yX0_init cX0_init 1 none :: ([.methodLink RX0 1 objectInit, .instanceMethod objectInit, .code objectInit ⟨#[0xb1]⟩ 1 none, .arrayClass .long, .fieldLink RX0 9 "HotGround$Ground" "mass" "[J", .fieldLink RX0 13 "HotGround$Ground" "heat" "[J", .arrayClass .int, .fieldLink RX0 16 "HotGround$Ground" "feed" "[I", .fieldLink RX0 20 "HotGround$Ground" "leak" "[I", .fieldLink RX0 23 "HotGround$Ground" "sums" "[J"] ++ wsX00)
def wsX0_heatOf : List Cond := .code yX0_heatOf cX0_heatOf 4 (some .long) :: ([.fieldLink RX0 9 "HotGround$Ground" "mass" "[J", .fieldLink RX0 13 "HotGround$Ground" "heat" "[J"] ++ wsX00)
def wsX0_book : List Cond := .code yX0_book cX0_book 6 none :: ([.fieldLink RX0 23 "HotGround$Ground" "sums" "[J"] ++ wsX00)
def wsX0_take : List Cond := .code yX0_take cX0_take 8 (some .long) :: ([.fieldLink RX0 9 "HotGround$Ground" "mass" "[J", .methodLink RX0 26 Lib.MathLoose.min_long.x, .static Lib.MathLoose.min_long.x, .initialized "java/lang/Math", .code Lib.MathLoose.min_long.x Lib.MathLoose.min_long.code 4 (some .long), .fieldLink RX0 13 "HotGround$Ground" "heat" "[J", .methodLink RX0 32 yX0_heatOf, .instanceMethod yX0_heatOf, .selects RX0 yX0_heatOf yX0_heatOf, .initialized RX0, .code yX0_heatOf cX0_heatOf 4 (some .long), .methodLink RX0 36 yX0_book, .instanceMethod yX0_book, .selects RX0 yX0_book yX0_book, .code yX0_book cX0_book 6 none, .fieldLink RX0 23 "HotGround$Ground" "sums" "[J"] ++ wsX00)
def wsX0_pour : List Cond := .code yX0_pour cX0_pour 6 none :: ([.fieldLink RX0 9 "HotGround$Ground" "mass" "[J", .fieldLink RX0 13 "HotGround$Ground" "heat" "[J"] ++ wsX00)
def wsX0_giveBack : List Cond := .code yX0_giveBack cX0_giveBack 5 none :: ([.fieldLink RX0 40 "HotGround$Ground" "givenShare" "I", .constantLong RX0 44 (1000), .fieldLink RX0 46 "HotGround$Ground" "givenBox" "I", .constantLong RX0 49 (40), .methodLink RX0 51 yX0_pour, .instanceMethod yX0_pour, .selects RX0 yX0_pour yX0_pour, .initialized RX0, .code yX0_pour cX0_pour 6 none, .fieldLink RX0 9 "HotGround$Ground" "mass" "[J", .fieldLink RX0 13 "HotGround$Ground" "heat" "[J", .methodLink RX0 36 yX0_book, .instanceMethod yX0_book, .selects RX0 yX0_book yX0_book, .code yX0_book cX0_book 6 none, .fieldLink RX0 23 "HotGround$Ground" "sums" "[J"] ++ wsX00)
def wsX0_leakAll : List Cond := .code yX0_leakAll cX0_leakAll 9 none :: ([.fieldLink RX0 9 "HotGround$Ground" "mass" "[J", .fieldLink RX0 20 "HotGround$Ground" "leak" "[I", .methodLink RX0 32 yX0_heatOf, .instanceMethod yX0_heatOf, .selects RX0 yX0_heatOf yX0_heatOf, .initialized RX0, .code yX0_heatOf cX0_heatOf 4 (some .long), .fieldLink RX0 13 "HotGround$Ground" "heat" "[J", .methodLink RX0 51 yX0_pour, .instanceMethod yX0_pour, .selects RX0 yX0_pour yX0_pour, .code yX0_pour cX0_pour 6 none] ++ wsX00)
def wsX0_feedAll : List Cond := .code yX0_feedAll cX0_feedAll 4 none :: ([.fieldLink RX0 16 "HotGround$Ground" "feed" "[I", .constantLong RX0 54 (10), .methodLink RX0 51 yX0_pour, .instanceMethod yX0_pour, .selects RX0 yX0_pour yX0_pour, .initialized RX0, .code yX0_pour cX0_pour 6 none, .fieldLink RX0 9 "HotGround$Ground" "mass" "[J", .fieldLink RX0 13 "HotGround$Ground" "heat" "[J", .methodLink RX0 36 yX0_book, .instanceMethod yX0_book, .selects RX0 yX0_book yX0_book, .code yX0_book cX0_book 6 none, .fieldLink RX0 23 "HotGround$Ground" "sums" "[J"] ++ wsX00)
def wsX1_init : List Cond := .code yX1_init cX1_init 1 none :: ([.methodLink RX1 1 objectInit, .instanceMethod objectInit, .code objectInit ⟨#[0xb1]⟩ 1 none, .arrayClass .int, .fieldLink RX1 9 "HotGround$Kernel" "shares" "[I", .fieldLink RX1 13 "HotGround$Kernel" "amounts" "[I"] ++ wsX10)
def wsX1_together : List Cond := .code yX1_together cX1_together 3 (some .int) :: ([.fieldLink RX1 9 "HotGround$Kernel" "shares" "[I"] ++ wsX10)
def wsX1_comes : List Cond := .code yX1_comes cX1_comes 5 (some .int) :: ([.fieldLink RX1 16 "HotGround$Kernel" "count" "I", .fieldLink RX1 13 "HotGround$Kernel" "amounts" "[I", .fieldLink RX1 9 "HotGround$Kernel" "shares" "[I"] ++ wsX10)
def wsX2_init : List Cond := .code yX2_init cX2_init 1 none :: ([.methodLink RX2 3 objectInit, .instanceMethod objectInit, .code objectInit ⟨#[0xb1]⟩ 1 none, .arrayClass .int, .fieldLink RX2 11 "HotGround$Offers" "cost" "[I", .fieldLink RX2 15 "HotGround$Offers" "from" "[I", .fieldLink RX2 18 "HotGround$Offers" "steam" "[I", .fieldLink RX2 21 "HotGround$Offers" "promised" "[I"] ++ wsX20)
def wsX2_add : List Cond := .code yX2_add cX2_add 5 (some .int) :: ([.fieldLink RX2 24 "HotGround$Offers" "count" "I", .fieldLink RX2 11 "HotGround$Offers" "cost" "[I", .fieldLink RX2 15 "HotGround$Offers" "from" "[I", .fieldLink RX2 18 "HotGround$Offers" "steam" "[I"] ++ wsX20)
def wsX2_sets : List Cond := .code yX2_sets cX2_sets 1 (some .int) :: ([.fieldLink RX2 24 "HotGround$Offers" "count" "I"] ++ wsX20)
def wsX2_price : List Cond := .code yX2_price cX2_price 4 (some .int) :: ([.fieldLink RX2 24 "HotGround$Offers" "count" "I", .fieldLink RX2 11 "HotGround$Offers" "cost" "[I"] ++ wsX20)
def wsX2_missing : List Cond := .code yX2_missing cX2_missing 5 (some .int) :: ([.fieldLink RX2 24 "HotGround$Offers" "count" "I", .fieldLink RX2 15 "HotGround$Offers" "from" "[I", .fieldLink RX2 18 "HotGround$Offers" "steam" "[I", .fieldLink RX2 21 "HotGround$Offers" "promised" "[I", .methodLink RX2 28 Lib.Math.max.name, .static Lib.Math.max.name, .initialized "java/lang/Math", .code Lib.Math.max.name Lib.Math.max.code 2 (some .int)] ++ wsX20)
def wsX2_keeps : List Cond := .code yX2_keeps cX2_keeps 3 (some .boolean) :: ([.methodLink RX2 34 yX2_missing, .instanceMethod yX2_missing, .selects RX2 yX2_missing yX2_missing, .initialized RX2, .code yX2_missing cX2_missing 5 (some .int), .fieldLink RX2 24 "HotGround$Offers" "count" "I", .fieldLink RX2 15 "HotGround$Offers" "from" "[I", .fieldLink RX2 18 "HotGround$Offers" "steam" "[I", .fieldLink RX2 21 "HotGround$Offers" "promised" "[I", .methodLink RX2 28 Lib.Math.max.name, .static Lib.Math.max.name, .initialized "java/lang/Math", .code Lib.Math.max.name Lib.Math.max.code 2 (some .int)] ++ wsX20)
def wsX2_cheapest_r1 : List Cond := [Cond.methodLink RX2 37 yX2_sets, Cond.instanceMethod yX2_sets, Cond.selects RX2 yX2_sets yX2_sets, Cond.initialized RX2, Cond.code yX2_sets cX2_sets 1 (some .int), Cond.fieldLink RX2 24 "HotGround$Offers" "count" "I", Cond.methodLink RX2 41 yX2_price, Cond.instanceMethod yX2_price, Cond.selects RX2 yX2_price yX2_price, Cond.code yX2_price cX2_price 4 (some .int), Cond.fieldLink RX2 11 "HotGround$Offers" "cost" "[I", Cond.methodLink RX2 45 yX2_keeps, Cond.instanceMethod yX2_keeps, Cond.selects RX2 yX2_keeps yX2_keeps, Cond.code yX2_keeps cX2_keeps 3 (some .boolean), Cond.methodLink RX2 34 yX2_missing, Cond.instanceMethod yX2_missing, Cond.selects RX2 yX2_missing yX2_missing, Cond.code yX2_missing cX2_missing 5 (some .int), Cond.fieldLink RX2 15 "HotGround$Offers" "from" "[I", Cond.fieldLink RX2 18 "HotGround$Offers" "steam" "[I", Cond.fieldLink RX2 21 "HotGround$Offers" "promised" "[I", Cond.methodLink RX2 28 Lib.Math.max.name, Cond.static Lib.Math.max.name]
def wsX2_cheapest_r2 : List Cond := [Cond.initialized "java/lang/Math", Cond.code Lib.Math.max.name Lib.Math.max.code 2 (some .int)]
def wsX2_cheapest : List Cond := .code yX2_cheapest cX2_cheapest 5 (some .int) :: ((wsX2_cheapest_r1 ++ wsX2_cheapest_r2) ++ wsX20)
def wsX3_init : List Cond := .code yX3_init cX3_init 1 none :: ([.methodLink RX3 1 objectInit, .instanceMethod objectInit, .code objectInit ⟨#[0xb1]⟩ 1 none, .arrayClass .int, .fieldLink RX3 9 "HotGround$Plant" "least" "[I", .fieldLink RX3 13 "HotGround$Plant" "rate" "[I", .fieldLink RX3 16 "HotGround$Plant" "most" "[I", .arrayClass .boolean, .fieldLink RX3 19 "HotGround$Plant" "on" "[Z"] ++ wsX30)
def wsX3_add : List Cond := .code yX3_add cX3_add 5 (some .int) :: ([.fieldLink RX3 23 "HotGround$Plant" "count" "I", .fieldLink RX3 9 "HotGround$Plant" "least" "[I", .fieldLink RX3 13 "HotGround$Plant" "rate" "[I", .fieldLink RX3 16 "HotGround$Plant" "most" "[I", .fieldLink RX3 19 "HotGround$Plant" "on" "[Z"] ++ wsX30)
def wsX3_draw : List Cond := .code yX3_draw cX3_draw 4 (some .int) :: ([.fieldLink RX3 23 "HotGround$Plant" "count" "I", .fieldLink RX3 19 "HotGround$Plant" "on" "[Z", .fieldLink RX3 9 "HotGround$Plant" "least" "[I", .fieldLink RX3 13 "HotGround$Plant" "rate" "[I", .fieldLink RX3 16 "HotGround$Plant" "most" "[I", .methodLink RX3 27 Lib.Math.min.name, .static Lib.Math.min.name, .initialized "java/lang/Math", .code Lib.Math.min.name Lib.Math.min.code 2 (some .int)] ++ wsX30)
def wsX4_init : List Cond := .code yX4_init cX4_init 1 none :: ([.methodLink RX4 1 objectInit, .instanceMethod objectInit, .code objectInit ⟨#[0xb1]⟩ 1 none, .arrayClass .int, .fieldLink RX4 9 "HotGround$Wells" "kind" "[I", .fieldLink RX4 13 "HotGround$Wells" "box" "[I", .fieldLink RX4 16 "HotGround$Wells" "age" "[I", .arrayClass .boolean, .fieldLink RX4 19 "HotGround$Wells" "open" "[Z", .fieldLink RX4 23 "HotGround$Wells" "corners" "[I"] ++ wsX40)
def wsX4_add : List Cond := .code yX4_add cX4_add 4 (some .int) :: ([.fieldLink RX4 26 "HotGround$Wells" "count" "I", .fieldLink RX4 9 "HotGround$Wells" "kind" "[I", .fieldLink RX4 13 "HotGround$Wells" "box" "[I"] ++ wsX40)
def wsX4_shape : List Cond := .code yX4_shape cX4_shape 8 none :: ([.fieldLink RX4 23 "HotGround$Wells" "corners" "[I"] ++ wsX40)
def wsX4_weight : List Cond := .code yX4_weight cX4_weight 3 (some .int) :: ([.fieldLink RX4 9 "HotGround$Wells" "kind" "[I"] ++ wsX40)
def wsX4_plain : List Cond := .code yX4_plain cX4_plain 6 (some .int) :: ([.fieldLink RX4 23 "HotGround$Wells" "corners" "[I"] ++ wsX40)
def wsX4_scaled : List Cond := .code yX4_scaled cX4_scaled 2 (some .int) :: ([])
def wsX4_tested : List Cond := .code yX4_tested cX4_tested 1 (some .int) :: ([.methodLink RX4 41 Lib.Math.min.name, .static Lib.Math.min.name, .initialized "java/lang/Math", .code Lib.Math.min.name Lib.Math.min.code 2 (some .int)])
def wsX4_fifths : List Cond := .code yX4_fifths cX4_fifths 4 (some .int) :: ([.fieldLink RX4 9 "HotGround$Wells" "kind" "[I", .fieldLink RX4 16 "HotGround$Wells" "age" "[I", .methodLink RX4 30 yX4_plain, .instanceMethod yX4_plain, .selects RX4 yX4_plain yX4_plain, .initialized RX4, .code yX4_plain cX4_plain 6 (some .int), .fieldLink RX4 23 "HotGround$Wells" "corners" "[I", .methodLink RX4 34 yX4_scaled, .static yX4_scaled, .code yX4_scaled cX4_scaled 2 (some .int), .methodLink RX4 37 yX4_tested, .static yX4_tested, .code yX4_tested cX4_tested 1 (some .int), .methodLink RX4 41 Lib.Math.min.name, .static Lib.Math.min.name, .initialized "java/lang/Math", .code Lib.Math.min.name Lib.Math.min.code 2 (some .int)] ++ wsX40)
def wsX4_steam : List Cond := .code yX4_steam cX4_steam 2 (some .int) :: ([])
def wsX4_supply_r1 : List Cond := [Cond.fieldLink RX4 26 "HotGround$Wells" "count" "I", Cond.fieldLink RX4 19 "HotGround$Wells" "open" "[Z", Cond.methodLink RX4 46 yX4_fifths, Cond.instanceMethod yX4_fifths, Cond.selects RX4 yX4_fifths yX4_fifths, Cond.initialized RX4, Cond.code yX4_fifths cX4_fifths 4 (some .int), Cond.fieldLink RX4 9 "HotGround$Wells" "kind" "[I", Cond.fieldLink RX4 16 "HotGround$Wells" "age" "[I", Cond.methodLink RX4 30 yX4_plain, Cond.instanceMethod yX4_plain, Cond.selects RX4 yX4_plain yX4_plain, Cond.code yX4_plain cX4_plain 6 (some .int), Cond.fieldLink RX4 23 "HotGround$Wells" "corners" "[I", Cond.methodLink RX4 34 yX4_scaled, Cond.static yX4_scaled, Cond.code yX4_scaled cX4_scaled 2 (some .int), Cond.methodLink RX4 37 yX4_tested, Cond.static yX4_tested, Cond.code yX4_tested cX4_tested 1 (some .int), Cond.methodLink RX4 41 Lib.Math.min.name, Cond.static Lib.Math.min.name, Cond.initialized "java/lang/Math", Cond.code Lib.Math.min.name Lib.Math.min.code 2 (some .int)]
def wsX4_supply_r2 : List Cond := [Cond.methodLink RX4 49 yX4_steam, Cond.static yX4_steam, Cond.code yX4_steam cX4_steam 2 (some .int)]
def wsX4_supply : List Cond := .code yX4_supply cX4_supply 4 (some .int) :: ((wsX4_supply_r1 ++ wsX4_supply_r2) ++ wsX40)
def wsX4_water_r1 : List Cond := [Cond.fieldLink RX4 26 "HotGround$Wells" "count" "I", Cond.fieldLink RX4 19 "HotGround$Wells" "open" "[Z", Cond.methodLink RX4 46 yX4_fifths, Cond.instanceMethod yX4_fifths, Cond.selects RX4 yX4_fifths yX4_fifths, Cond.initialized RX4, Cond.code yX4_fifths cX4_fifths 4 (some .int), Cond.fieldLink RX4 9 "HotGround$Wells" "kind" "[I", Cond.fieldLink RX4 16 "HotGround$Wells" "age" "[I", Cond.methodLink RX4 30 yX4_plain, Cond.instanceMethod yX4_plain, Cond.selects RX4 yX4_plain yX4_plain, Cond.code yX4_plain cX4_plain 6 (some .int), Cond.fieldLink RX4 23 "HotGround$Wells" "corners" "[I", Cond.methodLink RX4 34 yX4_scaled, Cond.static yX4_scaled, Cond.code yX4_scaled cX4_scaled 2 (some .int), Cond.methodLink RX4 37 yX4_tested, Cond.static yX4_tested, Cond.code yX4_tested cX4_tested 1 (some .int), Cond.methodLink RX4 41 Lib.Math.min.name, Cond.static Lib.Math.min.name, Cond.initialized "java/lang/Math", Cond.code Lib.Math.min.name Lib.Math.min.code 2 (some .int)]
def wsX4_water_r2 : List Cond := [Cond.methodLink RX4 49 yX4_steam, Cond.static yX4_steam, Cond.code yX4_steam cX4_steam 2 (some .int)]
def wsX4_water : List Cond := .code yX4_water cX4_water 5 (some .int) :: ((wsX4_water_r1 ++ wsX4_water_r2) ++ wsX40)
def wsX4_grow : List Cond := .code yX4_grow cX4_grow 2 none :: ([.fieldLink RX4 26 "HotGround$Wells" "count" "I", .fieldLink RX4 19 "HotGround$Wells" "open" "[Z", .fieldLink RX4 16 "HotGround$Wells" "age" "[I"] ++ wsX40)
def wsX5_init_r1 : List Cond := [Cond.methodLink RX5 1 objectInit, Cond.instanceMethod objectInit, Cond.code objectInit ⟨#[0xb1]⟩ 1 none, Cond.classLink RX5 7 RX4, Cond.instantiable RX4 6, Cond.initialized RX4, Cond.fieldLink RX5 10 "HotGround" "wells" "LHotGround$Wells;", Cond.classLink RX5 16 RX3, Cond.instantiable RX3 5, Cond.initialized RX3, Cond.fieldLink RX5 19 "HotGround" "plant" "LHotGround$Plant;", Cond.classLink RX5 23 RX0, Cond.instantiable RX0 7, Cond.initialized RX0, Cond.fieldLink RX5 26 "HotGround" "ground" "LHotGround$Ground;", Cond.classLink RX5 30 RX1, Cond.instantiable RX1 3, Cond.initialized RX1, Cond.fieldLink RX5 33 "HotGround" "kernel" "LHotGround$Kernel;", Cond.classLink RX5 37 RX2, Cond.instantiable RX2 5, Cond.initialized RX2, Cond.fieldLink RX5 40 "HotGround" "offers" "LHotGround$Offers;", Cond.fieldLink RX5 44 "HotGround" "trace" "J"]
def wsX5_init_r2 : List Cond := [Cond.instanceMethod yX4_init, Cond.code yX4_init cX4_init 1 none, Cond.methodLink RX4 1 objectInit, Cond.arrayClass .int, Cond.fieldLink RX4 9 "HotGround$Wells" "kind" "[I", Cond.fieldLink RX4 13 "HotGround$Wells" "box" "[I", Cond.fieldLink RX4 16 "HotGround$Wells" "age" "[I", Cond.arrayClass .boolean, Cond.fieldLink RX4 19 "HotGround$Wells" "open" "[Z", Cond.fieldLink RX4 23 "HotGround$Wells" "corners" "[I", Cond.instanceMethod yX3_init, Cond.code yX3_init cX3_init 1 none, Cond.methodLink RX3 1 objectInit, Cond.fieldLink RX3 9 "HotGround$Plant" "least" "[I", Cond.fieldLink RX3 13 "HotGround$Plant" "rate" "[I", Cond.fieldLink RX3 16 "HotGround$Plant" "most" "[I", Cond.fieldLink RX3 19 "HotGround$Plant" "on" "[Z", Cond.instanceMethod yX0_init, Cond.code yX0_init cX0_init 1 none, Cond.methodLink RX0 1 objectInit, Cond.arrayClass .long, Cond.fieldLink RX0 9 "HotGround$Ground" "mass" "[J", Cond.fieldLink RX0 13 "HotGround$Ground" "heat" "[J", Cond.fieldLink RX0 16 "HotGround$Ground" "feed" "[I"]
def wsX5_init_r3 : List Cond := [Cond.fieldLink RX0 20 "HotGround$Ground" "leak" "[I", Cond.fieldLink RX0 23 "HotGround$Ground" "sums" "[J", Cond.instanceMethod yX1_init, Cond.code yX1_init cX1_init 1 none, Cond.methodLink RX1 1 objectInit, Cond.fieldLink RX1 9 "HotGround$Kernel" "shares" "[I", Cond.fieldLink RX1 13 "HotGround$Kernel" "amounts" "[I", Cond.instanceMethod yX2_init, Cond.code yX2_init cX2_init 1 none, Cond.methodLink RX2 3 objectInit, Cond.fieldLink RX2 11 "HotGround$Offers" "cost" "[I", Cond.fieldLink RX2 15 "HotGround$Offers" "from" "[I", Cond.fieldLink RX2 18 "HotGround$Offers" "steam" "[I", Cond.fieldLink RX2 21 "HotGround$Offers" "promised" "[I"]
def wsX5_init : List Cond := .code yX5_init cX5_init 1 none :: ((wsX5_init_r1 ++ (wsX5_init_r2 ++ wsX5_init_r3)) ++ wsX40 ++ wsX50 ++ wsX30 ++ wsX00 ++ wsX10 ++ wsX20)
def wsX5_within : List Cond := .code yX5_within cX5_within 3 (some .boolean) :: ([])
def wsX5_well : List Cond := .code yX5_well cX5_well 9 (some .int) :: ([.fieldLink RX5 10 "HotGround" "wells" "LHotGround$Wells;", .fieldLink RX5 52 "HotGround$Wells" "count" "I", .methodLink RX5 48 yX5_within, .static yX5_within, .initialized RX5, .code yX5_within cX5_within 3 (some .boolean), .methodLink RX5 56 yX4_add, .instanceMethod yX4_add, .selects RX4 yX4_add yX4_add, .initialized RX4, .code yX4_add cX4_add 4 (some .int), .fieldLink RX4 26 "HotGround$Wells" "count" "I", .fieldLink RX4 9 "HotGround$Wells" "kind" "[I", .fieldLink RX4 13 "HotGround$Wells" "box" "[I", .methodLink RX5 60 yX4_shape, .instanceMethod yX4_shape, .selects RX4 yX4_shape yX4_shape, .code yX4_shape cX4_shape 8 none, .fieldLink RX4 23 "HotGround$Wells" "corners" "[I"] ++ wsX50 ++ wsX40)
def wsX5_isWell : List Cond := .code yX5_isWell cX5_isWell 2 (some .boolean) :: ([.fieldLink RX5 10 "HotGround" "wells" "LHotGround$Wells;", .fieldLink RX5 52 "HotGround$Wells" "count" "I", .methodLink RX5 48 yX5_within, .static yX5_within, .initialized RX5, .code yX5_within cX5_within 3 (some .boolean)] ++ wsX50 ++ wsX40)
def wsX5_open : List Cond := .code yX5_open cX5_open 4 (some .int) :: ([.fieldLink RX5 10 "HotGround" "wells" "LHotGround$Wells;", .fieldLink RX5 68 "HotGround$Wells" "open" "[Z", .methodLink RX5 64 yX5_isWell, .instanceMethod yX5_isWell, .selects RX5 yX5_isWell yX5_isWell, .initialized RX5, .code yX5_isWell cX5_isWell 2 (some .boolean), .fieldLink RX5 52 "HotGround$Wells" "count" "I", .methodLink RX5 48 yX5_within, .static yX5_within, .code yX5_within cX5_within 3 (some .boolean)] ++ wsX50 ++ wsX40)
def wsX5_clean : List Cond := .code yX5_clean cX5_clean 3 (some .int) :: ([.fieldLink RX5 10 "HotGround" "wells" "LHotGround$Wells;", .fieldLink RX5 72 "HotGround$Wells" "age" "[I", .methodLink RX5 64 yX5_isWell, .instanceMethod yX5_isWell, .selects RX5 yX5_isWell yX5_isWell, .initialized RX5, .code yX5_isWell cX5_isWell 2 (some .boolean), .fieldLink RX5 52 "HotGround$Wells" "count" "I", .methodLink RX5 48 yX5_within, .static yX5_within, .code yX5_within cX5_within 3 (some .boolean)] ++ wsX50 ++ wsX40)
def wsX5_isPressure : List Cond := .code yX5_isPressure cX5_isPressure 1 (some .boolean) :: ([.methodLink RX5 48 yX5_within, .static yX5_within, .initialized RX5, .code yX5_within cX5_within 3 (some .boolean)])
def wsX5_flow_r1 : List Cond := [Cond.fieldLink RX5 44 "HotGround" "trace" "J", Cond.fieldLink RX5 10 "HotGround" "wells" "LHotGround$Wells;", Cond.methodLink RX5 64 yX5_isWell, Cond.instanceMethod yX5_isWell, Cond.selects RX5 yX5_isWell yX5_isWell, Cond.initialized RX5, Cond.code yX5_isWell cX5_isWell 2 (some .boolean), Cond.fieldLink RX5 52 "HotGround$Wells" "count" "I", Cond.methodLink RX5 48 yX5_within, Cond.static yX5_within, Cond.code yX5_within cX5_within 3 (some .boolean), Cond.methodLink RX5 76 yX5_isPressure, Cond.static yX5_isPressure, Cond.code yX5_isPressure cX5_isPressure 1 (some .boolean), Cond.methodLink RX5 79 yX4_weight, Cond.instanceMethod yX4_weight, Cond.selects RX4 yX4_weight yX4_weight, Cond.initialized RX4, Cond.code yX4_weight cX4_weight 3 (some .int), Cond.fieldLink RX4 9 "HotGround$Wells" "kind" "[I", Cond.methodLink RX5 83 yX4_fifths, Cond.instanceMethod yX4_fifths, Cond.selects RX4 yX4_fifths yX4_fifths, Cond.code yX4_fifths cX4_fifths 4 (some .int)]
def wsX5_flow_r2 : List Cond := [Cond.fieldLink RX4 16 "HotGround$Wells" "age" "[I", Cond.methodLink RX4 30 yX4_plain, Cond.instanceMethod yX4_plain, Cond.selects RX4 yX4_plain yX4_plain, Cond.code yX4_plain cX4_plain 6 (some .int), Cond.fieldLink RX4 23 "HotGround$Wells" "corners" "[I", Cond.methodLink RX4 34 yX4_scaled, Cond.static yX4_scaled, Cond.code yX4_scaled cX4_scaled 2 (some .int), Cond.methodLink RX4 37 yX4_tested, Cond.static yX4_tested, Cond.code yX4_tested cX4_tested 1 (some .int), Cond.methodLink RX4 41 Lib.Math.min.name, Cond.static Lib.Math.min.name, Cond.initialized "java/lang/Math", Cond.code Lib.Math.min.name Lib.Math.min.code 2 (some .int)]
def wsX5_flow : List Cond := .code yX5_flow cX5_flow 3 (some .int) :: ((wsX5_flow_r1 ++ wsX5_flow_r2) ++ wsX50 ++ wsX40)
def wsX5_about : List Cond := .code yX5_about cX5_about 3 (some .int) :: ([.fieldLink RX5 10 "HotGround" "wells" "LHotGround$Wells;", .fieldLink RX5 86 "HotGround$Wells" "kind" "[I", .fieldLink RX5 89 "HotGround$Wells" "box" "[I", .fieldLink RX5 72 "HotGround$Wells" "age" "[I", .fieldLink RX5 68 "HotGround$Wells" "open" "[Z", .fieldLink RX5 92 "HotGround$Wells" "corners" "[I", .methodLink RX5 64 yX5_isWell, .instanceMethod yX5_isWell, .selects RX5 yX5_isWell yX5_isWell, .initialized RX5, .code yX5_isWell cX5_isWell 2 (some .boolean), .fieldLink RX5 52 "HotGround$Wells" "count" "I", .methodLink RX5 48 yX5_within, .static yX5_within, .code yX5_within cX5_within 3 (some .boolean)] ++ wsX50 ++ wsX40)
def wsX5_turbine : List Cond := .code yX5_turbine cX5_turbine 4 (some .int) :: ([.fieldLink RX5 19 "HotGround" "plant" "LHotGround$Plant;", .fieldLink RX5 95 "HotGround$Plant" "count" "I", .methodLink RX5 76 yX5_isPressure, .static yX5_isPressure, .initialized RX5, .code yX5_isPressure cX5_isPressure 1 (some .boolean), .methodLink RX5 48 yX5_within, .static yX5_within, .code yX5_within cX5_within 3 (some .boolean), .methodLink RX5 96 yX3_add, .instanceMethod yX3_add, .selects RX3 yX3_add yX3_add, .initialized RX3, .code yX3_add cX3_add 5 (some .int), .fieldLink RX3 23 "HotGround$Plant" "count" "I", .fieldLink RX3 9 "HotGround$Plant" "least" "[I", .fieldLink RX3 13 "HotGround$Plant" "rate" "[I", .fieldLink RX3 16 "HotGround$Plant" "most" "[I", .fieldLink RX3 19 "HotGround$Plant" "on" "[Z"] ++ wsX50 ++ wsX30)
def wsX5_on : List Cond := .code yX5_on cX5_on 4 (some .int) :: ([.fieldLink RX5 19 "HotGround" "plant" "LHotGround$Plant;", .fieldLink RX5 95 "HotGround$Plant" "count" "I", .fieldLink RX5 99 "HotGround$Plant" "on" "[Z", .methodLink RX5 48 yX5_within, .static yX5_within, .initialized RX5, .code yX5_within cX5_within 3 (some .boolean)] ++ wsX50 ++ wsX30)
def wsX5_at_r1 : List Cond := [Cond.fieldLink RX5 10 "HotGround" "wells" "LHotGround$Wells;", Cond.fieldLink RX5 19 "HotGround" "plant" "LHotGround$Plant;", Cond.methodLink RX5 48 yX5_within, Cond.static yX5_within, Cond.initialized RX5, Cond.code yX5_within cX5_within 3 (some .boolean), Cond.methodLink RX5 76 yX5_isPressure, Cond.static yX5_isPressure, Cond.code yX5_isPressure cX5_isPressure 1 (some .boolean), Cond.methodLink RX5 102 yX4_supply, Cond.instanceMethod yX4_supply, Cond.selects RX4 yX4_supply yX4_supply, Cond.initialized RX4, Cond.code yX4_supply cX4_supply 4 (some .int), Cond.fieldLink RX4 26 "HotGround$Wells" "count" "I", Cond.fieldLink RX4 19 "HotGround$Wells" "open" "[Z", Cond.methodLink RX4 46 yX4_fifths, Cond.instanceMethod yX4_fifths, Cond.selects RX4 yX4_fifths yX4_fifths, Cond.code yX4_fifths cX4_fifths 4 (some .int), Cond.fieldLink RX4 9 "HotGround$Wells" "kind" "[I", Cond.fieldLink RX4 16 "HotGround$Wells" "age" "[I", Cond.methodLink RX4 30 yX4_plain, Cond.instanceMethod yX4_plain]
def wsX5_at_r2 : List Cond := [Cond.selects RX4 yX4_plain yX4_plain, Cond.code yX4_plain cX4_plain 6 (some .int), Cond.fieldLink RX4 23 "HotGround$Wells" "corners" "[I", Cond.methodLink RX4 34 yX4_scaled, Cond.static yX4_scaled, Cond.code yX4_scaled cX4_scaled 2 (some .int), Cond.methodLink RX4 37 yX4_tested, Cond.static yX4_tested, Cond.code yX4_tested cX4_tested 1 (some .int), Cond.methodLink RX4 41 Lib.Math.min.name, Cond.static Lib.Math.min.name, Cond.initialized "java/lang/Math", Cond.code Lib.Math.min.name Lib.Math.min.code 2 (some .int), Cond.methodLink RX4 49 yX4_steam, Cond.static yX4_steam, Cond.code yX4_steam cX4_steam 2 (some .int), Cond.methodLink RX5 105 yX3_draw, Cond.instanceMethod yX3_draw, Cond.selects RX3 yX3_draw yX3_draw, Cond.initialized RX3, Cond.code yX3_draw cX3_draw 4 (some .int), Cond.fieldLink RX3 23 "HotGround$Plant" "count" "I", Cond.fieldLink RX3 19 "HotGround$Plant" "on" "[Z", Cond.fieldLink RX3 9 "HotGround$Plant" "least" "[I"]
def wsX5_at_r3 : List Cond := [Cond.fieldLink RX3 13 "HotGround$Plant" "rate" "[I", Cond.fieldLink RX3 16 "HotGround$Plant" "most" "[I", Cond.methodLink RX3 27 Lib.Math.min.name, Cond.methodLink RX5 108 yX4_water, Cond.instanceMethod yX4_water, Cond.selects RX4 yX4_water yX4_water, Cond.code yX4_water cX4_water 5 (some .int)]
def wsX5_at : List Cond := .code yX5_at cX5_at 3 (some .int) :: ((wsX5_at_r1 ++ (wsX5_at_r2 ++ wsX5_at_r3)) ++ wsX50 ++ wsX40 ++ wsX30)
def wsX5_meeting_r1 : List Cond := [Cond.fieldLink RX5 10 "HotGround" "wells" "LHotGround$Wells;", Cond.fieldLink RX5 19 "HotGround" "plant" "LHotGround$Plant;", Cond.methodLink RX5 102 yX4_supply, Cond.instanceMethod yX4_supply, Cond.selects RX4 yX4_supply yX4_supply, Cond.initialized RX4, Cond.code yX4_supply cX4_supply 4 (some .int), Cond.fieldLink RX4 26 "HotGround$Wells" "count" "I", Cond.fieldLink RX4 19 "HotGround$Wells" "open" "[Z", Cond.methodLink RX4 46 yX4_fifths, Cond.instanceMethod yX4_fifths, Cond.selects RX4 yX4_fifths yX4_fifths, Cond.code yX4_fifths cX4_fifths 4 (some .int), Cond.fieldLink RX4 9 "HotGround$Wells" "kind" "[I", Cond.fieldLink RX4 16 "HotGround$Wells" "age" "[I", Cond.methodLink RX4 30 yX4_plain, Cond.instanceMethod yX4_plain, Cond.selects RX4 yX4_plain yX4_plain, Cond.code yX4_plain cX4_plain 6 (some .int), Cond.fieldLink RX4 23 "HotGround$Wells" "corners" "[I", Cond.methodLink RX4 34 yX4_scaled, Cond.static yX4_scaled, Cond.code yX4_scaled cX4_scaled 2 (some .int), Cond.methodLink RX4 37 yX4_tested]
def wsX5_meeting_r2 : List Cond := [Cond.static yX4_tested, Cond.code yX4_tested cX4_tested 1 (some .int), Cond.methodLink RX4 41 Lib.Math.min.name, Cond.static Lib.Math.min.name, Cond.initialized "java/lang/Math", Cond.code Lib.Math.min.name Lib.Math.min.code 2 (some .int), Cond.methodLink RX4 49 yX4_steam, Cond.static yX4_steam, Cond.code yX4_steam cX4_steam 2 (some .int), Cond.methodLink RX5 105 yX3_draw, Cond.instanceMethod yX3_draw, Cond.selects RX3 yX3_draw yX3_draw, Cond.initialized RX3, Cond.code yX3_draw cX3_draw 4 (some .int), Cond.fieldLink RX3 23 "HotGround$Plant" "count" "I", Cond.fieldLink RX3 19 "HotGround$Plant" "on" "[Z", Cond.fieldLink RX3 9 "HotGround$Plant" "least" "[I", Cond.fieldLink RX3 13 "HotGround$Plant" "rate" "[I", Cond.fieldLink RX3 16 "HotGround$Plant" "most" "[I", Cond.methodLink RX3 27 Lib.Math.min.name]
def wsX5_meeting : List Cond := .code yX5_meeting cX5_meeting 2 (some .int) :: ((wsX5_meeting_r1 ++ wsX5_meeting_r2) ++ wsX50 ++ wsX40 ++ wsX30)
def wsX5_point_r1 : List Cond := [Cond.methodLink RX5 111 yX5_meeting, Cond.instanceMethod yX5_meeting, Cond.selects RX5 yX5_meeting yX5_meeting, Cond.initialized RX5, Cond.code yX5_meeting cX5_meeting 2 (some .int), Cond.fieldLink RX5 10 "HotGround" "wells" "LHotGround$Wells;", Cond.fieldLink RX5 19 "HotGround" "plant" "LHotGround$Plant;", Cond.methodLink RX5 102 yX4_supply, Cond.instanceMethod yX4_supply, Cond.selects RX4 yX4_supply yX4_supply, Cond.initialized RX4, Cond.code yX4_supply cX4_supply 4 (some .int), Cond.fieldLink RX4 26 "HotGround$Wells" "count" "I", Cond.fieldLink RX4 19 "HotGround$Wells" "open" "[Z", Cond.methodLink RX4 46 yX4_fifths, Cond.instanceMethod yX4_fifths, Cond.selects RX4 yX4_fifths yX4_fifths, Cond.code yX4_fifths cX4_fifths 4 (some .int), Cond.fieldLink RX4 9 "HotGround$Wells" "kind" "[I", Cond.fieldLink RX4 16 "HotGround$Wells" "age" "[I", Cond.methodLink RX4 30 yX4_plain, Cond.instanceMethod yX4_plain, Cond.selects RX4 yX4_plain yX4_plain, Cond.code yX4_plain cX4_plain 6 (some .int)]
def wsX5_point_r2 : List Cond := [Cond.fieldLink RX4 23 "HotGround$Wells" "corners" "[I", Cond.methodLink RX4 34 yX4_scaled, Cond.static yX4_scaled, Cond.code yX4_scaled cX4_scaled 2 (some .int), Cond.methodLink RX4 37 yX4_tested, Cond.static yX4_tested, Cond.code yX4_tested cX4_tested 1 (some .int), Cond.methodLink RX4 41 Lib.Math.min.name, Cond.static Lib.Math.min.name, Cond.initialized "java/lang/Math", Cond.code Lib.Math.min.name Lib.Math.min.code 2 (some .int), Cond.methodLink RX4 49 yX4_steam, Cond.static yX4_steam, Cond.code yX4_steam cX4_steam 2 (some .int), Cond.methodLink RX5 105 yX3_draw, Cond.instanceMethod yX3_draw, Cond.selects RX3 yX3_draw yX3_draw, Cond.initialized RX3, Cond.code yX3_draw cX3_draw 4 (some .int), Cond.fieldLink RX3 23 "HotGround$Plant" "count" "I", Cond.fieldLink RX3 19 "HotGround$Plant" "on" "[Z", Cond.fieldLink RX3 9 "HotGround$Plant" "least" "[I", Cond.fieldLink RX3 13 "HotGround$Plant" "rate" "[I", Cond.fieldLink RX3 16 "HotGround$Plant" "most" "[I"]
def wsX5_point_r3 : List Cond := [Cond.methodLink RX3 27 Lib.Math.min.name]
def wsX5_point : List Cond := .code yX5_point cX5_point 1 (some .int) :: ((wsX5_point_r1 ++ (wsX5_point_r2 ++ wsX5_point_r3)) ++ wsX50 ++ wsX40 ++ wsX30)
def wsX5_isBox : List Cond := .code yX5_isBox cX5_isBox 1 (some .boolean) :: ([.methodLink RX5 48 yX5_within, .static yX5_within, .initialized RX5, .code yX5_within cX5_within 3 (some .boolean)])
def wsX5_fill : List Cond := .code yX5_fill cX5_fill 4 (some .int) :: ([.constant RX5 118 (10000000), .fieldLink RX5 26 "HotGround" "ground" "LHotGround$Ground;", .fieldLink RX5 119 "HotGround$Ground" "mass" "[J", .fieldLink RX5 123 "HotGround$Ground" "heat" "[J", .methodLink RX5 115 yX5_isBox, .static yX5_isBox, .initialized RX5, .code yX5_isBox cX5_isBox 1 (some .boolean), .methodLink RX5 48 yX5_within, .static yX5_within, .code yX5_within cX5_within 3 (some .boolean)] ++ wsX50 ++ wsX00)
def wsX5_setLeak : List Cond := .code yX5_setLeak cX5_setLeak 4 (some .int) :: ([.fieldLink RX5 26 "HotGround" "ground" "LHotGround$Ground;", .fieldLink RX5 184 "HotGround$Ground" "leak" "[I", .methodLink RX5 48 yX5_within, .static yX5_within, .initialized RX5, .code yX5_within cX5_within 3 (some .boolean)] ++ wsX50 ++ wsX00)
def wsX5_setFeed : List Cond := .code yX5_setFeed cX5_setFeed 4 (some .int) :: ([.fieldLink RX5 26 "HotGround" "ground" "LHotGround$Ground;", .fieldLink RX5 187 "HotGround$Ground" "feed" "[I", .methodLink RX5 115 yX5_isBox, .static yX5_isBox, .initialized RX5, .code yX5_isBox cX5_isBox 1 (some .boolean), .methodLink RX5 48 yX5_within, .static yX5_within, .code yX5_within cX5_within 3 (some .boolean)] ++ wsX50 ++ wsX00)
def wsX5_setGivenShare : List Cond := .code yX5_setGivenShare cX5_setGivenShare 3 (some .int) :: ([.fieldLink RX5 26 "HotGround" "ground" "LHotGround$Ground;", .fieldLink RX5 190 "HotGround$Ground" "givenShare" "I", .methodLink RX5 48 yX5_within, .static yX5_within, .initialized RX5, .code yX5_within cX5_within 3 (some .boolean)] ++ wsX50 ++ wsX00)
def wsX5_setGivenBox : List Cond := .code yX5_setGivenBox cX5_setGivenBox 3 (some .int) :: ([.fieldLink RX5 26 "HotGround" "ground" "LHotGround$Ground;", .fieldLink RX5 193 "HotGround$Ground" "givenBox" "I", .methodLink RX5 115 yX5_isBox, .static yX5_isBox, .initialized RX5, .code yX5_isBox cX5_isBox 1 (some .boolean), .methodLink RX5 48 yX5_within, .static yX5_within, .code yX5_within cX5_within 3 (some .boolean)] ++ wsX50 ++ wsX00)
def wsX5_set_r1 : List Cond := [Cond.methodLink RX5 126 yX5_setLeak, Cond.instanceMethod yX5_setLeak, Cond.selects RX5 yX5_setLeak yX5_setLeak, Cond.initialized RX5, Cond.code yX5_setLeak cX5_setLeak 4 (some .int), Cond.fieldLink RX5 26 "HotGround" "ground" "LHotGround$Ground;", Cond.fieldLink RX5 184 "HotGround$Ground" "leak" "[I", Cond.methodLink RX5 48 yX5_within, Cond.static yX5_within, Cond.code yX5_within cX5_within 3 (some .boolean), Cond.methodLink RX5 129 yX5_setFeed, Cond.instanceMethod yX5_setFeed, Cond.selects RX5 yX5_setFeed yX5_setFeed, Cond.code yX5_setFeed cX5_setFeed 4 (some .int), Cond.fieldLink RX5 187 "HotGround$Ground" "feed" "[I", Cond.methodLink RX5 115 yX5_isBox, Cond.static yX5_isBox, Cond.code yX5_isBox cX5_isBox 1 (some .boolean), Cond.methodLink RX5 132 yX5_setGivenShare, Cond.instanceMethod yX5_setGivenShare, Cond.selects RX5 yX5_setGivenShare yX5_setGivenShare, Cond.code yX5_setGivenShare cX5_setGivenShare 3 (some .int), Cond.fieldLink RX5 190 "HotGround$Ground" "givenShare" "I", Cond.methodLink RX5 135 yX5_setGivenBox]
def wsX5_set_r2 : List Cond := [Cond.instanceMethod yX5_setGivenBox, Cond.selects RX5 yX5_setGivenBox yX5_setGivenBox, Cond.code yX5_setGivenBox cX5_setGivenBox 3 (some .int), Cond.fieldLink RX5 193 "HotGround$Ground" "givenBox" "I"]
def wsX5_set : List Cond := .code yX5_set cX5_set 4 (some .int) :: ((wsX5_set_r1 ++ wsX5_set_r2) ++ wsX50 ++ wsX00)
def wsX5_takeAll_r1 : List Cond := [Cond.fieldLink RX5 10 "HotGround" "wells" "LHotGround$Wells;", Cond.fieldLink RX5 52 "HotGround$Wells" "count" "I", Cond.fieldLink RX5 68 "HotGround$Wells" "open" "[Z", Cond.fieldLink RX5 26 "HotGround" "ground" "LHotGround$Ground;", Cond.fieldLink RX5 89 "HotGround$Wells" "box" "[I", Cond.methodLink RX5 83 yX4_fifths, Cond.instanceMethod yX4_fifths, Cond.selects RX4 yX4_fifths yX4_fifths, Cond.initialized RX4, Cond.code yX4_fifths cX4_fifths 4 (some .int), Cond.fieldLink RX4 9 "HotGround$Wells" "kind" "[I", Cond.fieldLink RX4 16 "HotGround$Wells" "age" "[I", Cond.methodLink RX4 30 yX4_plain, Cond.instanceMethod yX4_plain, Cond.selects RX4 yX4_plain yX4_plain, Cond.code yX4_plain cX4_plain 6 (some .int), Cond.fieldLink RX4 23 "HotGround$Wells" "corners" "[I", Cond.methodLink RX4 34 yX4_scaled, Cond.static yX4_scaled, Cond.code yX4_scaled cX4_scaled 2 (some .int), Cond.methodLink RX4 37 yX4_tested, Cond.static yX4_tested, Cond.code yX4_tested cX4_tested 1 (some .int), Cond.methodLink RX4 41 Lib.Math.min.name]
def wsX5_takeAll_r2 : List Cond := [Cond.static Lib.Math.min.name, Cond.initialized "java/lang/Math", Cond.code Lib.Math.min.name Lib.Math.min.code 2 (some .int), Cond.methodLink RX5 213 yX0_take, Cond.instanceMethod yX0_take, Cond.selects RX0 yX0_take yX0_take, Cond.initialized RX0, Cond.code yX0_take cX0_take 8 (some .long), Cond.fieldLink RX0 9 "HotGround$Ground" "mass" "[J", Cond.methodLink RX0 26 Lib.MathLoose.min_long.x, Cond.static Lib.MathLoose.min_long.x, Cond.code Lib.MathLoose.min_long.x Lib.MathLoose.min_long.code 4 (some .long), Cond.fieldLink RX0 13 "HotGround$Ground" "heat" "[J", Cond.methodLink RX0 32 yX0_heatOf, Cond.instanceMethod yX0_heatOf, Cond.selects RX0 yX0_heatOf yX0_heatOf, Cond.code yX0_heatOf cX0_heatOf 4 (some .long), Cond.methodLink RX0 36 yX0_book, Cond.instanceMethod yX0_book, Cond.selects RX0 yX0_book yX0_book, Cond.code yX0_book cX0_book 6 none, Cond.fieldLink RX0 23 "HotGround$Ground" "sums" "[J"]
def wsX5_takeAll : List Cond := .code yX5_takeAll cX5_takeAll 5 (some .long) :: ((wsX5_takeAll_r1 ++ wsX5_takeAll_r2) ++ wsX50 ++ wsX40 ++ wsX00)
def wsX5_passYear_r1 : List Cond := [Cond.fieldLink RX5 26 "HotGround" "ground" "LHotGround$Ground;", Cond.fieldLink RX5 141 "HotGround$Ground" "sums" "[J", Cond.fieldLink RX5 19 "HotGround" "plant" "LHotGround$Plant;", Cond.fieldLink RX5 10 "HotGround" "wells" "LHotGround$Wells;", Cond.methodLink RX5 111 yX5_meeting, Cond.instanceMethod yX5_meeting, Cond.selects RX5 yX5_meeting yX5_meeting, Cond.initialized RX5, Cond.code yX5_meeting cX5_meeting 2 (some .int), Cond.methodLink RX5 102 yX4_supply, Cond.instanceMethod yX4_supply, Cond.selects RX4 yX4_supply yX4_supply, Cond.initialized RX4, Cond.code yX4_supply cX4_supply 4 (some .int), Cond.fieldLink RX4 26 "HotGround$Wells" "count" "I", Cond.fieldLink RX4 19 "HotGround$Wells" "open" "[Z", Cond.methodLink RX4 46 yX4_fifths, Cond.instanceMethod yX4_fifths, Cond.selects RX4 yX4_fifths yX4_fifths, Cond.code yX4_fifths cX4_fifths 4 (some .int), Cond.fieldLink RX4 9 "HotGround$Wells" "kind" "[I", Cond.fieldLink RX4 16 "HotGround$Wells" "age" "[I", Cond.methodLink RX4 30 yX4_plain, Cond.instanceMethod yX4_plain]
def wsX5_passYear_r2 : List Cond := [Cond.selects RX4 yX4_plain yX4_plain, Cond.code yX4_plain cX4_plain 6 (some .int), Cond.fieldLink RX4 23 "HotGround$Wells" "corners" "[I", Cond.methodLink RX4 34 yX4_scaled, Cond.static yX4_scaled, Cond.code yX4_scaled cX4_scaled 2 (some .int), Cond.methodLink RX4 37 yX4_tested, Cond.static yX4_tested, Cond.code yX4_tested cX4_tested 1 (some .int), Cond.methodLink RX4 41 Lib.Math.min.name, Cond.static Lib.Math.min.name, Cond.initialized "java/lang/Math", Cond.code Lib.Math.min.name Lib.Math.min.code 2 (some .int), Cond.methodLink RX4 49 yX4_steam, Cond.static yX4_steam, Cond.code yX4_steam cX4_steam 2 (some .int), Cond.methodLink RX5 105 yX3_draw, Cond.instanceMethod yX3_draw, Cond.selects RX3 yX3_draw yX3_draw, Cond.initialized RX3, Cond.code yX3_draw cX3_draw 4 (some .int), Cond.fieldLink RX3 23 "HotGround$Plant" "count" "I", Cond.fieldLink RX3 19 "HotGround$Plant" "on" "[Z", Cond.fieldLink RX3 9 "HotGround$Plant" "least" "[I"]
def wsX5_passYear_r3 : List Cond := [Cond.fieldLink RX3 13 "HotGround$Plant" "rate" "[I", Cond.fieldLink RX3 16 "HotGround$Plant" "most" "[I", Cond.methodLink RX3 27 Lib.Math.min.name, Cond.methodLink RX5 196 yX5_takeAll, Cond.instanceMethod yX5_takeAll, Cond.selects RX5 yX5_takeAll yX5_takeAll, Cond.code yX5_takeAll cX5_takeAll 5 (some .long), Cond.fieldLink RX5 52 "HotGround$Wells" "count" "I", Cond.fieldLink RX5 68 "HotGround$Wells" "open" "[Z", Cond.fieldLink RX5 89 "HotGround$Wells" "box" "[I", Cond.methodLink RX5 83 yX4_fifths, Cond.methodLink RX5 213 yX0_take, Cond.instanceMethod yX0_take, Cond.selects RX0 yX0_take yX0_take, Cond.initialized RX0, Cond.code yX0_take cX0_take 8 (some .long), Cond.fieldLink RX0 9 "HotGround$Ground" "mass" "[J", Cond.methodLink RX0 26 Lib.MathLoose.min_long.x, Cond.static Lib.MathLoose.min_long.x, Cond.code Lib.MathLoose.min_long.x Lib.MathLoose.min_long.code 4 (some .long), Cond.fieldLink RX0 13 "HotGround$Ground" "heat" "[J", Cond.methodLink RX0 32 yX0_heatOf, Cond.instanceMethod yX0_heatOf, Cond.selects RX0 yX0_heatOf yX0_heatOf]
def wsX5_passYear_r4 : List Cond := [Cond.code yX0_heatOf cX0_heatOf 4 (some .long), Cond.methodLink RX0 36 yX0_book, Cond.instanceMethod yX0_book, Cond.selects RX0 yX0_book yX0_book, Cond.code yX0_book cX0_book 6 none, Cond.fieldLink RX0 23 "HotGround$Ground" "sums" "[J", Cond.methodLink RX5 200 yX0_giveBack, Cond.instanceMethod yX0_giveBack, Cond.selects RX0 yX0_giveBack yX0_giveBack, Cond.code yX0_giveBack cX0_giveBack 5 none, Cond.fieldLink RX0 40 "HotGround$Ground" "givenShare" "I", Cond.constantLong RX0 44 (1000), Cond.fieldLink RX0 46 "HotGround$Ground" "givenBox" "I", Cond.constantLong RX0 49 (40), Cond.methodLink RX0 51 yX0_pour, Cond.instanceMethod yX0_pour, Cond.selects RX0 yX0_pour yX0_pour, Cond.code yX0_pour cX0_pour 6 none, Cond.methodLink RX5 204 yX0_leakAll, Cond.instanceMethod yX0_leakAll, Cond.selects RX0 yX0_leakAll yX0_leakAll, Cond.code yX0_leakAll cX0_leakAll 9 none, Cond.fieldLink RX0 20 "HotGround$Ground" "leak" "[I", Cond.methodLink RX5 207 yX0_feedAll]
def wsX5_passYear_r5 : List Cond := [Cond.instanceMethod yX0_feedAll, Cond.selects RX0 yX0_feedAll yX0_feedAll, Cond.code yX0_feedAll cX0_feedAll 4 none, Cond.fieldLink RX0 16 "HotGround$Ground" "feed" "[I", Cond.constantLong RX0 54 (10), Cond.methodLink RX5 210 yX4_grow, Cond.instanceMethod yX4_grow, Cond.selects RX4 yX4_grow yX4_grow, Cond.code yX4_grow cX4_grow 2 none]
def wsX5_passYear : List Cond := .code yX5_passYear cX5_passYear 2 none :: ((wsX5_passYear_r1 ++ (wsX5_passYear_r2 ++ (wsX5_passYear_r3 ++ (wsX5_passYear_r4 ++ wsX5_passYear_r5)))) ++ wsX50 ++ wsX00 ++ wsX40 ++ wsX30)
def wsX5_year_r1 : List Cond := [Cond.fieldLink RX5 26 "HotGround" "ground" "LHotGround$Ground;", Cond.fieldLink RX5 141 "HotGround$Ground" "sums" "[J", Cond.methodLink RX5 48 yX5_within, Cond.static yX5_within, Cond.initialized RX5, Cond.code yX5_within cX5_within 3 (some .boolean), Cond.methodLink RX5 138 yX5_passYear, Cond.instanceMethod yX5_passYear, Cond.selects RX5 yX5_passYear yX5_passYear, Cond.code yX5_passYear cX5_passYear 2 none, Cond.fieldLink RX5 19 "HotGround" "plant" "LHotGround$Plant;", Cond.fieldLink RX5 10 "HotGround" "wells" "LHotGround$Wells;", Cond.methodLink RX5 111 yX5_meeting, Cond.instanceMethod yX5_meeting, Cond.selects RX5 yX5_meeting yX5_meeting, Cond.code yX5_meeting cX5_meeting 2 (some .int), Cond.methodLink RX5 102 yX4_supply, Cond.instanceMethod yX4_supply, Cond.selects RX4 yX4_supply yX4_supply, Cond.initialized RX4, Cond.code yX4_supply cX4_supply 4 (some .int), Cond.fieldLink RX4 26 "HotGround$Wells" "count" "I", Cond.fieldLink RX4 19 "HotGround$Wells" "open" "[Z", Cond.methodLink RX4 46 yX4_fifths]
def wsX5_year_r2 : List Cond := [Cond.instanceMethod yX4_fifths, Cond.selects RX4 yX4_fifths yX4_fifths, Cond.code yX4_fifths cX4_fifths 4 (some .int), Cond.fieldLink RX4 9 "HotGround$Wells" "kind" "[I", Cond.fieldLink RX4 16 "HotGround$Wells" "age" "[I", Cond.methodLink RX4 30 yX4_plain, Cond.instanceMethod yX4_plain, Cond.selects RX4 yX4_plain yX4_plain, Cond.code yX4_plain cX4_plain 6 (some .int), Cond.fieldLink RX4 23 "HotGround$Wells" "corners" "[I", Cond.methodLink RX4 34 yX4_scaled, Cond.static yX4_scaled, Cond.code yX4_scaled cX4_scaled 2 (some .int), Cond.methodLink RX4 37 yX4_tested, Cond.static yX4_tested, Cond.code yX4_tested cX4_tested 1 (some .int), Cond.methodLink RX4 41 Lib.Math.min.name, Cond.static Lib.Math.min.name, Cond.initialized "java/lang/Math", Cond.code Lib.Math.min.name Lib.Math.min.code 2 (some .int), Cond.methodLink RX4 49 yX4_steam, Cond.static yX4_steam, Cond.code yX4_steam cX4_steam 2 (some .int), Cond.methodLink RX5 105 yX3_draw]
def wsX5_year_r3 : List Cond := [Cond.instanceMethod yX3_draw, Cond.selects RX3 yX3_draw yX3_draw, Cond.initialized RX3, Cond.code yX3_draw cX3_draw 4 (some .int), Cond.fieldLink RX3 23 "HotGround$Plant" "count" "I", Cond.fieldLink RX3 19 "HotGround$Plant" "on" "[Z", Cond.fieldLink RX3 9 "HotGround$Plant" "least" "[I", Cond.fieldLink RX3 13 "HotGround$Plant" "rate" "[I", Cond.fieldLink RX3 16 "HotGround$Plant" "most" "[I", Cond.methodLink RX3 27 Lib.Math.min.name, Cond.methodLink RX5 196 yX5_takeAll, Cond.instanceMethod yX5_takeAll, Cond.selects RX5 yX5_takeAll yX5_takeAll, Cond.code yX5_takeAll cX5_takeAll 5 (some .long), Cond.fieldLink RX5 52 "HotGround$Wells" "count" "I", Cond.fieldLink RX5 68 "HotGround$Wells" "open" "[Z", Cond.fieldLink RX5 89 "HotGround$Wells" "box" "[I", Cond.methodLink RX5 83 yX4_fifths, Cond.methodLink RX5 213 yX0_take, Cond.instanceMethod yX0_take, Cond.selects RX0 yX0_take yX0_take, Cond.initialized RX0, Cond.code yX0_take cX0_take 8 (some .long), Cond.fieldLink RX0 9 "HotGround$Ground" "mass" "[J"]
def wsX5_year_r4 : List Cond := [Cond.methodLink RX0 26 Lib.MathLoose.min_long.x, Cond.static Lib.MathLoose.min_long.x, Cond.code Lib.MathLoose.min_long.x Lib.MathLoose.min_long.code 4 (some .long), Cond.fieldLink RX0 13 "HotGround$Ground" "heat" "[J", Cond.methodLink RX0 32 yX0_heatOf, Cond.instanceMethod yX0_heatOf, Cond.selects RX0 yX0_heatOf yX0_heatOf, Cond.code yX0_heatOf cX0_heatOf 4 (some .long), Cond.methodLink RX0 36 yX0_book, Cond.instanceMethod yX0_book, Cond.selects RX0 yX0_book yX0_book, Cond.code yX0_book cX0_book 6 none, Cond.fieldLink RX0 23 "HotGround$Ground" "sums" "[J", Cond.methodLink RX5 200 yX0_giveBack, Cond.instanceMethod yX0_giveBack, Cond.selects RX0 yX0_giveBack yX0_giveBack, Cond.code yX0_giveBack cX0_giveBack 5 none, Cond.fieldLink RX0 40 "HotGround$Ground" "givenShare" "I", Cond.constantLong RX0 44 (1000), Cond.fieldLink RX0 46 "HotGround$Ground" "givenBox" "I", Cond.constantLong RX0 49 (40), Cond.methodLink RX0 51 yX0_pour, Cond.instanceMethod yX0_pour, Cond.selects RX0 yX0_pour yX0_pour]
def wsX5_year_r5 : List Cond := [Cond.code yX0_pour cX0_pour 6 none, Cond.methodLink RX5 204 yX0_leakAll, Cond.instanceMethod yX0_leakAll, Cond.selects RX0 yX0_leakAll yX0_leakAll, Cond.code yX0_leakAll cX0_leakAll 9 none, Cond.fieldLink RX0 20 "HotGround$Ground" "leak" "[I", Cond.methodLink RX5 207 yX0_feedAll, Cond.instanceMethod yX0_feedAll, Cond.selects RX0 yX0_feedAll yX0_feedAll, Cond.code yX0_feedAll cX0_feedAll 4 none, Cond.fieldLink RX0 16 "HotGround$Ground" "feed" "[I", Cond.constantLong RX0 54 (10), Cond.methodLink RX5 210 yX4_grow, Cond.instanceMethod yX4_grow, Cond.selects RX4 yX4_grow yX4_grow, Cond.code yX4_grow cX4_grow 2 none]
def wsX5_year : List Cond := .code yX5_year cX5_year 3 (some .int) :: ((wsX5_year_r1 ++ (wsX5_year_r2 ++ (wsX5_year_r3 ++ (wsX5_year_r4 ++ wsX5_year_r5)))) ++ wsX50 ++ wsX00 ++ wsX40 ++ wsX30)
def wsX5_box : List Cond := .code yX5_box cX5_box 3 (some .long) :: ([.constantLong RX5 144 (-1), .fieldLink RX5 26 "HotGround" "ground" "LHotGround$Ground;", .fieldLink RX5 119 "HotGround$Ground" "mass" "[J", .fieldLink RX5 123 "HotGround$Ground" "heat" "[J", .methodLink RX5 115 yX5_isBox, .static yX5_isBox, .initialized RX5, .code yX5_isBox cX5_isBox 1 (some .boolean), .methodLink RX5 48 yX5_within, .static yX5_within, .code yX5_within cX5_within 3 (some .boolean)] ++ wsX50 ++ wsX00)
def wsX5_sum : List Cond := .code yX5_sum cX5_sum 2 (some .long) :: ([.constantLong RX5 144 (-1), .fieldLink RX5 26 "HotGround" "ground" "LHotGround$Ground;", .fieldLink RX5 141 "HotGround$Ground" "sums" "[J", .methodLink RX5 48 yX5_within, .static yX5_within, .initialized RX5, .code yX5_within cX5_within 3 (some .boolean)] ++ wsX50 ++ wsX00)
def wsX5_share : List Cond := .code yX5_share cX5_share 4 (some .int) :: ([.fieldLink RX5 33 "HotGround" "kernel" "LHotGround$Kernel;", .fieldLink RX5 146 "HotGround$Kernel" "shares" "[I", .methodLink RX5 48 yX5_within, .static yX5_within, .initialized RX5, .code yX5_within cX5_within 3 (some .boolean), .methodLink RX5 149 yX1_together, .instanceMethod yX1_together, .selects RX1 yX1_together yX1_together, .initialized RX1, .code yX1_together cX1_together 3 (some .int), .fieldLink RX1 9 "HotGround$Kernel" "shares" "[I"] ++ wsX50 ++ wsX10)
def wsX5_put : List Cond := .code yX5_put cX5_put 2 (some .int) :: ([.constant RX5 152 (1000000), .fieldLink RX5 33 "HotGround" "kernel" "LHotGround$Kernel;", .fieldLink RX5 153 "HotGround$Kernel" "count" "I", .fieldLink RX5 154 "HotGround$Kernel" "amounts" "[I", .methodLink RX5 48 yX5_within, .static yX5_within, .initialized RX5, .code yX5_within cX5_within 3 (some .boolean)] ++ wsX50 ++ wsX10)
def wsX5_back : List Cond := .code yX5_back cX5_back 2 (some .int) :: ([.fieldLink RX5 33 "HotGround" "kernel" "LHotGround$Kernel;", .methodLink RX5 48 yX5_within, .static yX5_within, .initialized RX5, .code yX5_within cX5_within 3 (some .boolean), .methodLink RX5 157 yX1_comes, .instanceMethod yX1_comes, .selects RX1 yX1_comes yX1_comes, .initialized RX1, .code yX1_comes cX1_comes 5 (some .int), .fieldLink RX1 16 "HotGround$Kernel" "count" "I", .fieldLink RX1 13 "HotGround$Kernel" "amounts" "[I", .fieldLink RX1 9 "HotGround$Kernel" "shares" "[I"] ++ wsX50 ++ wsX10)
def wsX5_cut : List Cond := .code yX5_cut cX5_cut 1 (some .int) :: ([.fieldLink RX5 33 "HotGround" "kernel" "LHotGround$Kernel;", .fieldLink RX5 153 "HotGround$Kernel" "count" "I"] ++ wsX50 ++ wsX10)
def wsX5_isPlanYear : List Cond := .code yX5_isPlanYear cX5_isPlanYear 1 (some .boolean) :: ([.methodLink RX5 48 yX5_within, .static yX5_within, .initialized RX5, .code yX5_within cX5_within 3 (some .boolean)])
def wsX5_candidate : List Cond := .code yX5_candidate cX5_candidate 4 (some .int) :: ([.fieldLink RX5 40 "HotGround" "offers" "LHotGround$Offers;", .fieldLink RX5 163 "HotGround$Offers" "count" "I", .methodLink RX5 48 yX5_within, .static yX5_within, .initialized RX5, .code yX5_within cX5_within 3 (some .boolean), .methodLink RX5 160 yX5_isPlanYear, .static yX5_isPlanYear, .code yX5_isPlanYear cX5_isPlanYear 1 (some .boolean), .methodLink RX5 164 yX2_add, .instanceMethod yX2_add, .selects RX2 yX2_add yX2_add, .initialized RX2, .code yX2_add cX2_add 5 (some .int), .fieldLink RX2 24 "HotGround$Offers" "count" "I", .fieldLink RX2 11 "HotGround$Offers" "cost" "[I", .fieldLink RX2 15 "HotGround$Offers" "from" "[I", .fieldLink RX2 18 "HotGround$Offers" "steam" "[I"] ++ wsX50 ++ wsX20)
def wsX5_promise : List Cond := .code yX5_promise cX5_promise 4 (some .int) :: ([.fieldLink RX5 40 "HotGround" "offers" "LHotGround$Offers;", .fieldLink RX5 165 "HotGround$Offers" "promised" "[I", .methodLink RX5 160 yX5_isPlanYear, .static yX5_isPlanYear, .initialized RX5, .code yX5_isPlanYear cX5_isPlanYear 1 (some .boolean), .methodLink RX5 48 yX5_within, .static yX5_within, .code yX5_within cX5_within 3 (some .boolean)] ++ wsX50 ++ wsX20)
def wsX5_plan_r1 : List Cond := [Cond.fieldLink RX5 40 "HotGround" "offers" "LHotGround$Offers;", Cond.methodLink RX5 48 yX5_within, Cond.static yX5_within, Cond.initialized RX5, Cond.code yX5_within cX5_within 3 (some .boolean), Cond.methodLink RX5 168 yX2_cheapest, Cond.instanceMethod yX2_cheapest, Cond.selects RX2 yX2_cheapest yX2_cheapest, Cond.initialized RX2, Cond.code yX2_cheapest cX2_cheapest 5 (some .int), Cond.methodLink RX2 37 yX2_sets, Cond.instanceMethod yX2_sets, Cond.selects RX2 yX2_sets yX2_sets, Cond.code yX2_sets cX2_sets 1 (some .int), Cond.fieldLink RX2 24 "HotGround$Offers" "count" "I", Cond.methodLink RX2 41 yX2_price, Cond.instanceMethod yX2_price, Cond.selects RX2 yX2_price yX2_price, Cond.code yX2_price cX2_price 4 (some .int), Cond.fieldLink RX2 11 "HotGround$Offers" "cost" "[I", Cond.methodLink RX2 45 yX2_keeps, Cond.instanceMethod yX2_keeps, Cond.selects RX2 yX2_keeps yX2_keeps, Cond.code yX2_keeps cX2_keeps 3 (some .boolean)]
def wsX5_plan_r2 : List Cond := [Cond.methodLink RX2 34 yX2_missing, Cond.instanceMethod yX2_missing, Cond.selects RX2 yX2_missing yX2_missing, Cond.code yX2_missing cX2_missing 5 (some .int), Cond.fieldLink RX2 15 "HotGround$Offers" "from" "[I", Cond.fieldLink RX2 18 "HotGround$Offers" "steam" "[I", Cond.fieldLink RX2 21 "HotGround$Offers" "promised" "[I", Cond.methodLink RX2 28 Lib.Math.max.name, Cond.static Lib.Math.max.name, Cond.initialized "java/lang/Math", Cond.code Lib.Math.max.name Lib.Math.max.code 2 (some .int), Cond.methodLink RX5 171 yX2_price]
def wsX5_plan : List Cond := .code yX5_plan cX5_plan 3 (some .int) :: ((wsX5_plan_r1 ++ wsX5_plan_r2) ++ wsX50 ++ wsX20)
def wsX5_lacks_r1 : List Cond := [Cond.fieldLink RX5 40 "HotGround" "offers" "LHotGround$Offers;", Cond.methodLink RX5 174 yX2_sets, Cond.instanceMethod yX2_sets, Cond.selects RX2 yX2_sets yX2_sets, Cond.initialized RX2, Cond.code yX2_sets cX2_sets 1 (some .int), Cond.fieldLink RX2 24 "HotGround$Offers" "count" "I", Cond.methodLink RX5 48 yX5_within, Cond.static yX5_within, Cond.initialized RX5, Cond.code yX5_within cX5_within 3 (some .boolean), Cond.methodLink RX5 160 yX5_isPlanYear, Cond.static yX5_isPlanYear, Cond.code yX5_isPlanYear cX5_isPlanYear 1 (some .boolean), Cond.methodLink RX5 177 yX2_missing, Cond.instanceMethod yX2_missing, Cond.selects RX2 yX2_missing yX2_missing, Cond.code yX2_missing cX2_missing 5 (some .int), Cond.fieldLink RX2 15 "HotGround$Offers" "from" "[I", Cond.fieldLink RX2 18 "HotGround$Offers" "steam" "[I", Cond.fieldLink RX2 21 "HotGround$Offers" "promised" "[I", Cond.methodLink RX2 28 Lib.Math.max.name, Cond.static Lib.Math.max.name, Cond.initialized "java/lang/Math"]
def wsX5_lacks_r2 : List Cond := [Cond.code Lib.Math.max.name Lib.Math.max.code 2 (some .int)]
def wsX5_lacks : List Cond := .code yX5_lacks cX5_lacks 3 (some .int) :: ((wsX5_lacks_r1 ++ wsX5_lacks_r2) ++ wsX50 ++ wsX20)
def wsX5_trues : List Cond := .code yX5_trues cX5_trues 4 (some .int) :: ([])
def wsX5_count : List Cond := .code yX5_count cX5_count 2 (some .int) :: ([.fieldLink RX5 10 "HotGround" "wells" "LHotGround$Wells;", .fieldLink RX5 52 "HotGround$Wells" "count" "I", .fieldLink RX5 19 "HotGround" "plant" "LHotGround$Plant;", .fieldLink RX5 95 "HotGround$Plant" "count" "I", .fieldLink RX5 40 "HotGround" "offers" "LHotGround$Offers;", .fieldLink RX5 163 "HotGround$Offers" "count" "I", .fieldLink RX5 33 "HotGround" "kernel" "LHotGround$Kernel;", .fieldLink RX5 153 "HotGround$Kernel" "count" "I", .fieldLink RX5 68 "HotGround$Wells" "open" "[Z", .fieldLink RX5 99 "HotGround$Plant" "on" "[Z", .methodLink RX5 180 yX5_trues, .static yX5_trues, .initialized RX5, .code yX5_trues cX5_trues 4 (some .int)] ++ wsX50 ++ wsX40 ++ wsX30 ++ wsX20 ++ wsX10)
def wsX5_trace : List Cond := .code yX5_trace cX5_trace 1 (some .long) :: ([.fieldLink RX5 44 "HotGround" "trace" "J"] ++ wsX50)
def wsX6_init_r1 : List Cond := [Cond.methodLink RX6 1 objectInit, Cond.instanceMethod objectInit, Cond.code objectInit ⟨#[0xb1]⟩ 1 none, Cond.arrayClass .int, Cond.fieldLink RX6 7 "HotGroundModel" "kind" "[I", Cond.fieldLink RX6 13 "HotGroundModel" "inBox" "[I", Cond.fieldLink RX6 16 "HotGroundModel" "age" "[I", Cond.arrayClass .boolean, Cond.fieldLink RX6 19 "HotGroundModel" "isOpen" "[Z", Cond.fieldLink RX6 23 "HotGroundModel" "corner" "[I", Cond.fieldLink RX6 26 "HotGroundModel" "least" "[I", Cond.fieldLink RX6 29 "HotGroundModel" "rate" "[I", Cond.fieldLink RX6 32 "HotGroundModel" "most" "[I", Cond.fieldLink RX6 35 "HotGroundModel" "isOn" "[Z", Cond.arrayClass .long, Cond.fieldLink RX6 38 "HotGroundModel" "mass" "[J", Cond.fieldLink RX6 42 "HotGroundModel" "heat" "[J", Cond.fieldLink RX6 45 "HotGroundModel" "leak" "[I", Cond.fieldLink RX6 48 "HotGroundModel" "feed" "[I", Cond.fieldLink RX6 51 "HotGroundModel" "sums" "[J", Cond.fieldLink RX6 54 "HotGroundModel" "share" "[I", Cond.fieldLink RX6 57 "HotGroundModel" "put" "[I", Cond.fieldLink RX6 60 "HotGroundModel" "cost" "[I", Cond.fieldLink RX6 63 "HotGroundModel" "fromYear" "[I"]
def wsX6_init_r2 : List Cond := [Cond.fieldLink RX6 66 "HotGroundModel" "gives" "[I", Cond.fieldLink RX6 69 "HotGroundModel" "promise" "[I", Cond.fieldLink RX6 72 "HotGroundModel" "wells" "I"]
def wsX6_init : List Cond := .code yX6_init cX6_init 1 none :: ((wsX6_init_r1 ++ wsX6_init_r2) ++ wsX60)
def wsX6_in : List Cond := .code yX6_in cX6_in 3 (some .boolean) :: ([])
def wsX6_isWell : List Cond := .code yX6_isWell cX6_isWell 2 (some .boolean) :: ([.fieldLink RX6 72 "HotGroundModel" "wells" "I", .methodLink RX6 76 yX6_in, .static yX6_in, .initialized RX6, .code yX6_in cX6_in 3 (some .boolean)] ++ wsX60)
def wsX6_well : List Cond := .code yX6_well cX6_well 9 (some .int) :: ([.fieldLink RX6 72 "HotGroundModel" "wells" "I", .fieldLink RX6 7 "HotGroundModel" "kind" "[I", .fieldLink RX6 13 "HotGroundModel" "inBox" "[I", .fieldLink RX6 16 "HotGroundModel" "age" "[I", .fieldLink RX6 19 "HotGroundModel" "isOpen" "[Z", .fieldLink RX6 23 "HotGroundModel" "corner" "[I", .methodLink RX6 76 yX6_in, .static yX6_in, .initialized RX6, .code yX6_in cX6_in 3 (some .boolean)] ++ wsX60)
def wsX6_open : List Cond := .code yX6_open cX6_open 4 (some .int) :: ([.fieldLink RX6 19 "HotGroundModel" "isOpen" "[Z", .methodLink RX6 80 yX6_isWell, .instanceMethod yX6_isWell, .selects RX6 yX6_isWell yX6_isWell, .initialized RX6, .code yX6_isWell cX6_isWell 2 (some .boolean), .fieldLink RX6 72 "HotGroundModel" "wells" "I", .methodLink RX6 76 yX6_in, .static yX6_in, .code yX6_in cX6_in 3 (some .boolean)] ++ wsX60)
def wsX6_clean : List Cond := .code yX6_clean cX6_clean 3 (some .int) :: ([.fieldLink RX6 16 "HotGroundModel" "age" "[I", .methodLink RX6 80 yX6_isWell, .instanceMethod yX6_isWell, .selects RX6 yX6_isWell yX6_isWell, .initialized RX6, .code yX6_isWell cX6_isWell 2 (some .boolean), .fieldLink RX6 72 "HotGroundModel" "wells" "I", .methodLink RX6 76 yX6_in, .static yX6_in, .code yX6_in cX6_in 3 (some .boolean)] ++ wsX60)
def wsX6_flowOf : List Cond := .code yX6_flowOf cX6_flowOf 6 (some .int) :: ([.fieldLink RX6 23 "HotGroundModel" "corner" "[I", .fieldLink RX6 7 "HotGroundModel" "kind" "[I", .fieldLink RX6 16 "HotGroundModel" "age" "[I"] ++ wsX60)
def wsX6_steamOf : List Cond := .code yX6_steamOf cX6_steamOf 2 (some .int) :: ([])
def wsX6_flow : List Cond := .code yX6_flow cX6_flow 3 (some .int) :: ([.fieldLink RX6 84 "HotGroundModel" "trace" "J", .fieldLink RX6 7 "HotGroundModel" "kind" "[I", .constantLong RX6 88 (11), .constantLong RX6 90 (111), .methodLink RX6 80 yX6_isWell, .instanceMethod yX6_isWell, .selects RX6 yX6_isWell yX6_isWell, .initialized RX6, .code yX6_isWell cX6_isWell 2 (some .boolean), .fieldLink RX6 72 "HotGroundModel" "wells" "I", .methodLink RX6 76 yX6_in, .static yX6_in, .code yX6_in cX6_in 3 (some .boolean), .methodLink RX6 92 yX6_flowOf, .instanceMethod yX6_flowOf, .selects RX6 yX6_flowOf yX6_flowOf, .code yX6_flowOf cX6_flowOf 6 (some .int), .fieldLink RX6 23 "HotGroundModel" "corner" "[I", .fieldLink RX6 16 "HotGroundModel" "age" "[I"] ++ wsX60)
def wsX6_about : List Cond := .code yX6_about cX6_about 3 (some .int) :: ([.fieldLink RX6 7 "HotGroundModel" "kind" "[I", .fieldLink RX6 13 "HotGroundModel" "inBox" "[I", .fieldLink RX6 16 "HotGroundModel" "age" "[I", .fieldLink RX6 19 "HotGroundModel" "isOpen" "[Z", .fieldLink RX6 23 "HotGroundModel" "corner" "[I", .methodLink RX6 80 yX6_isWell, .instanceMethod yX6_isWell, .selects RX6 yX6_isWell yX6_isWell, .initialized RX6, .code yX6_isWell cX6_isWell 2 (some .boolean), .fieldLink RX6 72 "HotGroundModel" "wells" "I", .methodLink RX6 76 yX6_in, .static yX6_in, .code yX6_in cX6_in 3 (some .boolean)] ++ wsX60)
def wsX6_turbine : List Cond := .code yX6_turbine cX6_turbine 4 (some .int) :: ([.fieldLink RX6 96 "HotGroundModel" "turbines" "I", .fieldLink RX6 26 "HotGroundModel" "least" "[I", .fieldLink RX6 29 "HotGroundModel" "rate" "[I", .fieldLink RX6 32 "HotGroundModel" "most" "[I", .fieldLink RX6 35 "HotGroundModel" "isOn" "[Z", .methodLink RX6 76 yX6_in, .static yX6_in, .initialized RX6, .code yX6_in cX6_in 3 (some .boolean)] ++ wsX60)
def wsX6_on : List Cond := .code yX6_on cX6_on 4 (some .int) :: ([.fieldLink RX6 96 "HotGroundModel" "turbines" "I", .fieldLink RX6 35 "HotGroundModel" "isOn" "[Z", .methodLink RX6 76 yX6_in, .static yX6_in, .initialized RX6, .code yX6_in cX6_in 3 (some .boolean)] ++ wsX60)
def wsX6_supply : List Cond := .code yX6_supply cX6_supply 4 (some .int) :: ([.fieldLink RX6 72 "HotGroundModel" "wells" "I", .fieldLink RX6 19 "HotGroundModel" "isOpen" "[Z", .methodLink RX6 92 yX6_flowOf, .instanceMethod yX6_flowOf, .selects RX6 yX6_flowOf yX6_flowOf, .initialized RX6, .code yX6_flowOf cX6_flowOf 6 (some .int), .fieldLink RX6 23 "HotGroundModel" "corner" "[I", .fieldLink RX6 7 "HotGroundModel" "kind" "[I", .fieldLink RX6 16 "HotGroundModel" "age" "[I", .methodLink RX6 99 yX6_steamOf, .static yX6_steamOf, .code yX6_steamOf cX6_steamOf 2 (some .int)] ++ wsX60)
def wsX6_draw : List Cond := .code yX6_draw cX6_draw 5 (some .int) :: ([.fieldLink RX6 96 "HotGroundModel" "turbines" "I", .fieldLink RX6 35 "HotGroundModel" "isOn" "[Z", .fieldLink RX6 26 "HotGroundModel" "least" "[I", .fieldLink RX6 29 "HotGroundModel" "rate" "[I", .fieldLink RX6 32 "HotGroundModel" "most" "[I"] ++ wsX60)
def wsX6_at_r1 : List Cond := [Cond.fieldLink RX6 72 "HotGroundModel" "wells" "I", Cond.fieldLink RX6 19 "HotGroundModel" "isOpen" "[Z", Cond.methodLink RX6 76 yX6_in, Cond.static yX6_in, Cond.initialized RX6, Cond.code yX6_in cX6_in 3 (some .boolean), Cond.methodLink RX6 102 yX6_supply, Cond.instanceMethod yX6_supply, Cond.selects RX6 yX6_supply yX6_supply, Cond.code yX6_supply cX6_supply 4 (some .int), Cond.methodLink RX6 92 yX6_flowOf, Cond.instanceMethod yX6_flowOf, Cond.selects RX6 yX6_flowOf yX6_flowOf, Cond.code yX6_flowOf cX6_flowOf 6 (some .int), Cond.fieldLink RX6 23 "HotGroundModel" "corner" "[I", Cond.fieldLink RX6 7 "HotGroundModel" "kind" "[I", Cond.fieldLink RX6 16 "HotGroundModel" "age" "[I", Cond.methodLink RX6 99 yX6_steamOf, Cond.static yX6_steamOf, Cond.code yX6_steamOf cX6_steamOf 2 (some .int), Cond.methodLink RX6 106 yX6_draw, Cond.instanceMethod yX6_draw, Cond.selects RX6 yX6_draw yX6_draw, Cond.code yX6_draw cX6_draw 5 (some .int)]
def wsX6_at_r2 : List Cond := [Cond.fieldLink RX6 96 "HotGroundModel" "turbines" "I", Cond.fieldLink RX6 35 "HotGroundModel" "isOn" "[Z", Cond.fieldLink RX6 26 "HotGroundModel" "least" "[I", Cond.fieldLink RX6 29 "HotGroundModel" "rate" "[I", Cond.fieldLink RX6 32 "HotGroundModel" "most" "[I"]
def wsX6_at : List Cond := .code yX6_at cX6_at 5 (some .int) :: ((wsX6_at_r1 ++ wsX6_at_r2) ++ wsX60)
def wsX6_point_r1 : List Cond := [Cond.methodLink RX6 102 yX6_supply, Cond.instanceMethod yX6_supply, Cond.selects RX6 yX6_supply yX6_supply, Cond.initialized RX6, Cond.code yX6_supply cX6_supply 4 (some .int), Cond.fieldLink RX6 72 "HotGroundModel" "wells" "I", Cond.fieldLink RX6 19 "HotGroundModel" "isOpen" "[Z", Cond.methodLink RX6 92 yX6_flowOf, Cond.instanceMethod yX6_flowOf, Cond.selects RX6 yX6_flowOf yX6_flowOf, Cond.code yX6_flowOf cX6_flowOf 6 (some .int), Cond.fieldLink RX6 23 "HotGroundModel" "corner" "[I", Cond.fieldLink RX6 7 "HotGroundModel" "kind" "[I", Cond.fieldLink RX6 16 "HotGroundModel" "age" "[I", Cond.methodLink RX6 99 yX6_steamOf, Cond.static yX6_steamOf, Cond.code yX6_steamOf cX6_steamOf 2 (some .int), Cond.methodLink RX6 106 yX6_draw, Cond.instanceMethod yX6_draw, Cond.selects RX6 yX6_draw yX6_draw, Cond.code yX6_draw cX6_draw 5 (some .int), Cond.fieldLink RX6 96 "HotGroundModel" "turbines" "I", Cond.fieldLink RX6 35 "HotGroundModel" "isOn" "[Z", Cond.fieldLink RX6 26 "HotGroundModel" "least" "[I"]
def wsX6_point_r2 : List Cond := [Cond.fieldLink RX6 29 "HotGroundModel" "rate" "[I", Cond.fieldLink RX6 32 "HotGroundModel" "most" "[I"]
def wsX6_point : List Cond := .code yX6_point cX6_point 2 (some .int) :: ((wsX6_point_r1 ++ wsX6_point_r2) ++ wsX60)
def wsX6_isBox : List Cond := .code yX6_isBox cX6_isBox 1 (some .boolean) :: ([.methodLink RX6 76 yX6_in, .static yX6_in, .initialized RX6, .code yX6_in cX6_in 3 (some .boolean)])
def wsX6_fill : List Cond := .code yX6_fill cX6_fill 4 (some .int) :: ([.constant RX6 112 (10000000), .fieldLink RX6 38 "HotGroundModel" "mass" "[J", .fieldLink RX6 42 "HotGroundModel" "heat" "[J", .methodLink RX6 109 yX6_isBox, .static yX6_isBox, .initialized RX6, .code yX6_isBox cX6_isBox 1 (some .boolean), .methodLink RX6 76 yX6_in, .static yX6_in, .code yX6_in cX6_in 3 (some .boolean)] ++ wsX60)
def wsX6_set : List Cond := .code yX6_set cX6_set 5 (some .int) :: ([.fieldLink RX6 45 "HotGroundModel" "leak" "[I", .fieldLink RX6 48 "HotGroundModel" "feed" "[I", .fieldLink RX6 113 "HotGroundModel" "givenShare" "I", .fieldLink RX6 116 "HotGroundModel" "givenBox" "I", .methodLink RX6 76 yX6_in, .static yX6_in, .initialized RX6, .code yX6_in cX6_in 3 (some .boolean), .methodLink RX6 109 yX6_isBox, .static yX6_isBox, .code yX6_isBox cX6_isBox 1 (some .boolean)] ++ wsX60)
def wsX6_goes : List Cond := .code yX6_goes cX6_goes 6 (some .long) :: ([.fieldLink RX6 38 "HotGroundModel" "mass" "[J", .fieldLink RX6 42 "HotGroundModel" "heat" "[J"] ++ wsX60)
def wsX6_comes : List Cond := .code yX6_comes cX6_comes 6 none :: ([.fieldLink RX6 38 "HotGroundModel" "mass" "[J", .fieldLink RX6 42 "HotGroundModel" "heat" "[J"] ++ wsX60)
def wsX6_wellsGive_r1 : List Cond := [Cond.fieldLink RX6 72 "HotGroundModel" "wells" "I", Cond.fieldLink RX6 19 "HotGroundModel" "isOpen" "[Z", Cond.fieldLink RX6 13 "HotGroundModel" "inBox" "[I", Cond.fieldLink RX6 38 "HotGroundModel" "mass" "[J", Cond.fieldLink RX6 51 "HotGroundModel" "sums" "[J", Cond.fieldLink RX6 113 "HotGroundModel" "givenShare" "I", Cond.constantLong RX6 123 (1000), Cond.fieldLink RX6 116 "HotGroundModel" "givenBox" "I", Cond.constantLong RX6 125 (40), Cond.methodLink RX6 92 yX6_flowOf, Cond.instanceMethod yX6_flowOf, Cond.selects RX6 yX6_flowOf yX6_flowOf, Cond.initialized RX6, Cond.code yX6_flowOf cX6_flowOf 6 (some .int), Cond.fieldLink RX6 23 "HotGroundModel" "corner" "[I", Cond.fieldLink RX6 7 "HotGroundModel" "kind" "[I", Cond.fieldLink RX6 16 "HotGroundModel" "age" "[I", Cond.methodLink RX6 119 yX6_goes, Cond.instanceMethod yX6_goes, Cond.selects RX6 yX6_goes yX6_goes, Cond.code yX6_goes cX6_goes 6 (some .long), Cond.fieldLink RX6 42 "HotGroundModel" "heat" "[J", Cond.methodLink RX6 127 yX6_comes, Cond.instanceMethod yX6_comes]
def wsX6_wellsGive_r2 : List Cond := [Cond.selects RX6 yX6_comes yX6_comes, Cond.code yX6_comes cX6_comes 6 none, Cond.methodLink RX6 106 yX6_draw, Cond.instanceMethod yX6_draw, Cond.selects RX6 yX6_draw yX6_draw, Cond.code yX6_draw cX6_draw 5 (some .int), Cond.fieldLink RX6 96 "HotGroundModel" "turbines" "I", Cond.fieldLink RX6 35 "HotGroundModel" "isOn" "[Z", Cond.fieldLink RX6 26 "HotGroundModel" "least" "[I", Cond.fieldLink RX6 29 "HotGroundModel" "rate" "[I", Cond.fieldLink RX6 32 "HotGroundModel" "most" "[I"]
def wsX6_wellsGive : List Cond := .code yX6_wellsGive cX6_wellsGive 10 none :: ((wsX6_wellsGive_r1 ++ wsX6_wellsGive_r2) ++ wsX60)
def wsX6_leaks : List Cond := .code yX6_leaks cX6_leaks 9 none :: ([.fieldLink RX6 38 "HotGroundModel" "mass" "[J", .fieldLink RX6 45 "HotGroundModel" "leak" "[I", .methodLink RX6 119 yX6_goes, .instanceMethod yX6_goes, .selects RX6 yX6_goes yX6_goes, .initialized RX6, .code yX6_goes cX6_goes 6 (some .long), .fieldLink RX6 42 "HotGroundModel" "heat" "[J", .methodLink RX6 127 yX6_comes, .instanceMethod yX6_comes, .selects RX6 yX6_comes yX6_comes, .code yX6_comes cX6_comes 6 none] ++ wsX60)
def wsX6_oneYear_r1 : List Cond := [Cond.fieldLink RX6 51 "HotGroundModel" "sums" "[J", Cond.fieldLink RX6 48 "HotGroundModel" "feed" "[I", Cond.constantLong RX6 142 (10), Cond.fieldLink RX6 72 "HotGroundModel" "wells" "I", Cond.fieldLink RX6 16 "HotGroundModel" "age" "[I", Cond.fieldLink RX6 19 "HotGroundModel" "isOpen" "[Z", Cond.methodLink RX6 131 yX6_point, Cond.instanceMethod yX6_point, Cond.selects RX6 yX6_point yX6_point, Cond.initialized RX6, Cond.code yX6_point cX6_point 2 (some .int), Cond.methodLink RX6 102 yX6_supply, Cond.instanceMethod yX6_supply, Cond.selects RX6 yX6_supply yX6_supply, Cond.code yX6_supply cX6_supply 4 (some .int), Cond.methodLink RX6 92 yX6_flowOf, Cond.instanceMethod yX6_flowOf, Cond.selects RX6 yX6_flowOf yX6_flowOf, Cond.code yX6_flowOf cX6_flowOf 6 (some .int), Cond.fieldLink RX6 23 "HotGroundModel" "corner" "[I", Cond.fieldLink RX6 7 "HotGroundModel" "kind" "[I", Cond.methodLink RX6 99 yX6_steamOf, Cond.static yX6_steamOf, Cond.code yX6_steamOf cX6_steamOf 2 (some .int)]
def wsX6_oneYear_r2 : List Cond := [Cond.methodLink RX6 106 yX6_draw, Cond.instanceMethod yX6_draw, Cond.selects RX6 yX6_draw yX6_draw, Cond.code yX6_draw cX6_draw 5 (some .int), Cond.fieldLink RX6 96 "HotGroundModel" "turbines" "I", Cond.fieldLink RX6 35 "HotGroundModel" "isOn" "[Z", Cond.fieldLink RX6 26 "HotGroundModel" "least" "[I", Cond.fieldLink RX6 29 "HotGroundModel" "rate" "[I", Cond.fieldLink RX6 32 "HotGroundModel" "most" "[I", Cond.methodLink RX6 135 yX6_wellsGive, Cond.instanceMethod yX6_wellsGive, Cond.selects RX6 yX6_wellsGive yX6_wellsGive, Cond.code yX6_wellsGive cX6_wellsGive 10 none, Cond.fieldLink RX6 13 "HotGroundModel" "inBox" "[I", Cond.fieldLink RX6 38 "HotGroundModel" "mass" "[J", Cond.fieldLink RX6 113 "HotGroundModel" "givenShare" "I", Cond.constantLong RX6 123 (1000), Cond.fieldLink RX6 116 "HotGroundModel" "givenBox" "I", Cond.constantLong RX6 125 (40), Cond.methodLink RX6 119 yX6_goes, Cond.instanceMethod yX6_goes, Cond.selects RX6 yX6_goes yX6_goes, Cond.code yX6_goes cX6_goes 6 (some .long), Cond.fieldLink RX6 42 "HotGroundModel" "heat" "[J"]
def wsX6_oneYear_r3 : List Cond := [Cond.methodLink RX6 127 yX6_comes, Cond.instanceMethod yX6_comes, Cond.selects RX6 yX6_comes yX6_comes, Cond.code yX6_comes cX6_comes 6 none, Cond.methodLink RX6 139 yX6_leaks, Cond.instanceMethod yX6_leaks, Cond.selects RX6 yX6_leaks yX6_leaks, Cond.code yX6_leaks cX6_leaks 9 none, Cond.fieldLink RX6 45 "HotGroundModel" "leak" "[I"]
def wsX6_oneYear : List Cond := .code yX6_oneYear cX6_oneYear 3 none :: ((wsX6_oneYear_r1 ++ (wsX6_oneYear_r2 ++ wsX6_oneYear_r3)) ++ wsX60)
def wsX6_year_r1 : List Cond := [Cond.fieldLink RX6 51 "HotGroundModel" "sums" "[J", Cond.methodLink RX6 76 yX6_in, Cond.static yX6_in, Cond.initialized RX6, Cond.code yX6_in cX6_in 3 (some .boolean), Cond.methodLink RX6 144 yX6_oneYear, Cond.instanceMethod yX6_oneYear, Cond.selects RX6 yX6_oneYear yX6_oneYear, Cond.code yX6_oneYear cX6_oneYear 3 none, Cond.fieldLink RX6 48 "HotGroundModel" "feed" "[I", Cond.constantLong RX6 142 (10), Cond.fieldLink RX6 72 "HotGroundModel" "wells" "I", Cond.fieldLink RX6 16 "HotGroundModel" "age" "[I", Cond.fieldLink RX6 19 "HotGroundModel" "isOpen" "[Z", Cond.methodLink RX6 131 yX6_point, Cond.instanceMethod yX6_point, Cond.selects RX6 yX6_point yX6_point, Cond.code yX6_point cX6_point 2 (some .int), Cond.methodLink RX6 102 yX6_supply, Cond.instanceMethod yX6_supply, Cond.selects RX6 yX6_supply yX6_supply, Cond.code yX6_supply cX6_supply 4 (some .int), Cond.methodLink RX6 92 yX6_flowOf, Cond.instanceMethod yX6_flowOf]
def wsX6_year_r2 : List Cond := [Cond.selects RX6 yX6_flowOf yX6_flowOf, Cond.code yX6_flowOf cX6_flowOf 6 (some .int), Cond.fieldLink RX6 23 "HotGroundModel" "corner" "[I", Cond.fieldLink RX6 7 "HotGroundModel" "kind" "[I", Cond.methodLink RX6 99 yX6_steamOf, Cond.static yX6_steamOf, Cond.code yX6_steamOf cX6_steamOf 2 (some .int), Cond.methodLink RX6 106 yX6_draw, Cond.instanceMethod yX6_draw, Cond.selects RX6 yX6_draw yX6_draw, Cond.code yX6_draw cX6_draw 5 (some .int), Cond.fieldLink RX6 96 "HotGroundModel" "turbines" "I", Cond.fieldLink RX6 35 "HotGroundModel" "isOn" "[Z", Cond.fieldLink RX6 26 "HotGroundModel" "least" "[I", Cond.fieldLink RX6 29 "HotGroundModel" "rate" "[I", Cond.fieldLink RX6 32 "HotGroundModel" "most" "[I", Cond.methodLink RX6 135 yX6_wellsGive, Cond.instanceMethod yX6_wellsGive, Cond.selects RX6 yX6_wellsGive yX6_wellsGive, Cond.code yX6_wellsGive cX6_wellsGive 10 none, Cond.fieldLink RX6 13 "HotGroundModel" "inBox" "[I", Cond.fieldLink RX6 38 "HotGroundModel" "mass" "[J", Cond.fieldLink RX6 113 "HotGroundModel" "givenShare" "I", Cond.constantLong RX6 123 (1000)]
def wsX6_year_r3 : List Cond := [Cond.fieldLink RX6 116 "HotGroundModel" "givenBox" "I", Cond.constantLong RX6 125 (40), Cond.methodLink RX6 119 yX6_goes, Cond.instanceMethod yX6_goes, Cond.selects RX6 yX6_goes yX6_goes, Cond.code yX6_goes cX6_goes 6 (some .long), Cond.fieldLink RX6 42 "HotGroundModel" "heat" "[J", Cond.methodLink RX6 127 yX6_comes, Cond.instanceMethod yX6_comes, Cond.selects RX6 yX6_comes yX6_comes, Cond.code yX6_comes cX6_comes 6 none, Cond.methodLink RX6 139 yX6_leaks, Cond.instanceMethod yX6_leaks, Cond.selects RX6 yX6_leaks yX6_leaks, Cond.code yX6_leaks cX6_leaks 9 none, Cond.fieldLink RX6 45 "HotGroundModel" "leak" "[I"]
def wsX6_year : List Cond := .code yX6_year cX6_year 3 (some .int) :: ((wsX6_year_r1 ++ (wsX6_year_r2 ++ wsX6_year_r3)) ++ wsX60)
def wsX6_box : List Cond := .code yX6_box cX6_box 3 (some .long) :: ([.constantLong RX6 147 (-1), .fieldLink RX6 38 "HotGroundModel" "mass" "[J", .fieldLink RX6 42 "HotGroundModel" "heat" "[J", .methodLink RX6 109 yX6_isBox, .static yX6_isBox, .initialized RX6, .code yX6_isBox cX6_isBox 1 (some .boolean), .methodLink RX6 76 yX6_in, .static yX6_in, .code yX6_in cX6_in 3 (some .boolean)] ++ wsX60)
def wsX6_sum : List Cond := .code yX6_sum cX6_sum 2 (some .long) :: ([.fieldLink RX6 51 "HotGroundModel" "sums" "[J", .constantLong RX6 147 (-1), .methodLink RX6 76 yX6_in, .static yX6_in, .initialized RX6, .code yX6_in cX6_in 3 (some .boolean)] ++ wsX60)
def wsX6_share : List Cond := .code yX6_share cX6_share 5 (some .int) :: ([.fieldLink RX6 54 "HotGroundModel" "share" "[I", .methodLink RX6 76 yX6_in, .static yX6_in, .initialized RX6, .code yX6_in cX6_in 3 (some .boolean)] ++ wsX60)
def wsX6_put : List Cond := .code yX6_put cX6_put 2 (some .int) :: ([.constant RX6 149 (1000000), .fieldLink RX6 150 "HotGroundModel" "told" "I", .fieldLink RX6 57 "HotGroundModel" "put" "[I", .methodLink RX6 76 yX6_in, .static yX6_in, .initialized RX6, .code yX6_in cX6_in 3 (some .boolean)] ++ wsX60)
def wsX6_back : List Cond := .code yX6_back cX6_back 5 (some .int) :: ([.fieldLink RX6 150 "HotGroundModel" "told" "I", .fieldLink RX6 57 "HotGroundModel" "put" "[I", .fieldLink RX6 54 "HotGroundModel" "share" "[I", .methodLink RX6 76 yX6_in, .static yX6_in, .initialized RX6, .code yX6_in cX6_in 3 (some .boolean)] ++ wsX60)
def wsX6_cut : List Cond := .code yX6_cut cX6_cut 1 (some .int) :: ([.fieldLink RX6 150 "HotGroundModel" "told" "I"] ++ wsX60)
def wsX6_candidate : List Cond := .code yX6_candidate cX6_candidate 4 (some .int) :: ([.fieldLink RX6 153 "HotGroundModel" "candidates" "I", .fieldLink RX6 60 "HotGroundModel" "cost" "[I", .fieldLink RX6 63 "HotGroundModel" "fromYear" "[I", .fieldLink RX6 66 "HotGroundModel" "gives" "[I", .methodLink RX6 76 yX6_in, .static yX6_in, .initialized RX6, .code yX6_in cX6_in 3 (some .boolean)] ++ wsX60)
def wsX6_promise : List Cond := .code yX6_promise cX6_promise 4 (some .int) :: ([.fieldLink RX6 69 "HotGroundModel" "promise" "[I", .methodLink RX6 76 yX6_in, .static yX6_in, .initialized RX6, .code yX6_in cX6_in 3 (some .boolean)] ++ wsX60)
def wsX6_lack : List Cond := .code yX6_lack cX6_lack 5 (some .int) :: ([.fieldLink RX6 69 "HotGroundModel" "promise" "[I", .fieldLink RX6 153 "HotGroundModel" "candidates" "I", .fieldLink RX6 63 "HotGroundModel" "fromYear" "[I", .fieldLink RX6 66 "HotGroundModel" "gives" "[I"] ++ wsX60)
def wsX6_costOf : List Cond := .code yX6_costOf cX6_costOf 4 (some .int) :: ([.fieldLink RX6 153 "HotGroundModel" "candidates" "I", .fieldLink RX6 60 "HotGroundModel" "cost" "[I"] ++ wsX60)
def wsX6_plan : List Cond := .code yX6_plan cX6_plan 6 (some .int) :: ([.fieldLink RX6 153 "HotGroundModel" "candidates" "I", .methodLink RX6 76 yX6_in, .static yX6_in, .initialized RX6, .code yX6_in cX6_in 3 (some .boolean), .methodLink RX6 156 yX6_lack, .instanceMethod yX6_lack, .selects RX6 yX6_lack yX6_lack, .code yX6_lack cX6_lack 5 (some .int), .fieldLink RX6 69 "HotGroundModel" "promise" "[I", .fieldLink RX6 63 "HotGroundModel" "fromYear" "[I", .fieldLink RX6 66 "HotGroundModel" "gives" "[I", .methodLink RX6 159 yX6_costOf, .instanceMethod yX6_costOf, .selects RX6 yX6_costOf yX6_costOf, .code yX6_costOf cX6_costOf 4 (some .int), .fieldLink RX6 60 "HotGroundModel" "cost" "[I"] ++ wsX60)
def wsX6_lacks : List Cond := .code yX6_lacks cX6_lacks 3 (some .int) :: ([.fieldLink RX6 153 "HotGroundModel" "candidates" "I", .methodLink RX6 76 yX6_in, .static yX6_in, .initialized RX6, .code yX6_in cX6_in 3 (some .boolean), .methodLink RX6 156 yX6_lack, .instanceMethod yX6_lack, .selects RX6 yX6_lack yX6_lack, .code yX6_lack cX6_lack 5 (some .int), .fieldLink RX6 69 "HotGroundModel" "promise" "[I", .fieldLink RX6 63 "HotGroundModel" "fromYear" "[I", .fieldLink RX6 66 "HotGroundModel" "gives" "[I"] ++ wsX60)
def wsX6_count : List Cond := .code yX6_count cX6_count 4 (some .int) :: ([.fieldLink RX6 72 "HotGroundModel" "wells" "I", .fieldLink RX6 96 "HotGroundModel" "turbines" "I", .fieldLink RX6 153 "HotGroundModel" "candidates" "I", .fieldLink RX6 150 "HotGroundModel" "told" "I", .fieldLink RX6 19 "HotGroundModel" "isOpen" "[Z", .fieldLink RX6 35 "HotGroundModel" "isOn" "[Z"] ++ wsX60)
def wsX6_trace : List Cond := .code yX6_trace cX6_trace 1 (some .long) :: ([.fieldLink RX6 84 "HotGroundModel" "trace" "J"] ++ wsX60)
def wsJ9_max_7cf53 : List Cond := .code yJ9_max_7cf53 cJ9_max_7cf53 2 (some .int) :: ([])
def wsJ9_min_7cf53 : List Cond := .code yJ9_min_7cf53 cJ9_min_7cf53 2 (some .int) :: ([])
def wsJ9_min_f86c9 : List Cond := .code yJ9_min_f86c9 cJ9_min_f86c9 4 (some .long) :: ([])
def wsL_law_r1 : List Cond := [Cond.classLink RL 7 RX5, Cond.instantiable RX5 6, Cond.initialized RX5, Cond.classLink RL 10 RX6, Cond.instantiable RX6 27, Cond.initialized RX6, Cond.methodLink RL 9 yX5_init, Cond.instanceMethod yX5_init, Cond.code yX5_init cX5_init 1 none, Cond.methodLink RX5 1 objectInit, Cond.instanceMethod objectInit, Cond.code objectInit ⟨#[0xb1]⟩ 1 none, Cond.classLink RX5 7 RX4, Cond.instantiable RX4 6, Cond.initialized RX4, Cond.fieldLink RX5 10 "HotGround" "wells" "LHotGround$Wells;", Cond.classLink RX5 16 RX3, Cond.instantiable RX3 5, Cond.initialized RX3, Cond.fieldLink RX5 19 "HotGround" "plant" "LHotGround$Plant;", Cond.classLink RX5 23 RX0, Cond.instantiable RX0 7, Cond.initialized RX0, Cond.fieldLink RX5 26 "HotGround" "ground" "LHotGround$Ground;"]
def wsL_law_r2 : List Cond := [Cond.classLink RX5 30 RX1, Cond.instantiable RX1 3, Cond.initialized RX1, Cond.fieldLink RX5 33 "HotGround" "kernel" "LHotGround$Kernel;", Cond.classLink RX5 37 RX2, Cond.instantiable RX2 5, Cond.initialized RX2, Cond.fieldLink RX5 40 "HotGround" "offers" "LHotGround$Offers;", Cond.fieldLink RX5 44 "HotGround" "trace" "J", Cond.instanceMethod yX4_init, Cond.code yX4_init cX4_init 1 none, Cond.methodLink RX4 1 objectInit, Cond.arrayClass .int, Cond.fieldLink RX4 9 "HotGround$Wells" "kind" "[I", Cond.fieldLink RX4 13 "HotGround$Wells" "box" "[I", Cond.fieldLink RX4 16 "HotGround$Wells" "age" "[I", Cond.arrayClass .boolean, Cond.fieldLink RX4 19 "HotGround$Wells" "open" "[Z", Cond.fieldLink RX4 23 "HotGround$Wells" "corners" "[I", Cond.instanceMethod yX3_init, Cond.code yX3_init cX3_init 1 none, Cond.methodLink RX3 1 objectInit, Cond.fieldLink RX3 9 "HotGround$Plant" "least" "[I", Cond.fieldLink RX3 13 "HotGround$Plant" "rate" "[I"]
def wsL_law_r3 : List Cond := [Cond.fieldLink RX3 16 "HotGround$Plant" "most" "[I", Cond.fieldLink RX3 19 "HotGround$Plant" "on" "[Z", Cond.instanceMethod yX0_init, Cond.code yX0_init cX0_init 1 none, Cond.methodLink RX0 1 objectInit, Cond.arrayClass .long, Cond.fieldLink RX0 9 "HotGround$Ground" "mass" "[J", Cond.fieldLink RX0 13 "HotGround$Ground" "heat" "[J", Cond.fieldLink RX0 16 "HotGround$Ground" "feed" "[I", Cond.fieldLink RX0 20 "HotGround$Ground" "leak" "[I", Cond.fieldLink RX0 23 "HotGround$Ground" "sums" "[J", Cond.instanceMethod yX1_init, Cond.code yX1_init cX1_init 1 none, Cond.methodLink RX1 1 objectInit, Cond.fieldLink RX1 9 "HotGround$Kernel" "shares" "[I", Cond.fieldLink RX1 13 "HotGround$Kernel" "amounts" "[I", Cond.instanceMethod yX2_init, Cond.code yX2_init cX2_init 1 none, Cond.methodLink RX2 3 objectInit, Cond.fieldLink RX2 11 "HotGround$Offers" "cost" "[I", Cond.fieldLink RX2 15 "HotGround$Offers" "from" "[I", Cond.fieldLink RX2 18 "HotGround$Offers" "steam" "[I", Cond.fieldLink RX2 21 "HotGround$Offers" "promised" "[I", Cond.methodLink RL 12 yX6_init]
def wsL_law_r4 : List Cond := [Cond.instanceMethod yX6_init, Cond.code yX6_init cX6_init 1 none, Cond.methodLink RX6 1 objectInit, Cond.fieldLink RX6 7 "HotGroundModel" "kind" "[I", Cond.fieldLink RX6 13 "HotGroundModel" "inBox" "[I", Cond.fieldLink RX6 16 "HotGroundModel" "age" "[I", Cond.fieldLink RX6 19 "HotGroundModel" "isOpen" "[Z", Cond.fieldLink RX6 23 "HotGroundModel" "corner" "[I", Cond.fieldLink RX6 26 "HotGroundModel" "least" "[I", Cond.fieldLink RX6 29 "HotGroundModel" "rate" "[I", Cond.fieldLink RX6 32 "HotGroundModel" "most" "[I", Cond.fieldLink RX6 35 "HotGroundModel" "isOn" "[Z", Cond.fieldLink RX6 38 "HotGroundModel" "mass" "[J", Cond.fieldLink RX6 42 "HotGroundModel" "heat" "[J", Cond.fieldLink RX6 45 "HotGroundModel" "leak" "[I", Cond.fieldLink RX6 48 "HotGroundModel" "feed" "[I", Cond.fieldLink RX6 51 "HotGroundModel" "sums" "[J", Cond.fieldLink RX6 54 "HotGroundModel" "share" "[I", Cond.fieldLink RX6 57 "HotGroundModel" "put" "[I", Cond.fieldLink RX6 60 "HotGroundModel" "cost" "[I", Cond.fieldLink RX6 63 "HotGroundModel" "fromYear" "[I", Cond.fieldLink RX6 66 "HotGroundModel" "gives" "[I", Cond.fieldLink RX6 69 "HotGroundModel" "promise" "[I", Cond.fieldLink RX6 72 "HotGroundModel" "wells" "I"]
def wsL_law_r5 : List Cond := [Cond.methodLink RL 13 yX5_well, Cond.instanceMethod yX5_well, Cond.selects RX5 yX5_well yX5_well, Cond.code yX5_well cX5_well 9 (some .int), Cond.fieldLink RX5 52 "HotGround$Wells" "count" "I", Cond.methodLink RX5 48 yX5_within, Cond.static yX5_within, Cond.code yX5_within cX5_within 3 (some .boolean), Cond.methodLink RX5 56 yX4_add, Cond.instanceMethod yX4_add, Cond.selects RX4 yX4_add yX4_add, Cond.code yX4_add cX4_add 4 (some .int), Cond.fieldLink RX4 26 "HotGround$Wells" "count" "I", Cond.methodLink RX5 60 yX4_shape, Cond.instanceMethod yX4_shape, Cond.selects RX4 yX4_shape yX4_shape, Cond.code yX4_shape cX4_shape 8 none, Cond.methodLink RL 17 yX6_well, Cond.instanceMethod yX6_well, Cond.selects RX6 yX6_well yX6_well, Cond.code yX6_well cX6_well 9 (some .int), Cond.methodLink RX6 76 yX6_in, Cond.static yX6_in, Cond.code yX6_in cX6_in 3 (some .boolean)]
def wsL_law_r6 : List Cond := [Cond.methodLink RL 18 yX5_open, Cond.instanceMethod yX5_open, Cond.selects RX5 yX5_open yX5_open, Cond.code yX5_open cX5_open 4 (some .int), Cond.fieldLink RX5 68 "HotGround$Wells" "open" "[Z", Cond.methodLink RX5 64 yX5_isWell, Cond.instanceMethod yX5_isWell, Cond.selects RX5 yX5_isWell yX5_isWell, Cond.code yX5_isWell cX5_isWell 2 (some .boolean), Cond.methodLink RL 22 yX6_open, Cond.instanceMethod yX6_open, Cond.selects RX6 yX6_open yX6_open, Cond.code yX6_open cX6_open 4 (some .int), Cond.methodLink RX6 80 yX6_isWell, Cond.instanceMethod yX6_isWell, Cond.selects RX6 yX6_isWell yX6_isWell, Cond.code yX6_isWell cX6_isWell 2 (some .boolean), Cond.methodLink RL 23 yX5_clean, Cond.instanceMethod yX5_clean, Cond.selects RX5 yX5_clean yX5_clean, Cond.code yX5_clean cX5_clean 3 (some .int), Cond.fieldLink RX5 72 "HotGround$Wells" "age" "[I", Cond.methodLink RL 27 yX6_clean, Cond.instanceMethod yX6_clean]
def wsL_law_r7 : List Cond := [Cond.selects RX6 yX6_clean yX6_clean, Cond.code yX6_clean cX6_clean 3 (some .int), Cond.methodLink RL 28 yX5_flow, Cond.instanceMethod yX5_flow, Cond.selects RX5 yX5_flow yX5_flow, Cond.code yX5_flow cX5_flow 3 (some .int), Cond.methodLink RX5 76 yX5_isPressure, Cond.static yX5_isPressure, Cond.code yX5_isPressure cX5_isPressure 1 (some .boolean), Cond.methodLink RX5 79 yX4_weight, Cond.instanceMethod yX4_weight, Cond.selects RX4 yX4_weight yX4_weight, Cond.code yX4_weight cX4_weight 3 (some .int), Cond.methodLink RX5 83 yX4_fifths, Cond.instanceMethod yX4_fifths, Cond.selects RX4 yX4_fifths yX4_fifths, Cond.code yX4_fifths cX4_fifths 4 (some .int), Cond.methodLink RX4 30 yX4_plain, Cond.instanceMethod yX4_plain, Cond.selects RX4 yX4_plain yX4_plain, Cond.code yX4_plain cX4_plain 6 (some .int), Cond.methodLink RX4 34 yX4_scaled, Cond.static yX4_scaled, Cond.code yX4_scaled cX4_scaled 2 (some .int)]
def wsL_law_r8 : List Cond := [Cond.methodLink RX4 37 yX4_tested, Cond.static yX4_tested, Cond.code yX4_tested cX4_tested 1 (some .int), Cond.methodLink RX4 41 Lib.Math.min.name, Cond.static Lib.Math.min.name, Cond.initialized "java/lang/Math", Cond.code Lib.Math.min.name Lib.Math.min.code 2 (some .int), Cond.methodLink RL 32 yX6_flow, Cond.instanceMethod yX6_flow, Cond.selects RX6 yX6_flow yX6_flow, Cond.code yX6_flow cX6_flow 3 (some .int), Cond.fieldLink RX6 84 "HotGroundModel" "trace" "J", Cond.constantLong RX6 88 (11), Cond.constantLong RX6 90 (111), Cond.methodLink RX6 92 yX6_flowOf, Cond.instanceMethod yX6_flowOf, Cond.selects RX6 yX6_flowOf yX6_flowOf, Cond.code yX6_flowOf cX6_flowOf 6 (some .int), Cond.methodLink RL 33 yX5_about, Cond.instanceMethod yX5_about, Cond.selects RX5 yX5_about yX5_about, Cond.code yX5_about cX5_about 3 (some .int), Cond.fieldLink RX5 86 "HotGround$Wells" "kind" "[I", Cond.fieldLink RX5 89 "HotGround$Wells" "box" "[I"]
def wsL_law_r9 : List Cond := [Cond.fieldLink RX5 92 "HotGround$Wells" "corners" "[I", Cond.methodLink RL 36 yX6_about, Cond.instanceMethod yX6_about, Cond.selects RX6 yX6_about yX6_about, Cond.code yX6_about cX6_about 3 (some .int), Cond.methodLink RL 37 yX5_turbine, Cond.instanceMethod yX5_turbine, Cond.selects RX5 yX5_turbine yX5_turbine, Cond.code yX5_turbine cX5_turbine 4 (some .int), Cond.fieldLink RX5 95 "HotGround$Plant" "count" "I", Cond.methodLink RX5 96 yX3_add, Cond.instanceMethod yX3_add, Cond.selects RX3 yX3_add yX3_add, Cond.code yX3_add cX3_add 5 (some .int), Cond.fieldLink RX3 23 "HotGround$Plant" "count" "I", Cond.methodLink RL 41 yX6_turbine, Cond.instanceMethod yX6_turbine, Cond.selects RX6 yX6_turbine yX6_turbine, Cond.code yX6_turbine cX6_turbine 4 (some .int), Cond.fieldLink RX6 96 "HotGroundModel" "turbines" "I", Cond.methodLink RL 42 yX5_on, Cond.instanceMethod yX5_on, Cond.selects RX5 yX5_on yX5_on, Cond.code yX5_on cX5_on 4 (some .int)]
def wsL_law_r10 : List Cond := [Cond.fieldLink RX5 99 "HotGround$Plant" "on" "[Z", Cond.methodLink RL 45 yX6_on, Cond.instanceMethod yX6_on, Cond.selects RX6 yX6_on yX6_on, Cond.code yX6_on cX6_on 4 (some .int), Cond.methodLink RL 46 yX5_at, Cond.instanceMethod yX5_at, Cond.selects RX5 yX5_at yX5_at, Cond.code yX5_at cX5_at 3 (some .int), Cond.methodLink RX5 102 yX4_supply, Cond.instanceMethod yX4_supply, Cond.selects RX4 yX4_supply yX4_supply, Cond.code yX4_supply cX4_supply 4 (some .int), Cond.methodLink RX4 46 yX4_fifths, Cond.methodLink RX4 49 yX4_steam, Cond.static yX4_steam, Cond.code yX4_steam cX4_steam 2 (some .int), Cond.methodLink RX5 105 yX3_draw, Cond.instanceMethod yX3_draw, Cond.selects RX3 yX3_draw yX3_draw, Cond.code yX3_draw cX3_draw 4 (some .int), Cond.methodLink RX3 27 Lib.Math.min.name, Cond.methodLink RX5 108 yX4_water, Cond.instanceMethod yX4_water]
def wsL_law_r11 : List Cond := [Cond.selects RX4 yX4_water yX4_water, Cond.code yX4_water cX4_water 5 (some .int), Cond.methodLink RL 49 yX6_at, Cond.instanceMethod yX6_at, Cond.selects RX6 yX6_at yX6_at, Cond.code yX6_at cX6_at 5 (some .int), Cond.methodLink RX6 102 yX6_supply, Cond.instanceMethod yX6_supply, Cond.selects RX6 yX6_supply yX6_supply, Cond.code yX6_supply cX6_supply 4 (some .int), Cond.methodLink RX6 99 yX6_steamOf, Cond.static yX6_steamOf, Cond.code yX6_steamOf cX6_steamOf 2 (some .int), Cond.methodLink RX6 106 yX6_draw, Cond.instanceMethod yX6_draw, Cond.selects RX6 yX6_draw yX6_draw, Cond.code yX6_draw cX6_draw 5 (some .int), Cond.methodLink RL 50 yX5_point, Cond.instanceMethod yX5_point, Cond.selects RX5 yX5_point yX5_point, Cond.code yX5_point cX5_point 1 (some .int), Cond.methodLink RX5 111 yX5_meeting, Cond.instanceMethod yX5_meeting, Cond.selects RX5 yX5_meeting yX5_meeting]
def wsL_law_r12 : List Cond := [Cond.code yX5_meeting cX5_meeting 2 (some .int), Cond.methodLink RL 54 yX6_point, Cond.instanceMethod yX6_point, Cond.selects RX6 yX6_point yX6_point, Cond.code yX6_point cX6_point 2 (some .int), Cond.methodLink RL 55 yX5_fill, Cond.instanceMethod yX5_fill, Cond.selects RX5 yX5_fill yX5_fill, Cond.code yX5_fill cX5_fill 4 (some .int), Cond.constant RX5 118 (10000000), Cond.fieldLink RX5 119 "HotGround$Ground" "mass" "[J", Cond.fieldLink RX5 123 "HotGround$Ground" "heat" "[J", Cond.methodLink RX5 115 yX5_isBox, Cond.static yX5_isBox, Cond.code yX5_isBox cX5_isBox 1 (some .boolean), Cond.methodLink RL 58 yX6_fill, Cond.instanceMethod yX6_fill, Cond.selects RX6 yX6_fill yX6_fill, Cond.code yX6_fill cX6_fill 4 (some .int), Cond.constant RX6 112 (10000000), Cond.methodLink RX6 109 yX6_isBox, Cond.static yX6_isBox, Cond.code yX6_isBox cX6_isBox 1 (some .boolean), Cond.methodLink RL 59 yX5_set]
def wsL_law_r13 : List Cond := [Cond.instanceMethod yX5_set, Cond.selects RX5 yX5_set yX5_set, Cond.code yX5_set cX5_set 4 (some .int), Cond.methodLink RX5 126 yX5_setLeak, Cond.instanceMethod yX5_setLeak, Cond.selects RX5 yX5_setLeak yX5_setLeak, Cond.code yX5_setLeak cX5_setLeak 4 (some .int), Cond.fieldLink RX5 184 "HotGround$Ground" "leak" "[I", Cond.methodLink RX5 129 yX5_setFeed, Cond.instanceMethod yX5_setFeed, Cond.selects RX5 yX5_setFeed yX5_setFeed, Cond.code yX5_setFeed cX5_setFeed 4 (some .int), Cond.fieldLink RX5 187 "HotGround$Ground" "feed" "[I", Cond.methodLink RX5 132 yX5_setGivenShare, Cond.instanceMethod yX5_setGivenShare, Cond.selects RX5 yX5_setGivenShare yX5_setGivenShare, Cond.code yX5_setGivenShare cX5_setGivenShare 3 (some .int), Cond.fieldLink RX5 190 "HotGround$Ground" "givenShare" "I", Cond.methodLink RX5 135 yX5_setGivenBox, Cond.instanceMethod yX5_setGivenBox, Cond.selects RX5 yX5_setGivenBox yX5_setGivenBox, Cond.code yX5_setGivenBox cX5_setGivenBox 3 (some .int), Cond.fieldLink RX5 193 "HotGround$Ground" "givenBox" "I", Cond.methodLink RL 62 yX6_set]
def wsL_law_r14 : List Cond := [Cond.instanceMethod yX6_set, Cond.selects RX6 yX6_set yX6_set, Cond.code yX6_set cX6_set 5 (some .int), Cond.fieldLink RX6 113 "HotGroundModel" "givenShare" "I", Cond.fieldLink RX6 116 "HotGroundModel" "givenBox" "I", Cond.methodLink RL 63 yX5_year, Cond.instanceMethod yX5_year, Cond.selects RX5 yX5_year yX5_year, Cond.code yX5_year cX5_year 3 (some .int), Cond.fieldLink RX5 141 "HotGround$Ground" "sums" "[J", Cond.methodLink RX5 138 yX5_passYear, Cond.instanceMethod yX5_passYear, Cond.selects RX5 yX5_passYear yX5_passYear, Cond.code yX5_passYear cX5_passYear 2 none, Cond.methodLink RX5 196 yX5_takeAll, Cond.instanceMethod yX5_takeAll, Cond.selects RX5 yX5_takeAll yX5_takeAll, Cond.code yX5_takeAll cX5_takeAll 5 (some .long), Cond.methodLink RX5 213 yX0_take, Cond.instanceMethod yX0_take, Cond.selects RX0 yX0_take yX0_take, Cond.code yX0_take cX0_take 8 (some .long), Cond.methodLink RX0 26 Lib.MathLoose.min_long.x, Cond.static Lib.MathLoose.min_long.x]
def wsL_law_r15 : List Cond := [Cond.code Lib.MathLoose.min_long.x Lib.MathLoose.min_long.code 4 (some .long), Cond.methodLink RX0 32 yX0_heatOf, Cond.instanceMethod yX0_heatOf, Cond.selects RX0 yX0_heatOf yX0_heatOf, Cond.code yX0_heatOf cX0_heatOf 4 (some .long), Cond.methodLink RX0 36 yX0_book, Cond.instanceMethod yX0_book, Cond.selects RX0 yX0_book yX0_book, Cond.code yX0_book cX0_book 6 none, Cond.methodLink RX5 200 yX0_giveBack, Cond.instanceMethod yX0_giveBack, Cond.selects RX0 yX0_giveBack yX0_giveBack, Cond.code yX0_giveBack cX0_giveBack 5 none, Cond.fieldLink RX0 40 "HotGround$Ground" "givenShare" "I", Cond.constantLong RX0 44 (1000), Cond.fieldLink RX0 46 "HotGround$Ground" "givenBox" "I", Cond.constantLong RX0 49 (40), Cond.methodLink RX0 51 yX0_pour, Cond.instanceMethod yX0_pour, Cond.selects RX0 yX0_pour yX0_pour, Cond.code yX0_pour cX0_pour 6 none, Cond.methodLink RX5 204 yX0_leakAll, Cond.instanceMethod yX0_leakAll, Cond.selects RX0 yX0_leakAll yX0_leakAll]
def wsL_law_r16 : List Cond := [Cond.code yX0_leakAll cX0_leakAll 9 none, Cond.methodLink RX5 207 yX0_feedAll, Cond.instanceMethod yX0_feedAll, Cond.selects RX0 yX0_feedAll yX0_feedAll, Cond.code yX0_feedAll cX0_feedAll 4 none, Cond.constantLong RX0 54 (10), Cond.methodLink RX5 210 yX4_grow, Cond.instanceMethod yX4_grow, Cond.selects RX4 yX4_grow yX4_grow, Cond.code yX4_grow cX4_grow 2 none, Cond.methodLink RL 66 yX6_year, Cond.instanceMethod yX6_year, Cond.selects RX6 yX6_year yX6_year, Cond.code yX6_year cX6_year 3 (some .int), Cond.methodLink RX6 144 yX6_oneYear, Cond.instanceMethod yX6_oneYear, Cond.selects RX6 yX6_oneYear yX6_oneYear, Cond.code yX6_oneYear cX6_oneYear 3 none, Cond.constantLong RX6 142 (10), Cond.methodLink RX6 131 yX6_point, Cond.methodLink RX6 135 yX6_wellsGive, Cond.instanceMethod yX6_wellsGive, Cond.selects RX6 yX6_wellsGive yX6_wellsGive, Cond.code yX6_wellsGive cX6_wellsGive 10 none]
def wsL_law_r17 : List Cond := [Cond.constantLong RX6 123 (1000), Cond.constantLong RX6 125 (40), Cond.methodLink RX6 119 yX6_goes, Cond.instanceMethod yX6_goes, Cond.selects RX6 yX6_goes yX6_goes, Cond.code yX6_goes cX6_goes 6 (some .long), Cond.methodLink RX6 127 yX6_comes, Cond.instanceMethod yX6_comes, Cond.selects RX6 yX6_comes yX6_comes, Cond.code yX6_comes cX6_comes 6 none, Cond.methodLink RX6 139 yX6_leaks, Cond.instanceMethod yX6_leaks, Cond.selects RX6 yX6_leaks yX6_leaks, Cond.code yX6_leaks cX6_leaks 9 none, Cond.methodLink RL 67 yX5_box, Cond.instanceMethod yX5_box, Cond.selects RX5 yX5_box yX5_box, Cond.code yX5_box cX5_box 3 (some .long), Cond.constantLong RX5 144 (-1), Cond.methodLink RL 71 yX6_box, Cond.instanceMethod yX6_box, Cond.selects RX6 yX6_box yX6_box, Cond.code yX6_box cX6_box 3 (some .long), Cond.constantLong RX6 147 (-1)]
def wsL_law_r18 : List Cond := [Cond.methodLink RL 72 yX5_sum, Cond.instanceMethod yX5_sum, Cond.selects RX5 yX5_sum yX5_sum, Cond.code yX5_sum cX5_sum 2 (some .long), Cond.methodLink RL 76 yX6_sum, Cond.instanceMethod yX6_sum, Cond.selects RX6 yX6_sum yX6_sum, Cond.code yX6_sum cX6_sum 2 (some .long), Cond.methodLink RL 77 yX5_share, Cond.instanceMethod yX5_share, Cond.selects RX5 yX5_share yX5_share, Cond.code yX5_share cX5_share 4 (some .int), Cond.fieldLink RX5 146 "HotGround$Kernel" "shares" "[I", Cond.methodLink RX5 149 yX1_together, Cond.instanceMethod yX1_together, Cond.selects RX1 yX1_together yX1_together, Cond.code yX1_together cX1_together 3 (some .int), Cond.methodLink RL 80 yX6_share, Cond.instanceMethod yX6_share, Cond.selects RX6 yX6_share yX6_share, Cond.code yX6_share cX6_share 5 (some .int), Cond.methodLink RL 81 yX5_put, Cond.instanceMethod yX5_put, Cond.selects RX5 yX5_put yX5_put]
def wsL_law_r19 : List Cond := [Cond.code yX5_put cX5_put 2 (some .int), Cond.constant RX5 152 (1000000), Cond.fieldLink RX5 153 "HotGround$Kernel" "count" "I", Cond.fieldLink RX5 154 "HotGround$Kernel" "amounts" "[I", Cond.methodLink RL 84 yX6_put, Cond.instanceMethod yX6_put, Cond.selects RX6 yX6_put yX6_put, Cond.code yX6_put cX6_put 2 (some .int), Cond.constant RX6 149 (1000000), Cond.fieldLink RX6 150 "HotGroundModel" "told" "I", Cond.methodLink RL 85 yX5_back, Cond.instanceMethod yX5_back, Cond.selects RX5 yX5_back yX5_back, Cond.code yX5_back cX5_back 2 (some .int), Cond.methodLink RX5 157 yX1_comes, Cond.instanceMethod yX1_comes, Cond.selects RX1 yX1_comes yX1_comes, Cond.code yX1_comes cX1_comes 5 (some .int), Cond.fieldLink RX1 16 "HotGround$Kernel" "count" "I", Cond.methodLink RL 88 yX6_back, Cond.instanceMethod yX6_back, Cond.selects RX6 yX6_back yX6_back, Cond.code yX6_back cX6_back 5 (some .int), Cond.methodLink RL 89 yX5_cut]
def wsL_law_r20 : List Cond := [Cond.instanceMethod yX5_cut, Cond.selects RX5 yX5_cut yX5_cut, Cond.code yX5_cut cX5_cut 1 (some .int), Cond.methodLink RL 92 yX6_cut, Cond.instanceMethod yX6_cut, Cond.selects RX6 yX6_cut yX6_cut, Cond.code yX6_cut cX6_cut 1 (some .int), Cond.methodLink RL 93 yX5_candidate, Cond.instanceMethod yX5_candidate, Cond.selects RX5 yX5_candidate yX5_candidate, Cond.code yX5_candidate cX5_candidate 4 (some .int), Cond.fieldLink RX5 163 "HotGround$Offers" "count" "I", Cond.methodLink RX5 160 yX5_isPlanYear, Cond.static yX5_isPlanYear, Cond.code yX5_isPlanYear cX5_isPlanYear 1 (some .boolean), Cond.methodLink RX5 164 yX2_add, Cond.instanceMethod yX2_add, Cond.selects RX2 yX2_add yX2_add, Cond.code yX2_add cX2_add 5 (some .int), Cond.fieldLink RX2 24 "HotGround$Offers" "count" "I", Cond.methodLink RL 96 yX6_candidate, Cond.instanceMethod yX6_candidate, Cond.selects RX6 yX6_candidate yX6_candidate, Cond.code yX6_candidate cX6_candidate 4 (some .int)]
def wsL_law_r21 : List Cond := [Cond.fieldLink RX6 153 "HotGroundModel" "candidates" "I", Cond.methodLink RL 97 yX5_promise, Cond.instanceMethod yX5_promise, Cond.selects RX5 yX5_promise yX5_promise, Cond.code yX5_promise cX5_promise 4 (some .int), Cond.fieldLink RX5 165 "HotGround$Offers" "promised" "[I", Cond.methodLink RL 100 yX6_promise, Cond.instanceMethod yX6_promise, Cond.selects RX6 yX6_promise yX6_promise, Cond.code yX6_promise cX6_promise 4 (some .int), Cond.methodLink RL 101 yX5_plan, Cond.instanceMethod yX5_plan, Cond.selects RX5 yX5_plan yX5_plan, Cond.code yX5_plan cX5_plan 3 (some .int), Cond.methodLink RX5 168 yX2_cheapest, Cond.instanceMethod yX2_cheapest, Cond.selects RX2 yX2_cheapest yX2_cheapest, Cond.code yX2_cheapest cX2_cheapest 5 (some .int), Cond.methodLink RX2 37 yX2_sets, Cond.instanceMethod yX2_sets, Cond.selects RX2 yX2_sets yX2_sets, Cond.code yX2_sets cX2_sets 1 (some .int), Cond.methodLink RX2 41 yX2_price, Cond.instanceMethod yX2_price]
def wsL_law_r22 : List Cond := [Cond.selects RX2 yX2_price yX2_price, Cond.code yX2_price cX2_price 4 (some .int), Cond.methodLink RX2 45 yX2_keeps, Cond.instanceMethod yX2_keeps, Cond.selects RX2 yX2_keeps yX2_keeps, Cond.code yX2_keeps cX2_keeps 3 (some .boolean), Cond.methodLink RX2 34 yX2_missing, Cond.instanceMethod yX2_missing, Cond.selects RX2 yX2_missing yX2_missing, Cond.code yX2_missing cX2_missing 5 (some .int), Cond.methodLink RX2 28 Lib.Math.max.name, Cond.static Lib.Math.max.name, Cond.code Lib.Math.max.name Lib.Math.max.code 2 (some .int), Cond.methodLink RX5 171 yX2_price, Cond.methodLink RL 104 yX6_plan, Cond.instanceMethod yX6_plan, Cond.selects RX6 yX6_plan yX6_plan, Cond.code yX6_plan cX6_plan 6 (some .int), Cond.methodLink RX6 156 yX6_lack, Cond.instanceMethod yX6_lack, Cond.selects RX6 yX6_lack yX6_lack, Cond.code yX6_lack cX6_lack 5 (some .int), Cond.methodLink RX6 159 yX6_costOf, Cond.instanceMethod yX6_costOf]
def wsL_law_r23 : List Cond := [Cond.selects RX6 yX6_costOf yX6_costOf, Cond.code yX6_costOf cX6_costOf 4 (some .int), Cond.methodLink RL 105 yX5_lacks, Cond.instanceMethod yX5_lacks, Cond.selects RX5 yX5_lacks yX5_lacks, Cond.code yX5_lacks cX5_lacks 3 (some .int), Cond.methodLink RX5 174 yX2_sets, Cond.methodLink RX5 177 yX2_missing, Cond.methodLink RL 108 yX6_lacks, Cond.instanceMethod yX6_lacks, Cond.selects RX6 yX6_lacks yX6_lacks, Cond.code yX6_lacks cX6_lacks 3 (some .int), Cond.methodLink RL 109 yX5_count, Cond.instanceMethod yX5_count, Cond.selects RX5 yX5_count yX5_count, Cond.code yX5_count cX5_count 2 (some .int), Cond.methodLink RX5 180 yX5_trues, Cond.static yX5_trues, Cond.code yX5_trues cX5_trues 4 (some .int), Cond.methodLink RL 112 yX6_count, Cond.instanceMethod yX6_count, Cond.selects RX6 yX6_count yX6_count, Cond.code yX6_count cX6_count 4 (some .int), Cond.methodLink RL 113 yX5_trace]
def wsL_law_r24 : List Cond := [Cond.instanceMethod yX5_trace, Cond.selects RX5 yX5_trace yX5_trace, Cond.code yX5_trace cX5_trace 1 (some .long), Cond.methodLink RL 117 yX6_trace, Cond.instanceMethod yX6_trace, Cond.selects RX6 yX6_trace yX6_trace, Cond.code yX6_trace cX6_trace 1 (some .long)]
def wsL_law : List Cond := (wsL_law_r1 ++ (wsL_law_r2 ++ (wsL_law_r3 ++ (wsL_law_r4 ++ (wsL_law_r5 ++ (wsL_law_r6 ++ (wsL_law_r7 ++ (wsL_law_r8 ++ (wsL_law_r9 ++ (wsL_law_r10 ++ (wsL_law_r11 ++ (wsL_law_r12 ++ (wsL_law_r13 ++ (wsL_law_r14 ++ (wsL_law_r15 ++ (wsL_law_r16 ++ (wsL_law_r17 ++ (wsL_law_r18 ++ (wsL_law_r19 ++ (wsL_law_r20 ++ (wsL_law_r21 ++ (wsL_law_r22 ++ (wsL_law_r23 ++ wsL_law_r24))))))))))))))))))))))) ++ wsX50 ++ wsX60 ++ wsX40 ++ wsX30 ++ wsX00 ++ wsX10 ++ wsX20 ++ ([] : List Cond)
theorem hg_mem {big ws : List Cond} (ps : List Nat) (hp : ws = ps.filterMap (fun i => big[i]?)) : ∀ w ∈ ws, w ∈ big := by
  intro w hw
  rw [hp] at hw
  obtain ⟨i, -, hi⟩ := List.mem_filterMap.mp hw
  exact List.mem_of_getElem? hi
set_option maxRecDepth 20000 in
theorem hg_in_wsL_law_r1 : ∀ w ∈ wsL_law_r1, w ∈ lw_tbl := hg_mem [33, 34, 25, 468, 469, 31, 35, 36, 37, 38, 39, 40, 41, 42, 26, 177, 74, 75, 27, 178, 98, 99, 28, 179] (by decide +kernel)
set_option maxRecDepth 20000 in
theorem hg_in_wsL_law_r2 : ∀ w ∈ wsL_law_r2, w ∈ lw_tbl := hg_mem [134, 135, 29, 180, 153, 154, 30, 181, 182, 44, 45, 46, 72, 49, 51, 53, 73, 55, 57, 77, 78, 79, 82, 83] (by decide +kernel)
set_option maxRecDepth 20000 in
theorem hg_in_wsL_law_r3 : ∀ w ∈ wsL_law_r3, w ∈ lw_tbl := hg_mem [84, 85, 101, 102, 103, 133, 104, 106, 108, 110, 116, 137, 138, 139, 142, 144, 156, 157, 158, 161, 162, 163, 164, 470] (by decide +kernel)
set_option maxRecDepth 20000 in
theorem hg_in_wsL_law_r4 : ∀ w ∈ wsL_law_r4, w ∈ lw_tbl := hg_mem [471, 472, 473, 475, 476, 477, 478, 479, 482, 483, 484, 485, 486, 487, 488, 489, 492, 493, 495, 497, 498, 499, 500, 474] (by decide +kernel)
set_option maxRecDepth 20000 in
theorem hg_in_wsL_law_r5 : ∀ w ∈ wsL_law_r5, w ∈ lw_tbl := hg_mem [196, 197, 198, 199, 48, 200, 201, 202, 203, 204, 205, 206, 47, 207, 208, 209, 210, 556, 557, 558, 559, 560, 561, 562] (by decide +kernel)
set_option maxRecDepth 20000 in
theorem hg_in_wsL_law_r6 : ∀ w ∈ wsL_law_r6, w ∈ lw_tbl := hg_mem [211, 212, 213, 214, 56, 215, 217, 0, 218, 563, 564, 565, 566, 567, 569, 13, 570, 219, 220, 221, 222, 54, 571, 572] (by decide +kernel)
set_option maxRecDepth 20000 in
theorem hg_in_wsL_law_r7 : ∀ w ∈ wsL_law_r7, w ∈ lw_tbl := hg_mem [573, 574, 223, 224, 225, 226, 227, 228, 229, 230, 231, 232, 233, 234, 235, 236, 237, 238, 240, 1, 241, 242, 243, 244] (by decide +kernel)
set_option maxRecDepth 20000 in
theorem hg_in_wsL_law_r8 : ∀ w ∈ wsL_law_r8, w ∈ lw_tbl := hg_mem [245, 246, 247, 248, 249, 32, 250, 575, 576, 577, 578, 480, 579, 580, 581, 583, 14, 584, 251, 252, 253, 254, 50, 52] (by decide +kernel)
set_option maxRecDepth 20000 in
theorem hg_in_wsL_law_r9 : ∀ w ∈ wsL_law_r9, w ∈ lw_tbl := hg_mem [58, 585, 586, 587, 588, 255, 256, 257, 258, 81, 259, 260, 261, 262, 80, 589, 590, 591, 592, 481, 263, 264, 265, 266] (by decide +kernel)
set_option maxRecDepth 20000 in
theorem hg_in_wsL_law_r10 : ∀ w ∈ wsL_law_r10, w ∈ lw_tbl := hg_mem [86, 593, 594, 595, 596, 267, 268, 269, 270, 271, 272, 273, 274, 275, 276, 277, 278, 279, 280, 281, 282, 283, 284, 285] (by decide +kernel)
set_option maxRecDepth 20000 in
theorem hg_in_wsL_law_r11 : ∀ w ∈ wsL_law_r11, w ∈ lw_tbl := hg_mem [286, 287, 597, 598, 599, 600, 601, 603, 15, 604, 605, 606, 607, 608, 610, 16, 611, 288, 289, 290, 291, 292, 294, 2] (by decide +kernel)
set_option maxRecDepth 20000 in
theorem hg_in_wsL_law_r12 : ∀ w ∈ wsL_law_r12, w ∈ lw_tbl := hg_mem [295, 612, 613, 614, 615, 296, 297, 298, 299, 303, 105, 107, 300, 301, 302, 616, 617, 618, 619, 623, 620, 621, 622, 304] (by decide +kernel)
set_option maxRecDepth 20000 in
theorem hg_in_wsL_law_r13 : ∀ w ∈ wsL_law_r13, w ∈ lw_tbl := hg_mem [305, 306, 307, 308, 310, 3, 311, 111, 312, 314, 4, 315, 109, 316, 318, 5, 319, 113, 320, 322, 6, 323, 115, 624] (by decide +kernel)
set_option maxRecDepth 20000 in
theorem hg_in_wsL_law_r14 : ∀ w ∈ wsL_law_r14, w ∈ lw_tbl := hg_mem [625, 626, 627, 490, 491, 324, 325, 326, 327, 117, 328, 330, 7, 331, 332, 334, 8, 335, 336, 337, 338, 339, 340, 341] (by decide +kernel)
set_option maxRecDepth 20000 in
theorem hg_in_wsL_law_r15 : ∀ w ∈ wsL_law_r15, w ∈ lw_tbl := hg_mem [342, 343, 345, 9, 346, 347, 349, 10, 350, 351, 352, 353, 354, 112, 355, 114, 356, 357, 359, 11, 360, 361, 362, 363] (by decide +kernel)
set_option maxRecDepth 20000 in
theorem hg_in_wsL_law_r16 : ∀ w ∈ wsL_law_r16, w ∈ lw_tbl := hg_mem [364, 365, 366, 367, 368, 369, 370, 371, 372, 373, 628, 629, 630, 631, 632, 634, 17, 635, 655, 636, 637, 639, 18, 640] (by decide +kernel)
set_option maxRecDepth 20000 in
theorem hg_in_wsL_law_r17 : ∀ w ∈ wsL_law_r17, w ∈ lw_tbl := hg_mem [645, 646, 641, 643, 19, 644, 647, 649, 20, 650, 651, 653, 21, 654, 374, 375, 376, 377, 378, 656, 657, 658, 659, 660] (by decide +kernel)
set_option maxRecDepth 20000 in
theorem hg_in_wsL_law_r18 : ∀ w ∈ wsL_law_r18, w ∈ lw_tbl := hg_mem [379, 380, 381, 382, 661, 662, 663, 664, 383, 384, 385, 386, 143, 387, 388, 389, 390, 665, 666, 667, 668, 391, 392, 393] (by decide +kernel)
set_option maxRecDepth 20000 in
theorem hg_in_wsL_law_r19 : ∀ w ∈ wsL_law_r19, w ∈ lw_tbl := hg_mem [394, 395, 141, 145, 669, 670, 671, 672, 673, 494, 396, 397, 398, 399, 400, 401, 402, 403, 140, 674, 675, 676, 677, 404] (by decide +kernel)
set_option maxRecDepth 20000 in
theorem hg_in_wsL_law_r20 : ∀ w ∈ wsL_law_r20, w ∈ lw_tbl := hg_mem [405, 406, 407, 678, 679, 680, 681, 408, 409, 410, 411, 160, 412, 413, 414, 415, 416, 417, 418, 159, 682, 683, 684, 685] (by decide +kernel)
set_option maxRecDepth 20000 in
theorem hg_in_wsL_law_r21 : ∀ w ∈ wsL_law_r21, w ∈ lw_tbl := hg_mem [496, 419, 420, 421, 422, 165, 686, 687, 688, 689, 423, 424, 425, 426, 427, 428, 429, 430, 431, 432, 433, 434, 435, 436] (by decide +kernel)
set_option maxRecDepth 20000 in
theorem hg_in_wsL_law_r22 : ∀ w ∈ wsL_law_r22, w ∈ lw_tbl := hg_mem [437, 438, 439, 441, 12, 442, 443, 444, 445, 446, 447, 448, 449, 450, 690, 691, 692, 693, 694, 696, 22, 697, 698, 700] (by decide +kernel)
set_option maxRecDepth 20000 in
theorem hg_in_wsL_law_r23 : ∀ w ∈ wsL_law_r23, w ∈ lw_tbl := hg_mem [23, 701, 451, 452, 453, 454, 455, 456, 702, 703, 704, 705, 457, 458, 459, 460, 461, 462, 463, 706, 707, 708, 709, 464] (by decide +kernel)
set_option maxRecDepth 20000 in
theorem hg_in_wsL_law_r24 : ∀ w ∈ wsL_law_r24, w ∈ lw_tbl := hg_mem [465, 466, 467, 710, 711, 712, 713] (by decide +kernel)
set_option maxRecDepth 20000 in
theorem hg_in_wsX50 : ∀ w ∈ wsX50, w ∈ lw_tbl := by decide +kernel
set_option maxRecDepth 20000 in
theorem hg_in_wsX60 : ∀ w ∈ wsX60, w ∈ lw_tbl := by decide +kernel
set_option maxRecDepth 20000 in
theorem hg_in_wsX40 : ∀ w ∈ wsX40, w ∈ lw_tbl := by decide +kernel
set_option maxRecDepth 20000 in
theorem hg_in_wsX30 : ∀ w ∈ wsX30, w ∈ lw_tbl := by decide +kernel
set_option maxRecDepth 20000 in
theorem hg_in_wsX00 : ∀ w ∈ wsX00, w ∈ lw_tbl := by decide +kernel
set_option maxRecDepth 20000 in
theorem hg_in_wsX10 : ∀ w ∈ wsX10, w ∈ lw_tbl := by decide +kernel
set_option maxRecDepth 20000 in
theorem hg_in_wsX20 : ∀ w ∈ wsX20, w ∈ lw_tbl := by decide +kernel
theorem wsL_law_in : ∀ w ∈ wsL_law, w ∈ lw_tbl := List.forall_mem_append.mpr ⟨List.forall_mem_append.mpr ⟨List.forall_mem_append.mpr ⟨List.forall_mem_append.mpr ⟨List.forall_mem_append.mpr ⟨List.forall_mem_append.mpr ⟨List.forall_mem_append.mpr ⟨List.forall_mem_append.mpr ⟨List.forall_mem_append.mpr ⟨hg_in_wsL_law_r1, List.forall_mem_append.mpr ⟨hg_in_wsL_law_r2, List.forall_mem_append.mpr ⟨hg_in_wsL_law_r3, List.forall_mem_append.mpr ⟨hg_in_wsL_law_r4, List.forall_mem_append.mpr ⟨hg_in_wsL_law_r5, List.forall_mem_append.mpr ⟨hg_in_wsL_law_r6, List.forall_mem_append.mpr ⟨hg_in_wsL_law_r7, List.forall_mem_append.mpr ⟨hg_in_wsL_law_r8, List.forall_mem_append.mpr ⟨hg_in_wsL_law_r9, List.forall_mem_append.mpr ⟨hg_in_wsL_law_r10, List.forall_mem_append.mpr ⟨hg_in_wsL_law_r11, List.forall_mem_append.mpr ⟨hg_in_wsL_law_r12, List.forall_mem_append.mpr ⟨hg_in_wsL_law_r13, List.forall_mem_append.mpr ⟨hg_in_wsL_law_r14, List.forall_mem_append.mpr ⟨hg_in_wsL_law_r15, List.forall_mem_append.mpr ⟨hg_in_wsL_law_r16, List.forall_mem_append.mpr ⟨hg_in_wsL_law_r17, List.forall_mem_append.mpr ⟨hg_in_wsL_law_r18, List.forall_mem_append.mpr ⟨hg_in_wsL_law_r19, List.forall_mem_append.mpr ⟨hg_in_wsL_law_r20, List.forall_mem_append.mpr ⟨hg_in_wsL_law_r21, List.forall_mem_append.mpr ⟨hg_in_wsL_law_r22, List.forall_mem_append.mpr ⟨hg_in_wsL_law_r23, hg_in_wsL_law_r24⟩⟩⟩⟩⟩⟩⟩⟩⟩⟩⟩⟩⟩⟩⟩⟩⟩⟩⟩⟩⟩⟩⟩, hg_in_wsX50⟩, hg_in_wsX60⟩, hg_in_wsX40⟩, hg_in_wsX30⟩, hg_in_wsX00⟩, hg_in_wsX10⟩, hg_in_wsX20⟩, fun _ h => absurd h List.not_mem_nil⟩
theorem inlX0 : ∀ w ∈ wsX00, w ∈ wsL_law := fun _ h => List.mem_append_left _ (List.mem_append_left _ (List.mem_append_left _ (List.mem_append_right _ h)))
theorem inX0 : ∀ w ∈ wsX00, w ∈ lw_tbl := fun w h => wsL_law_in w (inlX0 w h)
theorem inlX1 : ∀ w ∈ wsX10, w ∈ wsL_law := fun _ h => List.mem_append_left _ (List.mem_append_left _ (List.mem_append_right _ h))
theorem inX1 : ∀ w ∈ wsX10, w ∈ lw_tbl := fun w h => wsL_law_in w (inlX1 w h)
theorem inlX2 : ∀ w ∈ wsX20, w ∈ wsL_law := fun _ h => List.mem_append_left _ (List.mem_append_right _ h)
theorem inX2 : ∀ w ∈ wsX20, w ∈ lw_tbl := fun w h => wsL_law_in w (inlX2 w h)
theorem inlX3 : ∀ w ∈ wsX30, w ∈ wsL_law := fun _ h => List.mem_append_left _ (List.mem_append_left _ (List.mem_append_left _ (List.mem_append_left _ (List.mem_append_right _ h))))
theorem inX3 : ∀ w ∈ wsX30, w ∈ lw_tbl := fun w h => wsL_law_in w (inlX3 w h)
theorem inlX4 : ∀ w ∈ wsX40, w ∈ wsL_law := fun _ h => List.mem_append_left _ (List.mem_append_left _ (List.mem_append_left _ (List.mem_append_left _ (List.mem_append_left _ (List.mem_append_right _ h)))))
theorem inX4 : ∀ w ∈ wsX40, w ∈ lw_tbl := fun w h => wsL_law_in w (inlX4 w h)
theorem inlX5 : ∀ w ∈ wsX50, w ∈ wsL_law := fun _ h => List.mem_append_left _ (List.mem_append_left _ (List.mem_append_left _ (List.mem_append_left _ (List.mem_append_left _ (List.mem_append_left _ (List.mem_append_left _ (List.mem_append_right _ h)))))))
theorem inX5 : ∀ w ∈ wsX50, w ∈ lw_tbl := fun w h => wsL_law_in w (inlX5 w h)
theorem inlX6 : ∀ w ∈ wsX60, w ∈ wsL_law := fun _ h => List.mem_append_left _ (List.mem_append_left _ (List.mem_append_left _ (List.mem_append_left _ (List.mem_append_left _ (List.mem_append_left _ (List.mem_append_right _ h))))))
theorem inX6 : ∀ w ∈ wsX60, w ∈ lw_tbl := fun w h => wsL_law_in w (inlX6 w h)
theorem inJ9 : ∀ w ∈ wsJ90, w ∈ lw_tbl := by decide +kernel
theorem dX0_init_0 : decode cX0_init 0 = .ok (.aload_n 0, 1) := by decide +kernel
theorem dX0_init_1 : decode cX0_init 1 = .ok (.invokespecial 1, 3) := by decide +kernel
theorem dX0_init_4 : decode cX0_init 4 = .ok (.aload_n 0, 1) := by decide +kernel
theorem dX0_init_5 : decode cX0_init 5 = .ok (.iconst 4, 1) := by decide +kernel
theorem dX0_init_6 : decode cX0_init 6 = .ok (.newarray .long, 2) := by decide +kernel
theorem dX0_init_8 : decode cX0_init 8 = .ok (.putfield 9, 3) := by decide +kernel
theorem dX0_init_11 : decode cX0_init 11 = .ok (.aload_n 0, 1) := by decide +kernel
theorem dX0_init_12 : decode cX0_init 12 = .ok (.iconst 4, 1) := by decide +kernel
theorem dX0_init_13 : decode cX0_init 13 = .ok (.newarray .long, 2) := by decide +kernel
theorem dX0_init_15 : decode cX0_init 15 = .ok (.putfield 13, 3) := by decide +kernel
theorem dX0_init_18 : decode cX0_init 18 = .ok (.aload_n 0, 1) := by decide +kernel
theorem dX0_init_19 : decode cX0_init 19 = .ok (.iconst 4, 1) := by decide +kernel
theorem dX0_init_20 : decode cX0_init 20 = .ok (.newarray .int, 2) := by decide +kernel
theorem dX0_init_22 : decode cX0_init 22 = .ok (.putfield 16, 3) := by decide +kernel
theorem dX0_init_25 : decode cX0_init 25 = .ok (.aload_n 0, 1) := by decide +kernel
theorem dX0_init_26 : decode cX0_init 26 = .ok (.iconst 3, 1) := by decide +kernel
theorem dX0_init_27 : decode cX0_init 27 = .ok (.newarray .int, 2) := by decide +kernel
theorem dX0_init_29 : decode cX0_init 29 = .ok (.dup, 1) := by decide +kernel
theorem dX0_init_30 : decode cX0_init 30 = .ok (.iconst 0, 1) := by decide +kernel
theorem dX0_init_31 : decode cX0_init 31 = .ok (.sipush 1000, 3) := by decide +kernel
theorem dX0_init_34 : decode cX0_init 34 = .ok (.iastore, 1) := by decide +kernel
theorem dX0_init_35 : decode cX0_init 35 = .ok (.dup, 1) := by decide +kernel
theorem dX0_init_36 : decode cX0_init 36 = .ok (.iconst 1, 1) := by decide +kernel
theorem dX0_init_37 : decode cX0_init 37 = .ok (.sipush 1000, 3) := by decide +kernel
theorem dX0_init_40 : decode cX0_init 40 = .ok (.iastore, 1) := by decide +kernel
theorem dX0_init_41 : decode cX0_init 41 = .ok (.dup, 1) := by decide +kernel
theorem dX0_init_42 : decode cX0_init 42 = .ok (.iconst 2, 1) := by decide +kernel
theorem dX0_init_43 : decode cX0_init 43 = .ok (.sipush 1000, 3) := by decide +kernel
theorem dX0_init_46 : decode cX0_init 46 = .ok (.iastore, 1) := by decide +kernel
theorem dX0_init_47 : decode cX0_init 47 = .ok (.putfield 20, 3) := by decide +kernel
theorem dX0_init_50 : decode cX0_init 50 = .ok (.aload_n 0, 1) := by decide +kernel
theorem dX0_init_51 : decode cX0_init 51 = .ok (.bipush 9, 2) := by decide +kernel
theorem dX0_init_53 : decode cX0_init 53 = .ok (.newarray .long, 2) := by decide +kernel
theorem dX0_init_55 : decode cX0_init 55 = .ok (.putfield 23, 3) := by decide +kernel
theorem dX0_init_58 : decode cX0_init 58 = .ok (.return_, 1) := by decide +kernel
theorem dX0_heatOf_0 : decode cX0_heatOf 0 = .ok (.aload_n 0, 1) := by decide +kernel
theorem dX0_heatOf_1 : decode cX0_heatOf 1 = .ok (.getfield 9, 3) := by decide +kernel
theorem dX0_heatOf_4 : decode cX0_heatOf 4 = .ok (.iload_n 1, 1) := by decide +kernel
theorem dX0_heatOf_5 : decode cX0_heatOf 5 = .ok (.laload, 1) := by decide +kernel
theorem dX0_heatOf_6 : decode cX0_heatOf 6 = .ok (.lconst 0, 1) := by decide +kernel
theorem dX0_heatOf_7 : decode cX0_heatOf 7 = .ok (.lcmp, 1) := by decide +kernel
theorem dX0_heatOf_8 : decode cX0_heatOf 8 = .ok (.ifCond .gt 7, 3) := by decide +kernel
theorem dX0_heatOf_11 : decode cX0_heatOf 11 = .ok (.lconst 0, 1) := by decide +kernel
theorem dX0_heatOf_12 : decode cX0_heatOf 12 = .ok (.goto 18, 3) := by decide +kernel
theorem dX0_heatOf_15 : decode cX0_heatOf 15 = .ok (.lload_n 2, 1) := by decide +kernel
theorem dX0_heatOf_16 : decode cX0_heatOf 16 = .ok (.aload_n 0, 1) := by decide +kernel
theorem dX0_heatOf_17 : decode cX0_heatOf 17 = .ok (.getfield 13, 3) := by decide +kernel
theorem dX0_heatOf_20 : decode cX0_heatOf 20 = .ok (.iload_n 1, 1) := by decide +kernel
theorem dX0_heatOf_21 : decode cX0_heatOf 21 = .ok (.laload, 1) := by decide +kernel
theorem dX0_heatOf_22 : decode cX0_heatOf 22 = .ok (.lmul, 1) := by decide +kernel
theorem dX0_heatOf_23 : decode cX0_heatOf 23 = .ok (.aload_n 0, 1) := by decide +kernel
theorem dX0_heatOf_24 : decode cX0_heatOf 24 = .ok (.getfield 9, 3) := by decide +kernel
theorem dX0_heatOf_27 : decode cX0_heatOf 27 = .ok (.iload_n 1, 1) := by decide +kernel
theorem dX0_heatOf_28 : decode cX0_heatOf 28 = .ok (.laload, 1) := by decide +kernel
theorem dX0_heatOf_29 : decode cX0_heatOf 29 = .ok (.ldiv, 1) := by decide +kernel
theorem dX0_heatOf_30 : decode cX0_heatOf 30 = .ok (.lreturn, 1) := by decide +kernel
set_option maxRecDepth 20000 in
theorem ggX0_take_X0_heatOf : GoodIn wsX0_take wsX0_heatOf := goodIn_r _ [11, 1, 6, 17, 18, 19, 20, 21, 22, 23] (by decide +kernel) (by decide +kernel)
set_option maxRecDepth 20000 in
theorem gX0_take_X0_heatOf : GoodIn wsX0_take (wsV RX0 32 RX0 yX0_heatOf wsX0_heatOf) := goodIn_app (goodIn_of _ (by decide +kernel)) ggX0_take_X0_heatOf
set_option maxRecDepth 20000 in
theorem ggX0_take_X0_book : GoodIn wsX0_take wsX0_book := goodIn_r _ [15, 16, 17, 18, 19, 20, 21, 22, 23] (by decide +kernel) (by decide +kernel)
set_option maxRecDepth 20000 in
theorem gX0_take_X0_book : GoodIn wsX0_take (wsV RX0 36 RX0 yX0_book wsX0_book) := goodIn_app (goodIn_of _ (by decide +kernel)) ggX0_take_X0_book
theorem dX0_take_0 : decode cX0_take 0 = .ok (.lload_n 2, 1) := by decide +kernel
theorem dX0_take_1 : decode cX0_take 1 = .ok (.aload_n 0, 1) := by decide +kernel
theorem dX0_take_2 : decode cX0_take 2 = .ok (.getfield 9, 3) := by decide +kernel
theorem dX0_take_5 : decode cX0_take 5 = .ok (.iload_n 1, 1) := by decide +kernel
theorem dX0_take_6 : decode cX0_take 6 = .ok (.laload, 1) := by decide +kernel
theorem dX0_take_7 : decode cX0_take 7 = .ok (.invokestatic 26, 3) := by decide +kernel
theorem dX0_take_10 : decode cX0_take 10 = .ok (.lstore 4, 2) := by decide +kernel
theorem dX0_take_12 : decode cX0_take 12 = .ok (.aload_n 0, 1) := by decide +kernel
theorem dX0_take_13 : decode cX0_take 13 = .ok (.iload_n 1, 1) := by decide +kernel
theorem dX0_take_14 : decode cX0_take 14 = .ok (.lload 4, 2) := by decide +kernel
theorem dX0_take_16 : decode cX0_take 16 = .ok (.invokevirtual 32, 3) := by decide +kernel
theorem dX0_take_19 : decode cX0_take 19 = .ok (.lstore 6, 2) := by decide +kernel
theorem dX0_take_21 : decode cX0_take 21 = .ok (.aload_n 0, 1) := by decide +kernel
theorem dX0_take_22 : decode cX0_take 22 = .ok (.getfield 9, 3) := by decide +kernel
theorem dX0_take_25 : decode cX0_take 25 = .ok (.iload_n 1, 1) := by decide +kernel
theorem dX0_take_26 : decode cX0_take 26 = .ok (.dup2, 1) := by decide +kernel
theorem dX0_take_27 : decode cX0_take 27 = .ok (.laload, 1) := by decide +kernel
theorem dX0_take_28 : decode cX0_take 28 = .ok (.lload 4, 2) := by decide +kernel
theorem dX0_take_30 : decode cX0_take 30 = .ok (.lsub, 1) := by decide +kernel
theorem dX0_take_31 : decode cX0_take 31 = .ok (.lastore, 1) := by decide +kernel
theorem dX0_take_32 : decode cX0_take 32 = .ok (.aload_n 0, 1) := by decide +kernel
theorem dX0_take_33 : decode cX0_take 33 = .ok (.getfield 13, 3) := by decide +kernel
theorem dX0_take_36 : decode cX0_take 36 = .ok (.iload_n 1, 1) := by decide +kernel
theorem dX0_take_37 : decode cX0_take 37 = .ok (.dup2, 1) := by decide +kernel
theorem dX0_take_38 : decode cX0_take 38 = .ok (.laload, 1) := by decide +kernel
theorem dX0_take_39 : decode cX0_take 39 = .ok (.lload 6, 2) := by decide +kernel
theorem dX0_take_41 : decode cX0_take 41 = .ok (.lsub, 1) := by decide +kernel
theorem dX0_take_42 : decode cX0_take 42 = .ok (.lastore, 1) := by decide +kernel
theorem dX0_take_43 : decode cX0_take 43 = .ok (.aload_n 0, 1) := by decide +kernel
theorem dX0_take_44 : decode cX0_take 44 = .ok (.iconst 0, 1) := by decide +kernel
theorem dX0_take_45 : decode cX0_take 45 = .ok (.lload 4, 2) := by decide +kernel
theorem dX0_take_47 : decode cX0_take 47 = .ok (.lload 6, 2) := by decide +kernel
theorem dX0_take_49 : decode cX0_take 49 = .ok (.invokevirtual 36, 3) := by decide +kernel
theorem dX0_take_52 : decode cX0_take 52 = .ok (.lload 4, 2) := by decide +kernel
theorem dX0_take_54 : decode cX0_take 54 = .ok (.lreturn, 1) := by decide +kernel
set_option maxRecDepth 20000 in
theorem ggX0_giveBack_X0_pour : GoodIn wsX0_giveBack wsX0_pour := goodIn_r _ [9, 10, 11, 17, 18, 19, 20, 21, 22, 23] (by decide +kernel) (by decide +kernel)
set_option maxRecDepth 20000 in
theorem gX0_giveBack_X0_pour : GoodIn wsX0_giveBack (wsV RX0 51 RX0 yX0_pour wsX0_pour) := goodIn_app (goodIn_of _ (by decide +kernel)) ggX0_giveBack_X0_pour
set_option maxRecDepth 20000 in
theorem ggX0_giveBack_X0_book : GoodIn wsX0_giveBack wsX0_book := goodIn_r _ [15, 16, 17, 18, 19, 20, 21, 22, 23] (by decide +kernel) (by decide +kernel)
set_option maxRecDepth 20000 in
theorem gX0_giveBack_X0_book : GoodIn wsX0_giveBack (wsV RX0 36 RX0 yX0_book wsX0_book) := goodIn_app (goodIn_of _ (by decide +kernel)) ggX0_giveBack_X0_book
theorem dX0_giveBack_0 : decode cX0_giveBack 0 = .ok (.lload_n 1, 1) := by decide +kernel
theorem dX0_giveBack_1 : decode cX0_giveBack 1 = .ok (.aload_n 0, 1) := by decide +kernel
theorem dX0_giveBack_2 : decode cX0_giveBack 2 = .ok (.getfield 40, 3) := by decide +kernel
theorem dX0_giveBack_5 : decode cX0_giveBack 5 = .ok (.i2l, 1) := by decide +kernel
theorem dX0_giveBack_6 : decode cX0_giveBack 6 = .ok (.lmul, 1) := by decide +kernel
theorem dX0_giveBack_7 : decode cX0_giveBack 7 = .ok (.ldc2_w 44, 3) := by decide +kernel
theorem dX0_giveBack_10 : decode cX0_giveBack 10 = .ok (.ldiv, 1) := by decide +kernel
theorem dX0_giveBack_11 : decode cX0_giveBack 11 = .ok (.lstore_n 3, 1) := by decide +kernel
theorem dX0_giveBack_12 : decode cX0_giveBack 12 = .ok (.aload_n 0, 1) := by decide +kernel
theorem dX0_giveBack_13 : decode cX0_giveBack 13 = .ok (.aload_n 0, 1) := by decide +kernel
theorem dX0_giveBack_14 : decode cX0_giveBack 14 = .ok (.getfield 46, 3) := by decide +kernel
theorem dX0_giveBack_17 : decode cX0_giveBack 17 = .ok (.lload_n 3, 1) := by decide +kernel
theorem dX0_giveBack_18 : decode cX0_giveBack 18 = .ok (.lload_n 3, 1) := by decide +kernel
theorem dX0_giveBack_19 : decode cX0_giveBack 19 = .ok (.ldc2_w 49, 3) := by decide +kernel
theorem dX0_giveBack_22 : decode cX0_giveBack 22 = .ok (.lmul, 1) := by decide +kernel
theorem dX0_giveBack_23 : decode cX0_giveBack 23 = .ok (.invokevirtual 51, 3) := by decide +kernel
theorem dX0_giveBack_26 : decode cX0_giveBack 26 = .ok (.aload_n 0, 1) := by decide +kernel
theorem dX0_giveBack_27 : decode cX0_giveBack 27 = .ok (.iconst 2, 1) := by decide +kernel
theorem dX0_giveBack_28 : decode cX0_giveBack 28 = .ok (.lload_n 3, 1) := by decide +kernel
theorem dX0_giveBack_29 : decode cX0_giveBack 29 = .ok (.lload_n 3, 1) := by decide +kernel
theorem dX0_giveBack_30 : decode cX0_giveBack 30 = .ok (.ldc2_w 49, 3) := by decide +kernel
theorem dX0_giveBack_33 : decode cX0_giveBack 33 = .ok (.lmul, 1) := by decide +kernel
theorem dX0_giveBack_34 : decode cX0_giveBack 34 = .ok (.invokevirtual 36, 3) := by decide +kernel
theorem dX0_giveBack_37 : decode cX0_giveBack 37 = .ok (.return_, 1) := by decide +kernel
set_option maxRecDepth 20000 in
theorem ggX0_leakAll_X0_heatOf : GoodIn wsX0_leakAll wsX0_heatOf := goodIn_r _ [7, 1, 8, 13, 14, 15, 16, 17, 18, 19] (by decide +kernel) (by decide +kernel)
set_option maxRecDepth 20000 in
theorem gX0_leakAll_X0_heatOf : GoodIn wsX0_leakAll (wsV RX0 32 RX0 yX0_heatOf wsX0_heatOf) := goodIn_app (goodIn_of _ (by decide +kernel)) ggX0_leakAll_X0_heatOf
set_option maxRecDepth 20000 in
theorem ggX0_leakAll_X0_pour : GoodIn wsX0_leakAll wsX0_pour := goodIn_r _ [12, 1, 8, 13, 14, 15, 16, 17, 18, 19] (by decide +kernel) (by decide +kernel)
set_option maxRecDepth 20000 in
theorem gX0_leakAll_X0_pour : GoodIn wsX0_leakAll (wsV RX0 51 RX0 yX0_pour wsX0_pour) := goodIn_app (goodIn_of _ (by decide +kernel)) ggX0_leakAll_X0_pour
theorem dX0_leakAll_0 : decode cX0_leakAll 0 = .ok (.iconst 0, 1) := by decide +kernel
theorem dX0_leakAll_1 : decode cX0_leakAll 1 = .ok (.istore_n 1, 1) := by decide +kernel
theorem dX0_leakAll_2 : decode cX0_leakAll 2 = .ok (.iload_n 1, 1) := by decide +kernel
theorem dX0_leakAll_3 : decode cX0_leakAll 3 = .ok (.iconst 3, 1) := by decide +kernel
theorem dX0_leakAll_4 : decode cX0_leakAll 4 = .ok (.if_icmp .ge 125, 3) := by decide +kernel
theorem dX0_leakAll_7 : decode cX0_leakAll 7 = .ok (.aload_n 0, 1) := by decide +kernel
theorem dX0_leakAll_8 : decode cX0_leakAll 8 = .ok (.getfield 9, 3) := by decide +kernel
theorem dX0_leakAll_11 : decode cX0_leakAll 11 = .ok (.iload_n 1, 1) := by decide +kernel
theorem dX0_leakAll_12 : decode cX0_leakAll 12 = .ok (.laload, 1) := by decide +kernel
theorem dX0_leakAll_13 : decode cX0_leakAll 13 = .ok (.aload_n 0, 1) := by decide +kernel
theorem dX0_leakAll_14 : decode cX0_leakAll 14 = .ok (.getfield 9, 3) := by decide +kernel
theorem dX0_leakAll_17 : decode cX0_leakAll 17 = .ok (.iload_n 1, 1) := by decide +kernel
theorem dX0_leakAll_18 : decode cX0_leakAll 18 = .ok (.iconst 1, 1) := by decide +kernel
theorem dX0_leakAll_19 : decode cX0_leakAll 19 = .ok (.iadd, 1) := by decide +kernel
theorem dX0_leakAll_20 : decode cX0_leakAll 20 = .ok (.laload, 1) := by decide +kernel
theorem dX0_leakAll_21 : decode cX0_leakAll 21 = .ok (.lcmp, 1) := by decide +kernel
theorem dX0_leakAll_22 : decode cX0_leakAll 22 = .ok (.ifCond .lt 7, 3) := by decide +kernel
theorem dX0_leakAll_25 : decode cX0_leakAll 25 = .ok (.iconst 1, 1) := by decide +kernel
theorem dX0_leakAll_26 : decode cX0_leakAll 26 = .ok (.goto 4, 3) := by decide +kernel
theorem dX0_leakAll_29 : decode cX0_leakAll 29 = .ok (.iconst 0, 1) := by decide +kernel
theorem dX0_leakAll_30 : decode cX0_leakAll 30 = .ok (.istore_n 2, 1) := by decide +kernel
theorem dX0_leakAll_31 : decode cX0_leakAll 31 = .ok (.iload_n 2, 1) := by decide +kernel
theorem dX0_leakAll_32 : decode cX0_leakAll 32 = .ok (.ifCond .eq 7, 3) := by decide +kernel
theorem dX0_leakAll_35 : decode cX0_leakAll 35 = .ok (.iload_n 1, 1) := by decide +kernel
theorem dX0_leakAll_36 : decode cX0_leakAll 36 = .ok (.goto 6, 3) := by decide +kernel
theorem dX0_leakAll_39 : decode cX0_leakAll 39 = .ok (.iload_n 1, 1) := by decide +kernel
theorem dX0_leakAll_40 : decode cX0_leakAll 40 = .ok (.iconst 1, 1) := by decide +kernel
theorem dX0_leakAll_41 : decode cX0_leakAll 41 = .ok (.iadd, 1) := by decide +kernel
theorem dX0_leakAll_42 : decode cX0_leakAll 42 = .ok (.istore_n 3, 1) := by decide +kernel
theorem dX0_leakAll_43 : decode cX0_leakAll 43 = .ok (.iload_n 2, 1) := by decide +kernel
theorem dX0_leakAll_44 : decode cX0_leakAll 44 = .ok (.ifCond .eq 9, 3) := by decide +kernel
theorem dX0_leakAll_47 : decode cX0_leakAll 47 = .ok (.iload_n 1, 1) := by decide +kernel
theorem dX0_leakAll_48 : decode cX0_leakAll 48 = .ok (.iconst 1, 1) := by decide +kernel
theorem dX0_leakAll_49 : decode cX0_leakAll 49 = .ok (.iadd, 1) := by decide +kernel
theorem dX0_leakAll_50 : decode cX0_leakAll 50 = .ok (.goto 4, 3) := by decide +kernel
theorem dX0_leakAll_53 : decode cX0_leakAll 53 = .ok (.iload_n 1, 1) := by decide +kernel
theorem dX0_leakAll_54 : decode cX0_leakAll 54 = .ok (.istore 4, 2) := by decide +kernel
theorem dX0_leakAll_56 : decode cX0_leakAll 56 = .ok (.aload_n 0, 1) := by decide +kernel
theorem dX0_leakAll_57 : decode cX0_leakAll 57 = .ok (.getfield 20, 3) := by decide +kernel
theorem dX0_leakAll_60 : decode cX0_leakAll 60 = .ok (.iload_n 1, 1) := by decide +kernel
theorem dX0_leakAll_61 : decode cX0_leakAll 61 = .ok (.iaload, 1) := by decide +kernel
theorem dX0_leakAll_62 : decode cX0_leakAll 62 = .ok (.ifCond .gt 7, 3) := by decide +kernel
theorem dX0_leakAll_65 : decode cX0_leakAll 65 = .ok (.lconst 0, 1) := by decide +kernel
theorem dX0_leakAll_66 : decode cX0_leakAll 66 = .ok (.goto 25, 3) := by decide +kernel
theorem dX0_leakAll_69 : decode cX0_leakAll 69 = .ok (.aload_n 0, 1) := by decide +kernel
theorem dX0_leakAll_70 : decode cX0_leakAll 70 = .ok (.getfield 9, 3) := by decide +kernel
theorem dX0_leakAll_73 : decode cX0_leakAll 73 = .ok (.iload_n 3, 1) := by decide +kernel
theorem dX0_leakAll_74 : decode cX0_leakAll 74 = .ok (.laload, 1) := by decide +kernel
theorem dX0_leakAll_75 : decode cX0_leakAll 75 = .ok (.aload_n 0, 1) := by decide +kernel
theorem dX0_leakAll_76 : decode cX0_leakAll 76 = .ok (.getfield 9, 3) := by decide +kernel
theorem dX0_leakAll_79 : decode cX0_leakAll 79 = .ok (.iload 4, 2) := by decide +kernel
theorem dX0_leakAll_81 : decode cX0_leakAll 81 = .ok (.laload, 1) := by decide +kernel
theorem dX0_leakAll_82 : decode cX0_leakAll 82 = .ok (.lsub, 1) := by decide +kernel
theorem dX0_leakAll_83 : decode cX0_leakAll 83 = .ok (.aload_n 0, 1) := by decide +kernel
theorem dX0_leakAll_84 : decode cX0_leakAll 84 = .ok (.getfield 20, 3) := by decide +kernel
theorem dX0_leakAll_87 : decode cX0_leakAll 87 = .ok (.iload_n 1, 1) := by decide +kernel
theorem dX0_leakAll_88 : decode cX0_leakAll 88 = .ok (.iaload, 1) := by decide +kernel
theorem dX0_leakAll_89 : decode cX0_leakAll 89 = .ok (.i2l, 1) := by decide +kernel
theorem dX0_leakAll_90 : decode cX0_leakAll 90 = .ok (.ldiv, 1) := by decide +kernel
theorem dX0_leakAll_91 : decode cX0_leakAll 91 = .ok (.lstore 5, 2) := by decide +kernel
theorem dX0_leakAll_93 : decode cX0_leakAll 93 = .ok (.aload_n 0, 1) := by decide +kernel
theorem dX0_leakAll_94 : decode cX0_leakAll 94 = .ok (.iload_n 3, 1) := by decide +kernel
theorem dX0_leakAll_95 : decode cX0_leakAll 95 = .ok (.lload 5, 2) := by decide +kernel
theorem dX0_leakAll_97 : decode cX0_leakAll 97 = .ok (.invokevirtual 32, 3) := by decide +kernel
theorem dX0_leakAll_100 : decode cX0_leakAll 100 = .ok (.lstore 7, 2) := by decide +kernel
theorem dX0_leakAll_102 : decode cX0_leakAll 102 = .ok (.aload_n 0, 1) := by decide +kernel
theorem dX0_leakAll_103 : decode cX0_leakAll 103 = .ok (.iload_n 3, 1) := by decide +kernel
theorem dX0_leakAll_104 : decode cX0_leakAll 104 = .ok (.lload 5, 2) := by decide +kernel
theorem dX0_leakAll_106 : decode cX0_leakAll 106 = .ok (.lneg, 1) := by decide +kernel
theorem dX0_leakAll_107 : decode cX0_leakAll 107 = .ok (.lload 7, 2) := by decide +kernel
theorem dX0_leakAll_109 : decode cX0_leakAll 109 = .ok (.lneg, 1) := by decide +kernel
theorem dX0_leakAll_110 : decode cX0_leakAll 110 = .ok (.invokevirtual 51, 3) := by decide +kernel
theorem dX0_leakAll_113 : decode cX0_leakAll 113 = .ok (.aload_n 0, 1) := by decide +kernel
theorem dX0_leakAll_114 : decode cX0_leakAll 114 = .ok (.iload 4, 2) := by decide +kernel
theorem dX0_leakAll_116 : decode cX0_leakAll 116 = .ok (.lload 5, 2) := by decide +kernel
theorem dX0_leakAll_118 : decode cX0_leakAll 118 = .ok (.lload 7, 2) := by decide +kernel
theorem dX0_leakAll_120 : decode cX0_leakAll 120 = .ok (.invokevirtual 51, 3) := by decide +kernel
theorem dX0_leakAll_123 : decode cX0_leakAll 123 = .ok (.iinc 1 1, 3) := by decide +kernel
theorem dX0_leakAll_126 : decode cX0_leakAll 126 = .ok (.goto (-124), 3) := by decide +kernel
theorem dX0_leakAll_129 : decode cX0_leakAll 129 = .ok (.return_, 1) := by decide +kernel
set_option maxRecDepth 20000 in
theorem ggX0_feedAll_X0_pour : GoodIn wsX0_feedAll wsX0_pour := goodIn_r _ [7, 8, 9, 15, 16, 17, 18, 19, 20, 21] (by decide +kernel) (by decide +kernel)
set_option maxRecDepth 20000 in
theorem gX0_feedAll_X0_pour : GoodIn wsX0_feedAll (wsV RX0 51 RX0 yX0_pour wsX0_pour) := goodIn_app (goodIn_of _ (by decide +kernel)) ggX0_feedAll_X0_pour
set_option maxRecDepth 20000 in
theorem ggX0_feedAll_X0_book : GoodIn wsX0_feedAll wsX0_book := goodIn_r _ [13, 14, 15, 16, 17, 18, 19, 20, 21] (by decide +kernel) (by decide +kernel)
set_option maxRecDepth 20000 in
theorem gX0_feedAll_X0_book : GoodIn wsX0_feedAll (wsV RX0 36 RX0 yX0_book wsX0_book) := goodIn_app (goodIn_of _ (by decide +kernel)) ggX0_feedAll_X0_book
theorem dX0_feedAll_0 : decode cX0_feedAll 0 = .ok (.iconst 0, 1) := by decide +kernel
theorem dX0_feedAll_1 : decode cX0_feedAll 1 = .ok (.istore_n 1, 1) := by decide +kernel
theorem dX0_feedAll_2 : decode cX0_feedAll 2 = .ok (.iload_n 1, 1) := by decide +kernel
theorem dX0_feedAll_3 : decode cX0_feedAll 3 = .ok (.iconst 4, 1) := by decide +kernel
theorem dX0_feedAll_4 : decode cX0_feedAll 4 = .ok (.if_icmp .ge 39, 3) := by decide +kernel
theorem dX0_feedAll_7 : decode cX0_feedAll 7 = .ok (.aload_n 0, 1) := by decide +kernel
theorem dX0_feedAll_8 : decode cX0_feedAll 8 = .ok (.getfield 16, 3) := by decide +kernel
theorem dX0_feedAll_11 : decode cX0_feedAll 11 = .ok (.iload_n 1, 1) := by decide +kernel
theorem dX0_feedAll_12 : decode cX0_feedAll 12 = .ok (.iaload, 1) := by decide +kernel
theorem dX0_feedAll_13 : decode cX0_feedAll 13 = .ok (.i2l, 1) := by decide +kernel
theorem dX0_feedAll_14 : decode cX0_feedAll 14 = .ok (.lstore_n 2, 1) := by decide +kernel
theorem dX0_feedAll_15 : decode cX0_feedAll 15 = .ok (.aload_n 0, 1) := by decide +kernel
theorem dX0_feedAll_16 : decode cX0_feedAll 16 = .ok (.iload_n 1, 1) := by decide +kernel
theorem dX0_feedAll_17 : decode cX0_feedAll 17 = .ok (.lload_n 2, 1) := by decide +kernel
theorem dX0_feedAll_18 : decode cX0_feedAll 18 = .ok (.lload_n 2, 1) := by decide +kernel
theorem dX0_feedAll_19 : decode cX0_feedAll 19 = .ok (.ldc2_w 54, 3) := by decide +kernel
theorem dX0_feedAll_22 : decode cX0_feedAll 22 = .ok (.lmul, 1) := by decide +kernel
theorem dX0_feedAll_23 : decode cX0_feedAll 23 = .ok (.invokevirtual 51, 3) := by decide +kernel
theorem dX0_feedAll_26 : decode cX0_feedAll 26 = .ok (.aload_n 0, 1) := by decide +kernel
theorem dX0_feedAll_27 : decode cX0_feedAll 27 = .ok (.iconst 4, 1) := by decide +kernel
theorem dX0_feedAll_28 : decode cX0_feedAll 28 = .ok (.lload_n 2, 1) := by decide +kernel
theorem dX0_feedAll_29 : decode cX0_feedAll 29 = .ok (.lload_n 2, 1) := by decide +kernel
theorem dX0_feedAll_30 : decode cX0_feedAll 30 = .ok (.ldc2_w 54, 3) := by decide +kernel
theorem dX0_feedAll_33 : decode cX0_feedAll 33 = .ok (.lmul, 1) := by decide +kernel
theorem dX0_feedAll_34 : decode cX0_feedAll 34 = .ok (.invokevirtual 36, 3) := by decide +kernel
theorem dX0_feedAll_37 : decode cX0_feedAll 37 = .ok (.iinc 1 1, 3) := by decide +kernel
theorem dX0_feedAll_40 : decode cX0_feedAll 40 = .ok (.goto (-38), 3) := by decide +kernel
theorem dX0_feedAll_43 : decode cX0_feedAll 43 = .ok (.return_, 1) := by decide +kernel
theorem dX0_pour_0 : decode cX0_pour 0 = .ok (.aload_n 0, 1) := by decide +kernel
theorem dX0_pour_1 : decode cX0_pour 1 = .ok (.getfield 9, 3) := by decide +kernel
theorem dX0_pour_4 : decode cX0_pour 4 = .ok (.iload_n 1, 1) := by decide +kernel
theorem dX0_pour_5 : decode cX0_pour 5 = .ok (.dup2, 1) := by decide +kernel
theorem dX0_pour_6 : decode cX0_pour 6 = .ok (.laload, 1) := by decide +kernel
theorem dX0_pour_7 : decode cX0_pour 7 = .ok (.lload_n 2, 1) := by decide +kernel
theorem dX0_pour_8 : decode cX0_pour 8 = .ok (.ladd, 1) := by decide +kernel
theorem dX0_pour_9 : decode cX0_pour 9 = .ok (.lastore, 1) := by decide +kernel
theorem dX0_pour_10 : decode cX0_pour 10 = .ok (.aload_n 0, 1) := by decide +kernel
theorem dX0_pour_11 : decode cX0_pour 11 = .ok (.getfield 13, 3) := by decide +kernel
theorem dX0_pour_14 : decode cX0_pour 14 = .ok (.iload_n 1, 1) := by decide +kernel
theorem dX0_pour_15 : decode cX0_pour 15 = .ok (.dup2, 1) := by decide +kernel
theorem dX0_pour_16 : decode cX0_pour 16 = .ok (.laload, 1) := by decide +kernel
theorem dX0_pour_17 : decode cX0_pour 17 = .ok (.lload 4, 2) := by decide +kernel
theorem dX0_pour_19 : decode cX0_pour 19 = .ok (.ladd, 1) := by decide +kernel
theorem dX0_pour_20 : decode cX0_pour 20 = .ok (.lastore, 1) := by decide +kernel
theorem dX0_pour_21 : decode cX0_pour 21 = .ok (.return_, 1) := by decide +kernel
theorem dX0_book_0 : decode cX0_book 0 = .ok (.aload_n 0, 1) := by decide +kernel
theorem dX0_book_1 : decode cX0_book 1 = .ok (.getfield 23, 3) := by decide +kernel
theorem dX0_book_4 : decode cX0_book 4 = .ok (.iload_n 1, 1) := by decide +kernel
theorem dX0_book_5 : decode cX0_book 5 = .ok (.dup2, 1) := by decide +kernel
theorem dX0_book_6 : decode cX0_book 6 = .ok (.laload, 1) := by decide +kernel
theorem dX0_book_7 : decode cX0_book 7 = .ok (.lload_n 2, 1) := by decide +kernel
theorem dX0_book_8 : decode cX0_book 8 = .ok (.ladd, 1) := by decide +kernel
theorem dX0_book_9 : decode cX0_book 9 = .ok (.lastore, 1) := by decide +kernel
theorem dX0_book_10 : decode cX0_book 10 = .ok (.aload_n 0, 1) := by decide +kernel
theorem dX0_book_11 : decode cX0_book 11 = .ok (.getfield 23, 3) := by decide +kernel
theorem dX0_book_14 : decode cX0_book 14 = .ok (.iload_n 1, 1) := by decide +kernel
theorem dX0_book_15 : decode cX0_book 15 = .ok (.iconst 1, 1) := by decide +kernel
theorem dX0_book_16 : decode cX0_book 16 = .ok (.iadd, 1) := by decide +kernel
theorem dX0_book_17 : decode cX0_book 17 = .ok (.dup2, 1) := by decide +kernel
theorem dX0_book_18 : decode cX0_book 18 = .ok (.laload, 1) := by decide +kernel
theorem dX0_book_19 : decode cX0_book 19 = .ok (.lload 4, 2) := by decide +kernel
theorem dX0_book_21 : decode cX0_book 21 = .ok (.ladd, 1) := by decide +kernel
theorem dX0_book_22 : decode cX0_book 22 = .ok (.lastore, 1) := by decide +kernel
theorem dX0_book_23 : decode cX0_book 23 = .ok (.return_, 1) := by decide +kernel
theorem dX1_init_0 : decode cX1_init 0 = .ok (.aload_n 0, 1) := by decide +kernel
theorem dX1_init_1 : decode cX1_init 1 = .ok (.invokespecial 1, 3) := by decide +kernel
theorem dX1_init_4 : decode cX1_init 4 = .ok (.aload_n 0, 1) := by decide +kernel
theorem dX1_init_5 : decode cX1_init 5 = .ok (.bipush 6, 2) := by decide +kernel
theorem dX1_init_7 : decode cX1_init 7 = .ok (.newarray .int, 2) := by decide +kernel
theorem dX1_init_9 : decode cX1_init 9 = .ok (.putfield 9, 3) := by decide +kernel
theorem dX1_init_12 : decode cX1_init 12 = .ok (.aload_n 0, 1) := by decide +kernel
theorem dX1_init_13 : decode cX1_init 13 = .ok (.bipush 12, 2) := by decide +kernel
theorem dX1_init_15 : decode cX1_init 15 = .ok (.newarray .int, 2) := by decide +kernel
theorem dX1_init_17 : decode cX1_init 17 = .ok (.putfield 13, 3) := by decide +kernel
theorem dX1_init_20 : decode cX1_init 20 = .ok (.return_, 1) := by decide +kernel
theorem dX1_together_0 : decode cX1_together 0 = .ok (.iconst 0, 1) := by decide +kernel
theorem dX1_together_1 : decode cX1_together 1 = .ok (.istore_n 1, 1) := by decide +kernel
theorem dX1_together_2 : decode cX1_together 2 = .ok (.iconst 0, 1) := by decide +kernel
theorem dX1_together_3 : decode cX1_together 3 = .ok (.istore_n 2, 1) := by decide +kernel
theorem dX1_together_4 : decode cX1_together 4 = .ok (.iload_n 2, 1) := by decide +kernel
theorem dX1_together_5 : decode cX1_together 5 = .ok (.bipush 6, 2) := by decide +kernel
theorem dX1_together_7 : decode cX1_together 7 = .ok (.if_icmp .ge 18, 3) := by decide +kernel
theorem dX1_together_10 : decode cX1_together 10 = .ok (.iload_n 1, 1) := by decide +kernel
theorem dX1_together_11 : decode cX1_together 11 = .ok (.aload_n 0, 1) := by decide +kernel
theorem dX1_together_12 : decode cX1_together 12 = .ok (.getfield 9, 3) := by decide +kernel
theorem dX1_together_15 : decode cX1_together 15 = .ok (.iload_n 2, 1) := by decide +kernel
theorem dX1_together_16 : decode cX1_together 16 = .ok (.iaload, 1) := by decide +kernel
theorem dX1_together_17 : decode cX1_together 17 = .ok (.iadd, 1) := by decide +kernel
theorem dX1_together_18 : decode cX1_together 18 = .ok (.istore_n 1, 1) := by decide +kernel
theorem dX1_together_19 : decode cX1_together 19 = .ok (.iinc 2 1, 3) := by decide +kernel
theorem dX1_together_22 : decode cX1_together 22 = .ok (.goto (-18), 3) := by decide +kernel
theorem dX1_together_25 : decode cX1_together 25 = .ok (.iload_n 1, 1) := by decide +kernel
theorem dX1_together_26 : decode cX1_together 26 = .ok (.ireturn, 1) := by decide +kernel
theorem dX1_comes_0 : decode cX1_comes 0 = .ok (.iconst 0, 1) := by decide +kernel
theorem dX1_comes_1 : decode cX1_comes 1 = .ok (.istore_n 2, 1) := by decide +kernel
theorem dX1_comes_2 : decode cX1_comes 2 = .ok (.iconst 0, 1) := by decide +kernel
theorem dX1_comes_3 : decode cX1_comes 3 = .ok (.istore_n 3, 1) := by decide +kernel
theorem dX1_comes_4 : decode cX1_comes 4 = .ok (.iload_n 3, 1) := by decide +kernel
theorem dX1_comes_5 : decode cX1_comes 5 = .ok (.bipush 6, 2) := by decide +kernel
theorem dX1_comes_7 : decode cX1_comes 7 = .ok (.if_icmp .ge 49, 3) := by decide +kernel
theorem dX1_comes_10 : decode cX1_comes 10 = .ok (.iload_n 1, 1) := by decide +kernel
theorem dX1_comes_11 : decode cX1_comes 11 = .ok (.iload_n 3, 1) := by decide +kernel
theorem dX1_comes_12 : decode cX1_comes 12 = .ok (.isub, 1) := by decide +kernel
theorem dX1_comes_13 : decode cX1_comes 13 = .ok (.istore 4, 2) := by decide +kernel
theorem dX1_comes_15 : decode cX1_comes 15 = .ok (.iload 4, 2) := by decide +kernel
theorem dX1_comes_17 : decode cX1_comes 17 = .ok (.ifCond .lt 33, 3) := by decide +kernel
theorem dX1_comes_20 : decode cX1_comes 20 = .ok (.iload 4, 2) := by decide +kernel
theorem dX1_comes_22 : decode cX1_comes 22 = .ok (.aload_n 0, 1) := by decide +kernel
theorem dX1_comes_23 : decode cX1_comes 23 = .ok (.getfield 16, 3) := by decide +kernel
theorem dX1_comes_26 : decode cX1_comes 26 = .ok (.if_icmp .ge 24, 3) := by decide +kernel
theorem dX1_comes_29 : decode cX1_comes 29 = .ok (.iload_n 2, 1) := by decide +kernel
theorem dX1_comes_30 : decode cX1_comes 30 = .ok (.aload_n 0, 1) := by decide +kernel
theorem dX1_comes_31 : decode cX1_comes 31 = .ok (.getfield 13, 3) := by decide +kernel
theorem dX1_comes_34 : decode cX1_comes 34 = .ok (.iload 4, 2) := by decide +kernel
theorem dX1_comes_36 : decode cX1_comes 36 = .ok (.iaload, 1) := by decide +kernel
theorem dX1_comes_37 : decode cX1_comes 37 = .ok (.aload_n 0, 1) := by decide +kernel
theorem dX1_comes_38 : decode cX1_comes 38 = .ok (.getfield 9, 3) := by decide +kernel
theorem dX1_comes_41 : decode cX1_comes 41 = .ok (.iload_n 3, 1) := by decide +kernel
theorem dX1_comes_42 : decode cX1_comes 42 = .ok (.iaload, 1) := by decide +kernel
theorem dX1_comes_43 : decode cX1_comes 43 = .ok (.imul, 1) := by decide +kernel
theorem dX1_comes_44 : decode cX1_comes 44 = .ok (.sipush 1000, 3) := by decide +kernel
theorem dX1_comes_47 : decode cX1_comes 47 = .ok (.idiv, 1) := by decide +kernel
theorem dX1_comes_48 : decode cX1_comes 48 = .ok (.iadd, 1) := by decide +kernel
theorem dX1_comes_49 : decode cX1_comes 49 = .ok (.istore_n 2, 1) := by decide +kernel
theorem dX1_comes_50 : decode cX1_comes 50 = .ok (.iinc 3 1, 3) := by decide +kernel
theorem dX1_comes_53 : decode cX1_comes 53 = .ok (.goto (-49), 3) := by decide +kernel
theorem dX1_comes_56 : decode cX1_comes 56 = .ok (.iload_n 2, 1) := by decide +kernel
theorem dX1_comes_57 : decode cX1_comes 57 = .ok (.ireturn, 1) := by decide +kernel
theorem dX2_init_0 : decode cX2_init 0 = .ok (.aload_n 0, 1) := by decide +kernel
theorem dX2_init_1 : decode cX2_init 1 = .ok (.invokespecial 3, 3) := by decide +kernel
theorem dX2_init_4 : decode cX2_init 4 = .ok (.aload_n 0, 1) := by decide +kernel
theorem dX2_init_5 : decode cX2_init 5 = .ok (.bipush 8, 2) := by decide +kernel
theorem dX2_init_7 : decode cX2_init 7 = .ok (.newarray .int, 2) := by decide +kernel
theorem dX2_init_9 : decode cX2_init 9 = .ok (.putfield 11, 3) := by decide +kernel
theorem dX2_init_12 : decode cX2_init 12 = .ok (.aload_n 0, 1) := by decide +kernel
theorem dX2_init_13 : decode cX2_init 13 = .ok (.bipush 8, 2) := by decide +kernel
theorem dX2_init_15 : decode cX2_init 15 = .ok (.newarray .int, 2) := by decide +kernel
theorem dX2_init_17 : decode cX2_init 17 = .ok (.putfield 15, 3) := by decide +kernel
theorem dX2_init_20 : decode cX2_init 20 = .ok (.aload_n 0, 1) := by decide +kernel
theorem dX2_init_21 : decode cX2_init 21 = .ok (.bipush 8, 2) := by decide +kernel
theorem dX2_init_23 : decode cX2_init 23 = .ok (.newarray .int, 2) := by decide +kernel
theorem dX2_init_25 : decode cX2_init 25 = .ok (.putfield 18, 3) := by decide +kernel
theorem dX2_init_28 : decode cX2_init 28 = .ok (.aload_n 0, 1) := by decide +kernel
theorem dX2_init_29 : decode cX2_init 29 = .ok (.bipush 6, 2) := by decide +kernel
theorem dX2_init_31 : decode cX2_init 31 = .ok (.newarray .int, 2) := by decide +kernel
theorem dX2_init_33 : decode cX2_init 33 = .ok (.putfield 21, 3) := by decide +kernel
theorem dX2_init_36 : decode cX2_init 36 = .ok (.return_, 1) := by decide +kernel
theorem dX2_add_0 : decode cX2_add 0 = .ok (.aload_n 0, 1) := by decide +kernel
theorem dX2_add_1 : decode cX2_add 1 = .ok (.getfield 24, 3) := by decide +kernel
theorem dX2_add_4 : decode cX2_add 4 = .ok (.istore 4, 2) := by decide +kernel
theorem dX2_add_6 : decode cX2_add 6 = .ok (.aload_n 0, 1) := by decide +kernel
theorem dX2_add_7 : decode cX2_add 7 = .ok (.getfield 11, 3) := by decide +kernel
theorem dX2_add_10 : decode cX2_add 10 = .ok (.iload 4, 2) := by decide +kernel
theorem dX2_add_12 : decode cX2_add 12 = .ok (.iload_n 1, 1) := by decide +kernel
theorem dX2_add_13 : decode cX2_add 13 = .ok (.iastore, 1) := by decide +kernel
theorem dX2_add_14 : decode cX2_add 14 = .ok (.aload_n 0, 1) := by decide +kernel
theorem dX2_add_15 : decode cX2_add 15 = .ok (.getfield 15, 3) := by decide +kernel
theorem dX2_add_18 : decode cX2_add 18 = .ok (.iload 4, 2) := by decide +kernel
theorem dX2_add_20 : decode cX2_add 20 = .ok (.iload_n 2, 1) := by decide +kernel
theorem dX2_add_21 : decode cX2_add 21 = .ok (.iastore, 1) := by decide +kernel
theorem dX2_add_22 : decode cX2_add 22 = .ok (.aload_n 0, 1) := by decide +kernel
theorem dX2_add_23 : decode cX2_add 23 = .ok (.getfield 18, 3) := by decide +kernel
theorem dX2_add_26 : decode cX2_add 26 = .ok (.iload 4, 2) := by decide +kernel
theorem dX2_add_28 : decode cX2_add 28 = .ok (.iload_n 3, 1) := by decide +kernel
theorem dX2_add_29 : decode cX2_add 29 = .ok (.iastore, 1) := by decide +kernel
theorem dX2_add_30 : decode cX2_add 30 = .ok (.aload_n 0, 1) := by decide +kernel
theorem dX2_add_31 : decode cX2_add 31 = .ok (.dup, 1) := by decide +kernel
theorem dX2_add_32 : decode cX2_add 32 = .ok (.getfield 24, 3) := by decide +kernel
theorem dX2_add_35 : decode cX2_add 35 = .ok (.iconst 1, 1) := by decide +kernel
theorem dX2_add_36 : decode cX2_add 36 = .ok (.iadd, 1) := by decide +kernel
theorem dX2_add_37 : decode cX2_add 37 = .ok (.putfield 24, 3) := by decide +kernel
theorem dX2_add_40 : decode cX2_add 40 = .ok (.iload 4, 2) := by decide +kernel
theorem dX2_add_42 : decode cX2_add 42 = .ok (.ireturn, 1) := by decide +kernel
theorem dX2_sets_0 : decode cX2_sets 0 = .ok (.iconst 1, 1) := by decide +kernel
theorem dX2_sets_1 : decode cX2_sets 1 = .ok (.aload_n 0, 1) := by decide +kernel
theorem dX2_sets_2 : decode cX2_sets 2 = .ok (.getfield 24, 3) := by decide +kernel
theorem dX2_sets_5 : decode cX2_sets 5 = .ok (.ishl, 1) := by decide +kernel
theorem dX2_sets_6 : decode cX2_sets 6 = .ok (.ireturn, 1) := by decide +kernel
theorem dX2_price_0 : decode cX2_price 0 = .ok (.iconst 0, 1) := by decide +kernel
theorem dX2_price_1 : decode cX2_price 1 = .ok (.istore_n 2, 1) := by decide +kernel
theorem dX2_price_2 : decode cX2_price 2 = .ok (.iconst 0, 1) := by decide +kernel
theorem dX2_price_3 : decode cX2_price 3 = .ok (.istore_n 3, 1) := by decide +kernel
theorem dX2_price_4 : decode cX2_price 4 = .ok (.iload_n 3, 1) := by decide +kernel
theorem dX2_price_5 : decode cX2_price 5 = .ok (.aload_n 0, 1) := by decide +kernel
theorem dX2_price_6 : decode cX2_price 6 = .ok (.getfield 24, 3) := by decide +kernel
theorem dX2_price_9 : decode cX2_price 9 = .ok (.if_icmp .ge 27, 3) := by decide +kernel
theorem dX2_price_12 : decode cX2_price 12 = .ok (.iload_n 1, 1) := by decide +kernel
theorem dX2_price_13 : decode cX2_price 13 = .ok (.iload_n 3, 1) := by decide +kernel
theorem dX2_price_14 : decode cX2_price 14 = .ok (.ishr, 1) := by decide +kernel
theorem dX2_price_15 : decode cX2_price 15 = .ok (.iconst 1, 1) := by decide +kernel
theorem dX2_price_16 : decode cX2_price 16 = .ok (.iand, 1) := by decide +kernel
theorem dX2_price_17 : decode cX2_price 17 = .ok (.iconst 1, 1) := by decide +kernel
theorem dX2_price_18 : decode cX2_price 18 = .ok (.if_icmp .ne 12, 3) := by decide +kernel
theorem dX2_price_21 : decode cX2_price 21 = .ok (.iload_n 2, 1) := by decide +kernel
theorem dX2_price_22 : decode cX2_price 22 = .ok (.aload_n 0, 1) := by decide +kernel
theorem dX2_price_23 : decode cX2_price 23 = .ok (.getfield 11, 3) := by decide +kernel
theorem dX2_price_26 : decode cX2_price 26 = .ok (.iload_n 3, 1) := by decide +kernel
theorem dX2_price_27 : decode cX2_price 27 = .ok (.iaload, 1) := by decide +kernel
theorem dX2_price_28 : decode cX2_price 28 = .ok (.iadd, 1) := by decide +kernel
theorem dX2_price_29 : decode cX2_price 29 = .ok (.istore_n 2, 1) := by decide +kernel
theorem dX2_price_30 : decode cX2_price 30 = .ok (.iinc 3 1, 3) := by decide +kernel
theorem dX2_price_33 : decode cX2_price 33 = .ok (.goto (-29), 3) := by decide +kernel
theorem dX2_price_36 : decode cX2_price 36 = .ok (.iload_n 2, 1) := by decide +kernel
theorem dX2_price_37 : decode cX2_price 37 = .ok (.ireturn, 1) := by decide +kernel
theorem dX2_missing_0 : decode cX2_missing 0 = .ok (.iconst 0, 1) := by decide +kernel
theorem dX2_missing_1 : decode cX2_missing 1 = .ok (.istore_n 3, 1) := by decide +kernel
theorem dX2_missing_2 : decode cX2_missing 2 = .ok (.iconst 0, 1) := by decide +kernel
theorem dX2_missing_3 : decode cX2_missing 3 = .ok (.istore 4, 2) := by decide +kernel
theorem dX2_missing_5 : decode cX2_missing 5 = .ok (.iload 4, 2) := by decide +kernel
theorem dX2_missing_7 : decode cX2_missing 7 = .ok (.aload_n 0, 1) := by decide +kernel
theorem dX2_missing_8 : decode cX2_missing 8 = .ok (.getfield 24, 3) := by decide +kernel
theorem dX2_missing_11 : decode cX2_missing 11 = .ok (.if_icmp .ge 40, 3) := by decide +kernel
theorem dX2_missing_14 : decode cX2_missing 14 = .ok (.iload_n 1, 1) := by decide +kernel
theorem dX2_missing_15 : decode cX2_missing 15 = .ok (.iload 4, 2) := by decide +kernel
theorem dX2_missing_17 : decode cX2_missing 17 = .ok (.ishr, 1) := by decide +kernel
theorem dX2_missing_18 : decode cX2_missing 18 = .ok (.iconst 1, 1) := by decide +kernel
theorem dX2_missing_19 : decode cX2_missing 19 = .ok (.iand, 1) := by decide +kernel
theorem dX2_missing_20 : decode cX2_missing 20 = .ok (.iconst 1, 1) := by decide +kernel
theorem dX2_missing_21 : decode cX2_missing 21 = .ok (.if_icmp .ne 24, 3) := by decide +kernel
theorem dX2_missing_24 : decode cX2_missing 24 = .ok (.aload_n 0, 1) := by decide +kernel
theorem dX2_missing_25 : decode cX2_missing 25 = .ok (.getfield 15, 3) := by decide +kernel
theorem dX2_missing_28 : decode cX2_missing 28 = .ok (.iload 4, 2) := by decide +kernel
theorem dX2_missing_30 : decode cX2_missing 30 = .ok (.iaload, 1) := by decide +kernel
theorem dX2_missing_31 : decode cX2_missing 31 = .ok (.iload_n 2, 1) := by decide +kernel
theorem dX2_missing_32 : decode cX2_missing 32 = .ok (.if_icmp .gt 13, 3) := by decide +kernel
theorem dX2_missing_35 : decode cX2_missing 35 = .ok (.iload_n 3, 1) := by decide +kernel
theorem dX2_missing_36 : decode cX2_missing 36 = .ok (.aload_n 0, 1) := by decide +kernel
theorem dX2_missing_37 : decode cX2_missing 37 = .ok (.getfield 18, 3) := by decide +kernel
theorem dX2_missing_40 : decode cX2_missing 40 = .ok (.iload 4, 2) := by decide +kernel
theorem dX2_missing_42 : decode cX2_missing 42 = .ok (.iaload, 1) := by decide +kernel
theorem dX2_missing_43 : decode cX2_missing 43 = .ok (.iadd, 1) := by decide +kernel
theorem dX2_missing_44 : decode cX2_missing 44 = .ok (.istore_n 3, 1) := by decide +kernel
theorem dX2_missing_45 : decode cX2_missing 45 = .ok (.iinc 4 1, 3) := by decide +kernel
theorem dX2_missing_48 : decode cX2_missing 48 = .ok (.goto (-43), 3) := by decide +kernel
theorem dX2_missing_51 : decode cX2_missing 51 = .ok (.aload_n 0, 1) := by decide +kernel
theorem dX2_missing_52 : decode cX2_missing 52 = .ok (.getfield 21, 3) := by decide +kernel
theorem dX2_missing_55 : decode cX2_missing 55 = .ok (.iload_n 2, 1) := by decide +kernel
theorem dX2_missing_56 : decode cX2_missing 56 = .ok (.iaload, 1) := by decide +kernel
theorem dX2_missing_57 : decode cX2_missing 57 = .ok (.iload_n 3, 1) := by decide +kernel
theorem dX2_missing_58 : decode cX2_missing 58 = .ok (.isub, 1) := by decide +kernel
theorem dX2_missing_59 : decode cX2_missing 59 = .ok (.iconst 0, 1) := by decide +kernel
theorem dX2_missing_60 : decode cX2_missing 60 = .ok (.invokestatic 28, 3) := by decide +kernel
theorem dX2_missing_63 : decode cX2_missing 63 = .ok (.ireturn, 1) := by decide +kernel
set_option maxRecDepth 20000 in
theorem ggX2_keeps_X2_missing : GoodIn wsX2_keeps wsX2_missing := goodIn_r _ [5, 6, 7, 8, 9, 10, 11, 12, 13, 14, 15, 16, 17, 18] (by decide +kernel) (by decide +kernel)
set_option maxRecDepth 20000 in
theorem gX2_keeps_X2_missing : GoodIn wsX2_keeps (wsV RX2 34 RX2 yX2_missing wsX2_missing) := goodIn_app (goodIn_of _ (by decide +kernel)) ggX2_keeps_X2_missing
theorem dX2_keeps_0 : decode cX2_keeps 0 = .ok (.iconst 0, 1) := by decide +kernel
theorem dX2_keeps_1 : decode cX2_keeps 1 = .ok (.istore_n 2, 1) := by decide +kernel
theorem dX2_keeps_2 : decode cX2_keeps 2 = .ok (.iload_n 2, 1) := by decide +kernel
theorem dX2_keeps_3 : decode cX2_keeps 3 = .ok (.bipush 6, 2) := by decide +kernel
theorem dX2_keeps_5 : decode cX2_keeps 5 = .ok (.if_icmp .ge 20, 3) := by decide +kernel
theorem dX2_keeps_8 : decode cX2_keeps 8 = .ok (.aload_n 0, 1) := by decide +kernel
theorem dX2_keeps_9 : decode cX2_keeps 9 = .ok (.iload_n 1, 1) := by decide +kernel
theorem dX2_keeps_10 : decode cX2_keeps 10 = .ok (.iload_n 2, 1) := by decide +kernel
theorem dX2_keeps_11 : decode cX2_keeps 11 = .ok (.invokevirtual 34, 3) := by decide +kernel
theorem dX2_keeps_14 : decode cX2_keeps 14 = .ok (.ifCond .le 5, 3) := by decide +kernel
theorem dX2_keeps_17 : decode cX2_keeps 17 = .ok (.iconst 0, 1) := by decide +kernel
theorem dX2_keeps_18 : decode cX2_keeps 18 = .ok (.ireturn, 1) := by decide +kernel
theorem dX2_keeps_19 : decode cX2_keeps 19 = .ok (.iinc 2 1, 3) := by decide +kernel
theorem dX2_keeps_22 : decode cX2_keeps 22 = .ok (.goto (-20), 3) := by decide +kernel
theorem dX2_keeps_25 : decode cX2_keeps 25 = .ok (.iconst 1, 1) := by decide +kernel
theorem dX2_keeps_26 : decode cX2_keeps 26 = .ok (.ireturn, 1) := by decide +kernel
set_option maxRecDepth 20000 in
theorem ggX2_cheapest_X2_sets : GoodIn wsX2_cheapest wsX2_sets := goodIn_r _ [5, 6, 27, 28, 29, 30, 31] (by decide +kernel) (by decide +kernel)
set_option maxRecDepth 20000 in
theorem gX2_cheapest_X2_sets : GoodIn wsX2_cheapest (wsV RX2 37 RX2 yX2_sets wsX2_sets) := goodIn_app (goodIn_of _ (by decide +kernel)) ggX2_cheapest_X2_sets
set_option maxRecDepth 20000 in
theorem ggX2_cheapest_X2_price : GoodIn wsX2_cheapest wsX2_price := goodIn_r _ [10, 6, 11, 27, 28, 29, 30, 31] (by decide +kernel) (by decide +kernel)
set_option maxRecDepth 20000 in
theorem gX2_cheapest_X2_price : GoodIn wsX2_cheapest (wsV RX2 41 RX2 yX2_price wsX2_price) := goodIn_app (goodIn_of _ (by decide +kernel)) ggX2_cheapest_X2_price
set_option maxRecDepth 20000 in
theorem ggX2_cheapest_X2_keeps : GoodIn wsX2_cheapest wsX2_keeps := goodIn_r _ [15, 16, 17, 18, 4, 19, 6, 20, 21, 22, 23, 24, 25, 26, 27, 28, 29, 30, 31] (by decide +kernel) (by decide +kernel)
set_option maxRecDepth 20000 in
theorem gX2_cheapest_X2_keeps : GoodIn wsX2_cheapest (wsV RX2 45 RX2 yX2_keeps wsX2_keeps) := goodIn_app (goodIn_of _ (by decide +kernel)) ggX2_cheapest_X2_keeps
theorem dX2_cheapest_0 : decode cX2_cheapest 0 = .ok (.bipush (-9), 2) := by decide +kernel
theorem dX2_cheapest_2 : decode cX2_cheapest 2 = .ok (.istore_n 1, 1) := by decide +kernel
theorem dX2_cheapest_3 : decode cX2_cheapest 3 = .ok (.iconst 0, 1) := by decide +kernel
theorem dX2_cheapest_4 : decode cX2_cheapest 4 = .ok (.istore_n 2, 1) := by decide +kernel
theorem dX2_cheapest_5 : decode cX2_cheapest 5 = .ok (.iconst 0, 1) := by decide +kernel
theorem dX2_cheapest_6 : decode cX2_cheapest 6 = .ok (.istore_n 3, 1) := by decide +kernel
theorem dX2_cheapest_7 : decode cX2_cheapest 7 = .ok (.iload_n 3, 1) := by decide +kernel
theorem dX2_cheapest_8 : decode cX2_cheapest 8 = .ok (.aload_n 0, 1) := by decide +kernel
theorem dX2_cheapest_9 : decode cX2_cheapest 9 = .ok (.invokevirtual 37, 3) := by decide +kernel
theorem dX2_cheapest_12 : decode cX2_cheapest 12 = .ok (.if_icmp .ge 41, 3) := by decide +kernel
theorem dX2_cheapest_15 : decode cX2_cheapest 15 = .ok (.aload_n 0, 1) := by decide +kernel
theorem dX2_cheapest_16 : decode cX2_cheapest 16 = .ok (.iload_n 3, 1) := by decide +kernel
theorem dX2_cheapest_17 : decode cX2_cheapest 17 = .ok (.invokevirtual 41, 3) := by decide +kernel
theorem dX2_cheapest_20 : decode cX2_cheapest 20 = .ok (.istore 4, 2) := by decide +kernel
theorem dX2_cheapest_22 : decode cX2_cheapest 22 = .ok (.iload_n 1, 1) := by decide +kernel
theorem dX2_cheapest_23 : decode cX2_cheapest 23 = .ok (.bipush (-9), 2) := by decide +kernel
theorem dX2_cheapest_25 : decode cX2_cheapest 25 = .ok (.if_icmp .eq 9, 3) := by decide +kernel
theorem dX2_cheapest_28 : decode cX2_cheapest 28 = .ok (.iload 4, 2) := by decide +kernel
theorem dX2_cheapest_30 : decode cX2_cheapest 30 = .ok (.iload_n 2, 1) := by decide +kernel
theorem dX2_cheapest_31 : decode cX2_cheapest 31 = .ok (.if_icmp .ge 16, 3) := by decide +kernel
theorem dX2_cheapest_34 : decode cX2_cheapest 34 = .ok (.aload_n 0, 1) := by decide +kernel
theorem dX2_cheapest_35 : decode cX2_cheapest 35 = .ok (.iload_n 3, 1) := by decide +kernel
theorem dX2_cheapest_36 : decode cX2_cheapest 36 = .ok (.invokevirtual 45, 3) := by decide +kernel
theorem dX2_cheapest_39 : decode cX2_cheapest 39 = .ok (.ifCond .eq 8, 3) := by decide +kernel
theorem dX2_cheapest_42 : decode cX2_cheapest 42 = .ok (.iload_n 3, 1) := by decide +kernel
theorem dX2_cheapest_43 : decode cX2_cheapest 43 = .ok (.istore_n 1, 1) := by decide +kernel
theorem dX2_cheapest_44 : decode cX2_cheapest 44 = .ok (.iload 4, 2) := by decide +kernel
theorem dX2_cheapest_46 : decode cX2_cheapest 46 = .ok (.istore_n 2, 1) := by decide +kernel
theorem dX2_cheapest_47 : decode cX2_cheapest 47 = .ok (.iinc 3 1, 3) := by decide +kernel
theorem dX2_cheapest_50 : decode cX2_cheapest 50 = .ok (.goto (-43), 3) := by decide +kernel
theorem dX2_cheapest_53 : decode cX2_cheapest 53 = .ok (.iload_n 1, 1) := by decide +kernel
theorem dX2_cheapest_54 : decode cX2_cheapest 54 = .ok (.ireturn, 1) := by decide +kernel
theorem dX3_init_0 : decode cX3_init 0 = .ok (.aload_n 0, 1) := by decide +kernel
theorem dX3_init_1 : decode cX3_init 1 = .ok (.invokespecial 1, 3) := by decide +kernel
theorem dX3_init_4 : decode cX3_init 4 = .ok (.aload_n 0, 1) := by decide +kernel
theorem dX3_init_5 : decode cX3_init 5 = .ok (.iconst 4, 1) := by decide +kernel
theorem dX3_init_6 : decode cX3_init 6 = .ok (.newarray .int, 2) := by decide +kernel
theorem dX3_init_8 : decode cX3_init 8 = .ok (.putfield 9, 3) := by decide +kernel
theorem dX3_init_11 : decode cX3_init 11 = .ok (.aload_n 0, 1) := by decide +kernel
theorem dX3_init_12 : decode cX3_init 12 = .ok (.iconst 4, 1) := by decide +kernel
theorem dX3_init_13 : decode cX3_init 13 = .ok (.newarray .int, 2) := by decide +kernel
theorem dX3_init_15 : decode cX3_init 15 = .ok (.putfield 13, 3) := by decide +kernel
theorem dX3_init_18 : decode cX3_init 18 = .ok (.aload_n 0, 1) := by decide +kernel
theorem dX3_init_19 : decode cX3_init 19 = .ok (.iconst 4, 1) := by decide +kernel
theorem dX3_init_20 : decode cX3_init 20 = .ok (.newarray .int, 2) := by decide +kernel
theorem dX3_init_22 : decode cX3_init 22 = .ok (.putfield 16, 3) := by decide +kernel
theorem dX3_init_25 : decode cX3_init 25 = .ok (.aload_n 0, 1) := by decide +kernel
theorem dX3_init_26 : decode cX3_init 26 = .ok (.iconst 4, 1) := by decide +kernel
theorem dX3_init_27 : decode cX3_init 27 = .ok (.newarray .boolean, 2) := by decide +kernel
theorem dX3_init_29 : decode cX3_init 29 = .ok (.putfield 19, 3) := by decide +kernel
theorem dX3_init_32 : decode cX3_init 32 = .ok (.return_, 1) := by decide +kernel
theorem dX3_add_0 : decode cX3_add 0 = .ok (.aload_n 0, 1) := by decide +kernel
theorem dX3_add_1 : decode cX3_add 1 = .ok (.getfield 23, 3) := by decide +kernel
theorem dX3_add_4 : decode cX3_add 4 = .ok (.istore 4, 2) := by decide +kernel
theorem dX3_add_6 : decode cX3_add 6 = .ok (.aload_n 0, 1) := by decide +kernel
theorem dX3_add_7 : decode cX3_add 7 = .ok (.getfield 9, 3) := by decide +kernel
theorem dX3_add_10 : decode cX3_add 10 = .ok (.iload 4, 2) := by decide +kernel
theorem dX3_add_12 : decode cX3_add 12 = .ok (.iload_n 1, 1) := by decide +kernel
theorem dX3_add_13 : decode cX3_add 13 = .ok (.iastore, 1) := by decide +kernel
theorem dX3_add_14 : decode cX3_add 14 = .ok (.aload_n 0, 1) := by decide +kernel
theorem dX3_add_15 : decode cX3_add 15 = .ok (.getfield 13, 3) := by decide +kernel
theorem dX3_add_18 : decode cX3_add 18 = .ok (.iload 4, 2) := by decide +kernel
theorem dX3_add_20 : decode cX3_add 20 = .ok (.iload_n 2, 1) := by decide +kernel
theorem dX3_add_21 : decode cX3_add 21 = .ok (.iastore, 1) := by decide +kernel
theorem dX3_add_22 : decode cX3_add 22 = .ok (.aload_n 0, 1) := by decide +kernel
theorem dX3_add_23 : decode cX3_add 23 = .ok (.getfield 16, 3) := by decide +kernel
theorem dX3_add_26 : decode cX3_add 26 = .ok (.iload 4, 2) := by decide +kernel
theorem dX3_add_28 : decode cX3_add 28 = .ok (.iload_n 3, 1) := by decide +kernel
theorem dX3_add_29 : decode cX3_add 29 = .ok (.iastore, 1) := by decide +kernel
theorem dX3_add_30 : decode cX3_add 30 = .ok (.aload_n 0, 1) := by decide +kernel
theorem dX3_add_31 : decode cX3_add 31 = .ok (.getfield 19, 3) := by decide +kernel
theorem dX3_add_34 : decode cX3_add 34 = .ok (.iload 4, 2) := by decide +kernel
theorem dX3_add_36 : decode cX3_add 36 = .ok (.iconst 1, 1) := by decide +kernel
theorem dX3_add_37 : decode cX3_add 37 = .ok (.bastore, 1) := by decide +kernel
theorem dX3_add_38 : decode cX3_add 38 = .ok (.aload_n 0, 1) := by decide +kernel
theorem dX3_add_39 : decode cX3_add 39 = .ok (.dup, 1) := by decide +kernel
theorem dX3_add_40 : decode cX3_add 40 = .ok (.getfield 23, 3) := by decide +kernel
theorem dX3_add_43 : decode cX3_add 43 = .ok (.iconst 1, 1) := by decide +kernel
theorem dX3_add_44 : decode cX3_add 44 = .ok (.iadd, 1) := by decide +kernel
theorem dX3_add_45 : decode cX3_add 45 = .ok (.putfield 23, 3) := by decide +kernel
theorem dX3_add_48 : decode cX3_add 48 = .ok (.iload 4, 2) := by decide +kernel
theorem dX3_add_50 : decode cX3_add 50 = .ok (.ireturn, 1) := by decide +kernel
theorem dX3_draw_0 : decode cX3_draw 0 = .ok (.iconst 0, 1) := by decide +kernel
theorem dX3_draw_1 : decode cX3_draw 1 = .ok (.istore_n 2, 1) := by decide +kernel
theorem dX3_draw_2 : decode cX3_draw 2 = .ok (.iconst 0, 1) := by decide +kernel
theorem dX3_draw_3 : decode cX3_draw 3 = .ok (.istore_n 3, 1) := by decide +kernel
theorem dX3_draw_4 : decode cX3_draw 4 = .ok (.iload_n 3, 1) := by decide +kernel
theorem dX3_draw_5 : decode cX3_draw 5 = .ok (.aload_n 0, 1) := by decide +kernel
theorem dX3_draw_6 : decode cX3_draw 6 = .ok (.getfield 23, 3) := by decide +kernel
theorem dX3_draw_9 : decode cX3_draw 9 = .ok (.if_icmp .ge 50, 3) := by decide +kernel
theorem dX3_draw_12 : decode cX3_draw 12 = .ok (.aload_n 0, 1) := by decide +kernel
theorem dX3_draw_13 : decode cX3_draw 13 = .ok (.getfield 19, 3) := by decide +kernel
theorem dX3_draw_16 : decode cX3_draw 16 = .ok (.iload_n 3, 1) := by decide +kernel
theorem dX3_draw_17 : decode cX3_draw 17 = .ok (.baload, 1) := by decide +kernel
theorem dX3_draw_18 : decode cX3_draw 18 = .ok (.ifCond .eq 35, 3) := by decide +kernel
theorem dX3_draw_21 : decode cX3_draw 21 = .ok (.iload_n 1, 1) := by decide +kernel
theorem dX3_draw_22 : decode cX3_draw 22 = .ok (.aload_n 0, 1) := by decide +kernel
theorem dX3_draw_23 : decode cX3_draw 23 = .ok (.getfield 9, 3) := by decide +kernel
theorem dX3_draw_26 : decode cX3_draw 26 = .ok (.iload_n 3, 1) := by decide +kernel
theorem dX3_draw_27 : decode cX3_draw 27 = .ok (.iaload, 1) := by decide +kernel
theorem dX3_draw_28 : decode cX3_draw 28 = .ok (.if_icmp .lt 25, 3) := by decide +kernel
theorem dX3_draw_31 : decode cX3_draw 31 = .ok (.iload_n 2, 1) := by decide +kernel
theorem dX3_draw_32 : decode cX3_draw 32 = .ok (.aload_n 0, 1) := by decide +kernel
theorem dX3_draw_33 : decode cX3_draw 33 = .ok (.getfield 13, 3) := by decide +kernel
theorem dX3_draw_36 : decode cX3_draw 36 = .ok (.iload_n 3, 1) := by decide +kernel
theorem dX3_draw_37 : decode cX3_draw 37 = .ok (.iaload, 1) := by decide +kernel
theorem dX3_draw_38 : decode cX3_draw 38 = .ok (.iload_n 1, 1) := by decide +kernel
theorem dX3_draw_39 : decode cX3_draw 39 = .ok (.iconst 1, 1) := by decide +kernel
theorem dX3_draw_40 : decode cX3_draw 40 = .ok (.iadd, 1) := by decide +kernel
theorem dX3_draw_41 : decode cX3_draw 41 = .ok (.imul, 1) := by decide +kernel
theorem dX3_draw_42 : decode cX3_draw 42 = .ok (.aload_n 0, 1) := by decide +kernel
theorem dX3_draw_43 : decode cX3_draw 43 = .ok (.getfield 16, 3) := by decide +kernel
theorem dX3_draw_46 : decode cX3_draw 46 = .ok (.iload_n 3, 1) := by decide +kernel
theorem dX3_draw_47 : decode cX3_draw 47 = .ok (.iaload, 1) := by decide +kernel
theorem dX3_draw_48 : decode cX3_draw 48 = .ok (.invokestatic 27, 3) := by decide +kernel
theorem dX3_draw_51 : decode cX3_draw 51 = .ok (.iadd, 1) := by decide +kernel
theorem dX3_draw_52 : decode cX3_draw 52 = .ok (.istore_n 2, 1) := by decide +kernel
theorem dX3_draw_53 : decode cX3_draw 53 = .ok (.iinc 3 1, 3) := by decide +kernel
theorem dX3_draw_56 : decode cX3_draw 56 = .ok (.goto (-52), 3) := by decide +kernel
theorem dX3_draw_59 : decode cX3_draw 59 = .ok (.iload_n 2, 1) := by decide +kernel
theorem dX3_draw_60 : decode cX3_draw 60 = .ok (.ireturn, 1) := by decide +kernel
theorem dX4_init_0 : decode cX4_init 0 = .ok (.aload_n 0, 1) := by decide +kernel
theorem dX4_init_1 : decode cX4_init 1 = .ok (.invokespecial 1, 3) := by decide +kernel
theorem dX4_init_4 : decode cX4_init 4 = .ok (.aload_n 0, 1) := by decide +kernel
theorem dX4_init_5 : decode cX4_init 5 = .ok (.bipush 8, 2) := by decide +kernel
theorem dX4_init_7 : decode cX4_init 7 = .ok (.newarray .int, 2) := by decide +kernel
theorem dX4_init_9 : decode cX4_init 9 = .ok (.putfield 9, 3) := by decide +kernel
theorem dX4_init_12 : decode cX4_init 12 = .ok (.aload_n 0, 1) := by decide +kernel
theorem dX4_init_13 : decode cX4_init 13 = .ok (.bipush 8, 2) := by decide +kernel
theorem dX4_init_15 : decode cX4_init 15 = .ok (.newarray .int, 2) := by decide +kernel
theorem dX4_init_17 : decode cX4_init 17 = .ok (.putfield 13, 3) := by decide +kernel
theorem dX4_init_20 : decode cX4_init 20 = .ok (.aload_n 0, 1) := by decide +kernel
theorem dX4_init_21 : decode cX4_init 21 = .ok (.bipush 8, 2) := by decide +kernel
theorem dX4_init_23 : decode cX4_init 23 = .ok (.newarray .int, 2) := by decide +kernel
theorem dX4_init_25 : decode cX4_init 25 = .ok (.putfield 16, 3) := by decide +kernel
theorem dX4_init_28 : decode cX4_init 28 = .ok (.aload_n 0, 1) := by decide +kernel
theorem dX4_init_29 : decode cX4_init 29 = .ok (.bipush 8, 2) := by decide +kernel
theorem dX4_init_31 : decode cX4_init 31 = .ok (.newarray .boolean, 2) := by decide +kernel
theorem dX4_init_33 : decode cX4_init 33 = .ok (.putfield 19, 3) := by decide +kernel
theorem dX4_init_36 : decode cX4_init 36 = .ok (.aload_n 0, 1) := by decide +kernel
theorem dX4_init_37 : decode cX4_init 37 = .ok (.bipush 40, 2) := by decide +kernel
theorem dX4_init_39 : decode cX4_init 39 = .ok (.newarray .int, 2) := by decide +kernel
theorem dX4_init_41 : decode cX4_init 41 = .ok (.putfield 23, 3) := by decide +kernel
theorem dX4_init_44 : decode cX4_init 44 = .ok (.return_, 1) := by decide +kernel
theorem dX4_add_0 : decode cX4_add 0 = .ok (.aload_n 0, 1) := by decide +kernel
theorem dX4_add_1 : decode cX4_add 1 = .ok (.getfield 26, 3) := by decide +kernel
theorem dX4_add_4 : decode cX4_add 4 = .ok (.istore_n 3, 1) := by decide +kernel
theorem dX4_add_5 : decode cX4_add 5 = .ok (.aload_n 0, 1) := by decide +kernel
theorem dX4_add_6 : decode cX4_add 6 = .ok (.getfield 9, 3) := by decide +kernel
theorem dX4_add_9 : decode cX4_add 9 = .ok (.iload_n 3, 1) := by decide +kernel
theorem dX4_add_10 : decode cX4_add 10 = .ok (.iload_n 1, 1) := by decide +kernel
theorem dX4_add_11 : decode cX4_add 11 = .ok (.iastore, 1) := by decide +kernel
theorem dX4_add_12 : decode cX4_add 12 = .ok (.aload_n 0, 1) := by decide +kernel
theorem dX4_add_13 : decode cX4_add 13 = .ok (.getfield 13, 3) := by decide +kernel
theorem dX4_add_16 : decode cX4_add 16 = .ok (.iload_n 3, 1) := by decide +kernel
theorem dX4_add_17 : decode cX4_add 17 = .ok (.iload_n 2, 1) := by decide +kernel
theorem dX4_add_18 : decode cX4_add 18 = .ok (.iastore, 1) := by decide +kernel
theorem dX4_add_19 : decode cX4_add 19 = .ok (.aload_n 0, 1) := by decide +kernel
theorem dX4_add_20 : decode cX4_add 20 = .ok (.dup, 1) := by decide +kernel
theorem dX4_add_21 : decode cX4_add 21 = .ok (.getfield 26, 3) := by decide +kernel
theorem dX4_add_24 : decode cX4_add 24 = .ok (.iconst 1, 1) := by decide +kernel
theorem dX4_add_25 : decode cX4_add 25 = .ok (.iadd, 1) := by decide +kernel
theorem dX4_add_26 : decode cX4_add 26 = .ok (.putfield 26, 3) := by decide +kernel
theorem dX4_add_29 : decode cX4_add 29 = .ok (.iload_n 3, 1) := by decide +kernel
theorem dX4_add_30 : decode cX4_add 30 = .ok (.ireturn, 1) := by decide +kernel
theorem dX4_shape_0 : decode cX4_shape 0 = .ok (.iload_n 1, 1) := by decide +kernel
theorem dX4_shape_1 : decode cX4_shape 1 = .ok (.iconst 5, 1) := by decide +kernel
theorem dX4_shape_2 : decode cX4_shape 2 = .ok (.imul, 1) := by decide +kernel
theorem dX4_shape_3 : decode cX4_shape 3 = .ok (.istore 7, 2) := by decide +kernel
theorem dX4_shape_5 : decode cX4_shape 5 = .ok (.aload_n 0, 1) := by decide +kernel
theorem dX4_shape_6 : decode cX4_shape 6 = .ok (.getfield 23, 3) := by decide +kernel
theorem dX4_shape_9 : decode cX4_shape 9 = .ok (.iload 7, 2) := by decide +kernel
theorem dX4_shape_11 : decode cX4_shape 11 = .ok (.iload_n 2, 1) := by decide +kernel
theorem dX4_shape_12 : decode cX4_shape 12 = .ok (.iastore, 1) := by decide +kernel
theorem dX4_shape_13 : decode cX4_shape 13 = .ok (.aload_n 0, 1) := by decide +kernel
theorem dX4_shape_14 : decode cX4_shape 14 = .ok (.getfield 23, 3) := by decide +kernel
theorem dX4_shape_17 : decode cX4_shape 17 = .ok (.iload 7, 2) := by decide +kernel
theorem dX4_shape_19 : decode cX4_shape 19 = .ok (.iconst 1, 1) := by decide +kernel
theorem dX4_shape_20 : decode cX4_shape 20 = .ok (.iadd, 1) := by decide +kernel
theorem dX4_shape_21 : decode cX4_shape 21 = .ok (.iload_n 3, 1) := by decide +kernel
theorem dX4_shape_22 : decode cX4_shape 22 = .ok (.iastore, 1) := by decide +kernel
theorem dX4_shape_23 : decode cX4_shape 23 = .ok (.aload_n 0, 1) := by decide +kernel
theorem dX4_shape_24 : decode cX4_shape 24 = .ok (.getfield 23, 3) := by decide +kernel
theorem dX4_shape_27 : decode cX4_shape 27 = .ok (.iload 7, 2) := by decide +kernel
theorem dX4_shape_29 : decode cX4_shape 29 = .ok (.iconst 2, 1) := by decide +kernel
theorem dX4_shape_30 : decode cX4_shape 30 = .ok (.iadd, 1) := by decide +kernel
theorem dX4_shape_31 : decode cX4_shape 31 = .ok (.iload 4, 2) := by decide +kernel
theorem dX4_shape_33 : decode cX4_shape 33 = .ok (.iastore, 1) := by decide +kernel
theorem dX4_shape_34 : decode cX4_shape 34 = .ok (.aload_n 0, 1) := by decide +kernel
theorem dX4_shape_35 : decode cX4_shape 35 = .ok (.getfield 23, 3) := by decide +kernel
theorem dX4_shape_38 : decode cX4_shape 38 = .ok (.iload 7, 2) := by decide +kernel
theorem dX4_shape_40 : decode cX4_shape 40 = .ok (.iconst 3, 1) := by decide +kernel
theorem dX4_shape_41 : decode cX4_shape 41 = .ok (.iadd, 1) := by decide +kernel
theorem dX4_shape_42 : decode cX4_shape 42 = .ok (.iload 5, 2) := by decide +kernel
theorem dX4_shape_44 : decode cX4_shape 44 = .ok (.iastore, 1) := by decide +kernel
theorem dX4_shape_45 : decode cX4_shape 45 = .ok (.aload_n 0, 1) := by decide +kernel
theorem dX4_shape_46 : decode cX4_shape 46 = .ok (.getfield 23, 3) := by decide +kernel
theorem dX4_shape_49 : decode cX4_shape 49 = .ok (.iload 7, 2) := by decide +kernel
theorem dX4_shape_51 : decode cX4_shape 51 = .ok (.iconst 4, 1) := by decide +kernel
theorem dX4_shape_52 : decode cX4_shape 52 = .ok (.iadd, 1) := by decide +kernel
theorem dX4_shape_53 : decode cX4_shape 53 = .ok (.iload 6, 2) := by decide +kernel
theorem dX4_shape_55 : decode cX4_shape 55 = .ok (.iastore, 1) := by decide +kernel
theorem dX4_shape_56 : decode cX4_shape 56 = .ok (.return_, 1) := by decide +kernel
theorem dX4_weight_0 : decode cX4_weight 0 = .ok (.iconst 1, 1) := by decide +kernel
theorem dX4_weight_1 : decode cX4_weight 1 = .ok (.istore_n 2, 1) := by decide +kernel
theorem dX4_weight_2 : decode cX4_weight 2 = .ok (.aload_n 0, 1) := by decide +kernel
theorem dX4_weight_3 : decode cX4_weight 3 = .ok (.getfield 9, 3) := by decide +kernel
theorem dX4_weight_6 : decode cX4_weight 6 = .ok (.iload_n 1, 1) := by decide +kernel
theorem dX4_weight_7 : decode cX4_weight 7 = .ok (.iaload, 1) := by decide +kernel
theorem dX4_weight_8 : decode cX4_weight 8 = .ok (.iconst 1, 1) := by decide +kernel
theorem dX4_weight_9 : decode cX4_weight 9 = .ok (.if_icmp .lt 6, 3) := by decide +kernel
theorem dX4_weight_12 : decode cX4_weight 12 = .ok (.iinc 2 10, 3) := by decide +kernel
theorem dX4_weight_15 : decode cX4_weight 15 = .ok (.aload_n 0, 1) := by decide +kernel
theorem dX4_weight_16 : decode cX4_weight 16 = .ok (.getfield 9, 3) := by decide +kernel
theorem dX4_weight_19 : decode cX4_weight 19 = .ok (.iload_n 1, 1) := by decide +kernel
theorem dX4_weight_20 : decode cX4_weight 20 = .ok (.iaload, 1) := by decide +kernel
theorem dX4_weight_21 : decode cX4_weight 21 = .ok (.iconst 2, 1) := by decide +kernel
theorem dX4_weight_22 : decode cX4_weight 22 = .ok (.if_icmp .lt 6, 3) := by decide +kernel
theorem dX4_weight_25 : decode cX4_weight 25 = .ok (.iinc 2 100, 3) := by decide +kernel
theorem dX4_weight_28 : decode cX4_weight 28 = .ok (.iload_n 2, 1) := by decide +kernel
theorem dX4_weight_29 : decode cX4_weight 29 = .ok (.ireturn, 1) := by decide +kernel
set_option maxRecDepth 20000 in
theorem ggX4_fifths_X4_plain : GoodIn wsX4_fifths wsX4_plain := goodIn_r _ [7, 8, 19, 20, 21, 22, 23, 24] (by decide +kernel) (by decide +kernel)
set_option maxRecDepth 20000 in
theorem gX4_fifths_X4_plain : GoodIn wsX4_fifths (wsV RX4 30 RX4 yX4_plain wsX4_plain) := goodIn_app (goodIn_of _ (by decide +kernel)) ggX4_fifths_X4_plain
set_option maxRecDepth 20000 in
theorem ggX4_fifths_X4_scaled : GoodIn wsX4_fifths wsX4_scaled := goodIn_r _ [11] (by decide +kernel) (by decide +kernel)
set_option maxRecDepth 20000 in
theorem gX4_fifths_X4_scaled : GoodIn wsX4_fifths (va_wsS RX4 34 yX4_scaled wsX4_scaled) := goodIn_app (goodIn_of _ (by decide +kernel)) ggX4_fifths_X4_scaled
set_option maxRecDepth 20000 in
theorem ggX4_fifths_X4_tested : GoodIn wsX4_fifths wsX4_tested := goodIn_r _ [14, 15, 16, 17, 18] (by decide +kernel) (by decide +kernel)
set_option maxRecDepth 20000 in
theorem gX4_fifths_X4_tested : GoodIn wsX4_fifths (va_wsS RX4 37 yX4_tested wsX4_tested) := goodIn_app (goodIn_of _ (by decide +kernel)) ggX4_fifths_X4_tested
theorem dX4_fifths_0 : decode cX4_fifths 0 = .ok (.aload_n 0, 1) := by decide +kernel
theorem dX4_fifths_1 : decode cX4_fifths 1 = .ok (.iload_n 1, 1) := by decide +kernel
theorem dX4_fifths_2 : decode cX4_fifths 2 = .ok (.iload_n 2, 1) := by decide +kernel
theorem dX4_fifths_3 : decode cX4_fifths 3 = .ok (.invokevirtual 30, 3) := by decide +kernel
theorem dX4_fifths_6 : decode cX4_fifths 6 = .ok (.istore_n 3, 1) := by decide +kernel
theorem dX4_fifths_7 : decode cX4_fifths 7 = .ok (.aload_n 0, 1) := by decide +kernel
theorem dX4_fifths_8 : decode cX4_fifths 8 = .ok (.getfield 9, 3) := by decide +kernel
theorem dX4_fifths_11 : decode cX4_fifths 11 = .ok (.iload_n 1, 1) := by decide +kernel
theorem dX4_fifths_12 : decode cX4_fifths 12 = .ok (.iaload, 1) := by decide +kernel
theorem dX4_fifths_13 : decode cX4_fifths 13 = .ok (.iconst 1, 1) := by decide +kernel
theorem dX4_fifths_14 : decode cX4_fifths 14 = .ok (.if_icmp .lt 14, 3) := by decide +kernel
theorem dX4_fifths_17 : decode cX4_fifths 17 = .ok (.iload_n 3, 1) := by decide +kernel
theorem dX4_fifths_18 : decode cX4_fifths 18 = .ok (.aload_n 0, 1) := by decide +kernel
theorem dX4_fifths_19 : decode cX4_fifths 19 = .ok (.getfield 16, 3) := by decide +kernel
theorem dX4_fifths_22 : decode cX4_fifths 22 = .ok (.iload_n 1, 1) := by decide +kernel
theorem dX4_fifths_23 : decode cX4_fifths 23 = .ok (.iaload, 1) := by decide +kernel
theorem dX4_fifths_24 : decode cX4_fifths 24 = .ok (.invokestatic 34, 3) := by decide +kernel
theorem dX4_fifths_27 : decode cX4_fifths 27 = .ok (.istore_n 3, 1) := by decide +kernel
theorem dX4_fifths_28 : decode cX4_fifths 28 = .ok (.aload_n 0, 1) := by decide +kernel
theorem dX4_fifths_29 : decode cX4_fifths 29 = .ok (.getfield 9, 3) := by decide +kernel
theorem dX4_fifths_32 : decode cX4_fifths 32 = .ok (.iload_n 1, 1) := by decide +kernel
theorem dX4_fifths_33 : decode cX4_fifths 33 = .ok (.iaload, 1) := by decide +kernel
theorem dX4_fifths_34 : decode cX4_fifths 34 = .ok (.iconst 2, 1) := by decide +kernel
theorem dX4_fifths_35 : decode cX4_fifths 35 = .ok (.if_icmp .lt 8, 3) := by decide +kernel
theorem dX4_fifths_38 : decode cX4_fifths 38 = .ok (.iload_n 3, 1) := by decide +kernel
theorem dX4_fifths_39 : decode cX4_fifths 39 = .ok (.invokestatic 37, 3) := by decide +kernel
theorem dX4_fifths_42 : decode cX4_fifths 42 = .ok (.istore_n 3, 1) := by decide +kernel
theorem dX4_fifths_43 : decode cX4_fifths 43 = .ok (.iload_n 3, 1) := by decide +kernel
theorem dX4_fifths_44 : decode cX4_fifths 44 = .ok (.ireturn, 1) := by decide +kernel
theorem dX4_plain_0 : decode cX4_plain 0 = .ok (.iload_n 1, 1) := by decide +kernel
theorem dX4_plain_1 : decode cX4_plain 1 = .ok (.iconst 5, 1) := by decide +kernel
theorem dX4_plain_2 : decode cX4_plain 2 = .ok (.imul, 1) := by decide +kernel
theorem dX4_plain_3 : decode cX4_plain 3 = .ok (.iload_n 2, 1) := by decide +kernel
theorem dX4_plain_4 : decode cX4_plain 4 = .ok (.iconst 5, 1) := by decide +kernel
theorem dX4_plain_5 : decode cX4_plain 5 = .ok (.idiv, 1) := by decide +kernel
theorem dX4_plain_6 : decode cX4_plain 6 = .ok (.iadd, 1) := by decide +kernel
theorem dX4_plain_7 : decode cX4_plain 7 = .ok (.istore_n 3, 1) := by decide +kernel
theorem dX4_plain_8 : decode cX4_plain 8 = .ok (.iload_n 2, 1) := by decide +kernel
theorem dX4_plain_9 : decode cX4_plain 9 = .ok (.iconst 5, 1) := by decide +kernel
theorem dX4_plain_10 : decode cX4_plain 10 = .ok (.irem, 1) := by decide +kernel
theorem dX4_plain_11 : decode cX4_plain 11 = .ok (.istore 4, 2) := by decide +kernel
theorem dX4_plain_13 : decode cX4_plain 13 = .ok (.iconst 5, 1) := by decide +kernel
theorem dX4_plain_14 : decode cX4_plain 14 = .ok (.iload 4, 2) := by decide +kernel
theorem dX4_plain_16 : decode cX4_plain 16 = .ok (.isub, 1) := by decide +kernel
theorem dX4_plain_17 : decode cX4_plain 17 = .ok (.aload_n 0, 1) := by decide +kernel
theorem dX4_plain_18 : decode cX4_plain 18 = .ok (.getfield 23, 3) := by decide +kernel
theorem dX4_plain_21 : decode cX4_plain 21 = .ok (.iload_n 3, 1) := by decide +kernel
theorem dX4_plain_22 : decode cX4_plain 22 = .ok (.iaload, 1) := by decide +kernel
theorem dX4_plain_23 : decode cX4_plain 23 = .ok (.imul, 1) := by decide +kernel
theorem dX4_plain_24 : decode cX4_plain 24 = .ok (.istore 5, 2) := by decide +kernel
theorem dX4_plain_26 : decode cX4_plain 26 = .ok (.iload 4, 2) := by decide +kernel
theorem dX4_plain_28 : decode cX4_plain 28 = .ok (.ifCond .ne 8, 3) := by decide +kernel
theorem dX4_plain_31 : decode cX4_plain 31 = .ok (.iload 5, 2) := by decide +kernel
theorem dX4_plain_33 : decode cX4_plain 33 = .ok (.goto 17, 3) := by decide +kernel
theorem dX4_plain_36 : decode cX4_plain 36 = .ok (.iload 5, 2) := by decide +kernel
theorem dX4_plain_38 : decode cX4_plain 38 = .ok (.iload 4, 2) := by decide +kernel
theorem dX4_plain_40 : decode cX4_plain 40 = .ok (.aload_n 0, 1) := by decide +kernel
theorem dX4_plain_41 : decode cX4_plain 41 = .ok (.getfield 23, 3) := by decide +kernel
theorem dX4_plain_44 : decode cX4_plain 44 = .ok (.iload_n 3, 1) := by decide +kernel
theorem dX4_plain_45 : decode cX4_plain 45 = .ok (.iconst 1, 1) := by decide +kernel
theorem dX4_plain_46 : decode cX4_plain 46 = .ok (.iadd, 1) := by decide +kernel
theorem dX4_plain_47 : decode cX4_plain 47 = .ok (.iaload, 1) := by decide +kernel
theorem dX4_plain_48 : decode cX4_plain 48 = .ok (.imul, 1) := by decide +kernel
theorem dX4_plain_49 : decode cX4_plain 49 = .ok (.iadd, 1) := by decide +kernel
theorem dX4_plain_50 : decode cX4_plain 50 = .ok (.ireturn, 1) := by decide +kernel
theorem dX4_scaled_0 : decode cX4_scaled 0 = .ok (.iload_n 1, 1) := by decide +kernel
theorem dX4_scaled_1 : decode cX4_scaled 1 = .ok (.bipush 20, 2) := by decide +kernel
theorem dX4_scaled_3 : decode cX4_scaled 3 = .ok (.if_icmp .lt 7, 3) := by decide +kernel
theorem dX4_scaled_6 : decode cX4_scaled 6 = .ok (.iconst 0, 1) := by decide +kernel
theorem dX4_scaled_7 : decode cX4_scaled 7 = .ok (.goto 12, 3) := by decide +kernel
theorem dX4_scaled_10 : decode cX4_scaled 10 = .ok (.iload_n 0, 1) := by decide +kernel
theorem dX4_scaled_11 : decode cX4_scaled 11 = .ok (.bipush 20, 2) := by decide +kernel
theorem dX4_scaled_13 : decode cX4_scaled 13 = .ok (.iload_n 1, 1) := by decide +kernel
theorem dX4_scaled_14 : decode cX4_scaled 14 = .ok (.isub, 1) := by decide +kernel
theorem dX4_scaled_15 : decode cX4_scaled 15 = .ok (.imul, 1) := by decide +kernel
theorem dX4_scaled_16 : decode cX4_scaled 16 = .ok (.bipush 20, 2) := by decide +kernel
theorem dX4_scaled_18 : decode cX4_scaled 18 = .ok (.idiv, 1) := by decide +kernel
theorem dX4_scaled_19 : decode cX4_scaled 19 = .ok (.ireturn, 1) := by decide +kernel
theorem dX4_tested_0 : decode cX4_tested 0 = .ok (.iload_n 0, 1) := by decide +kernel
theorem dX4_tested_1 : decode cX4_tested 1 = .ok (.sipush 1000, 3) := by decide +kernel
theorem dX4_tested_4 : decode cX4_tested 4 = .ok (.invokestatic 41, 3) := by decide +kernel
theorem dX4_tested_7 : decode cX4_tested 7 = .ok (.ireturn, 1) := by decide +kernel
theorem dX4_steam_0 : decode cX4_steam 0 = .ok (.iload_n 0, 1) := by decide +kernel
theorem dX4_steam_1 : decode cX4_steam 1 = .ok (.sipush 300, 3) := by decide +kernel
theorem dX4_steam_4 : decode cX4_steam 4 = .ok (.iconst 5, 1) := by decide +kernel
theorem dX4_steam_5 : decode cX4_steam 5 = .ok (.iload_n 1, 1) := by decide +kernel
theorem dX4_steam_6 : decode cX4_steam 6 = .ok (.imul, 1) := by decide +kernel
theorem dX4_steam_7 : decode cX4_steam 7 = .ok (.isub, 1) := by decide +kernel
theorem dX4_steam_8 : decode cX4_steam 8 = .ok (.imul, 1) := by decide +kernel
theorem dX4_steam_9 : decode cX4_steam 9 = .ok (.sipush 1000, 3) := by decide +kernel
theorem dX4_steam_12 : decode cX4_steam 12 = .ok (.idiv, 1) := by decide +kernel
theorem dX4_steam_13 : decode cX4_steam 13 = .ok (.ireturn, 1) := by decide +kernel
set_option maxRecDepth 20000 in
theorem ggX4_supply_X4_fifths : GoodIn wsX4_supply wsX4_fifths := goodIn_r _ [7, 8, 9, 10, 11, 12, 6, 13, 14, 15, 16, 17, 18, 19, 20, 21, 22, 23, 24, 28, 29, 30, 31, 32, 33] (by decide +kernel) (by decide +kernel)
set_option maxRecDepth 20000 in
theorem gX4_supply_X4_fifths : GoodIn wsX4_supply (wsV RX4 46 RX4 yX4_fifths wsX4_fifths) := goodIn_app (goodIn_of _ (by decide +kernel)) ggX4_supply_X4_fifths
set_option maxRecDepth 20000 in
theorem ggX4_supply_X4_steam : GoodIn wsX4_supply wsX4_steam := goodIn_r _ [27] (by decide +kernel) (by decide +kernel)
set_option maxRecDepth 20000 in
theorem gX4_supply_X4_steam : GoodIn wsX4_supply (va_wsS RX4 49 yX4_steam wsX4_steam) := goodIn_app (goodIn_of _ (by decide +kernel)) ggX4_supply_X4_steam
theorem dX4_supply_0 : decode cX4_supply 0 = .ok (.iconst 0, 1) := by decide +kernel
theorem dX4_supply_1 : decode cX4_supply 1 = .ok (.istore_n 2, 1) := by decide +kernel
theorem dX4_supply_2 : decode cX4_supply 2 = .ok (.iconst 0, 1) := by decide +kernel
theorem dX4_supply_3 : decode cX4_supply 3 = .ok (.istore_n 3, 1) := by decide +kernel
theorem dX4_supply_4 : decode cX4_supply 4 = .ok (.iload_n 3, 1) := by decide +kernel
theorem dX4_supply_5 : decode cX4_supply 5 = .ok (.aload_n 0, 1) := by decide +kernel
theorem dX4_supply_6 : decode cX4_supply 6 = .ok (.getfield 26, 3) := by decide +kernel
theorem dX4_supply_9 : decode cX4_supply 9 = .ok (.if_icmp .ge 31, 3) := by decide +kernel
theorem dX4_supply_12 : decode cX4_supply 12 = .ok (.aload_n 0, 1) := by decide +kernel
theorem dX4_supply_13 : decode cX4_supply 13 = .ok (.getfield 19, 3) := by decide +kernel
theorem dX4_supply_16 : decode cX4_supply 16 = .ok (.iload_n 3, 1) := by decide +kernel
theorem dX4_supply_17 : decode cX4_supply 17 = .ok (.baload, 1) := by decide +kernel
theorem dX4_supply_18 : decode cX4_supply 18 = .ok (.ifCond .eq 16, 3) := by decide +kernel
theorem dX4_supply_21 : decode cX4_supply 21 = .ok (.iload_n 2, 1) := by decide +kernel
theorem dX4_supply_22 : decode cX4_supply 22 = .ok (.aload_n 0, 1) := by decide +kernel
theorem dX4_supply_23 : decode cX4_supply 23 = .ok (.iload_n 3, 1) := by decide +kernel
theorem dX4_supply_24 : decode cX4_supply 24 = .ok (.iload_n 1, 1) := by decide +kernel
theorem dX4_supply_25 : decode cX4_supply 25 = .ok (.invokevirtual 46, 3) := by decide +kernel
theorem dX4_supply_28 : decode cX4_supply 28 = .ok (.iload_n 1, 1) := by decide +kernel
theorem dX4_supply_29 : decode cX4_supply 29 = .ok (.invokestatic 49, 3) := by decide +kernel
theorem dX4_supply_32 : decode cX4_supply 32 = .ok (.iadd, 1) := by decide +kernel
theorem dX4_supply_33 : decode cX4_supply 33 = .ok (.istore_n 2, 1) := by decide +kernel
theorem dX4_supply_34 : decode cX4_supply 34 = .ok (.iinc 3 1, 3) := by decide +kernel
theorem dX4_supply_37 : decode cX4_supply 37 = .ok (.goto (-33), 3) := by decide +kernel
theorem dX4_supply_40 : decode cX4_supply 40 = .ok (.iload_n 2, 1) := by decide +kernel
theorem dX4_supply_41 : decode cX4_supply 41 = .ok (.ireturn, 1) := by decide +kernel
set_option maxRecDepth 20000 in
theorem ggX4_water_X4_fifths : GoodIn wsX4_water wsX4_fifths := goodIn_r _ [7, 8, 9, 10, 11, 12, 6, 13, 14, 15, 16, 17, 18, 19, 20, 21, 22, 23, 24, 28, 29, 30, 31, 32, 33] (by decide +kernel) (by decide +kernel)
set_option maxRecDepth 20000 in
theorem gX4_water_X4_fifths : GoodIn wsX4_water (wsV RX4 46 RX4 yX4_fifths wsX4_fifths) := goodIn_app (goodIn_of _ (by decide +kernel)) ggX4_water_X4_fifths
set_option maxRecDepth 20000 in
theorem ggX4_water_X4_steam : GoodIn wsX4_water wsX4_steam := goodIn_r _ [27] (by decide +kernel) (by decide +kernel)
set_option maxRecDepth 20000 in
theorem gX4_water_X4_steam : GoodIn wsX4_water (va_wsS RX4 49 yX4_steam wsX4_steam) := goodIn_app (goodIn_of _ (by decide +kernel)) ggX4_water_X4_steam
theorem dX4_water_0 : decode cX4_water 0 = .ok (.iconst 0, 1) := by decide +kernel
theorem dX4_water_1 : decode cX4_water 1 = .ok (.istore_n 2, 1) := by decide +kernel
theorem dX4_water_2 : decode cX4_water 2 = .ok (.iconst 0, 1) := by decide +kernel
theorem dX4_water_3 : decode cX4_water 3 = .ok (.istore_n 3, 1) := by decide +kernel
theorem dX4_water_4 : decode cX4_water 4 = .ok (.iload_n 3, 1) := by decide +kernel
theorem dX4_water_5 : decode cX4_water 5 = .ok (.aload_n 0, 1) := by decide +kernel
theorem dX4_water_6 : decode cX4_water 6 = .ok (.getfield 26, 3) := by decide +kernel
theorem dX4_water_9 : decode cX4_water 9 = .ok (.if_icmp .ge 38, 3) := by decide +kernel
theorem dX4_water_12 : decode cX4_water 12 = .ok (.aload_n 0, 1) := by decide +kernel
theorem dX4_water_13 : decode cX4_water 13 = .ok (.getfield 19, 3) := by decide +kernel
theorem dX4_water_16 : decode cX4_water 16 = .ok (.iload_n 3, 1) := by decide +kernel
theorem dX4_water_17 : decode cX4_water 17 = .ok (.baload, 1) := by decide +kernel
theorem dX4_water_18 : decode cX4_water 18 = .ok (.ifCond .eq 23, 3) := by decide +kernel
theorem dX4_water_21 : decode cX4_water 21 = .ok (.aload_n 0, 1) := by decide +kernel
theorem dX4_water_22 : decode cX4_water 22 = .ok (.iload_n 3, 1) := by decide +kernel
theorem dX4_water_23 : decode cX4_water 23 = .ok (.iload_n 1, 1) := by decide +kernel
theorem dX4_water_24 : decode cX4_water 24 = .ok (.invokevirtual 46, 3) := by decide +kernel
theorem dX4_water_27 : decode cX4_water 27 = .ok (.istore 4, 2) := by decide +kernel
theorem dX4_water_29 : decode cX4_water 29 = .ok (.iload_n 2, 1) := by decide +kernel
theorem dX4_water_30 : decode cX4_water 30 = .ok (.iload 4, 2) := by decide +kernel
theorem dX4_water_32 : decode cX4_water 32 = .ok (.iload 4, 2) := by decide +kernel
theorem dX4_water_34 : decode cX4_water 34 = .ok (.iload_n 1, 1) := by decide +kernel
theorem dX4_water_35 : decode cX4_water 35 = .ok (.invokestatic 49, 3) := by decide +kernel
theorem dX4_water_38 : decode cX4_water 38 = .ok (.isub, 1) := by decide +kernel
theorem dX4_water_39 : decode cX4_water 39 = .ok (.iadd, 1) := by decide +kernel
theorem dX4_water_40 : decode cX4_water 40 = .ok (.istore_n 2, 1) := by decide +kernel
theorem dX4_water_41 : decode cX4_water 41 = .ok (.iinc 3 1, 3) := by decide +kernel
theorem dX4_water_44 : decode cX4_water 44 = .ok (.goto (-40), 3) := by decide +kernel
theorem dX4_water_47 : decode cX4_water 47 = .ok (.iload_n 2, 1) := by decide +kernel
theorem dX4_water_48 : decode cX4_water 48 = .ok (.ireturn, 1) := by decide +kernel
theorem dX4_grow_0 : decode cX4_grow 0 = .ok (.iconst 0, 1) := by decide +kernel
theorem dX4_grow_1 : decode cX4_grow 1 = .ok (.istore_n 1, 1) := by decide +kernel
theorem dX4_grow_2 : decode cX4_grow 2 = .ok (.iload_n 1, 1) := by decide +kernel
theorem dX4_grow_3 : decode cX4_grow 3 = .ok (.aload_n 0, 1) := by decide +kernel
theorem dX4_grow_4 : decode cX4_grow 4 = .ok (.getfield 26, 3) := by decide +kernel
theorem dX4_grow_7 : decode cX4_grow 7 = .ok (.if_icmp .ge 28, 3) := by decide +kernel
theorem dX4_grow_10 : decode cX4_grow 10 = .ok (.aload_n 0, 1) := by decide +kernel
theorem dX4_grow_11 : decode cX4_grow 11 = .ok (.getfield 19, 3) := by decide +kernel
theorem dX4_grow_14 : decode cX4_grow 14 = .ok (.iload_n 1, 1) := by decide +kernel
theorem dX4_grow_15 : decode cX4_grow 15 = .ok (.baload, 1) := by decide +kernel
theorem dX4_grow_16 : decode cX4_grow 16 = .ok (.ifCond .eq 13, 3) := by decide +kernel
theorem dX4_grow_19 : decode cX4_grow 19 = .ok (.aload_n 0, 1) := by decide +kernel
theorem dX4_grow_20 : decode cX4_grow 20 = .ok (.getfield 16, 3) := by decide +kernel
theorem dX4_grow_23 : decode cX4_grow 23 = .ok (.iload_n 1, 1) := by decide +kernel
theorem dX4_grow_24 : decode cX4_grow 24 = .ok (.dup2, 1) := by decide +kernel
theorem dX4_grow_25 : decode cX4_grow 25 = .ok (.iaload, 1) := by decide +kernel
theorem dX4_grow_26 : decode cX4_grow 26 = .ok (.iconst 1, 1) := by decide +kernel
theorem dX4_grow_27 : decode cX4_grow 27 = .ok (.iadd, 1) := by decide +kernel
theorem dX4_grow_28 : decode cX4_grow 28 = .ok (.iastore, 1) := by decide +kernel
theorem dX4_grow_29 : decode cX4_grow 29 = .ok (.iinc 1 1, 3) := by decide +kernel
theorem dX4_grow_32 : decode cX4_grow 32 = .ok (.goto (-30), 3) := by decide +kernel

abbrev vwCl : List vw_C := [(RX0, TX0, 7), (RX1, TX1, 3), (RX2, TX2, 5), (RX3, TX3, 5), (RX4, TX4, 6), (RX5, TX5, 6), (RX6, TX6, 27)]
