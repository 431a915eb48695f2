section
-- ===== PART A: goes FIRST, ahead of the names: the tables' words, and 'selects' of the private methods out of them =====
/-- a private method of a class that the tables say can be made, by its rows of tables_1 -/
def lw_okq (q : MethodName × Nat) : Prop := (q.1.cls ≠ "java/lang/invoke/MethodHandle" ∧ q.1.cls ≠ "java/lang/invoke/VarHandle") ∧ Cond.instantiable q.1.cls q.2 ∈ tables_1 ∧ Cond.privateMethod q.1 ∈ tables_1 ∧ Cond.instanceMethod q.1 ∈ tables_1
theorem lw_p0 : lw_okq (⟨"HotGround", "isWell", "(I)Z"⟩, 6) := ⟨⟨by decide +kernel, by decide +kernel⟩, List.mem_of_getElem? (i := 10) (by decide +kernel), List.mem_of_getElem? (i := 192) (by decide +kernel), List.mem_of_getElem? (i := 193) (by decide +kernel)⟩
theorem lw_p1 : lw_okq (⟨"HotGround$Wells", "plain", "(II)I"⟩, 6) := ⟨⟨by decide +kernel, by decide +kernel⟩, List.mem_of_getElem? (i := 18) (by decide +kernel), List.mem_of_getElem? (i := 215) (by decide +kernel), List.mem_of_getElem? (i := 216) (by decide +kernel)⟩
theorem lw_p2 : lw_okq (⟨"HotGround", "meeting", "()I"⟩, 6) := ⟨⟨by decide +kernel, by decide +kernel⟩, List.mem_of_getElem? (i := 10) (by decide +kernel), List.mem_of_getElem? (i := 269) (by decide +kernel), List.mem_of_getElem? (i := 270) (by decide +kernel)⟩
theorem lw_p3 : lw_okq (⟨"HotGround", "setLeak", "(II)I"⟩, 6) := ⟨⟨by decide +kernel, by decide +kernel⟩, List.mem_of_getElem? (i := 10) (by decide +kernel), List.mem_of_getElem? (i := 285) (by decide +kernel), List.mem_of_getElem? (i := 286) (by decide +kernel)⟩
theorem lw_p4 : lw_okq (⟨"HotGround", "setFeed", "(II)I"⟩, 6) := ⟨⟨by decide +kernel, by decide +kernel⟩, List.mem_of_getElem? (i := 10) (by decide +kernel), List.mem_of_getElem? (i := 289) (by decide +kernel), List.mem_of_getElem? (i := 290) (by decide +kernel)⟩
theorem lw_p5 : lw_okq (⟨"HotGround", "setGivenShare", "(I)I"⟩, 6) := ⟨⟨by decide +kernel, by decide +kernel⟩, List.mem_of_getElem? (i := 10) (by decide +kernel), List.mem_of_getElem? (i := 293) (by decide +kernel), List.mem_of_getElem? (i := 294) (by decide +kernel)⟩
theorem lw_p6 : lw_okq (⟨"HotGround", "setGivenBox", "(I)I"⟩, 6) := ⟨⟨by decide +kernel, by decide +kernel⟩, List.mem_of_getElem? (i := 10) (by decide +kernel), List.mem_of_getElem? (i := 297) (by decide +kernel), List.mem_of_getElem? (i := 298) (by decide +kernel)⟩
theorem lw_p7 : lw_okq (⟨"HotGround", "passYear", "()V"⟩, 6) := ⟨⟨by decide +kernel, by decide +kernel⟩, List.mem_of_getElem? (i := 10) (by decide +kernel), List.mem_of_getElem? (i := 305) (by decide +kernel), List.mem_of_getElem? (i := 306) (by decide +kernel)⟩
theorem lw_p8 : lw_okq (⟨"HotGround", "takeAll", "(I)J"⟩, 6) := ⟨⟨by decide +kernel, by decide +kernel⟩, List.mem_of_getElem? (i := 10) (by decide +kernel), List.mem_of_getElem? (i := 309) (by decide +kernel), List.mem_of_getElem? (i := 310) (by decide +kernel)⟩
theorem lw_p9 : lw_okq (⟨"HotGround$Ground", "heatOf", "(IJ)J"⟩, 7) := ⟨⟨by decide +kernel, by decide +kernel⟩, List.mem_of_getElem? (i := 75) (by decide +kernel), List.mem_of_getElem? (i := 320) (by decide +kernel), List.mem_of_getElem? (i := 321) (by decide +kernel)⟩
theorem lw_p10 : lw_okq (⟨"HotGround$Ground", "book", "(IJJ)V"⟩, 7) := ⟨⟨by decide +kernel, by decide +kernel⟩, List.mem_of_getElem? (i := 75) (by decide +kernel), List.mem_of_getElem? (i := 324) (by decide +kernel), List.mem_of_getElem? (i := 325) (by decide +kernel)⟩
theorem lw_p11 : lw_okq (⟨"HotGround$Ground", "pour", "(IJJ)V"⟩, 7) := ⟨⟨by decide +kernel, by decide +kernel⟩, List.mem_of_getElem? (i := 75) (by decide +kernel), List.mem_of_getElem? (i := 334) (by decide +kernel), List.mem_of_getElem? (i := 335) (by decide +kernel)⟩
theorem lw_p12 : lw_okq (⟨"HotGround$Offers", "keeps", "(I)Z"⟩, 5) := ⟨⟨by decide +kernel, by decide +kernel⟩, List.mem_of_getElem? (i := 130) (by decide +kernel), List.mem_of_getElem? (i := 416) (by decide +kernel), List.mem_of_getElem? (i := 417) (by decide +kernel)⟩
theorem lw_p13 : lw_okq (⟨"HotGroundModel", "isWell", "(I)Z"⟩, 27) := ⟨⟨by decide +kernel, by decide +kernel⟩, List.mem_of_getElem? (i := 445) (by decide +kernel), List.mem_of_getElem? (i := 544) (by decide +kernel), List.mem_of_getElem? (i := 545) (by decide +kernel)⟩
theorem lw_p14 : lw_okq (⟨"HotGroundModel", "flowOf", "(II)I"⟩, 27) := ⟨⟨by decide +kernel, by decide +kernel⟩, List.mem_of_getElem? (i := 445) (by decide +kernel), List.mem_of_getElem? (i := 558) (by decide +kernel), List.mem_of_getElem? (i := 559) (by decide +kernel)⟩
theorem lw_p15 : lw_okq (⟨"HotGroundModel", "supply", "(I)I"⟩, 27) := ⟨⟨by decide +kernel, by decide +kernel⟩, List.mem_of_getElem? (i := 445) (by decide +kernel), List.mem_of_getElem? (i := 578) (by decide +kernel), List.mem_of_getElem? (i := 579) (by decide +kernel)⟩
def lw_privs_1 : List (MethodName × Nat) := [(⟨"HotGround", "isWell", "(I)Z"⟩, 6), (⟨"HotGround$Wells", "plain", "(II)I"⟩, 6), (⟨"HotGround", "meeting", "()I"⟩, 6), (⟨"HotGround", "setLeak", "(II)I"⟩, 6), (⟨"HotGround", "setFeed", "(II)I"⟩, 6), (⟨"HotGround", "setGivenShare", "(I)I"⟩, 6), (⟨"HotGround", "setGivenBox", "(I)I"⟩, 6), (⟨"HotGround", "passYear", "()V"⟩, 6), (⟨"HotGround", "takeAll", "(I)J"⟩, 6), (⟨"HotGround$Ground", "heatOf", "(IJ)J"⟩, 7), (⟨"HotGround$Ground", "book", "(IJJ)V"⟩, 7), (⟨"HotGround$Ground", "pour", "(IJJ)V"⟩, 7), (⟨"HotGround$Offers", "keeps", "(I)Z"⟩, 5), (⟨"HotGroundModel", "isWell", "(I)Z"⟩, 27), (⟨"HotGroundModel", "flowOf", "(II)I"⟩, 27), (⟨"HotGroundModel", "supply", "(I)I"⟩, 27)]
theorem lw_r1 : ∀ q ∈ lw_privs_1, lw_okq q := List.forall_mem_cons.mpr ⟨lw_p0, List.forall_mem_cons.mpr ⟨lw_p1, List.forall_mem_cons.mpr ⟨lw_p2, List.forall_mem_cons.mpr ⟨lw_p3, List.forall_mem_cons.mpr ⟨lw_p4, List.forall_mem_cons.mpr ⟨lw_p5, List.forall_mem_cons.mpr ⟨lw_p6, List.forall_mem_cons.mpr ⟨lw_p7, List.forall_mem_cons.mpr ⟨lw_p8, List.forall_mem_cons.mpr ⟨lw_p9, List.forall_mem_cons.mpr ⟨lw_p10, List.forall_mem_cons.mpr ⟨lw_p11, List.forall_mem_cons.mpr ⟨lw_p12, List.forall_mem_cons.mpr ⟨lw_p13, List.forall_mem_cons.mpr ⟨lw_p14, List.forall_mem_cons.mpr ⟨lw_p15, fun _ h => absurd h List.not_mem_nil⟩⟩⟩⟩⟩⟩⟩⟩⟩⟩⟩⟩⟩⟩⟩⟩
theorem lw_p16 : lw_okq (⟨"HotGroundModel", "draw", "(I)I"⟩, 27) := ⟨⟨by decide +kernel, by decide +kernel⟩, List.mem_of_getElem? (i := 445) (by decide +kernel), List.mem_of_getElem? (i := 585) (by decide +kernel), List.mem_of_getElem? (i := 586) (by decide +kernel)⟩
theorem lw_p17 : lw_okq (⟨"HotGroundModel", "oneYear", "()V"⟩, 27) := ⟨⟨by decide +kernel, by decide +kernel⟩, List.mem_of_getElem? (i := 445) (by decide +kernel), List.mem_of_getElem? (i := 609) (by decide +kernel), List.mem_of_getElem? (i := 610) (by decide +kernel)⟩
theorem lw_p18 : lw_okq (⟨"HotGroundModel", "wellsGive", "(I)V"⟩, 27) := ⟨⟨by decide +kernel, by decide +kernel⟩, List.mem_of_getElem? (i := 445) (by decide +kernel), List.mem_of_getElem? (i := 614) (by decide +kernel), List.mem_of_getElem? (i := 615) (by decide +kernel)⟩
theorem lw_p19 : lw_okq (⟨"HotGroundModel", "goes", "(IJ)J"⟩, 27) := ⟨⟨by decide +kernel, by decide +kernel⟩, List.mem_of_getElem? (i := 445) (by decide +kernel), List.mem_of_getElem? (i := 618) (by decide +kernel), List.mem_of_getElem? (i := 619) (by decide +kernel)⟩
theorem lw_p20 : lw_okq (⟨"HotGroundModel", "comes", "(IJJ)V"⟩, 27) := ⟨⟨by decide +kernel, by decide +kernel⟩, List.mem_of_getElem? (i := 445) (by decide +kernel), List.mem_of_getElem? (i := 624) (by decide +kernel), List.mem_of_getElem? (i := 625) (by decide +kernel)⟩
theorem lw_p21 : lw_okq (⟨"HotGroundModel", "leaks", "(I)V"⟩, 27) := ⟨⟨by decide +kernel, by decide +kernel⟩, List.mem_of_getElem? (i := 445) (by decide +kernel), List.mem_of_getElem? (i := 628) (by decide +kernel), List.mem_of_getElem? (i := 629) (by decide +kernel)⟩
theorem lw_p22 : lw_okq (⟨"HotGroundModel", "lack", "(II)I"⟩, 27) := ⟨⟨by decide +kernel, by decide +kernel⟩, List.mem_of_getElem? (i := 445) (by decide +kernel), List.mem_of_getElem? (i := 671) (by decide +kernel), List.mem_of_getElem? (i := 672) (by decide +kernel)⟩
theorem lw_p23 : lw_okq (⟨"HotGroundModel", "costOf", "(I)I"⟩, 27) := ⟨⟨by decide +kernel, by decide +kernel⟩, List.mem_of_getElem? (i := 445) (by decide +kernel), List.mem_of_getElem? (i := 675) (by decide +kernel), List.mem_of_getElem? (i := 676) (by decide +kernel)⟩
def lw_privs_2 : List (MethodName × Nat) := [(⟨"HotGroundModel", "draw", "(I)I"⟩, 27), (⟨"HotGroundModel", "oneYear", "()V"⟩, 27), (⟨"HotGroundModel", "wellsGive", "(I)V"⟩, 27), (⟨"HotGroundModel", "goes", "(IJ)J"⟩, 27), (⟨"HotGroundModel", "comes", "(IJJ)V"⟩, 27), (⟨"HotGroundModel", "leaks", "(I)V"⟩, 27), (⟨"HotGroundModel", "lack", "(II)I"⟩, 27), (⟨"HotGroundModel", "costOf", "(I)I"⟩, 27)]
theorem lw_r2 : ∀ q ∈ lw_privs_2, lw_okq q := List.forall_mem_cons.mpr ⟨lw_p16, List.forall_mem_cons.mpr ⟨lw_p17, List.forall_mem_cons.mpr ⟨lw_p18, List.forall_mem_cons.mpr ⟨lw_p19, List.forall_mem_cons.mpr ⟨lw_p20, List.forall_mem_cons.mpr ⟨lw_p21, List.forall_mem_cons.mpr ⟨lw_p22, List.forall_mem_cons.mpr ⟨lw_p23, fun _ h => absurd h List.not_mem_nil⟩⟩⟩⟩⟩⟩⟩⟩
def lw_privs : List (MethodName × Nat) := lw_privs_1 ++ (lw_privs_2)
def lw_tbl : List Cond := k2_sels lw_privs ++ tables_1
theorem lw_privs_ok : ∀ q ∈ lw_privs, lw_okq q := by
  show ∀ q ∈ lw_privs_1 ++ (lw_privs_2), lw_okq q
  exact List.forall_mem_append.mpr ⟨lw_r1, lw_r2⟩
-- ===== end of PART A; then your names; then what follows =====
/-! ===== BEGIN words of one list among another's, by their places ===== -/
theorem goodIn_r {big : List Cond} (ws : List Cond) (ps : List Nat) (hp : ws = ps.filterMap (fun i => big[i]?)) (h : ws.all goodWord = true) : GoodIn big ws := by
  intro w hw
  have h1 := List.all_eq_true.mp h w hw
  rw [hp] at hw
  obtain ⟨i, -, hi⟩ := List.mem_filterMap.mp hw
  have hm : w ∈ big := by first | exact List.mem_of_getElem? hi | exact List.getElem?_mem hi
  exact ⟨hm, good_of_word h1⟩
theorem goodIn_app {big a b : List Cond} (ha : GoodIn big a) (hb : GoodIn big b) : GoodIn big (a ++ b) := fun w h => (List.mem_append.mp h).elim (ha w) (hb w)
theorem goodIn_ca {big a b : List Cond} {c : Cond} (ha : GoodIn big (c :: a)) (hb : GoodIn big b) : GoodIn big (c :: (a ++ b)) := fun w h => (List.mem_cons.mp h).elim (fun e => ha w (List.mem_cons.mpr (Or.inl e))) (fun h => (List.mem_append.mp h).elim (fun h => ha w (List.mem_cons.mpr (Or.inr h))) (hb w))
theorem goodIn_sub {big ws : List Cond} (hm : ∀ w ∈ ws, w ∈ big) (h : ws.all goodWord = true) : GoodIn big ws := fun w hw => ⟨hm w hw, good_of_word (List.all_eq_true.mp h w hw)⟩
/-! ===== END ===== -/

/-! ===== BEGIN printed: names, fields, word lists, decode rows ===== -/
def RX0 : String := "HotGround$Ground"
def TX0 : u_T := fun k => match k with
  | 0 => ("HotGround$Ground", "mass", "[J", true)
  | 1 => ("HotGround$Ground", "heat", "[J", true)
  | 2 => ("HotGround$Ground", "feed", "[I", true)
  | 3 => ("HotGround$Ground", "leak", "[I", true)
  | 4 => ("HotGround$Ground", "givenShare", "I", false)
  | 5 => ("HotGround$Ground", "givenBox", "I", false)
  | _ => ("HotGround$Ground", "sums", "[J", true)
def tyX0 : Nat → FieldType := fun k => match k with
  | 0 => .array .long
  | 1 => .array .long
  | 2 => .array .int
  | 3 => .array .int
  | 4 => .int
  | 5 => .int
  | _ => .array .long
abbrev wsX00 : List Cond := u_ws RX0 TX0 7
theorem nmX0 : ∀ a, a < 7 → ∀ b, b < 7 → a ≠ b → (TX0 a).2.1 ≠ (TX0 b).2.1 := by decide +kernel
theorem tyX0_ok : ∀ k, k < 7 → parseFieldDescriptor (TX0 k).2.2.1 = some (tyX0 k) := by decide +kernel
abbrev cX0_init : ByteArray := prog_2_method_1_code
def yX0_init : MethodName := ⟨RX0, "<init>", "()V"⟩
abbrev cX0_heatOf : ByteArray := prog_2_method_2_code
def yX0_heatOf : MethodName := ⟨RX0, "heatOf", "(IJ)J"⟩
abbrev cX0_take : ByteArray := prog_2_method_3_code
def yX0_take : MethodName := ⟨RX0, "take", "(IJ)J"⟩
abbrev cX0_giveBack : ByteArray := prog_2_method_4_code
def yX0_giveBack : MethodName := ⟨RX0, "giveBack", "(J)V"⟩
abbrev cX0_leakAll : ByteArray := prog_2_method_5_code
def yX0_leakAll : MethodName := ⟨RX0, "leakAll", "()V"⟩
abbrev cX0_feedAll : ByteArray := prog_2_method_6_code
def yX0_feedAll : MethodName := ⟨RX0, "feedAll", "()V"⟩
abbrev cX0_pour : ByteArray := prog_2_method_7_code
def yX0_pour : MethodName := ⟨RX0, "pour", "(IJJ)V"⟩
abbrev cX0_book : ByteArray := prog_2_method_8_code
def yX0_book : MethodName := ⟨RX0, "book", "(IJJ)V"⟩
def RX1 : String := "HotGround$Kernel"
def TX1 : u_T := fun k => match k with
  | 0 => ("HotGround$Kernel", "count", "I", false)
  | 1 => ("HotGround$Kernel", "shares", "[I", true)
  | _ => ("HotGround$Kernel", "amounts", "[I", true)
def tyX1 : Nat → FieldType := fun k => match k with
  | 0 => .int
  | 1 => .array .int
  | _ => .array .int
abbrev wsX10 : List Cond := u_ws RX1 TX1 3
theorem nmX1 : ∀ a, a < 3 → ∀ b, b < 3 → a ≠ b → (TX1 a).2.1 ≠ (TX1 b).2.1 := by decide +kernel
theorem tyX1_ok : ∀ k, k < 3 → parseFieldDescriptor (TX1 k).2.2.1 = some (tyX1 k) := by decide +kernel
abbrev cX1_init : ByteArray := prog_3_method_1_code
def yX1_init : MethodName := ⟨RX1, "<init>", "()V"⟩
abbrev cX1_together : ByteArray := prog_3_method_2_code
def yX1_together : MethodName := ⟨RX1, "together", "()I"⟩
abbrev cX1_comes : ByteArray := prog_3_method_3_code
def yX1_comes : MethodName := ⟨RX1, "comes", "(I)I"⟩
def RX2 : String := "HotGround$Offers"
def TX2 : u_T := fun k => match k with
  | 0 => ("HotGround$Offers", "count", "I", false)
  | 1 => ("HotGround$Offers", "cost", "[I", true)
  | 2 => ("HotGround$Offers", "from", "[I", true)
  | 3 => ("HotGround$Offers", "steam", "[I", true)
  | _ => ("HotGround$Offers", "promised", "[I", true)
def tyX2 : Nat → FieldType := fun k => match k with
  | 0 => .int
  | 1 => .array .int
  | 2 => .array .int
  | 3 => .array .int
  | _ => .array .int
abbrev wsX20 : List Cond := u_ws RX2 TX2 5
theorem nmX2 : ∀ a, a < 5 → ∀ b, b < 5 → a ≠ b → (TX2 a).2.1 ≠ (TX2 b).2.1 := by decide +kernel
theorem tyX2_ok : ∀ k, k < 5 → parseFieldDescriptor (TX2 k).2.2.1 = some (tyX2 k) := by decide +kernel
abbrev cX2_init : ByteArray := prog_4_method_1_code
def yX2_init : MethodName := ⟨RX2, "<init>", "()V"⟩
abbrev cX2_add : ByteArray := prog_4_method_2_code
def yX2_add : MethodName := ⟨RX2, "add", "(III)I"⟩
abbrev cX2_sets : ByteArray := prog_4_method_3_code
def yX2_sets : MethodName := ⟨RX2, "sets", "()I"⟩
abbrev cX2_price : ByteArray := prog_4_method_4_code
def yX2_price : MethodName := ⟨RX2, "price", "(I)I"⟩
abbrev cX2_missing : ByteArray := prog_4_method_5_code
def yX2_missing : MethodName := ⟨RX2, "missing", "(II)I"⟩
abbrev cX2_keeps : ByteArray := prog_4_method_6_code
def yX2_keeps : MethodName := ⟨RX2, "keeps", "(I)Z"⟩
abbrev cX2_cheapest : ByteArray := prog_4_method_7_code
def yX2_cheapest : MethodName := ⟨RX2, "cheapest", "()I"⟩
def RX3 : String := "HotGround$Plant"
def TX3 : u_T := fun k => match k with
  | 0 => ("HotGround$Plant", "count", "I", false)
  | 1 => ("HotGround$Plant", "least", "[I", true)
  | 2 => ("HotGround$Plant", "rate", "[I", true)
  | 3 => ("HotGround$Plant", "most", "[I", true)
  | _ => ("HotGround$Plant", "on", "[Z", true)
def tyX3 : Nat → FieldType := fun k => match k with
  | 0 => .int
  | 1 => .array .int
  | 2 => .array .int
  | 3 => .array .int
  | _ => .array .boolean
abbrev wsX30 : List Cond := u_ws RX3 TX3 5
theorem nmX3 : ∀ a, a < 5 → ∀ b, b < 5 → a ≠ b → (TX3 a).2.1 ≠ (TX3 b).2.1 := by decide +kernel
theorem tyX3_ok : ∀ k, k < 5 → parseFieldDescriptor (TX3 k).2.2.1 = some (tyX3 k) := by decide +kernel
abbrev cX3_init : ByteArray := prog_5_method_1_code
def yX3_init : MethodName := ⟨RX3, "<init>", "()V"⟩
abbrev cX3_add : ByteArray := prog_5_method_2_code
def yX3_add : MethodName := ⟨RX3, "add", "(III)I"⟩
abbrev cX3_draw : ByteArray := prog_5_method_3_code
def yX3_draw : MethodName := ⟨RX3, "draw", "(I)I"⟩
def RX4 : String := "HotGround$Wells"
def TX4 : u_T := fun k => match k with
  | 0 => ("HotGround$Wells", "count", "I", false)
  | 1 => ("HotGround$Wells", "kind", "[I", true)
  | 2 => ("HotGround$Wells", "box", "[I", true)
  | 3 => ("HotGround$Wells", "age", "[I", true)
  | 4 => ("HotGround$Wells", "open", "[Z", true)
  | _ => ("HotGround$Wells", "corners", "[I", true)
def tyX4 : Nat → FieldType := fun k => match k with
  | 0 => .int
  | 1 => .array .int
  | 2 => .array .int
  | 3 => .array .int
  | 4 => .array .boolean
  | _ => .array .int
abbrev wsX40 : List Cond := u_ws RX4 TX4 6
theorem nmX4 : ∀ a, a < 6 → ∀ b, b < 6 → a ≠ b → (TX4 a).2.1 ≠ (TX4 b).2.1 := by decide +kernel
theorem tyX4_ok : ∀ k, k < 6 → parseFieldDescriptor (TX4 k).2.2.1 = some (tyX4 k) := by decide +kernel
abbrev cX4_init : ByteArray := prog_6_method_1_code
def yX4_init : MethodName := ⟨RX4, "<init>", "()V"⟩
abbrev cX4_add : ByteArray := prog_6_method_2_code
def yX4_add : MethodName := ⟨RX4, "add", "(II)I"⟩
abbrev cX4_shape : ByteArray := prog_6_method_3_code
def yX4_shape : MethodName := ⟨RX4, "shape", "(IIIIII)V"⟩
abbrev cX4_weight : ByteArray := prog_6_method_4_code
def yX4_weight : MethodName := ⟨RX4, "weight", "(I)I"⟩
abbrev cX4_fifths : ByteArray := prog_6_method_5_code
def yX4_fifths : MethodName := ⟨RX4, "fifths", "(II)I"⟩
abbrev cX4_plain : ByteArray := prog_6_method_6_code
def yX4_plain : MethodName := ⟨RX4, "plain", "(II)I"⟩
abbrev cX4_scaled : ByteArray := prog_6_method_7_code
def yX4_scaled : MethodName := ⟨RX4, "scaled", "(II)I"⟩
abbrev cX4_tested : ByteArray := prog_6_method_8_code
def yX4_tested : MethodName := ⟨RX4, "tested", "(I)I"⟩
abbrev cX4_steam : ByteArray := prog_6_method_9_code
def yX4_steam : MethodName := ⟨RX4, "steam", "(II)I"⟩
abbrev cX4_supply : ByteArray := prog_6_method_10_code
def yX4_supply : MethodName := ⟨RX4, "supply", "(I)I"⟩
abbrev cX4_water : ByteArray := prog_6_method_11_code
def yX4_water : MethodName := ⟨RX4, "water", "(I)I"⟩
abbrev cX4_grow : ByteArray := prog_6_method_12_code
def yX4_grow : MethodName := ⟨RX4, "grow", "()V"⟩
def RX5 : String := "HotGround"
def TX5 : u_T := fun k => match k with
  | 0 => ("HotGround", "wells", "LHotGround$Wells;", true)
  | 1 => ("HotGround", "plant", "LHotGround$Plant;", true)
  | 2 => ("HotGround", "ground", "LHotGround$Ground;", true)
  | 3 => ("HotGround", "kernel", "LHotGround$Kernel;", true)
  | 4 => ("HotGround", "offers", "LHotGround$Offers;", true)
  | _ => ("HotGround", "trace", "J", false)
def tyX5 : Nat → FieldType := fun k => match k with
  | 0 => .object "HotGround$Wells"
  | 1 => .object "HotGround$Plant"
  | 2 => .object "HotGround$Ground"
  | 3 => .object "HotGround$Kernel"
  | 4 => .object "HotGround$Offers"
  | _ => .long
abbrev wsX50 : List Cond := u_ws RX5 TX5 6
theorem nmX5 : ∀ a, a < 6 → ∀ b, b < 6 → a ≠ b → (TX5 a).2.1 ≠ (TX5 b).2.1 := by decide +kernel
theorem tyX5_ok : ∀ k, k < 6 → parseFieldDescriptor (TX5 k).2.2.1 = some (tyX5 k) := by decide +kernel
abbrev cX5_init : ByteArray := prog_1_method_1_code
def yX5_init : MethodName := ⟨RX5, "<init>", "()V"⟩
abbrev cX5_well : ByteArray := prog_1_method_2_code
def yX5_well : MethodName := ⟨RX5, "well", "(IIIIIII)I"⟩
abbrev cX5_open : ByteArray := prog_1_method_3_code
def yX5_open : MethodName := ⟨RX5, "open", "(IZ)I"⟩
abbrev cX5_clean : ByteArray := prog_1_method_4_code
def yX5_clean : MethodName := ⟨RX5, "clean", "(I)I"⟩
abbrev cX5_flow : ByteArray := prog_1_method_5_code
def yX5_flow : MethodName := ⟨RX5, "flow", "(II)I"⟩
abbrev cX5_about : ByteArray := prog_1_method_6_code
def yX5_about : MethodName := ⟨RX5, "about", "(II)I"⟩
abbrev cX5_turbine : ByteArray := prog_1_method_7_code
def yX5_turbine : MethodName := ⟨RX5, "turbine", "(III)I"⟩
abbrev cX5_on : ByteArray := prog_1_method_8_code
def yX5_on : MethodName := ⟨RX5, "on", "(IZ)I"⟩
abbrev cX5_at : ByteArray := prog_1_method_9_code
def yX5_at : MethodName := ⟨RX5, "at", "(II)I"⟩
abbrev cX5_point : ByteArray := prog_1_method_10_code
def yX5_point : MethodName := ⟨RX5, "point", "()I"⟩
abbrev cX5_fill : ByteArray := prog_1_method_11_code
def yX5_fill : MethodName := ⟨RX5, "fill", "(III)I"⟩
abbrev cX5_set : ByteArray := prog_1_method_12_code
def yX5_set : MethodName := ⟨RX5, "set", "(III)I"⟩
abbrev cX5_year : ByteArray := prog_1_method_13_code
def yX5_year : MethodName := ⟨RX5, "year", "(I)I"⟩
abbrev cX5_box : ByteArray := prog_1_method_14_code
def yX5_box : MethodName := ⟨RX5, "box", "(II)J"⟩
abbrev cX5_sum : ByteArray := prog_1_method_15_code
def yX5_sum : MethodName := ⟨RX5, "sum", "(I)J"⟩
abbrev cX5_share : ByteArray := prog_1_method_16_code
def yX5_share : MethodName := ⟨RX5, "share", "(II)I"⟩
abbrev cX5_put : ByteArray := prog_1_method_17_code
def yX5_put : MethodName := ⟨RX5, "put", "(I)I"⟩
abbrev cX5_back : ByteArray := prog_1_method_18_code
def yX5_back : MethodName := ⟨RX5, "back", "(I)I"⟩
abbrev cX5_cut : ByteArray := prog_1_method_19_code
def yX5_cut : MethodName := ⟨RX5, "cut", "()I"⟩
abbrev cX5_candidate : ByteArray := prog_1_method_20_code
def yX5_candidate : MethodName := ⟨RX5, "candidate", "(III)I"⟩
abbrev cX5_promise : ByteArray := prog_1_method_21_code
def yX5_promise : MethodName := ⟨RX5, "promise", "(II)I"⟩
abbrev cX5_plan : ByteArray := prog_1_method_22_code
def yX5_plan : MethodName := ⟨RX5, "plan", "(I)I"⟩
abbrev cX5_lacks : ByteArray := prog_1_method_23_code
def yX5_lacks : MethodName := ⟨RX5, "lacks", "(II)I"⟩
abbrev cX5_count : ByteArray := prog_1_method_24_code
def yX5_count : MethodName := ⟨RX5, "count", "(I)I"⟩
abbrev cX5_trace : ByteArray := prog_1_method_25_code
def yX5_trace : MethodName := ⟨RX5, "trace", "()J"⟩
abbrev cX5_within : ByteArray := prog_1_method_26_code
def yX5_within : MethodName := ⟨RX5, "within", "(III)Z"⟩
abbrev cX5_isPressure : ByteArray := prog_1_method_27_code
def yX5_isPressure : MethodName := ⟨RX5, "isPressure", "(I)Z"⟩
abbrev cX5_isBox : ByteArray := prog_1_method_28_code
def yX5_isBox : MethodName := ⟨RX5, "isBox", "(I)Z"⟩
abbrev cX5_isPlanYear : ByteArray := prog_1_method_29_code
def yX5_isPlanYear : MethodName := ⟨RX5, "isPlanYear", "(I)Z"⟩
abbrev cX5_isWell : ByteArray := prog_1_method_30_code
def yX5_isWell : MethodName := ⟨RX5, "isWell", "(I)Z"⟩
abbrev cX5_trues : ByteArray := prog_1_method_31_code
def yX5_trues : MethodName := ⟨RX5, "trues", "([ZI)I"⟩
abbrev cX5_setLeak : ByteArray := prog_1_method_32_code
def yX5_setLeak : MethodName := ⟨RX5, "setLeak", "(II)I"⟩
abbrev cX5_setFeed : ByteArray := prog_1_method_33_code
def yX5_setFeed : MethodName := ⟨RX5, "setFeed", "(II)I"⟩
abbrev cX5_setGivenShare : ByteArray := prog_1_method_34_code
def yX5_setGivenShare : MethodName := ⟨RX5, "setGivenShare", "(I)I"⟩
abbrev cX5_setGivenBox : ByteArray := prog_1_method_35_code
def yX5_setGivenBox : MethodName := ⟨RX5, "setGivenBox", "(I)I"⟩
abbrev cX5_meeting : ByteArray := prog_1_method_36_code
def yX5_meeting : MethodName := ⟨RX5, "meeting", "()I"⟩
abbrev cX5_passYear : ByteArray := prog_1_method_37_code
def yX5_passYear : MethodName := ⟨RX5, "passYear", "()V"⟩
abbrev cX5_takeAll : ByteArray := prog_1_method_38_code
def yX5_takeAll : MethodName := ⟨RX5, "takeAll", "(I)J"⟩
def RX6 : String := "HotGroundModel"
def TX6 : u_T := fun k => match k with
  | 0 => ("HotGroundModel", "wells", "I", false)
  | 1 => ("HotGroundModel", "kind", "[I", true)
  | 2 => ("HotGroundModel", "inBox", "[I", true)
  | 3 => ("HotGroundModel", "age", "[I", true)
  | 4 => ("HotGroundModel", "isOpen", "[Z", true)
  | 5 => ("HotGroundModel", "corner", "[I", true)
  | 6 => ("HotGroundModel", "trace", "J", false)
  | 7 => ("HotGroundModel", "turbines", "I", false)
  | 8 => ("HotGroundModel", "least", "[I", true)
  | 9 => ("HotGroundModel", "rate", "[I", true)
  | 10 => ("HotGroundModel", "most", "[I", true)
  | 11 => ("HotGroundModel", "isOn", "[Z", true)
  | 12 => ("HotGroundModel", "mass", "[J", true)
  | 13 => ("HotGroundModel", "heat", "[J", true)
  | 14 => ("HotGroundModel", "leak", "[I", true)
  | 15 => ("HotGroundModel", "feed", "[I", true)
  | 16 => ("HotGroundModel", "givenShare", "I", false)
  | 17 => ("HotGroundModel", "givenBox", "I", false)
  | 18 => ("HotGroundModel", "sums", "[J", true)
  | 19 => ("HotGroundModel", "share", "[I", true)
  | 20 => ("HotGroundModel", "told", "I", false)
  | 21 => ("HotGroundModel", "put", "[I", true)
  | 22 => ("HotGroundModel", "candidates", "I", false)
  | 23 => ("HotGroundModel", "cost", "[I", true)
  | 24 => ("HotGroundModel", "fromYear", "[I", true)
  | 25 => ("HotGroundModel", "gives", "[I", true)
  | _ => ("HotGroundModel", "promise", "[I", true)
def tyX6 : Nat → FieldType := fun k => match k with
  | 0 => .int
  | 1 => .array .int
  | 2 => .array .int
  | 3 => .array .int
  | 4 => .array .boolean
  | 5 => .array .int
  | 6 => .long
  | 7 => .int
  | 8 => .array .int
  | 9 => .array .int
  | 10 => .array .int
  | 11 => .array .boolean
  | 12 => .array .long
  | 13 => .array .long
  | 14 => .array .int
  | 15 => .array .int
  | 16 => .int
  | 17 => .int
  | 18 => .array .long
  | 19 => .array .int
  | 20 => .int
  | 21 => .array .int
  | 22 => .int
  | 23 => .array .int
  | 24 => .array .int
  | 25 => .array .int
  | _ => .array .int
abbrev wsX60 : List Cond := u_ws RX6 TX6 27
theorem nmX6 : ∀ a, a < 27 → ∀ b, b < 27 → a ≠ b → (TX6 a).2.1 ≠ (TX6 b).2.1 := by decide +kernel
theorem tyX6_ok : ∀ k, k < 27 → parseFieldDescriptor (TX6 k).2.2.1 = some (tyX6 k) := by decide +kernel
abbrev cX6_init : ByteArray := prog_8_method_1_code
def yX6_init : MethodName := ⟨RX6, "<init>", "()V"⟩
abbrev cX6_in : ByteArray := prog_8_method_3_code
def yX6_in : MethodName := ⟨RX6, "in", "(III)Z"⟩
abbrev cX6_isWell : ByteArray := prog_8_method_4_code
def yX6_isWell : MethodName := ⟨RX6, "isWell", "(I)Z"⟩
abbrev cX6_well : ByteArray := prog_8_method_5_code
def yX6_well : MethodName := ⟨RX6, "well", "(IIIIIII)I"⟩
abbrev cX6_open : ByteArray := prog_8_method_6_code
def yX6_open : MethodName := ⟨RX6, "open", "(IZ)I"⟩
abbrev cX6_clean : ByteArray := prog_8_method_7_code
def yX6_clean : MethodName := ⟨RX6, "clean", "(I)I"⟩
abbrev cX6_flowOf : ByteArray := prog_8_method_8_code
def yX6_flowOf : MethodName := ⟨RX6, "flowOf", "(II)I"⟩
abbrev cX6_steamOf : ByteArray := prog_8_method_9_code
def yX6_steamOf : MethodName := ⟨RX6, "steamOf", "(II)I"⟩
abbrev cX6_flow : ByteArray := prog_8_method_10_code
def yX6_flow : MethodName := ⟨RX6, "flow", "(II)I"⟩
abbrev cX6_about : ByteArray := prog_8_method_11_code
def yX6_about : MethodName := ⟨RX6, "about", "(II)I"⟩
abbrev cX6_turbine : ByteArray := prog_8_method_12_code
def yX6_turbine : MethodName := ⟨RX6, "turbine", "(III)I"⟩
abbrev cX6_on : ByteArray := prog_8_method_13_code
def yX6_on : MethodName := ⟨RX6, "on", "(IZ)I"⟩
abbrev cX6_supply : ByteArray := prog_8_method_14_code
def yX6_supply : MethodName := ⟨RX6, "supply", "(I)I"⟩
abbrev cX6_draw : ByteArray := prog_8_method_15_code
def yX6_draw : MethodName := ⟨RX6, "draw", "(I)I"⟩
abbrev cX6_at : ByteArray := prog_8_method_16_code
def yX6_at : MethodName := ⟨RX6, "at", "(II)I"⟩
abbrev cX6_point : ByteArray := prog_8_method_17_code
def yX6_point : MethodName := ⟨RX6, "point", "()I"⟩
abbrev cX6_isBox : ByteArray := prog_8_method_18_code
def yX6_isBox : MethodName := ⟨RX6, "isBox", "(I)Z"⟩
abbrev cX6_fill : ByteArray := prog_8_method_19_code
def yX6_fill : MethodName := ⟨RX6, "fill", "(III)I"⟩
abbrev cX6_set : ByteArray := prog_8_method_20_code
def yX6_set : MethodName := ⟨RX6, "set", "(III)I"⟩
abbrev cX6_goes : ByteArray := prog_8_method_21_code
def yX6_goes : MethodName := ⟨RX6, "goes", "(IJ)J"⟩
abbrev cX6_comes : ByteArray := prog_8_method_22_code
def yX6_comes : MethodName := ⟨RX6, "comes", "(IJJ)V"⟩
abbrev cX6_wellsGive : ByteArray := prog_8_method_23_code
def yX6_wellsGive : MethodName := ⟨RX6, "wellsGive", "(I)V"⟩
abbrev cX6_leaks : ByteArray := prog_8_method_24_code
def yX6_leaks : MethodName := ⟨RX6, "leaks", "(I)V"⟩
abbrev cX6_oneYear : ByteArray := prog_8_method_25_code
def yX6_oneYear : MethodName := ⟨RX6, "oneYear", "()V"⟩
abbrev cX6_year : ByteArray := prog_8_method_26_code
def yX6_year : MethodName := ⟨RX6, "year", "(I)I"⟩
abbrev cX6_box : ByteArray := prog_8_method_27_code
def yX6_box : MethodName := ⟨RX6, "box", "(II)J"⟩
abbrev cX6_sum : ByteArray := prog_8_method_28_code
def yX6_sum : MethodName := ⟨RX6, "sum", "(I)J"⟩
abbrev cX6_share : ByteArray := prog_8_method_29_code
def yX6_share : MethodName := ⟨RX6, "share", "(II)I"⟩
abbrev cX6_put : ByteArray := prog_8_method_30_code
def yX6_put : MethodName := ⟨RX6, "put", "(I)I"⟩
abbrev cX6_back : ByteArray := prog_8_method_31_code
def yX6_back : MethodName := ⟨RX6, "back", "(I)I"⟩
abbrev cX6_cut : ByteArray := prog_8_method_32_code
def yX6_cut : MethodName := ⟨RX6, "cut", "()I"⟩
abbrev cX6_candidate : ByteArray := prog_8_method_33_code
def yX6_candidate : MethodName := ⟨RX6, "candidate", "(III)I"⟩
abbrev cX6_promise : ByteArray := prog_8_method_34_code
def yX6_promise : MethodName := ⟨RX6, "promise", "(II)I"⟩
abbrev cX6_lack : ByteArray := prog_8_method_35_code
def yX6_lack : MethodName := ⟨RX6, "lack", "(II)I"⟩
abbrev cX6_costOf : ByteArray := prog_8_method_36_code
def yX6_costOf : MethodName := ⟨RX6, "costOf", "(I)I"⟩
abbrev cX6_plan : ByteArray := prog_8_method_37_code
def yX6_plan : MethodName := ⟨RX6, "plan", "(I)I"⟩
abbrev cX6_lacks : ByteArray := prog_8_method_38_code
def yX6_lacks : MethodName := ⟨RX6, "lacks", "(II)I"⟩
abbrev cX6_count : ByteArray := prog_8_method_39_code
def yX6_count : MethodName := ⟨RX6, "count", "(I)I"⟩
abbrev cX6_trace : ByteArray := prog_8_method_40_code
def yX6_trace : MethodName := ⟨RX6, "trace", "()J"⟩
def RJ9 : String := "java/lang/Math"
def TJ9 : u_T := fun k => match k with
  | _ => ("", "", "", false)
def tyJ9 : Nat → FieldType := fun k => match k with
  | _ => .int
abbrev wsJ90 : List Cond := u_ws RJ9 TJ9 0
theorem nmJ9 : ∀ a, a < 0 → ∀ b, b < 0 → a ≠ b → (TJ9 a).2.1 ≠ (TJ9 b).2.1 := by decide +kernel
theorem tyJ9_ok : ∀ k, k < 0 → parseFieldDescriptor (TJ9 k).2.2.1 = some (tyJ9 k) := by decide +kernel
abbrev cJ9_max_7cf53 : ByteArray := prog_9_method_65_code
def yJ9_max_7cf53 : MethodName := ⟨RJ9, "max", "(II)I"⟩
abbrev cJ9_min_7cf53 : ByteArray := prog_9_method_69_code
def yJ9_min_7cf53 : MethodName := ⟨RJ9, "min", "(II)I"⟩
abbrev cJ9_min_f86c9 : ByteArray := prog_9_method_70_code
def yJ9_min_f86c9 : MethodName := ⟨RJ9, "min", "(JJ)J"⟩
def RL : String := "HotGroundLaw"
abbrev cL_law : ByteArray := code
def yL_law : MethodName := ⟨RL, "law", "([I)Z"⟩
def wsX0_init : List Cond := .code yX0_init cX0_init 1 none :: ([.methodLink RX0 1 objectInit, .instanceMethod objectInit, .code objectInit ⟨#[0xb1]⟩ 1 none, .arrayClass .long, .fieldLink RX0 9 "HotGround$Ground" "mass" "[J", .fieldLink RX0 13 "HotGround$Ground" "heat" "[J", .arrayClass .int, .fieldLink RX0 16 "HotGround$Ground" "feed" "[I", .fieldLink RX0 20 "HotGround$Ground" "leak" "[I", .fieldLink RX0 23 "HotGround$Ground" "sums" "[J"] ++ wsX00)
def wsX0_heatOf : List Cond := .code yX0_heatOf cX0_heatOf 4 (some .long) :: ([.fieldLink RX0 9 "HotGround$Ground" "mass" "[J", .fieldLink RX0 13 "HotGround$Ground" "heat" "[J"] ++ wsX00)
def wsX0_book : List Cond := .code yX0_book cX0_book 6 none :: ([.fieldLink RX0 23 "HotGround$Ground" "sums" "[J"] ++ wsX00)
def wsX0_take : List Cond := .code yX0_take cX0_take 8 (some .long) :: ([.fieldLink RX0 9 "HotGround$Ground" "mass" "[J", .methodLink RX0 26 Lib.MathLoose.min_long.x, .static Lib.MathLoose.min_long.x, .initialized "java/lang/Math", .code Lib.MathLoose.min_long.x Lib.MathLoose.min_long.code 4 (some .long), .fieldLink RX0 13 "HotGround$Ground" "heat" "[J", .methodLink RX0 32 yX0_heatOf, .instanceMethod yX0_heatOf, .selects RX0 yX0_heatOf yX0_heatOf, .initialized RX0, .code yX0_heatOf cX0_heatOf 4 (some .long), .methodLink RX0 36 yX0_book, .instanceMethod yX0_book, .selects RX0 yX0_book yX0_book, .code yX0_book cX0_book 6 none, .fieldLink RX0 23 "HotGround$Ground" "sums" "[J"] ++ wsX00)
def wsX0_pour : List Cond := .code yX0_pour cX0_pour 6 none :: ([.fieldLink RX0 9 "HotGround$Ground" "mass" "[J", .fieldLink RX0 13 "HotGround$Ground" "heat" "[J"] ++ wsX00)
def wsX0_giveBack : List Cond := .code yX0_giveBack cX0_giveBack 5 none :: ([.fieldLink RX0 40 "HotGround$Ground" "givenShare" "I", .constantLong RX0 44 (1000), .fieldLink RX0 46 "HotGround$Ground" "givenBox" "I", .constantLong RX0 49 (40), .methodLink RX0 51 yX0_pour, .instanceMethod yX0_pour, .selects RX0 yX0_pour yX0_pour, .initialized RX0, .code yX0_pour cX0_pour 6 none, .fieldLink RX0 9 "HotGround$Ground" "mass" "[J", .fieldLink RX0 13 "HotGround$Ground" "heat" "[J", .methodLink RX0 36 yX0_book, .instanceMethod yX0_book, .selects RX0 yX0_book yX0_book, .code yX0_book cX0_book 6 none, .fieldLink RX0 23 "HotGround$Ground" "sums" "[J"] ++ wsX00)
def wsX0_leakAll : List Cond := .code yX0_leakAll cX0_leakAll 9 none :: ([.fieldLink RX0 9 "HotGround$Ground" "mass" "[J", .fieldLink RX0 20 "HotGround$Ground" "leak" "[I", .methodLink RX0 32 yX0_heatOf, .instanceMethod yX0_heatOf, .selects RX0 yX0_heatOf yX0_heatOf, .initialized RX0, .code yX0_heatOf cX0_heatOf 4 (some .long), .fieldLink RX0 13 "HotGround$Ground" "heat" "[J", .methodLink RX0 51 yX0_pour, .instanceMethod yX0_pour, .selects RX0 yX0_pour yX0_pour, .code yX0_pour cX0_pour 6 none] ++ wsX00)
def wsX0_feedAll : List Cond := .code yX0_feedAll cX0_feedAll 4 none :: ([.fieldLink RX0 16 "HotGround$Ground" "feed" "[I", .constantLong RX0 54 (10), .methodLink RX0 51 yX0_pour, .instanceMethod yX0_pour, .selects RX0 yX0_pour yX0_pour, .initialized RX0, .code yX0_pour cX0_pour 6 none, .fieldLink RX0 9 "HotGround$Ground" "mass" "[J", .fieldLink RX0 13 "HotGround$Ground" "heat" "[J", .methodLink RX0 36 yX0_book, .instanceMethod yX0_book, .selects RX0 yX0_book yX0_book, .code yX0_book cX0_book 6 none, .fieldLink RX0 23 "HotGround$Ground" "sums" "[J"] ++ wsX00)
def wsX1_init : List Cond := .code yX1_init cX1_init 1 none :: ([.methodLink RX1 1 objectInit, .instanceMethod objectInit, .code objectInit ⟨#[0xb1]⟩ 1 none, .arrayClass .int, .fieldLink RX1 9 "HotGround$Kernel" "shares" "[I", .fieldLink RX1 13 "HotGround$Kernel" "amounts" "[I"] ++ wsX10)
def wsX1_together : List Cond := .code yX1_together cX1_together 3 (some .int) :: ([.fieldLink RX1 9 "HotGround$Kernel" "shares" "[I"] ++ wsX10)
def wsX1_comes : List Cond := .code yX1_comes cX1_comes 5 (some .int) :: ([.fieldLink RX1 16 "HotGround$Kernel" "count" "I", .fieldLink RX1 13 "HotGround$Kernel" "amounts" "[I", .fieldLink RX1 9 "HotGround$Kernel" "shares" "[I"] ++ wsX10)
def wsX2_init : List Cond := .code yX2_init cX2_init 1 none :: ([.methodLink RX2 3 objectInit, .instanceMethod objectInit, .code objectInit ⟨#[0xb1]⟩ 1 none, .arrayClass .int, .fieldLink RX2 11 "HotGround$Offers" "cost" "[I", .fieldLink RX2 15 "HotGround$Offers" "from" "[I", .fieldLink RX2 18 "HotGround$Offers" "steam" "[I", .fieldLink RX2 21 "HotGround$Offers" "promised" "[I"] ++ wsX20)
def wsX2_add : List Cond := .code yX2_add cX2_add 5 (some .int) :: ([.fieldLink RX2 24 "HotGround$Offers" "count" "I", .fieldLink RX2 11 "HotGround$Offers" "cost" "[I", .fieldLink RX2 15 "HotGround$Offers" "from" "[I", .fieldLink RX2 18 "HotGround$Offers" "steam" "[I"] ++ wsX20)
def wsX2_sets : List Cond := .code yX2_sets cX2_sets 1 (some .int) :: ([.fieldLink RX2 24 "HotGround$Offers" "count" "I"] ++ wsX20)
def wsX2_price : List Cond := .code yX2_price cX2_price 4 (some .int) :: ([.fieldLink RX2 24 "HotGround$Offers" "count" "I", .fieldLink RX2 11 "HotGround$Offers" "cost" "[I"] ++ wsX20)
def wsX2_missing : List Cond := .code yX2_missing cX2_missing 5 (some .int) :: ([.fieldLink RX2 24 "HotGround$Offers" "count" "I", .fieldLink RX2 15 "HotGround$Offers" "from" "[I", .fieldLink RX2 18 "HotGround$Offers" "steam" "[I", .fieldLink RX2 21 "HotGround$Offers" "promised" "[I", .methodLink RX2 28 Lib.Math.max.name, .static Lib.Math.max.name, .initialized "java/lang/Math", .code Lib.Math.max.name Lib.Math.max.code 2 (some .int)] ++ wsX20)
def wsX2_keeps : List Cond := .code yX2_keeps cX2_keeps 3 (some .boolean) :: ([.methodLink RX2 34 yX2_missing, .instanceMethod yX2_missing, .selects RX2 yX2_missing yX2_missing, .initialized RX2, .code yX2_missing cX2_missing 5 (some .int), .fieldLink RX2 24 "HotGround$Offers" "count" "I", .fieldLink RX2 15 "HotGround$Offers" "from" "[I", .fieldLink RX2 18 "HotGround$Offers" "steam" "[I", .fieldLink RX2 21 "HotGround$Offers" "promised" "[I", .methodLink RX2 28 Lib.Math.max.name, .static Lib.Math.max.name, .initialized "java/lang/Math", .code Lib.Math.max.name Lib.Math.max.code 2 (some .int)] ++ wsX20)
def wsX2_cheapest_r1 : List Cond := [Cond.methodLink RX2 37 yX2_sets, Cond.instanceMethod yX2_sets, Cond.selects RX2 yX2_sets yX2_sets, Cond.initialized RX2, Cond.code yX2_sets cX2_sets 1 (some .int), Cond.fieldLink RX2 24 "HotGround$Offers" "count" "I", Cond.methodLink RX2 41 yX2_price, Cond.instanceMethod yX2_price, Cond.selects RX2 yX2_price yX2_price, Cond.code yX2_price cX2_price 4 (some .int), Cond.fieldLink RX2 11 "HotGround$Offers" "cost" "[I", Cond.methodLink RX2 45 yX2_keeps, Cond.instanceMethod yX2_keeps, Cond.selects RX2 yX2_keeps yX2_keeps, Cond.code yX2_keeps cX2_keeps 3 (some .boolean), Cond.methodLink RX2 34 yX2_missing, Cond.instanceMethod yX2_missing, Cond.selects RX2 yX2_missing yX2_missing, Cond.code yX2_missing cX2_missing 5 (some .int), Cond.fieldLink RX2 15 "HotGround$Offers" "from" "[I", Cond.fieldLink RX2 18 "HotGround$Offers" "steam" "[I", Cond.fieldLink RX2 21 "HotGround$Offers" "promised" "[I", Cond.methodLink RX2 28 Lib.Math.max.name, Cond.static Lib.Math.max.name]
def wsX2_cheapest_r2 : List Cond := [Cond.initialized "java/lang/Math", Cond.code Lib.Math.max.name Lib.Math.max.code 2 (some .int)]
def wsX2_cheapest : List Cond := .code yX2_cheapest cX2_cheapest 5 (some .int) :: ((wsX2_cheapest_r1 ++ wsX2_cheapest_r2) ++ wsX20)
def wsX3_init : List Cond := .code yX3_init cX3_init 1 none :: ([.methodLink RX3 1 objectInit, .instanceMethod objectInit, .code objectInit ⟨#[0xb1]⟩ 1 none, .arrayClass .int, .fieldLink RX3 9 "HotGround$Plant" "least" "[I", .fieldLink RX3 13 "HotGround$Plant" "rate" "[I", .fieldLink RX3 16 "HotGround$Plant" "most" "[I", .arrayClass .boolean, .fieldLink RX3 19 "HotGround$Plant" "on" "[Z"] ++ wsX30)
def wsX3_add : List Cond := .code yX3_add cX3_add 5 (some .int) :: ([.fieldLink RX3 23 "HotGround$Plant" "count" "I", .fieldLink RX3 9 "HotGround$Plant" "least" "[I", .fieldLink RX3 13 "HotGround$Plant" "rate" "[I", .fieldLink RX3 16 "HotGround$Plant" "most" "[I", .fieldLink RX3 19 "HotGround$Plant" "on" "[Z"] ++ wsX30)
def wsX3_draw : List Cond := .code yX3_draw cX3_draw 4 (some .int) :: ([.fieldLink RX3 23 "HotGround$Plant" "count" "I", .fieldLink RX3 19 "HotGround$Plant" "on" "[Z", .fieldLink RX3 9 "HotGround$Plant" "least" "[I", .fieldLink RX3 13 "HotGround$Plant" "rate" "[I", .fieldLink RX3 16 "HotGround$Plant" "most" "[I", .methodLink RX3 27 Lib.Math.min.name, .static Lib.Math.min.name, .initialized "java/lang/Math", .code Lib.Math.min.name Lib.Math.min.code 2 (some .int)] ++ wsX30)
def wsX4_init : List Cond := .code yX4_init cX4_init 1 none :: ([.methodLink RX4 1 objectInit, .instanceMethod objectInit, .code objectInit ⟨#[0xb1]⟩ 1 none, .arrayClass .int, .fieldLink RX4 9 "HotGround$Wells" "kind" "[I", .fieldLink RX4 13 "HotGround$Wells" "box" "[I", .fieldLink RX4 16 "HotGround$Wells" "age" "[I", .arrayClass .boolean, .fieldLink RX4 19 "HotGround$Wells" "open" "[Z", .fieldLink RX4 23 "HotGround$Wells" "corners" "[I"] ++ wsX40)
def wsX4_add : List Cond := .code yX4_add cX4_add 4 (some .int) :: ([.fieldLink RX4 26 "HotGround$Wells" "count" "I", .fieldLink RX4 9 "HotGround$Wells" "kind" "[I", .fieldLink RX4 13 "HotGround$Wells" "box" "[I"] ++ wsX40)
def wsX4_shape : List Cond := .code yX4_shape cX4_shape 8 none :: ([.fieldLink RX4 23 "HotGround$Wells" "corners" "[I"] ++ wsX40)
def wsX4_weight : List Cond := .code yX4_weight cX4_weight 3 (some .int) :: ([.fieldLink RX4 9 "HotGround$Wells" "kind" "[I"] ++ wsX40)
def wsX4_plain : List Cond := .code yX4_plain cX4_plain 6 (some .int) :: ([.fieldLink RX4 23 "HotGround$Wells" "corners" "[I"] ++ wsX40)
def wsX4_scaled : List Cond := .code yX4_scaled cX4_scaled 2 (some .int) :: ([])
def wsX4_tested : List Cond := .code yX4_tested cX4_tested 1 (some .int) :: ([.methodLink RX4 41 Lib.Math.min.name, .static Lib.Math.min.name, .initialized "java/lang/Math", .code Lib.Math.min.name Lib.Math.min.code 2 (some .int)])
def wsX4_fifths : List Cond := .code yX4_fifths cX4_fifths 4 (some .int) :: ([.fieldLink RX4 9 "HotGround$Wells" "kind" "[I", .fieldLink RX4 16 "HotGround$Wells" "age" "[I", .methodLink RX4 30 yX4_plain, .instanceMethod yX4_plain, .selects RX4 yX4_plain yX4_plain, .initialized RX4, .code yX4_plain cX4_plain 6 (some .int), .fieldLink RX4 23 "HotGround$Wells" "corners" "[I", .methodLink RX4 34 yX4_scaled, .static yX4_scaled, .code yX4_scaled cX4_scaled 2 (some .int), .methodLink RX4 37 yX4_tested, .static yX4_tested, .code yX4_tested cX4_tested 1 (some .int), .methodLink RX4 41 Lib.Math.min.name, .static Lib.Math.min.name, .initialized "java/lang/Math", .code Lib.Math.min.name Lib.Math.min.code 2 (some .int)] ++ wsX40)
def wsX4_steam : List Cond := .code yX4_steam cX4_steam 2 (some .int) :: ([])
def wsX4_supply_r1 : List Cond := [Cond.fieldLink RX4 26 "HotGround$Wells" "count" "I", Cond.fieldLink RX4 19 "HotGround$Wells" "open" "[Z", Cond.methodLink RX4 46 yX4_fifths, Cond.instanceMethod yX4_fifths, Cond.selects RX4 yX4_fifths yX4_fifths, Cond.initialized RX4, Cond.code yX4_fifths cX4_fifths 4 (some .int), Cond.fieldLink RX4 9 "HotGround$Wells" "kind" "[I", Cond.fieldLink RX4 16 "HotGround$Wells" "age" "[I", Cond.methodLink RX4 30 yX4_plain, Cond.instanceMethod yX4_plain, Cond.selects RX4 yX4_plain yX4_plain, Cond.code yX4_plain cX4_plain 6 (some .int), Cond.fieldLink RX4 23 "HotGround$Wells" "corners" "[I", Cond.methodLink RX4 34 yX4_scaled, Cond.static yX4_scaled, Cond.code yX4_scaled cX4_scaled 2 (some .int), Cond.methodLink RX4 37 yX4_tested, Cond.static yX4_tested, Cond.code yX4_tested cX4_tested 1 (some .int), Cond.methodLink RX4 41 Lib.Math.min.name, Cond.static Lib.Math.min.name, Cond.initialized "java/lang/Math", Cond.code Lib.Math.min.name Lib.Math.min.code 2 (some .int)]
def wsX4_supply_r2 : List Cond := [Cond.methodLink RX4 49 yX4_steam, Cond.static yX4_steam, Cond.code yX4_steam cX4_steam 2 (some .int)]
def wsX4_supply : List Cond := .code yX4_supply cX4_supply 4 (some .int) :: ((wsX4_supply_r1 ++ wsX4_supply_r2) ++ wsX40)
def wsX4_water_r1 : List Cond := [Cond.fieldLink RX4 26 "HotGround$Wells" "count" "I", Cond.fieldLink RX4 19 "HotGround$Wells" "open" "[Z", Cond.methodLink RX4 46 yX4_fifths, Cond.instanceMethod yX4_fifths, Cond.selects RX4 yX4_fifths yX4_fifths, Cond.initialized RX4, Cond.code yX4_fifths cX4_fifths 4 (some .int), Cond.fieldLink RX4 9 "HotGround$Wells" "kind" "[I", Cond.fieldLink RX4 16 "HotGround$Wells" "age" "[I", Cond.methodLink RX4 30 yX4_plain, Cond.instanceMethod yX4_plain, Cond.selects RX4 yX4_plain yX4_plain, Cond.code yX4_plain cX4_plain 6 (some .int), Cond.fieldLink RX4 23 "HotGround$Wells" "corners" "[I", Cond.methodLink RX4 34 yX4_scaled, Cond.static yX4_scaled, Cond.code yX4_scaled cX4_scaled 2 (some .int), Cond.methodLink RX4 37 yX4_tested, Cond.static yX4_tested, Cond.code yX4_tested cX4_tested 1 (some .int), Cond.methodLink RX4 41 Lib.Math.min.name, Cond.static Lib.Math.min.name, Cond.initialized "java/lang/Math", Cond.code Lib.Math.min.name Lib.Math.min.code 2 (some .int)]
def wsX4_water_r2 : List Cond := [Cond.methodLink RX4 49 yX4_steam, Cond.static yX4_steam, Cond.code yX4_steam cX4_steam 2 (some .int)]
def wsX4_water : List Cond := .code yX4_water cX4_water 5 (some .int) :: ((wsX4_water_r1 ++ wsX4_water_r2) ++ wsX40)
def wsX4_grow : List Cond := .code yX4_grow cX4_grow 2 none :: ([.fieldLink RX4 26 "HotGround$Wells" "count" "I", .fieldLink RX4 19 "HotGround$Wells" "open" "[Z", .fieldLink RX4 16 "HotGround$Wells" "age" "[I"] ++ wsX40)
def wsX5_init_r1 : List Cond := [Cond.methodLink RX5 1 objectInit, Cond.instanceMethod objectInit, Cond.code objectInit ⟨#[0xb1]⟩ 1 none, Cond.classLink RX5 7 RX4, Cond.instantiable RX4 6, Cond.initialized RX4, Cond.fieldLink RX5 10 "HotGround" "wells" "LHotGround$Wells;", Cond.classLink RX5 16 RX3, Cond.instantiable RX3 5, Cond.initialized RX3, Cond.fieldLink RX5 19 "HotGround" "plant" "LHotGround$Plant;", Cond.classLink RX5 23 RX0, Cond.instantiable RX0 7, Cond.initialized RX0, Cond.fieldLink RX5 26 "HotGround" "ground" "LHotGround$Ground;", Cond.classLink RX5 30 RX1, Cond.instantiable RX1 3, Cond.initialized RX1, Cond.fieldLink RX5 33 "HotGround" "kernel" "LHotGround$Kernel;", Cond.classLink RX5 37 RX2, Cond.instantiable RX2 5, Cond.initialized RX2, Cond.fieldLink RX5 40 "HotGround" "offers" "LHotGround$Offers;", Cond.fieldLink RX5 44 "HotGround" "trace" "J"]
def wsX5_init_r2 : List Cond := [Cond.instanceMethod yX4_init, Cond.code yX4_init cX4_init 1 none, Cond.methodLink RX4 1 objectInit, Cond.arrayClass .int, Cond.fieldLink RX4 9 "HotGround$Wells" "kind" "[I", Cond.fieldLink RX4 13 "HotGround$Wells" "box" "[I", Cond.fieldLink RX4 16 "HotGround$Wells" "age" "[I", Cond.arrayClass .boolean, Cond.fieldLink RX4 19 "HotGround$Wells" "open" "[Z", Cond.fieldLink RX4 23 "HotGround$Wells" "corners" "[I", Cond.instanceMethod yX3_init, Cond.code yX3_init cX3_init 1 none, Cond.methodLink RX3 1 objectInit, Cond.fieldLink RX3 9 "HotGround$Plant" "least" "[I", Cond.fieldLink RX3 13 "HotGround$Plant" "rate" "[I", Cond.fieldLink RX3 16 "HotGround$Plant" "most" "[I", Cond.fieldLink RX3 19 "HotGround$Plant" "on" "[Z", Cond.instanceMethod yX0_init, Cond.code yX0_init cX0_init 1 none, Cond.methodLink RX0 1 objectInit, Cond.arrayClass .long, Cond.fieldLink RX0 9 "HotGround$Ground" "mass" "[J", Cond.fieldLink RX0 13 "HotGround$Ground" "heat" "[J", Cond.fieldLink RX0 16 "HotGround$Ground" "feed" "[I"]
def wsX5_init_r3 : List Cond := [Cond.fieldLink RX0 20 "HotGround$Ground" "leak" "[I", Cond.fieldLink RX0 23 "HotGround$Ground" "sums" "[J", Cond.instanceMethod yX1_init, Cond.code yX1_init cX1_init 1 none, Cond.methodLink RX1 1 objectInit, Cond.fieldLink RX1 9 "HotGround$Kernel" "shares" "[I", Cond.fieldLink RX1 13 "HotGround$Kernel" "amounts" "[I", Cond.instanceMethod yX2_init, Cond.code yX2_init cX2_init 1 none, Cond.methodLink RX2 3 objectInit, Cond.fieldLink RX2 11 "HotGround$Offers" "cost" "[I", Cond.fieldLink RX2 15 "HotGround$Offers" "from" "[I", Cond.fieldLink RX2 18 "HotGround$Offers" "steam" "[I", Cond.fieldLink RX2 21 "HotGround$Offers" "promised" "[I"]
def wsX5_init : List Cond := .code yX5_init cX5_init 1 none :: ((wsX5_init_r1 ++ (wsX5_init_r2 ++ wsX5_init_r3)) ++ wsX40 ++ wsX50 ++ wsX30 ++ wsX00 ++ wsX10 ++ wsX20)
def wsX5_within : List Cond := .code yX5_within cX5_within 3 (some .boolean) :: ([])
def wsX5_well : List Cond := .code yX5_well cX5_well 9 (some .int) :: ([.fieldLink RX5 10 "HotGround" "wells" "LHotGround$Wells;", .fieldLink RX5 52 "HotGround$Wells" "count" "I", .methodLink RX5 48 yX5_within, .static yX5_within, .initialized RX5, .code yX5_within cX5_within 3 (some .boolean), .methodLink RX5 56 yX4_add, .instanceMethod yX4_add, .selects RX4 yX4_add yX4_add, .initialized RX4, .code yX4_add cX4_add 4 (some .int), .fieldLink RX4 26 "HotGround$Wells" "count" "I", .fieldLink RX4 9 "HotGround$Wells" "kind" "[I", .fieldLink RX4 13 "HotGround$Wells" "box" "[I", .methodLink RX5 60 yX4_shape, .instanceMethod yX4_shape, .selects RX4 yX4_shape yX4_shape, .code yX4_shape cX4_shape 8 none, .fieldLink RX4 23 "HotGround$Wells" "corners" "[I"] ++ wsX50 ++ wsX40)
def wsX5_isWell : List Cond := .code yX5_isWell cX5_isWell 2 (some .boolean) :: ([.fieldLink RX5 10 "HotGround" "wells" "LHotGround$Wells;", .fieldLink RX5 52 "HotGround$Wells" "count" "I", .methodLink RX5 48 yX5_within, .static yX5_within, .initialized RX5, .code yX5_within cX5_within 3 (some .boolean)] ++ wsX50 ++ wsX40)
def wsX5_open : List Cond := .code yX5_open cX5_open 4 (some .int) :: ([.fieldLink RX5 10 "HotGround" "wells" "LHotGround$Wells;", .fieldLink RX5 68 "HotGround$Wells" "open" "[Z", .methodLink RX5 64 yX5_isWell, .instanceMethod yX5_isWell, .selects RX5 yX5_isWell yX5_isWell, .initialized RX5, .code yX5_isWell cX5_isWell 2 (some .boolean), .fieldLink RX5 52 "HotGround$Wells" "count" "I", .methodLink RX5 48 yX5_within, .static yX5_within, .code yX5_within cX5_within 3 (some .boolean)] ++ wsX50 ++ wsX40)
def wsX5_clean : List Cond := .code yX5_clean cX5_clean 3 (some .int) :: ([.fieldLink RX5 10 "HotGround" "wells" "LHotGround$Wells;", .fieldLink RX5 72 "HotGround$Wells" "age" "[I", .methodLink RX5 64 yX5_isWell, .instanceMethod yX5_isWell, .selects RX5 yX5_isWell yX5_isWell, .initialized RX5, .code yX5_isWell cX5_isWell 2 (some .boolean), .fieldLink RX5 52 "HotGround$Wells" "count" "I", .methodLink RX5 48 yX5_within, .static yX5_within, .code yX5_within cX5_within 3 (some .boolean)] ++ wsX50 ++ wsX40)
def wsX5_isPressure : List Cond := .code yX5_isPressure cX5_isPressure 1 (some .boolean) :: ([.methodLink RX5 48 yX5_within, .static yX5_within, .initialized RX5, .code yX5_within cX5_within 3 (some .boolean)])
def wsX5_flow_r1 : List Cond := [Cond.fieldLink RX5 44 "HotGround" "trace" "J", Cond.fieldLink RX5 10 "HotGround" "wells" "LHotGround$Wells;", Cond.methodLink RX5 64 yX5_isWell, Cond.instanceMethod yX5_isWell, Cond.selects RX5 yX5_isWell yX5_isWell, Cond.initialized RX5, Cond.code yX5_isWell cX5_isWell 2 (some .boolean), Cond.fieldLink RX5 52 "HotGround$Wells" "count" "I", Cond.methodLink RX5 48 yX5_within, Cond.static yX5_within, Cond.code yX5_within cX5_within 3 (some .boolean), Cond.methodLink RX5 76 yX5_isPressure, Cond.static yX5_isPressure, Cond.code yX5_isPressure cX5_isPressure 1 (some .boolean), Cond.methodLink RX5 79 yX4_weight, Cond.instanceMethod yX4_weight, Cond.selects RX4 yX4_weight yX4_weight, Cond.initialized RX4, Cond.code yX4_weight cX4_weight 3 (some .int), Cond.fieldLink RX4 9 "HotGround$Wells" "kind" "[I", Cond.methodLink RX5 83 yX4_fifths, Cond.instanceMethod yX4_fifths, Cond.selects RX4 yX4_fifths yX4_fifths, Cond.code yX4_fifths cX4_fifths 4 (some .int)]
def wsX5_flow_r2 : List Cond := [Cond.fieldLink RX4 16 "HotGround$Wells" "age" "[I", Cond.methodLink RX4 30 yX4_plain, Cond.instanceMethod yX4_plain, Cond.selects RX4 yX4_plain yX4_plain, Cond.code yX4_plain cX4_plain 6 (some .int), Cond.fieldLink RX4 23 "HotGround$Wells" "corners" "[I", Cond.methodLink RX4 34 yX4_scaled, Cond.static yX4_scaled, Cond.code yX4_scaled cX4_scaled 2 (some .int), Cond.methodLink RX4 37 yX4_tested, Cond.static yX4_tested, Cond.code yX4_tested cX4_tested 1 (some .int), Cond.methodLink RX4 41 Lib.Math.min.name, Cond.static Lib.Math.min.name, Cond.initialized "java/lang/Math", Cond.code Lib.Math.min.name Lib.Math.min.code 2 (some .int)]
def wsX5_flow : List Cond := .code yX5_flow cX5_flow 3 (some .int) :: ((wsX5_flow_r1 ++ wsX5_flow_r2) ++ wsX50 ++ wsX40)
def wsX5_about : List Cond := .code yX5_about cX5_about 3 (some .int) :: ([.fieldLink RX5 10 "HotGround" "wells" "LHotGround$Wells;", .fieldLink RX5 86 "HotGround$Wells" "kind" "[I", .fieldLink RX5 89 "HotGround$Wells" "box" "[I", .fieldLink RX5 72 "HotGround$Wells" "age" "[I", .fieldLink RX5 68 "HotGround$Wells" "open" "[Z", .fieldLink RX5 92 "HotGround$Wells" "corners" "[I", .methodLink RX5 64 yX5_isWell, .instanceMethod yX5_isWell, .selects RX5 yX5_isWell yX5_isWell, .initialized RX5, .code yX5_isWell cX5_isWell 2 (some .boolean), .fieldLink RX5 52 "HotGround$Wells" "count" "I", .methodLink RX5 48 yX5_within, .static yX5_within, .code yX5_within cX5_within 3 (some .boolean)] ++ wsX50 ++ wsX40)
def wsX5_turbine : List Cond := .code yX5_turbine cX5_turbine 4 (some .int) :: ([.fieldLink RX5 19 "HotGround" "plant" "LHotGround$Plant;", .fieldLink RX5 95 "HotGround$Plant" "count" "I", .methodLink RX5 76 yX5_isPressure, .static yX5_isPressure, .initialized RX5, .code yX5_isPressure cX5_isPressure 1 (some .boolean), .methodLink RX5 48 yX5_within, .static yX5_within, .code yX5_within cX5_within 3 (some .boolean), .methodLink RX5 96 yX3_add, .instanceMethod yX3_add, .selects RX3 yX3_add yX3_add, .initialized RX3, .code yX3_add cX3_add 5 (some .int), .fieldLink RX3 23 "HotGround$Plant" "count" "I", .fieldLink RX3 9 "HotGround$Plant" "least" "[I", .fieldLink RX3 13 "HotGround$Plant" "rate" "[I", .fieldLink RX3 16 "HotGround$Plant" "most" "[I", .fieldLink RX3 19 "HotGround$Plant" "on" "[Z"] ++ wsX50 ++ wsX30)
def wsX5_on : List Cond := .code yX5_on cX5_on 4 (some .int) :: ([.fieldLink RX5 19 "HotGround" "plant" "LHotGround$Plant;", .fieldLink RX5 95 "HotGround$Plant" "count" "I", .fieldLink RX5 99 "HotGround$Plant" "on" "[Z", .methodLink RX5 48 yX5_within, .static yX5_within, .initialized RX5, .code yX5_within cX5_within 3 (some .boolean)] ++ wsX50 ++ wsX30)
def wsX5_at_r1 : List Cond := [Cond.fieldLink RX5 10 "HotGround" "wells" "LHotGround$Wells;", Cond.fieldLink RX5 19 "HotGround" "plant" "LHotGround$Plant;", Cond.methodLink RX5 48 yX5_within, Cond.static yX5_within, Cond.initialized RX5, Cond.code yX5_within cX5_within 3 (some .boolean), Cond.methodLink RX5 76 yX5_isPressure, Cond.static yX5_isPressure, Cond.code yX5_isPressure cX5_isPressure 1 (some .boolean), Cond.methodLink RX5 102 yX4_supply, Cond.instanceMethod yX4_supply, Cond.selects RX4 yX4_supply yX4_supply, Cond.initialized RX4, Cond.code yX4_supply cX4_supply 4 (some .int), Cond.fieldLink RX4 26 "HotGround$Wells" "count" "I", Cond.fieldLink RX4 19 "HotGround$Wells" "open" "[Z", Cond.methodLink RX4 46 yX4_fifths, Cond.instanceMethod yX4_fifths, Cond.selects RX4 yX4_fifths yX4_fifths, Cond.code yX4_fifths cX4_fifths 4 (some .int), Cond.fieldLink RX4 9 "HotGround$Wells" "kind" "[I", Cond.fieldLink RX4 16 "HotGround$Wells" "age" "[I", Cond.methodLink RX4 30 yX4_plain, Cond.instanceMethod yX4_plain]
def wsX5_at_r2 : List Cond := [Cond.selects RX4 yX4_plain yX4_plain, Cond.code yX4_plain cX4_plain 6 (some .int), Cond.fieldLink RX4 23 "HotGround$Wells" "corners" "[I", Cond.methodLink RX4 34 yX4_scaled, Cond.static yX4_scaled, Cond.code yX4_scaled cX4_scaled 2 (some .int), Cond.methodLink RX4 37 yX4_tested, Cond.static yX4_tested, Cond.code yX4_tested cX4_tested 1 (some .int), Cond.methodLink RX4 41 Lib.Math.min.name, Cond.static Lib.Math.min.name, Cond.initialized "java/lang/Math", Cond.code Lib.Math.min.name Lib.Math.min.code 2 (some .int), Cond.methodLink RX4 49 yX4_steam, Cond.static yX4_steam, Cond.code yX4_steam cX4_steam 2 (some .int), Cond.methodLink RX5 105 yX3_draw, Cond.instanceMethod yX3_draw, Cond.selects RX3 yX3_draw yX3_draw, Cond.initialized RX3, Cond.code yX3_draw cX3_draw 4 (some .int), Cond.fieldLink RX3 23 "HotGround$Plant" "count" "I", Cond.fieldLink RX3 19 "HotGround$Plant" "on" "[Z", Cond.fieldLink RX3 9 "HotGround$Plant" "least" "[I"]
def wsX5_at_r3 : List Cond := [Cond.fieldLink RX3 13 "HotGround$Plant" "rate" "[I", Cond.fieldLink RX3 16 "HotGround$Plant" "most" "[I", Cond.methodLink RX3 27 Lib.Math.min.name, Cond.methodLink RX5 108 yX4_water, Cond.instanceMethod yX4_water, Cond.selects RX4 yX4_water yX4_water, Cond.code yX4_water cX4_water 5 (some .int)]
def wsX5_at : List Cond := .code yX5_at cX5_at 3 (some .int) :: ((wsX5_at_r1 ++ (wsX5_at_r2 ++ wsX5_at_r3)) ++ wsX50 ++ wsX40 ++ wsX30)
def wsX5_meeting_r1 : List Cond := [Cond.fieldLink RX5 10 "HotGround" "wells" "LHotGround$Wells;", Cond.fieldLink RX5 19 "HotGround" "plant" "LHotGround$Plant;", Cond.methodLink RX5 102 yX4_supply, Cond.instanceMethod yX4_supply, Cond.selects RX4 yX4_supply yX4_supply, Cond.initialized RX4, Cond.code yX4_supply cX4_supply 4 (some .int), Cond.fieldLink RX4 26 "HotGround$Wells" "count" "I", Cond.fieldLink RX4 19 "HotGround$Wells" "open" "[Z", Cond.methodLink RX4 46 yX4_fifths, Cond.instanceMethod yX4_fifths, Cond.selects RX4 yX4_fifths yX4_fifths, Cond.code yX4_fifths cX4_fifths 4 (some .int), Cond.fieldLink RX4 9 "HotGround$Wells" "kind" "[I", Cond.fieldLink RX4 16 "HotGround$Wells" "age" "[I", Cond.methodLink RX4 30 yX4_plain, Cond.instanceMethod yX4_plain, Cond.selects RX4 yX4_plain yX4_plain, Cond.code yX4_plain cX4_plain 6 (some .int), Cond.fieldLink RX4 23 "HotGround$Wells" "corners" "[I", Cond.methodLink RX4 34 yX4_scaled, Cond.static yX4_scaled, Cond.code yX4_scaled cX4_scaled 2 (some .int), Cond.methodLink RX4 37 yX4_tested]
def wsX5_meeting_r2 : List Cond := [Cond.static yX4_tested, Cond.code yX4_tested cX4_tested 1 (some .int), Cond.methodLink RX4 41 Lib.Math.min.name, Cond.static Lib.Math.min.name, Cond.initialized "java/lang/Math", Cond.code Lib.Math.min.name Lib.Math.min.code 2 (some .int), Cond.methodLink RX4 49 yX4_steam, Cond.static yX4_steam, Cond.code yX4_steam cX4_steam 2 (some .int), Cond.methodLink RX5 105 yX3_draw, Cond.instanceMethod yX3_draw, Cond.selects RX3 yX3_draw yX3_draw, Cond.initialized RX3, Cond.code yX3_draw cX3_draw 4 (some .int), Cond.fieldLink RX3 23 "HotGround$Plant" "count" "I", Cond.fieldLink RX3 19 "HotGround$Plant" "on" "[Z", Cond.fieldLink RX3 9 "HotGround$Plant" "least" "[I", Cond.fieldLink RX3 13 "HotGround$Plant" "rate" "[I", Cond.fieldLink RX3 16 "HotGround$Plant" "most" "[I", Cond.methodLink RX3 27 Lib.Math.min.name]
def wsX5_meeting : List Cond := .code yX5_meeting cX5_meeting 2 (some .int) :: ((wsX5_meeting_r1 ++ wsX5_meeting_r2) ++ wsX50 ++ wsX40 ++ wsX30)
def wsX5_point_r1 : List Cond := [Cond.methodLink RX5 111 yX5_meeting, Cond.instanceMethod yX5_meeting, Cond.selects RX5 yX5_meeting yX5_meeting, Cond.initialized RX5, Cond.code yX5_meeting cX5_meeting 2 (some .int), Cond.fieldLink RX5 10 "HotGround" "wells" "LHotGround$Wells;", Cond.fieldLink RX5 19 "HotGround" "plant" "LHotGround$Plant;", Cond.methodLink RX5 102 yX4_supply, Cond.instanceMethod yX4_supply, Cond.selects RX4 yX4_supply yX4_supply, Cond.initialized RX4, Cond.code yX4_supply cX4_supply 4 (some .int), Cond.fieldLink RX4 26 "HotGround$Wells" "count" "I", Cond.fieldLink RX4 19 "HotGround$Wells" "open" "[Z", Cond.methodLink RX4 46 yX4_fifths, Cond.instanceMethod yX4_fifths, Cond.selects RX4 yX4_fifths yX4_fifths, Cond.code yX4_fifths cX4_fifths 4 (some .int), Cond.fieldLink RX4 9 "HotGround$Wells" "kind" "[I", Cond.fieldLink RX4 16 "HotGround$Wells" "age" "[I", Cond.methodLink RX4 30 yX4_plain, Cond.instanceMethod yX4_plain, Cond.selects RX4 yX4_plain yX4_plain, Cond.code yX4_plain cX4_plain 6 (some .int)]
def wsX5_point_r2 : List Cond := [Cond.fieldLink RX4 23 "HotGround$Wells" "corners" "[I", Cond.methodLink RX4 34 yX4_scaled, Cond.static yX4_scaled, Cond.code yX4_scaled cX4_scaled 2 (some .int), Cond.methodLink RX4 37 yX4_tested, Cond.static yX4_tested, Cond.code yX4_tested cX4_tested 1 (some .int), Cond.methodLink RX4 41 Lib.Math.min.name, Cond.static Lib.Math.min.name, Cond.initialized "java/lang/Math", Cond.code Lib.Math.min.name Lib.Math.min.code 2 (some .int), Cond.methodLink RX4 49 yX4_steam, Cond.static yX4_steam, Cond.code yX4_steam cX4_steam 2 (some .int), Cond.methodLink RX5 105 yX3_draw, Cond.instanceMethod yX3_draw, Cond.selects RX3 yX3_draw yX3_draw, Cond.initialized RX3, Cond.code yX3_draw cX3_draw 4 (some .int), Cond.fieldLink RX3 23 "HotGround$Plant" "count" "I", Cond.fieldLink RX3 19 "HotGround$Plant" "on" "[Z", Cond.fieldLink RX3 9 "HotGround$Plant" "least" "[I", Cond.fieldLink RX3 13 "HotGround$Plant" "rate" "[I", Cond.fieldLink RX3 16 "HotGround$Plant" "most" "[I"]
def wsX5_point_r3 : List Cond := [Cond.methodLink RX3 27 Lib.Math.min.name]
def wsX5_point : List Cond := .code yX5_point cX5_point 1 (some .int) :: ((wsX5_point_r1 ++ (wsX5_point_r2 ++ wsX5_point_r3)) ++ wsX50 ++ wsX40 ++ wsX30)
def wsX5_isBox : List Cond := .code yX5_isBox cX5_isBox 1 (some .boolean) :: ([.methodLink RX5 48 yX5_within, .static yX5_within, .initialized RX5, .code yX5_within cX5_within 3 (some .boolean)])
def wsX5_fill : List Cond := .code yX5_fill cX5_fill 4 (some .int) :: ([.constant RX5 118 (10000000), .fieldLink RX5 26 "HotGround" "ground" "LHotGround$Ground;", .fieldLink RX5 119 "HotGround$Ground" "mass" "[J", .fieldLink RX5 123 "HotGround$Ground" "heat" "[J", .methodLink RX5 115 yX5_isBox, .static yX5_isBox, .initialized RX5, .code yX5_isBox cX5_isBox 1 (some .boolean), .methodLink RX5 48 yX5_within, .static yX5_within, .code yX5_within cX5_within 3 (some .boolean)] ++ wsX50 ++ wsX00)
def wsX5_setLeak : List Cond := .code yX5_setLeak cX5_setLeak 4 (some .int) :: ([.fieldLink RX5 26 "HotGround" "ground" "LHotGround$Ground;", .fieldLink RX5 184 "HotGround$Ground" "leak" "[I", .methodLink RX5 48 yX5_within, .static yX5_within, .initialized RX5, .code yX5_within cX5_within 3 (some .boolean)] ++ wsX50 ++ wsX00)
def wsX5_setFeed : List Cond := .code yX5_setFeed cX5_setFeed 4 (some .int) :: ([.fieldLink RX5 26 "HotGround" "ground" "LHotGround$Ground;", .fieldLink RX5 187 "HotGround$Ground" "feed" "[I", .methodLink RX5 115 yX5_isBox, .static yX5_isBox, .initialized RX5, .code yX5_isBox cX5_isBox 1 (some .boolean), .methodLink RX5 48 yX5_within, .static yX5_within, .code yX5_within cX5_within 3 (some .boolean)] ++ wsX50 ++ wsX00)
def wsX5_setGivenShare : List Cond := .code yX5_setGivenShare cX5_setGivenShare 3 (some .int) :: ([.fieldLink RX5 26 "HotGround" "ground" "LHotGround$Ground;", .fieldLink RX5 190 "HotGround$Ground" "givenShare" "I", .methodLink RX5 48 yX5_within, .static yX5_within, .initialized RX5, .code yX5_within cX5_within 3 (some .boolean)] ++ wsX50 ++ wsX00)
def wsX5_setGivenBox : List Cond := .code yX5_setGivenBox cX5_setGivenBox 3 (some .int) :: ([.fieldLink RX5 26 "HotGround" "ground" "LHotGround$Ground;", .fieldLink RX5 193 "HotGround$Ground" "givenBox" "I", .methodLink RX5 115 yX5_isBox, .static yX5_isBox, .initialized RX5, .code yX5_isBox cX5_isBox 1 (some .boolean), .methodLink RX5 48 yX5_within, .static yX5_within, .code yX5_within cX5_within 3 (some .boolean)] ++ wsX50 ++ wsX00)
def wsX5_set_r1 : List Cond := [Cond.methodLink RX5 126 yX5_setLeak, Cond.instanceMethod yX5_setLeak, Cond.selects RX5 yX5_setLeak yX5_setLeak, Cond.initialized RX5, Cond.code yX5_setLeak cX5_setLeak 4 (some .int), Cond.fieldLink RX5 26 "HotGround" "ground" "LHotGround$Ground;", Cond.fieldLink RX5 184 "HotGround$Ground" "leak" "[I", Cond.methodLink RX5 48 yX5_within, Cond.static yX5_within, Cond.code yX5_within cX5_within 3 (some .boolean), Cond.methodLink RX5 129 yX5_setFeed, Cond.instanceMethod yX5_setFeed, Cond.selects RX5 yX5_setFeed yX5_setFeed, Cond.code yX5_setFeed cX5_setFeed 4 (some .int), Cond.fieldLink RX5 187 "HotGround$Ground" "feed" "[I", Cond.methodLink RX5 115 yX5_isBox, Cond.static yX5_isBox, Cond.code yX5_isBox cX5_isBox 1 (some .boolean), Cond.methodLink RX5 132 yX5_setGivenShare, Cond.instanceMethod yX5_setGivenShare, Cond.selects RX5 yX5_setGivenShare yX5_setGivenShare, Cond.code yX5_setGivenShare cX5_setGivenShare 3 (some .int), Cond.fieldLink RX5 190 "HotGround$Ground" "givenShare" "I", Cond.methodLink RX5 135 yX5_setGivenBox]
def wsX5_set_r2 : List Cond := [Cond.instanceMethod yX5_setGivenBox, Cond.selects RX5 yX5_setGivenBox yX5_setGivenBox, Cond.code yX5_setGivenBox cX5_setGivenBox 3 (some .int), Cond.fieldLink RX5 193 "HotGround$Ground" "givenBox" "I"]
def wsX5_set : List Cond := .code yX5_set cX5_set 4 (some .int) :: ((wsX5_set_r1 ++ wsX5_set_r2) ++ wsX50 ++ wsX00)
def wsX5_takeAll_r1 : List Cond := [Cond.fieldLink RX5 10 "HotGround" "wells" "LHotGround$Wells;", Cond.fieldLink RX5 52 "HotGround$Wells" "count" "I", Cond.fieldLink RX5 68 "HotGround$Wells" "open" "[Z", Cond.fieldLink RX5 26 "HotGround" "ground" "LHotGround$Ground;", Cond.fieldLink RX5 89 "HotGround$Wells" "box" "[I", Cond.methodLink RX5 83 yX4_fifths, Cond.instanceMethod yX4_fifths, Cond.selects RX4 yX4_fifths yX4_fifths, Cond.initialized RX4, Cond.code yX4_fifths cX4_fifths 4 (some .int), Cond.fieldLink RX4 9 "HotGround$Wells" "kind" "[I", Cond.fieldLink RX4 16 "HotGround$Wells" "age" "[I", Cond.methodLink RX4 30 yX4_plain, Cond.instanceMethod yX4_plain, Cond.selects RX4 yX4_plain yX4_plain, Cond.code yX4_plain cX4_plain 6 (some .int), Cond.fieldLink RX4 23 "HotGround$Wells" "corners" "[I", Cond.methodLink RX4 34 yX4_scaled, Cond.static yX4_scaled, Cond.code yX4_scaled cX4_scaled 2 (some .int), Cond.methodLink RX4 37 yX4_tested, Cond.static yX4_tested, Cond.code yX4_tested cX4_tested 1 (some .int), Cond.methodLink RX4 41 Lib.Math.min.name]
def wsX5_takeAll_r2 : List Cond := [Cond.static Lib.Math.min.name, Cond.initialized "java/lang/Math", Cond.code Lib.Math.min.name Lib.Math.min.code 2 (some .int), Cond.methodLink RX5 213 yX0_take, Cond.instanceMethod yX0_take, Cond.selects RX0 yX0_take yX0_take, Cond.initialized RX0, Cond.code yX0_take cX0_take 8 (some .long), Cond.fieldLink RX0 9 "HotGround$Ground" "mass" "[J", Cond.methodLink RX0 26 Lib.MathLoose.min_long.x, Cond.static Lib.MathLoose.min_long.x, Cond.code Lib.MathLoose.min_long.x Lib.MathLoose.min_long.code 4 (some .long), Cond.fieldLink RX0 13 "HotGround$Ground" "heat" "[J", Cond.methodLink RX0 32 yX0_heatOf, Cond.instanceMethod yX0_heatOf, Cond.selects RX0 yX0_heatOf yX0_heatOf, Cond.code yX0_heatOf cX0_heatOf 4 (some .long), Cond.methodLink RX0 36 yX0_book, Cond.instanceMethod yX0_book, Cond.selects RX0 yX0_book yX0_book, Cond.code yX0_book cX0_book 6 none, Cond.fieldLink RX0 23 "HotGround$Ground" "sums" "[J"]
def wsX5_takeAll : List Cond := .code yX5_takeAll cX5_takeAll 5 (some .long) :: ((wsX5_takeAll_r1 ++ wsX5_takeAll_r2) ++ wsX50 ++ wsX40 ++ wsX00)
def wsX5_passYear_r1 : List Cond := [Cond.fieldLink RX5 26 "HotGround" "ground" "LHotGround$Ground;", Cond.fieldLink RX5 141 "HotGround$Ground" "sums" "[J", Cond.fieldLink RX5 19 "HotGround" "plant" "LHotGround$Plant;", Cond.fieldLink RX5 10 "HotGround" "wells" "LHotGround$Wells;", Cond.methodLink RX5 111 yX5_meeting, Cond.instanceMethod yX5_meeting, Cond.selects RX5 yX5_meeting yX5_meeting, Cond.initialized RX5, Cond.code yX5_meeting cX5_meeting 2 (some .int), Cond.methodLink RX5 102 yX4_supply, Cond.instanceMethod yX4_supply, Cond.selects RX4 yX4_supply yX4_supply, Cond.initialized RX4, Cond.code yX4_supply cX4_supply 4 (some .int), Cond.fieldLink RX4 26 "HotGround$Wells" "count" "I", Cond.fieldLink RX4 19 "HotGround$Wells" "open" "[Z", Cond.methodLink RX4 46 yX4_fifths, Cond.instanceMethod yX4_fifths, Cond.selects RX4 yX4_fifths yX4_fifths, Cond.code yX4_fifths cX4_fifths 4 (some .int), Cond.fieldLink RX4 9 "HotGround$Wells" "kind" "[I", Cond.fieldLink RX4 16 "HotGround$Wells" "age" "[I", Cond.methodLink RX4 30 yX4_plain, Cond.instanceMethod yX4_plain]
def wsX5_passYear_r2 : List Cond := [Cond.selects RX4 yX4_plain yX4_plain, Cond.code yX4_plain cX4_plain 6 (some .int), Cond.fieldLink RX4 23 "HotGround$Wells" "corners" "[I", Cond.methodLink RX4 34 yX4_scaled, Cond.static yX4_scaled, Cond.code yX4_scaled cX4_scaled 2 (some .int), Cond.methodLink RX4 37 yX4_tested, Cond.static yX4_tested, Cond.code yX4_tested cX4_tested 1 (some .int), Cond.methodLink RX4 41 Lib.Math.min.name, Cond.static Lib.Math.min.name, Cond.initialized "java/lang/Math", Cond.code Lib.Math.min.name Lib.Math.min.code 2 (some .int), Cond.methodLink RX4 49 yX4_steam, Cond.static yX4_steam, Cond.code yX4_steam cX4_steam 2 (some .int), Cond.methodLink RX5 105 yX3_draw, Cond.instanceMethod yX3_draw, Cond.selects RX3 yX3_draw yX3_draw, Cond.initialized RX3, Cond.code yX3_draw cX3_draw 4 (some .int), Cond.fieldLink RX3 23 "HotGround$Plant" "count" "I", Cond.fieldLink RX3 19 "HotGround$Plant" "on" "[Z", Cond.fieldLink RX3 9 "HotGround$Plant" "least" "[I"]
def wsX5_passYear_r3 : List Cond := [Cond.fieldLink RX3 13 "HotGround$Plant" "rate" "[I", Cond.fieldLink RX3 16 "HotGround$Plant" "most" "[I", Cond.methodLink RX3 27 Lib.Math.min.name, Cond.methodLink RX5 196 yX5_takeAll, Cond.instanceMethod yX5_takeAll, Cond.selects RX5 yX5_takeAll yX5_takeAll, Cond.code yX5_takeAll cX5_takeAll 5 (some .long), Cond.fieldLink RX5 52 "HotGround$Wells" "count" "I", Cond.fieldLink RX5 68 "HotGround$Wells" "open" "[Z", Cond.fieldLink RX5 89 "HotGround$Wells" "box" "[I", Cond.methodLink RX5 83 yX4_fifths, Cond.methodLink RX5 213 yX0_take, Cond.instanceMethod yX0_take, Cond.selects RX0 yX0_take yX0_take, Cond.initialized RX0, Cond.code yX0_take cX0_take 8 (some .long), Cond.fieldLink RX0 9 "HotGround$Ground" "mass" "[J", Cond.methodLink RX0 26 Lib.MathLoose.min_long.x, Cond.static Lib.MathLoose.min_long.x, Cond.code Lib.MathLoose.min_long.x Lib.MathLoose.min_long.code 4 (some .long), Cond.fieldLink RX0 13 "HotGround$Ground" "heat" "[J", Cond.methodLink RX0 32 yX0_heatOf, Cond.instanceMethod yX0_heatOf, Cond.selects RX0 yX0_heatOf yX0_heatOf]
def wsX5_passYear_r4 : List Cond := [Cond.code yX0_heatOf cX0_heatOf 4 (some .long), Cond.methodLink RX0 36 yX0_book, Cond.instanceMethod yX0_book, Cond.selects RX0 yX0_book yX0_book, Cond.code yX0_book cX0_book 6 none, Cond.fieldLink RX0 23 "HotGround$Ground" "sums" "[J", Cond.methodLink RX5 200 yX0_giveBack, Cond.instanceMethod yX0_giveBack, Cond.selects RX0 yX0_giveBack yX0_giveBack, Cond.code yX0_giveBack cX0_giveBack 5 none, Cond.fieldLink RX0 40 "HotGround$Ground" "givenShare" "I", Cond.constantLong RX0 44 (1000), Cond.fieldLink RX0 46 "HotGround$Ground" "givenBox" "I", Cond.constantLong RX0 49 (40), Cond.methodLink RX0 51 yX0_pour, Cond.instanceMethod yX0_pour, Cond.selects RX0 yX0_pour yX0_pour, Cond.code yX0_pour cX0_pour 6 none, Cond.methodLink RX5 204 yX0_leakAll, Cond.instanceMethod yX0_leakAll, Cond.selects RX0 yX0_leakAll yX0_leakAll, Cond.code yX0_leakAll cX0_leakAll 9 none, Cond.fieldLink RX0 20 "HotGround$Ground" "leak" "[I", Cond.methodLink RX5 207 yX0_feedAll]
def wsX5_passYear_r5 : List Cond := [Cond.instanceMethod yX0_feedAll, Cond.selects RX0 yX0_feedAll yX0_feedAll, Cond.code yX0_feedAll cX0_feedAll 4 none, Cond.fieldLink RX0 16 "HotGround$Ground" "feed" "[I", Cond.constantLong RX0 54 (10), Cond.methodLink RX5 210 yX4_grow, Cond.instanceMethod yX4_grow, Cond.selects RX4 yX4_grow yX4_grow, Cond.code yX4_grow cX4_grow 2 none]
def wsX5_passYear : List Cond := .code yX5_passYear cX5_passYear 2 none :: ((wsX5_passYear_r1 ++ (wsX5_passYear_r2 ++ (wsX5_passYear_r3 ++ (wsX5_passYear_r4 ++ wsX5_passYear_r5)))) ++ wsX50 ++ wsX00 ++ wsX40 ++ wsX30)
def wsX5_year_r1 : List Cond := [Cond.fieldLink RX5 26 "HotGround" "ground" "LHotGround$Ground;", Cond.fieldLink RX5 141 "HotGround$Ground" "sums" "[J", Cond.methodLink RX5 48 yX5_within, Cond.static yX5_within, Cond.initialized RX5, Cond.code yX5_within cX5_within 3 (some .boolean), Cond.methodLink RX5 138 yX5_passYear, Cond.instanceMethod yX5_passYear, Cond.selects RX5 yX5_passYear yX5_passYear, Cond.code yX5_passYear cX5_passYear 2 none, Cond.fieldLink RX5 19 "HotGround" "plant" "LHotGround$Plant;", Cond.fieldLink RX5 10 "HotGround" "wells" "LHotGround$Wells;", Cond.methodLink RX5 111 yX5_meeting, Cond.instanceMethod yX5_meeting, Cond.selects RX5 yX5_meeting yX5_meeting, Cond.code yX5_meeting cX5_meeting 2 (some .int), Cond.methodLink RX5 102 yX4_supply, Cond.instanceMethod yX4_supply, Cond.selects RX4 yX4_supply yX4_supply, Cond.initialized RX4, Cond.code yX4_supply cX4_supply 4 (some .int), Cond.fieldLink RX4 26 "HotGround$Wells" "count" "I", Cond.fieldLink RX4 19 "HotGround$Wells" "open" "[Z", Cond.methodLink RX4 46 yX4_fifths]
def wsX5_year_r2 : List Cond := [Cond.instanceMethod yX4_fifths, Cond.selects RX4 yX4_fifths yX4_fifths, Cond.code yX4_fifths cX4_fifths 4 (some .int), Cond.fieldLink RX4 9 "HotGround$Wells" "kind" "[I", Cond.fieldLink RX4 16 "HotGround$Wells" "age" "[I", Cond.methodLink RX4 30 yX4_plain, Cond.instanceMethod yX4_plain, Cond.selects RX4 yX4_plain yX4_plain, Cond.code yX4_plain cX4_plain 6 (some .int), Cond.fieldLink RX4 23 "HotGround$Wells" "corners" "[I", Cond.methodLink RX4 34 yX4_scaled, Cond.static yX4_scaled, Cond.code yX4_scaled cX4_scaled 2 (some .int), Cond.methodLink RX4 37 yX4_tested, Cond.static yX4_tested, Cond.code yX4_tested cX4_tested 1 (some .int), Cond.methodLink RX4 41 Lib.Math.min.name, Cond.static Lib.Math.min.name, Cond.initialized "java/lang/Math", Cond.code Lib.Math.min.name Lib.Math.min.code 2 (some .int), Cond.methodLink RX4 49 yX4_steam, Cond.static yX4_steam, Cond.code yX4_steam cX4_steam 2 (some .int), Cond.methodLink RX5 105 yX3_draw]
def wsX5_year_r3 : List Cond := [Cond.instanceMethod yX3_draw, Cond.selects RX3 yX3_draw yX3_draw, Cond.initialized RX3, Cond.code yX3_draw cX3_draw 4 (some .int), Cond.fieldLink RX3 23 "HotGround$Plant" "count" "I", Cond.fieldLink RX3 19 "HotGround$Plant" "on" "[Z", Cond.fieldLink RX3 9 "HotGround$Plant" "least" "[I", Cond.fieldLink RX3 13 "HotGround$Plant" "rate" "[I", Cond.fieldLink RX3 16 "HotGround$Plant" "most" "[I", Cond.methodLink RX3 27 Lib.Math.min.name, Cond.methodLink RX5 196 yX5_takeAll, Cond.instanceMethod yX5_takeAll, Cond.selects RX5 yX5_takeAll yX5_takeAll, Cond.code yX5_takeAll cX5_takeAll 5 (some .long), Cond.fieldLink RX5 52 "HotGround$Wells" "count" "I", Cond.fieldLink RX5 68 "HotGround$Wells" "open" "[Z", Cond.fieldLink RX5 89 "HotGround$Wells" "box" "[I", Cond.methodLink RX5 83 yX4_fifths, Cond.methodLink RX5 213 yX0_take, Cond.instanceMethod yX0_take, Cond.selects RX0 yX0_take yX0_take, Cond.initialized RX0, Cond.code yX0_take cX0_take 8 (some .long), Cond.fieldLink RX0 9 "HotGround$Ground" "mass" "[J"]
def wsX5_year_r4 : List Cond := [Cond.methodLink RX0 26 Lib.MathLoose.min_long.x, Cond.static Lib.MathLoose.min_long.x, Cond.code Lib.MathLoose.min_long.x Lib.MathLoose.min_long.code 4 (some .long), Cond.fieldLink RX0 13 "HotGround$Ground" "heat" "[J", Cond.methodLink RX0 32 yX0_heatOf, Cond.instanceMethod yX0_heatOf, Cond.selects RX0 yX0_heatOf yX0_heatOf, Cond.code yX0_heatOf cX0_heatOf 4 (some .long), Cond.methodLink RX0 36 yX0_book, Cond.instanceMethod yX0_book, Cond.selects RX0 yX0_book yX0_book, Cond.code yX0_book cX0_book 6 none, Cond.fieldLink RX0 23 "HotGround$Ground" "sums" "[J", Cond.methodLink RX5 200 yX0_giveBack, Cond.instanceMethod yX0_giveBack, Cond.selects RX0 yX0_giveBack yX0_giveBack, Cond.code yX0_giveBack cX0_giveBack 5 none, Cond.fieldLink RX0 40 "HotGround$Ground" "givenShare" "I", Cond.constantLong RX0 44 (1000), Cond.fieldLink RX0 46 "HotGround$Ground" "givenBox" "I", Cond.constantLong RX0 49 (40), Cond.methodLink RX0 51 yX0_pour, Cond.instanceMethod yX0_pour, Cond.selects RX0 yX0_pour yX0_pour]
def wsX5_year_r5 : List Cond := [Cond.code yX0_pour cX0_pour 6 none, Cond.methodLink RX5 204 yX0_leakAll, Cond.instanceMethod yX0_leakAll, Cond.selects RX0 yX0_leakAll yX0_leakAll, Cond.code yX0_leakAll cX0_leakAll 9 none, Cond.fieldLink RX0 20 "HotGround$Ground" "leak" "[I", Cond.methodLink RX5 207 yX0_feedAll, Cond.instanceMethod yX0_feedAll, Cond.selects RX0 yX0_feedAll yX0_feedAll, Cond.code yX0_feedAll cX0_feedAll 4 none, Cond.fieldLink RX0 16 "HotGround$Ground" "feed" "[I", Cond.constantLong RX0 54 (10), Cond.methodLink RX5 210 yX4_grow, Cond.instanceMethod yX4_grow, Cond.selects RX4 yX4_grow yX4_grow, Cond.code yX4_grow cX4_grow 2 none]
def wsX5_year : List Cond := .code yX5_year cX5_year 3 (some .int) :: ((wsX5_year_r1 ++ (wsX5_year_r2 ++ (wsX5_year_r3 ++ (wsX5_year_r4 ++ wsX5_year_r5)))) ++ wsX50 ++ wsX00 ++ wsX40 ++ wsX30)
def wsX5_box : List Cond := .code yX5_box cX5_box 3 (some .long) :: ([.constantLong RX5 144 (-1), .fieldLink RX5 26 "HotGround" "ground" "LHotGround$Ground;", .fieldLink RX5 119 "HotGround$Ground" "mass" "[J", .fieldLink RX5 123 "HotGround$Ground" "heat" "[J", .methodLink RX5 115 yX5_isBox, .static yX5_isBox, .initialized RX5, .code yX5_isBox cX5_isBox 1 (some .boolean), .methodLink RX5 48 yX5_within, .static yX5_within, .code yX5_within cX5_within 3 (some .boolean)] ++ wsX50 ++ wsX00)
def wsX5_sum : List Cond := .code yX5_sum cX5_sum 2 (some .long) :: ([.constantLong RX5 144 (-1), .fieldLink RX5 26 "HotGround" "ground" "LHotGround$Ground;", .fieldLink RX5 141 "HotGround$Ground" "sums" "[J", .methodLink RX5 48 yX5_within, .static yX5_within, .initialized RX5, .code yX5_within cX5_within 3 (some .boolean)] ++ wsX50 ++ wsX00)
def wsX5_share : List Cond := .code yX5_share cX5_share 4 (some .int) :: ([.fieldLink RX5 33 "HotGround" "kernel" "LHotGround$Kernel;", .fieldLink RX5 146 "HotGround$Kernel" "shares" "[I", .methodLink RX5 48 yX5_within, .static yX5_within, .initialized RX5, .code yX5_within cX5_within 3 (some .boolean), .methodLink RX5 149 yX1_together, .instanceMethod yX1_together, .selects RX1 yX1_together yX1_together, .initialized RX1, .code yX1_together cX1_together 3 (some .int), .fieldLink RX1 9 "HotGround$Kernel" "shares" "[I"] ++ wsX50 ++ wsX10)
def wsX5_put : List Cond := .code yX5_put cX5_put 2 (some .int) :: ([.constant RX5 152 (1000000), .fieldLink RX5 33 "HotGround" "kernel" "LHotGround$Kernel;", .fieldLink RX5 153 "HotGround$Kernel" "count" "I", .fieldLink RX5 154 "HotGround$Kernel" "amounts" "[I", .methodLink RX5 48 yX5_within, .static yX5_within, .initialized RX5, .code yX5_within cX5_within 3 (some .boolean)] ++ wsX50 ++ wsX10)
def wsX5_back : List Cond := .code yX5_back cX5_back 2 (some .int) :: ([.fieldLink RX5 33 "HotGround" "kernel" "LHotGround$Kernel;", .methodLink RX5 48 yX5_within, .static yX5_within, .initialized RX5, .code yX5_within cX5_within 3 (some .boolean), .methodLink RX5 157 yX1_comes, .instanceMethod yX1_comes, .selects RX1 yX1_comes yX1_comes, .initialized RX1, .code yX1_comes cX1_comes 5 (some .int), .fieldLink RX1 16 "HotGround$Kernel" "count" "I", .fieldLink RX1 13 "HotGround$Kernel" "amounts" "[I", .fieldLink RX1 9 "HotGround$Kernel" "shares" "[I"] ++ wsX50 ++ wsX10)
def wsX5_cut : List Cond := .code yX5_cut cX5_cut 1 (some .int) :: ([.fieldLink RX5 33 "HotGround" "kernel" "LHotGround$Kernel;", .fieldLink RX5 153 "HotGround$Kernel" "count" "I"] ++ wsX50 ++ wsX10)
def wsX5_isPlanYear : List Cond := .code yX5_isPlanYear cX5_isPlanYear 1 (some .boolean) :: ([.methodLink RX5 48 yX5_within, .static yX5_within, .initialized RX5, .code yX5_within cX5_within 3 (some .boolean)])
def wsX5_candidate : List Cond := .code yX5_candidate cX5_candidate 4 (some .int) :: ([.fieldLink RX5 40 "HotGround" "offers" "LHotGround$Offers;", .fieldLink RX5 163 "HotGround$Offers" "count" "I", .methodLink RX5 48 yX5_within, .static yX5_within, .initialized RX5, .code yX5_within cX5_within 3 (some .boolean), .methodLink RX5 160 yX5_isPlanYear, .static yX5_isPlanYear, .code yX5_isPlanYear cX5_isPlanYear 1 (some .boolean), .methodLink RX5 164 yX2_add, .instanceMethod yX2_add, .selects RX2 yX2_add yX2_add, .initialized RX2, .code yX2_add cX2_add 5 (some .int), .fieldLink RX2 24 "HotGround$Offers" "count" "I", .fieldLink RX2 11 "HotGround$Offers" "cost" "[I", .fieldLink RX2 15 "HotGround$Offers" "from" "[I", .fieldLink RX2 18 "HotGround$Offers" "steam" "[I"] ++ wsX50 ++ wsX20)
def wsX5_promise : List Cond := .code yX5_promise cX5_promise 4 (some .int) :: ([.fieldLink RX5 40 "HotGround" "offers" "LHotGround$Offers;", .fieldLink RX5 165 "HotGround$Offers" "promised" "[I", .methodLink RX5 160 yX5_isPlanYear, .static yX5_isPlanYear, .initialized RX5, .code yX5_isPlanYear cX5_isPlanYear 1 (some .boolean), .methodLink RX5 48 yX5_within, .static yX5_within, .code yX5_within cX5_within 3 (some .boolean)] ++ wsX50 ++ wsX20)
def wsX5_plan_r1 : List Cond := [Cond.fieldLink RX5 40 "HotGround" "offers" "LHotGround$Offers;", Cond.methodLink RX5 48 yX5_within, Cond.static yX5_within, Cond.initialized RX5, Cond.code yX5_within cX5_within 3 (some .boolean), Cond.methodLink RX5 168 yX2_cheapest, Cond.instanceMethod yX2_cheapest, Cond.selects RX2 yX2_cheapest yX2_cheapest, Cond.initialized RX2, Cond.code yX2_cheapest cX2_cheapest 5 (some .int), Cond.methodLink RX2 37 yX2_sets, Cond.instanceMethod yX2_sets, Cond.selects RX2 yX2_sets yX2_sets, Cond.code yX2_sets cX2_sets 1 (some .int), Cond.fieldLink RX2 24 "HotGround$Offers" "count" "I", Cond.methodLink RX2 41 yX2_price, Cond.instanceMethod yX2_price, Cond.selects RX2 yX2_price yX2_price, Cond.code yX2_price cX2_price 4 (some .int), Cond.fieldLink RX2 11 "HotGround$Offers" "cost" "[I", Cond.methodLink RX2 45 yX2_keeps, Cond.instanceMethod yX2_keeps, Cond.selects RX2 yX2_keeps yX2_keeps, Cond.code yX2_keeps cX2_keeps 3 (some .boolean)]
def wsX5_plan_r2 : List Cond := [Cond.methodLink RX2 34 yX2_missing, Cond.instanceMethod yX2_missing, Cond.selects RX2 yX2_missing yX2_missing, Cond.code yX2_missing cX2_missing 5 (some .int), Cond.fieldLink RX2 15 "HotGround$Offers" "from" "[I", Cond.fieldLink RX2 18 "HotGround$Offers" "steam" "[I", Cond.fieldLink RX2 21 "HotGround$Offers" "promised" "[I", Cond.methodLink RX2 28 Lib.Math.max.name, Cond.static Lib.Math.max.name, Cond.initialized "java/lang/Math", Cond.code Lib.Math.max.name Lib.Math.max.code 2 (some .int), Cond.methodLink RX5 171 yX2_price]
def wsX5_plan : List Cond := .code yX5_plan cX5_plan 3 (some .int) :: ((wsX5_plan_r1 ++ wsX5_plan_r2) ++ wsX50 ++ wsX20)
def wsX5_lacks_r1 : List Cond := [Cond.fieldLink RX5 40 "HotGround" "offers" "LHotGround$Offers;", Cond.methodLink RX5 174 yX2_sets, Cond.instanceMethod yX2_sets, Cond.selects RX2 yX2_sets yX2_sets, Cond.initialized RX2, Cond.code yX2_sets cX2_sets 1 (some .int), Cond.fieldLink RX2 24 "HotGround$Offers" "count" "I", Cond.methodLink RX5 48 yX5_within, Cond.static yX5_within, Cond.initialized RX5, Cond.code yX5_within cX5_within 3 (some .boolean), Cond.methodLink RX5 160 yX5_isPlanYear, Cond.static yX5_isPlanYear, Cond.code yX5_isPlanYear cX5_isPlanYear 1 (some .boolean), Cond.methodLink RX5 177 yX2_missing, Cond.instanceMethod yX2_missing, Cond.selects RX2 yX2_missing yX2_missing, Cond.code yX2_missing cX2_missing 5 (some .int), Cond.fieldLink RX2 15 "HotGround$Offers" "from" "[I", Cond.fieldLink RX2 18 "HotGround$Offers" "steam" "[I", Cond.fieldLink RX2 21 "HotGround$Offers" "promised" "[I", Cond.methodLink RX2 28 Lib.Math.max.name, Cond.static Lib.Math.max.name, Cond.initialized "java/lang/Math"]
def wsX5_lacks_r2 : List Cond := [Cond.code Lib.Math.max.name Lib.Math.max.code 2 (some .int)]
def wsX5_lacks : List Cond := .code yX5_lacks cX5_lacks 3 (some .int) :: ((wsX5_lacks_r1 ++ wsX5_lacks_r2) ++ wsX50 ++ wsX20)
def wsX5_trues : List Cond := .code yX5_trues cX5_trues 4 (some .int) :: ([])
def wsX5_count : List Cond := .code yX5_count cX5_count 2 (some .int) :: ([.fieldLink RX5 10 "HotGround" "wells" "LHotGround$Wells;", .fieldLink RX5 52 "HotGround$Wells" "count" "I", .fieldLink RX5 19 "HotGround" "plant" "LHotGround$Plant;", .fieldLink RX5 95 "HotGround$Plant" "count" "I", .fieldLink RX5 40 "HotGround" "offers" "LHotGround$Offers;", .fieldLink RX5 163 "HotGround$Offers" "count" "I", .fieldLink RX5 33 "HotGround" "kernel" "LHotGround$Kernel;", .fieldLink RX5 153 "HotGround$Kernel" "count" "I", .fieldLink RX5 68 "HotGround$Wells" "open" "[Z", .fieldLink RX5 99 "HotGround$Plant" "on" "[Z", .methodLink RX5 180 yX5_trues, .static yX5_trues, .initialized RX5, .code yX5_trues cX5_trues 4 (some .int)] ++ wsX50 ++ wsX40 ++ wsX30 ++ wsX20 ++ wsX10)
def wsX5_trace : List Cond := .code yX5_trace cX5_trace 1 (some .long) :: ([.fieldLink RX5 44 "HotGround" "trace" "J"] ++ wsX50)
def wsX6_init_r1 : List Cond := [Cond.methodLink RX6 1 objectInit, Cond.instanceMethod objectInit, Cond.code objectInit ⟨#[0xb1]⟩ 1 none, Cond.arrayClass .int, Cond.fieldLink RX6 7 "HotGroundModel" "kind" "[I", Cond.fieldLink RX6 13 "HotGroundModel" "inBox" "[I", Cond.fieldLink RX6 16 "HotGroundModel" "age" "[I", Cond.arrayClass .boolean, Cond.fieldLink RX6 19 "HotGroundModel" "isOpen" "[Z", Cond.fieldLink RX6 23 "HotGroundModel" "corner" "[I", Cond.fieldLink RX6 26 "HotGroundModel" "least" "[I", Cond.fieldLink RX6 29 "HotGroundModel" "rate" "[I", Cond.fieldLink RX6 32 "HotGroundModel" "most" "[I", Cond.fieldLink RX6 35 "HotGroundModel" "isOn" "[Z", Cond.arrayClass .long, Cond.fieldLink RX6 38 "HotGroundModel" "mass" "[J", Cond.fieldLink RX6 42 "HotGroundModel" "heat" "[J", Cond.fieldLink RX6 45 "HotGroundModel" "leak" "[I", Cond.fieldLink RX6 48 "HotGroundModel" "feed" "[I", Cond.fieldLink RX6 51 "HotGroundModel" "sums" "[J", Cond.fieldLink RX6 54 "HotGroundModel" "share" "[I", Cond.fieldLink RX6 57 "HotGroundModel" "put" "[I", Cond.fieldLink RX6 60 "HotGroundModel" "cost" "[I", Cond.fieldLink RX6 63 "HotGroundModel" "fromYear" "[I"]
def wsX6_init_r2 : List Cond := [Cond.fieldLink RX6 66 "HotGroundModel" "gives" "[I", Cond.fieldLink RX6 69 "HotGroundModel" "promise" "[I", Cond.fieldLink RX6 72 "HotGroundModel" "wells" "I"]
def wsX6_init : List Cond := .code yX6_init cX6_init 1 none :: ((wsX6_init_r1 ++ wsX6_init_r2) ++ wsX60)
def wsX6_in : List Cond := .code yX6_in cX6_in 3 (some .boolean) :: ([])
def wsX6_isWell : List Cond := .code yX6_isWell cX6_isWell 2 (some .boolean) :: ([.fieldLink RX6 72 "HotGroundModel" "wells" "I", .methodLink RX6 76 yX6_in, .static yX6_in, .initialized RX6, .code yX6_in cX6_in 3 (some .boolean)] ++ wsX60)
def wsX6_well : List Cond := .code yX6_well cX6_well 9 (some .int) :: ([.fieldLink RX6 72 "HotGroundModel" "wells" "I", .fieldLink RX6 7 "HotGroundModel" "kind" "[I", .fieldLink RX6 13 "HotGroundModel" "inBox" "[I", .fieldLink RX6 16 "HotGroundModel" "age" "[I", .fieldLink RX6 19 "HotGroundModel" "isOpen" "[Z", .fieldLink RX6 23 "HotGroundModel" "corner" "[I", .methodLink RX6 76 yX6_in, .static yX6_in, .initialized RX6, .code yX6_in cX6_in 3 (some .boolean)] ++ wsX60)
def wsX6_open : List Cond := .code yX6_open cX6_open 4 (some .int) :: ([.fieldLink RX6 19 "HotGroundModel" "isOpen" "[Z", .methodLink RX6 80 yX6_isWell, .instanceMethod yX6_isWell, .selects RX6 yX6_isWell yX6_isWell, .initialized RX6, .code yX6_isWell cX6_isWell 2 (some .boolean), .fieldLink RX6 72 "HotGroundModel" "wells" "I", .methodLink RX6 76 yX6_in, .static yX6_in, .code yX6_in cX6_in 3 (some .boolean)] ++ wsX60)
def wsX6_clean : List Cond := .code yX6_clean cX6_clean 3 (some .int) :: ([.fieldLink RX6 16 "HotGroundModel" "age" "[I", .methodLink RX6 80 yX6_isWell, .instanceMethod yX6_isWell, .selects RX6 yX6_isWell yX6_isWell, .initialized RX6, .code yX6_isWell cX6_isWell 2 (some .boolean), .fieldLink RX6 72 "HotGroundModel" "wells" "I", .methodLink RX6 76 yX6_in, .static yX6_in, .code yX6_in cX6_in 3 (some .boolean)] ++ wsX60)
def wsX6_flowOf : List Cond := .code yX6_flowOf cX6_flowOf 6 (some .int) :: ([.fieldLink RX6 23 "HotGroundModel" "corner" "[I", .fieldLink RX6 7 "HotGroundModel" "kind" "[I", .fieldLink RX6 16 "HotGroundModel" "age" "[I"] ++ wsX60)
def wsX6_steamOf : List Cond := .code yX6_steamOf cX6_steamOf 2 (some .int) :: ([])
def wsX6_flow : List Cond := .code yX6_flow cX6_flow 3 (some .int) :: ([.fieldLink RX6 84 "HotGroundModel" "trace" "J", .fieldLink RX6 7 "HotGroundModel" "kind" "[I", .constantLong RX6 88 (11), .constantLong RX6 90 (111), .methodLink RX6 80 yX6_isWell, .instanceMethod yX6_isWell, .selects RX6 yX6_isWell yX6_isWell, .initialized RX6, .code yX6_isWell cX6_isWell 2 (some .boolean), .fieldLink RX6 72 "HotGroundModel" "wells" "I", .methodLink RX6 76 yX6_in, .static yX6_in, .code yX6_in cX6_in 3 (some .boolean), .methodLink RX6 92 yX6_flowOf, .instanceMethod yX6_flowOf, .selects RX6 yX6_flowOf yX6_flowOf, .code yX6_flowOf cX6_flowOf 6 (some .int), .fieldLink RX6 23 "HotGroundModel" "corner" "[I", .fieldLink RX6 16 "HotGroundModel" "age" "[I"] ++ wsX60)
def wsX6_about : List Cond := .code yX6_about cX6_about 3 (some .int) :: ([.fieldLink RX6 7 "HotGroundModel" "kind" "[I", .fieldLink RX6 13 "HotGroundModel" "inBox" "[I", .fieldLink RX6 16 "HotGroundModel" "age" "[I", .fieldLink RX6 19 "HotGroundModel" "isOpen" "[Z", .fieldLink RX6 23 "HotGroundModel" "corner" "[I", .methodLink RX6 80 yX6_isWell, .instanceMethod yX6_isWell, .selects RX6 yX6_isWell yX6_isWell, .initialized RX6, .code yX6_isWell cX6_isWell 2 (some .boolean), .fieldLink RX6 72 "HotGroundModel" "wells" "I", .methodLink RX6 76 yX6_in, .static yX6_in, .code yX6_in cX6_in 3 (some .boolean)] ++ wsX60)
def wsX6_turbine : List Cond := .code yX6_turbine cX6_turbine 4 (some .int) :: ([.fieldLink RX6 96 "HotGroundModel" "turbines" "I", .fieldLink RX6 26 "HotGroundModel" "least" "[I", .fieldLink RX6 29 "HotGroundModel" "rate" "[I", .fieldLink RX6 32 "HotGroundModel" "most" "[I", .fieldLink RX6 35 "HotGroundModel" "isOn" "[Z", .methodLink RX6 76 yX6_in, .static yX6_in, .initialized RX6, .code yX6_in cX6_in 3 (some .boolean)] ++ wsX60)
def wsX6_on : List Cond := .code yX6_on cX6_on 4 (some .int) :: ([.fieldLink RX6 96 "HotGroundModel" "turbines" "I", .fieldLink RX6 35 "HotGroundModel" "isOn" "[Z", .methodLink RX6 76 yX6_in, .static yX6_in, .initialized RX6, .code yX6_in cX6_in 3 (some .boolean)] ++ wsX60)
def wsX6_supply : List Cond := .code yX6_supply cX6_supply 4 (some .int) :: ([.fieldLink RX6 72 "HotGroundModel" "wells" "I", .fieldLink RX6 19 "HotGroundModel" "isOpen" "[Z", .methodLink RX6 92 yX6_flowOf, .instanceMethod yX6_flowOf, .selects RX6 yX6_flowOf yX6_flowOf, .initialized RX6, .code yX6_flowOf cX6_flowOf 6 (some .int), .fieldLink RX6 23 "HotGroundModel" "corner" "[I", .fieldLink RX6 7 "HotGroundModel" "kind" "[I", .fieldLink RX6 16 "HotGroundModel" "age" "[I", .methodLink RX6 99 yX6_steamOf, .static yX6_steamOf, .code yX6_steamOf cX6_steamOf 2 (some .int)] ++ wsX60)
def wsX6_draw : List Cond := .code yX6_draw cX6_draw 5 (some .int) :: ([.fieldLink RX6 96 "HotGroundModel" "turbines" "I", .fieldLink RX6 35 "HotGroundModel" "isOn" "[Z", .fieldLink RX6 26 "HotGroundModel" "least" "[I", .fieldLink RX6 29 "HotGroundModel" "rate" "[I", .fieldLink RX6 32 "HotGroundModel" "most" "[I"] ++ wsX60)
def wsX6_at_r1 : List Cond := [Cond.fieldLink RX6 72 "HotGroundModel" "wells" "I", Cond.fieldLink RX6 19 "HotGroundModel" "isOpen" "[Z", Cond.methodLink RX6 76 yX6_in, Cond.static yX6_in, Cond.initialized RX6, Cond.code yX6_in cX6_in 3 (some .boolean), Cond.methodLink RX6 102 yX6_supply, Cond.instanceMethod yX6_supply, Cond.selects RX6 yX6_supply yX6_supply, Cond.code yX6_supply cX6_supply 4 (some .int), Cond.methodLink RX6 92 yX6_flowOf, Cond.instanceMethod yX6_flowOf, Cond.selects RX6 yX6_flowOf yX6_flowOf, Cond.code yX6_flowOf cX6_flowOf 6 (some .int), Cond.fieldLink RX6 23 "HotGroundModel" "corner" "[I", Cond.fieldLink RX6 7 "HotGroundModel" "kind" "[I", Cond.fieldLink RX6 16 "HotGroundModel" "age" "[I", Cond.methodLink RX6 99 yX6_steamOf, Cond.static yX6_steamOf, Cond.code yX6_steamOf cX6_steamOf 2 (some .int), Cond.methodLink RX6 106 yX6_draw, Cond.instanceMethod yX6_draw, Cond.selects RX6 yX6_draw yX6_draw, Cond.code yX6_draw cX6_draw 5 (some .int)]
def wsX6_at_r2 : List Cond := [Cond.fieldLink RX6 96 "HotGroundModel" "turbines" "I", Cond.fieldLink RX6 35 "HotGroundModel" "isOn" "[Z", Cond.fieldLink RX6 26 "HotGroundModel" "least" "[I", Cond.fieldLink RX6 29 "HotGroundModel" "rate" "[I", Cond.fieldLink RX6 32 "HotGroundModel" "most" "[I"]
def wsX6_at : List Cond := .code yX6_at cX6_at 5 (some .int) :: ((wsX6_at_r1 ++ wsX6_at_r2) ++ wsX60)
def wsX6_point_r1 : List Cond := [Cond.methodLink RX6 102 yX6_supply, Cond.instanceMethod yX6_supply, Cond.selects RX6 yX6_supply yX6_supply, Cond.initialized RX6, Cond.code yX6_supply cX6_supply 4 (some .int), Cond.fieldLink RX6 72 "HotGroundModel" "wells" "I", Cond.fieldLink RX6 19 "HotGroundModel" "isOpen" "[Z", Cond.methodLink RX6 92 yX6_flowOf, Cond.instanceMethod yX6_flowOf, Cond.selects RX6 yX6_flowOf yX6_flowOf, Cond.code yX6_flowOf cX6_flowOf 6 (some .int), Cond.fieldLink RX6 23 "HotGroundModel" "corner" "[I", Cond.fieldLink RX6 7 "HotGroundModel" "kind" "[I", Cond.fieldLink RX6 16 "HotGroundModel" "age" "[I", Cond.methodLink RX6 99 yX6_steamOf, Cond.static yX6_steamOf, Cond.code yX6_steamOf cX6_steamOf 2 (some .int), Cond.methodLink RX6 106 yX6_draw, Cond.instanceMethod yX6_draw, Cond.selects RX6 yX6_draw yX6_draw, Cond.code yX6_draw cX6_draw 5 (some .int), Cond.fieldLink RX6 96 "HotGroundModel" "turbines" "I", Cond.fieldLink RX6 35 "HotGroundModel" "isOn" "[Z", Cond.fieldLink RX6 26 "HotGroundModel" "least" "[I"]
def wsX6_point_r2 : List Cond := [Cond.fieldLink RX6 29 "HotGroundModel" "rate" "[I", Cond.fieldLink RX6 32 "HotGroundModel" "most" "[I"]
def wsX6_point : List Cond := .code yX6_point cX6_point 2 (some .int) :: ((wsX6_point_r1 ++ wsX6_point_r2) ++ wsX60)
def wsX6_isBox : List Cond := .code yX6_isBox cX6_isBox 1 (some .boolean) :: ([.methodLink RX6 76 yX6_in, .static yX6_in, .initialized RX6, .code yX6_in cX6_in 3 (some .boolean)])
def wsX6_fill : List Cond := .code yX6_fill cX6_fill 4 (some .int) :: ([.constant RX6 112 (10000000), .fieldLink RX6 38 "HotGroundModel" "mass" "[J", .fieldLink RX6 42 "HotGroundModel" "heat" "[J", .methodLink RX6 109 yX6_isBox, .static yX6_isBox, .initialized RX6, .code yX6_isBox cX6_isBox 1 (some .boolean), .methodLink RX6 76 yX6_in, .static yX6_in, .code yX6_in cX6_in 3 (some .boolean)] ++ wsX60)
def wsX6_set : List Cond := .code yX6_set cX6_set 5 (some .int) :: ([.fieldLink RX6 45 "HotGroundModel" "leak" "[I", .fieldLink RX6 48 "HotGroundModel" "feed" "[I", .fieldLink RX6 113 "HotGroundModel" "givenShare" "I", .fieldLink RX6 116 "HotGroundModel" "givenBox" "I", .methodLink RX6 76 yX6_in, .static yX6_in, .initialized RX6, .code yX6_in cX6_in 3 (some .boolean), .methodLink RX6 109 yX6_isBox, .static yX6_isBox, .code yX6_isBox cX6_isBox 1 (some .boolean)] ++ wsX60)
def wsX6_goes : List Cond := .code yX6_goes cX6_goes 6 (some .long) :: ([.fieldLink RX6 38 "HotGroundModel" "mass" "[J", .fieldLink RX6 42 "HotGroundModel" "heat" "[J"] ++ wsX60)
def wsX6_comes : List Cond := .code yX6_comes cX6_comes 6 none :: ([.fieldLink RX6 38 "HotGroundModel" "mass" "[J", .fieldLink RX6 42 "HotGroundModel" "heat" "[J"] ++ wsX60)
def wsX6_wellsGive_r1 : List Cond := [Cond.fieldLink RX6 72 "HotGroundModel" "wells" "I", Cond.fieldLink RX6 19 "HotGroundModel" "isOpen" "[Z", Cond.fieldLink RX6 13 "HotGroundModel" "inBox" "[I", Cond.fieldLink RX6 38 "HotGroundModel" "mass" "[J", Cond.fieldLink RX6 51 "HotGroundModel" "sums" "[J", Cond.fieldLink RX6 113 "HotGroundModel" "givenShare" "I", Cond.constantLong RX6 123 (1000), Cond.fieldLink RX6 116 "HotGroundModel" "givenBox" "I", Cond.constantLong RX6 125 (40), Cond.methodLink RX6 92 yX6_flowOf, Cond.instanceMethod yX6_flowOf, Cond.selects RX6 yX6_flowOf yX6_flowOf, Cond.initialized RX6, Cond.code yX6_flowOf cX6_flowOf 6 (some .int), Cond.fieldLink RX6 23 "HotGroundModel" "corner" "[I", Cond.fieldLink RX6 7 "HotGroundModel" "kind" "[I", Cond.fieldLink RX6 16 "HotGroundModel" "age" "[I", Cond.methodLink RX6 119 yX6_goes, Cond.instanceMethod yX6_goes, Cond.selects RX6 yX6_goes yX6_goes, Cond.code yX6_goes cX6_goes 6 (some .long), Cond.fieldLink RX6 42 "HotGroundModel" "heat" "[J", Cond.methodLink RX6 127 yX6_comes, Cond.instanceMethod yX6_comes]
def wsX6_wellsGive_r2 : List Cond := [Cond.selects RX6 yX6_comes yX6_comes, Cond.code yX6_comes cX6_comes 6 none, Cond.methodLink RX6 106 yX6_draw, Cond.instanceMethod yX6_draw, Cond.selects RX6 yX6_draw yX6_draw, Cond.code yX6_draw cX6_draw 5 (some .int), Cond.fieldLink RX6 96 "HotGroundModel" "turbines" "I", Cond.fieldLink RX6 35 "HotGroundModel" "isOn" "[Z", Cond.fieldLink RX6 26 "HotGroundModel" "least" "[I", Cond.fieldLink RX6 29 "HotGroundModel" "rate" "[I", Cond.fieldLink RX6 32 "HotGroundModel" "most" "[I"]
def wsX6_wellsGive : List Cond := .code yX6_wellsGive cX6_wellsGive 10 none :: ((wsX6_wellsGive_r1 ++ wsX6_wellsGive_r2) ++ wsX60)
def wsX6_leaks : List Cond := .code yX6_leaks cX6_leaks 9 none :: ([.fieldLink RX6 38 "HotGroundModel" "mass" "[J", .fieldLink RX6 45 "HotGroundModel" "leak" "[I", .methodLink RX6 119 yX6_goes, .instanceMethod yX6_goes, .selects RX6 yX6_goes yX6_goes, .initialized RX6, .code yX6_goes cX6_goes 6 (some .long), .fieldLink RX6 42 "HotGroundModel" "heat" "[J", .methodLink RX6 127 yX6_comes, .instanceMethod yX6_comes, .selects RX6 yX6_comes yX6_comes, .code yX6_comes cX6_comes 6 none] ++ wsX60)
def wsX6_oneYear_r1 : List Cond := [Cond.fieldLink RX6 51 "HotGroundModel" "sums" "[J", Cond.fieldLink RX6 48 "HotGroundModel" "feed" "[I", Cond.constantLong RX6 142 (10), Cond.fieldLink RX6 72 "HotGroundModel" "wells" "I", Cond.fieldLink RX6 16 "HotGroundModel" "age" "[I", Cond.fieldLink RX6 19 "HotGroundModel" "isOpen" "[Z", Cond.methodLink RX6 131 yX6_point, Cond.instanceMethod yX6_point, Cond.selects RX6 yX6_point yX6_point, Cond.initialized RX6, Cond.code yX6_point cX6_point 2 (some .int), Cond.methodLink RX6 102 yX6_supply, Cond.instanceMethod yX6_supply, Cond.selects RX6 yX6_supply yX6_supply, Cond.code yX6_supply cX6_supply 4 (some .int), Cond.methodLink RX6 92 yX6_flowOf, Cond.instanceMethod yX6_flowOf, Cond.selects RX6 yX6_flowOf yX6_flowOf, Cond.code yX6_flowOf cX6_flowOf 6 (some .int), Cond.fieldLink RX6 23 "HotGroundModel" "corner" "[I", Cond.fieldLink RX6 7 "HotGroundModel" "kind" "[I", Cond.methodLink RX6 99 yX6_steamOf, Cond.static yX6_steamOf, Cond.code yX6_steamOf cX6_steamOf 2 (some .int)]
def wsX6_oneYear_r2 : List Cond := [Cond.methodLink RX6 106 yX6_draw, Cond.instanceMethod yX6_draw, Cond.selects RX6 yX6_draw yX6_draw, Cond.code yX6_draw cX6_draw 5 (some .int), Cond.fieldLink RX6 96 "HotGroundModel" "turbines" "I", Cond.fieldLink RX6 35 "HotGroundModel" "isOn" "[Z", Cond.fieldLink RX6 26 "HotGroundModel" "least" "[I", Cond.fieldLink RX6 29 "HotGroundModel" "rate" "[I", Cond.fieldLink RX6 32 "HotGroundModel" "most" "[I", Cond.methodLink RX6 135 yX6_wellsGive, Cond.instanceMethod yX6_wellsGive, Cond.selects RX6 yX6_wellsGive yX6_wellsGive, Cond.code yX6_wellsGive cX6_wellsGive 10 none, Cond.fieldLink RX6 13 "HotGroundModel" "inBox" "[I", Cond.fieldLink RX6 38 "HotGroundModel" "mass" "[J", Cond.fieldLink RX6 113 "HotGroundModel" "givenShare" "I", Cond.constantLong RX6 123 (1000), Cond.fieldLink RX6 116 "HotGroundModel" "givenBox" "I", Cond.constantLong RX6 125 (40), Cond.methodLink RX6 119 yX6_goes, Cond.instanceMethod yX6_goes, Cond.selects RX6 yX6_goes yX6_goes, Cond.code yX6_goes cX6_goes 6 (some .long), Cond.fieldLink RX6 42 "HotGroundModel" "heat" "[J"]
def wsX6_oneYear_r3 : List Cond := [Cond.methodLink RX6 127 yX6_comes, Cond.instanceMethod yX6_comes, Cond.selects RX6 yX6_comes yX6_comes, Cond.code yX6_comes cX6_comes 6 none, Cond.methodLink RX6 139 yX6_leaks, Cond.instanceMethod yX6_leaks, Cond.selects RX6 yX6_leaks yX6_leaks, Cond.code yX6_leaks cX6_leaks 9 none, Cond.fieldLink RX6 45 "HotGroundModel" "leak" "[I"]
def wsX6_oneYear : List Cond := .code yX6_oneYear cX6_oneYear 3 none :: ((wsX6_oneYear_r1 ++ (wsX6_oneYear_r2 ++ wsX6_oneYear_r3)) ++ wsX60)
def wsX6_year_r1 : List Cond := [Cond.fieldLink RX6 51 "HotGroundModel" "sums" "[J", Cond.methodLink RX6 76 yX6_in, Cond.static yX6_in, Cond.initialized RX6, Cond.code yX6_in cX6_in 3 (some .boolean), Cond.methodLink RX6 144 yX6_oneYear, Cond.instanceMethod yX6_oneYear, Cond.selects RX6 yX6_oneYear yX6_oneYear, Cond.code yX6_oneYear cX6_oneYear 3 none, Cond.fieldLink RX6 48 "HotGroundModel" "feed" "[I", Cond.constantLong RX6 142 (10), Cond.fieldLink RX6 72 "HotGroundModel" "wells" "I", Cond.fieldLink RX6 16 "HotGroundModel" "age" "[I", Cond.fieldLink RX6 19 "HotGroundModel" "isOpen" "[Z", Cond.methodLink RX6 131 yX6_point, Cond.instanceMethod yX6_point, Cond.selects RX6 yX6_point yX6_point, Cond.code yX6_point cX6_point 2 (some .int), Cond.methodLink RX6 102 yX6_supply, Cond.instanceMethod yX6_supply, Cond.selects RX6 yX6_supply yX6_supply, Cond.code yX6_supply cX6_supply 4 (some .int), Cond.methodLink RX6 92 yX6_flowOf, Cond.instanceMethod yX6_flowOf]
def wsX6_year_r2 : List Cond := [Cond.selects RX6 yX6_flowOf yX6_flowOf, Cond.code yX6_flowOf cX6_flowOf 6 (some .int), Cond.fieldLink RX6 23 "HotGroundModel" "corner" "[I", Cond.fieldLink RX6 7 "HotGroundModel" "kind" "[I", Cond.methodLink RX6 99 yX6_steamOf, Cond.static yX6_steamOf, Cond.code yX6_steamOf cX6_steamOf 2 (some .int), Cond.methodLink RX6 106 yX6_draw, Cond.instanceMethod yX6_draw, Cond.selects RX6 yX6_draw yX6_draw, Cond.code yX6_draw cX6_draw 5 (some .int), Cond.fieldLink RX6 96 "HotGroundModel" "turbines" "I", Cond.fieldLink RX6 35 "HotGroundModel" "isOn" "[Z", Cond.fieldLink RX6 26 "HotGroundModel" "least" "[I", Cond.fieldLink RX6 29 "HotGroundModel" "rate" "[I", Cond.fieldLink RX6 32 "HotGroundModel" "most" "[I", Cond.methodLink RX6 135 yX6_wellsGive, Cond.instanceMethod yX6_wellsGive, Cond.selects RX6 yX6_wellsGive yX6_wellsGive, Cond.code yX6_wellsGive cX6_wellsGive 10 none, Cond.fieldLink RX6 13 "HotGroundModel" "inBox" "[I", Cond.fieldLink RX6 38 "HotGroundModel" "mass" "[J", Cond.fieldLink RX6 113 "HotGroundModel" "givenShare" "I", Cond.constantLong RX6 123 (1000)]
def wsX6_year_r3 : List Cond := [Cond.fieldLink RX6 116 "HotGroundModel" "givenBox" "I", Cond.constantLong RX6 125 (40), Cond.methodLink RX6 119 yX6_goes, Cond.instanceMethod yX6_goes, Cond.selects RX6 yX6_goes yX6_goes, Cond.code yX6_goes cX6_goes 6 (some .long), Cond.fieldLink RX6 42 "HotGroundModel" "heat" "[J", Cond.methodLink RX6 127 yX6_comes, Cond.instanceMethod yX6_comes, Cond.selects RX6 yX6_comes yX6_comes, Cond.code yX6_comes cX6_comes 6 none, Cond.methodLink RX6 139 yX6_leaks, Cond.instanceMethod yX6_leaks, Cond.selects RX6 yX6_leaks yX6_leaks, Cond.code yX6_leaks cX6_leaks 9 none, Cond.fieldLink RX6 45 "HotGroundModel" "leak" "[I"]
def wsX6_year : List Cond := .code yX6_year cX6_year 3 (some .int) :: ((wsX6_year_r1 ++ (wsX6_year_r2 ++ wsX6_year_r3)) ++ wsX60)
def wsX6_box : List Cond := .code yX6_box cX6_box 3 (some .long) :: ([.constantLong RX6 147 (-1), .fieldLink RX6 38 "HotGroundModel" "mass" "[J", .fieldLink RX6 42 "HotGroundModel" "heat" "[J", .methodLink RX6 109 yX6_isBox, .static yX6_isBox, .initialized RX6, .code yX6_isBox cX6_isBox 1 (some .boolean), .methodLink RX6 76 yX6_in, .static yX6_in, .code yX6_in cX6_in 3 (some .boolean)] ++ wsX60)
def wsX6_sum : List Cond := .code yX6_sum cX6_sum 2 (some .long) :: ([.fieldLink RX6 51 "HotGroundModel" "sums" "[J", .constantLong RX6 147 (-1), .methodLink RX6 76 yX6_in, .static yX6_in, .initialized RX6, .code yX6_in cX6_in 3 (some .boolean)] ++ wsX60)
def wsX6_share : List Cond := .code yX6_share cX6_share 5 (some .int) :: ([.fieldLink RX6 54 "HotGroundModel" "share" "[I", .methodLink RX6 76 yX6_in, .static yX6_in, .initialized RX6, .code yX6_in cX6_in 3 (some .boolean)] ++ wsX60)
def wsX6_put : List Cond := .code yX6_put cX6_put 2 (some .int) :: ([.constant RX6 149 (1000000), .fieldLink RX6 150 "HotGroundModel" "told" "I", .fieldLink RX6 57 "HotGroundModel" "put" "[I", .methodLink RX6 76 yX6_in, .static yX6_in, .initialized RX6, .code yX6_in cX6_in 3 (some .boolean)] ++ wsX60)
def wsX6_back : List Cond := .code yX6_back cX6_back 5 (some .int) :: ([.fieldLink RX6 150 "HotGroundModel" "told" "I", .fieldLink RX6 57 "HotGroundModel" "put" "[I", .fieldLink RX6 54 "HotGroundModel" "share" "[I", .methodLink RX6 76 yX6_in, .static yX6_in, .initialized RX6, .code yX6_in cX6_in 3 (some .boolean)] ++ wsX60)
def wsX6_cut : List Cond := .code yX6_cut cX6_cut 1 (some .int) :: ([.fieldLink RX6 150 "HotGroundModel" "told" "I"] ++ wsX60)
def wsX6_candidate : List Cond := .code yX6_candidate cX6_candidate 4 (some .int) :: ([.fieldLink RX6 153 "HotGroundModel" "candidates" "I", .fieldLink RX6 60 "HotGroundModel" "cost" "[I", .fieldLink RX6 63 "HotGroundModel" "fromYear" "[I", .fieldLink RX6 66 "HotGroundModel" "gives" "[I", .methodLink RX6 76 yX6_in, .static yX6_in, .initialized RX6, .code yX6_in cX6_in 3 (some .boolean)] ++ wsX60)
def wsX6_promise : List Cond := .code yX6_promise cX6_promise 4 (some .int) :: ([.fieldLink RX6 69 "HotGroundModel" "promise" "[I", .methodLink RX6 76 yX6_in, .static yX6_in, .initialized RX6, .code yX6_in cX6_in 3 (some .boolean)] ++ wsX60)
def wsX6_lack : List Cond := .code yX6_lack cX6_lack 5 (some .int) :: ([.fieldLink RX6 69 "HotGroundModel" "promise" "[I", .fieldLink RX6 153 "HotGroundModel" "candidates" "I", .fieldLink RX6 63 "HotGroundModel" "fromYear" "[I", .fieldLink RX6 66 "HotGroundModel" "gives" "[I"] ++ wsX60)
def wsX6_costOf : List Cond := .code yX6_costOf cX6_costOf 4 (some .int) :: ([.fieldLink RX6 153 "HotGroundModel" "candidates" "I", .fieldLink RX6 60 "HotGroundModel" "cost" "[I"] ++ wsX60)
def wsX6_plan : List Cond := .code yX6_plan cX6_plan 6 (some .int) :: ([.fieldLink RX6 153 "HotGroundModel" "candidates" "I", .methodLink RX6 76 yX6_in, .static yX6_in, .initialized RX6, .code yX6_in cX6_in 3 (some .boolean), .methodLink RX6 156 yX6_lack, .instanceMethod yX6_lack, .selects RX6 yX6_lack yX6_lack, .code yX6_lack cX6_lack 5 (some .int), .fieldLink RX6 69 "HotGroundModel" "promise" "[I", .fieldLink RX6 63 "HotGroundModel" "fromYear" "[I", .fieldLink RX6 66 "HotGroundModel" "gives" "[I", .methodLink RX6 159 yX6_costOf, .instanceMethod yX6_costOf, .selects RX6 yX6_costOf yX6_costOf, .code yX6_costOf cX6_costOf 4 (some .int), .fieldLink RX6 60 "HotGroundModel" "cost" "[I"] ++ wsX60)
def wsX6_lacks : List Cond := .code yX6_lacks cX6_lacks 3 (some .int) :: ([.fieldLink RX6 153 "HotGroundModel" "candidates" "I", .methodLink RX6 76 yX6_in, .static yX6_in, .initialized RX6, .code yX6_in cX6_in 3 (some .boolean), .methodLink RX6 156 yX6_lack, .instanceMethod yX6_lack, .selects RX6 yX6_lack yX6_lack, .code yX6_lack cX6_lack 5 (some .int), .fieldLink RX6 69 "HotGroundModel" "promise" "[I", .fieldLink RX6 63 "HotGroundModel" "fromYear" "[I", .fieldLink RX6 66 "HotGroundModel" "gives" "[I"] ++ wsX60)
def wsX6_count : List Cond := .code yX6_count cX6_count 4 (some .int) :: ([.fieldLink RX6 72 "HotGroundModel" "wells" "I", .fieldLink RX6 96 "HotGroundModel" "turbines" "I", .fieldLink RX6 153 "HotGroundModel" "candidates" "I", .fieldLink RX6 150 "HotGroundModel" "told" "I", .fieldLink RX6 19 "HotGroundModel" "isOpen" "[Z", .fieldLink RX6 35 "HotGroundModel" "isOn" "[Z"] ++ wsX60)
def wsX6_trace : List Cond := .code yX6_trace cX6_trace 1 (some .long) :: ([.fieldLink RX6 84 "HotGroundModel" "trace" "J"] ++ wsX60)
def wsJ9_max_7cf53 : List Cond := .code yJ9_max_7cf53 cJ9_max_7cf53 2 (some .int) :: ([])
def wsJ9_min_7cf53 : List Cond := .code yJ9_min_7cf53 cJ9_min_7cf53 2 (some .int) :: ([])
def wsJ9_min_f86c9 : List Cond := .code yJ9_min_f86c9 cJ9_min_f86c9 4 (some .long) :: ([])
def wsL_law_r1 : List Cond := [Cond.classLink RL 7 RX5, Cond.instantiable RX5 6, Cond.initialized RX5, Cond.classLink RL 10 RX6, Cond.instantiable RX6 27, Cond.initialized RX6, Cond.methodLink RL 9 yX5_init, Cond.instanceMethod yX5_init, Cond.code yX5_init cX5_init 1 none, Cond.methodLink RX5 1 objectInit, Cond.instanceMethod objectInit, Cond.code objectInit ⟨#[0xb1]⟩ 1 none, Cond.classLink RX5 7 RX4, Cond.instantiable RX4 6, Cond.initialized RX4, Cond.fieldLink RX5 10 "HotGround" "wells" "LHotGround$Wells;", Cond.classLink RX5 16 RX3, Cond.instantiable RX3 5, Cond.initialized RX3, Cond.fieldLink RX5 19 "HotGround" "plant" "LHotGround$Plant;", Cond.classLink RX5 23 RX0, Cond.instantiable RX0 7, Cond.initialized RX0, Cond.fieldLink RX5 26 "HotGround" "ground" "LHotGround$Ground;"]
def wsL_law_r2 : List Cond := [Cond.classLink RX5 30 RX1, Cond.instantiable RX1 3, Cond.initialized RX1, Cond.fieldLink RX5 33 "HotGround" "kernel" "LHotGround$Kernel;", Cond.classLink RX5 37 RX2, Cond.instantiable RX2 5, Cond.initialized RX2, Cond.fieldLink RX5 40 "HotGround" "offers" "LHotGround$Offers;", Cond.fieldLink RX5 44 "HotGround" "trace" "J", Cond.instanceMethod yX4_init, Cond.code yX4_init cX4_init 1 none, Cond.methodLink RX4 1 objectInit, Cond.arrayClass .int, Cond.fieldLink RX4 9 "HotGround$Wells" "kind" "[I", Cond.fieldLink RX4 13 "HotGround$Wells" "box" "[I", Cond.fieldLink RX4 16 "HotGround$Wells" "age" "[I", Cond.arrayClass .boolean, Cond.fieldLink RX4 19 "HotGround$Wells" "open" "[Z", Cond.fieldLink RX4 23 "HotGround$Wells" "corners" "[I", Cond.instanceMethod yX3_init, Cond.code yX3_init cX3_init 1 none, Cond.methodLink RX3 1 objectInit, Cond.fieldLink RX3 9 "HotGround$Plant" "least" "[I", Cond.fieldLink RX3 13 "HotGround$Plant" "rate" "[I"]
def wsL_law_r3 : List Cond := [Cond.fieldLink RX3 16 "HotGround$Plant" "most" "[I", Cond.fieldLink RX3 19 "HotGround$Plant" "on" "[Z", Cond.instanceMethod yX0_init, Cond.code yX0_init cX0_init 1 none, Cond.methodLink RX0 1 objectInit, Cond.arrayClass .long, Cond.fieldLink RX0 9 "HotGround$Ground" "mass" "[J", Cond.fieldLink RX0 13 "HotGround$Ground" "heat" "[J", Cond.fieldLink RX0 16 "HotGround$Ground" "feed" "[I", Cond.fieldLink RX0 20 "HotGround$Ground" "leak" "[I", Cond.fieldLink RX0 23 "HotGround$Ground" "sums" "[J", Cond.instanceMethod yX1_init, Cond.code yX1_init cX1_init 1 none, Cond.methodLink RX1 1 objectInit, Cond.fieldLink RX1 9 "HotGround$Kernel" "shares" "[I", Cond.fieldLink RX1 13 "HotGround$Kernel" "amounts" "[I", Cond.instanceMethod yX2_init, Cond.code yX2_init cX2_init 1 none, Cond.methodLink RX2 3 objectInit, Cond.fieldLink RX2 11 "HotGround$Offers" "cost" "[I", Cond.fieldLink RX2 15 "HotGround$Offers" "from" "[I", Cond.fieldLink RX2 18 "HotGround$Offers" "steam" "[I", Cond.fieldLink RX2 21 "HotGround$Offers" "promised" "[I", Cond.methodLink RL 12 yX6_init]
def wsL_law_r4 : List Cond := [Cond.instanceMethod yX6_init, Cond.code yX6_init cX6_init 1 none, Cond.methodLink RX6 1 objectInit, Cond.fieldLink RX6 7 "HotGroundModel" "kind" "[I", Cond.fieldLink RX6 13 "HotGroundModel" "inBox" "[I", Cond.fieldLink RX6 16 "HotGroundModel" "age" "[I", Cond.fieldLink RX6 19 "HotGroundModel" "isOpen" "[Z", Cond.fieldLink RX6 23 "HotGroundModel" "corner" "[I", Cond.fieldLink RX6 26 "HotGroundModel" "least" "[I", Cond.fieldLink RX6 29 "HotGroundModel" "rate" "[I", Cond.fieldLink RX6 32 "HotGroundModel" "most" "[I", Cond.fieldLink RX6 35 "HotGroundModel" "isOn" "[Z", Cond.fieldLink RX6 38 "HotGroundModel" "mass" "[J", Cond.fieldLink RX6 42 "HotGroundModel" "heat" "[J", Cond.fieldLink RX6 45 "HotGroundModel" "leak" "[I", Cond.fieldLink RX6 48 "HotGroundModel" "feed" "[I", Cond.fieldLink RX6 51 "HotGroundModel" "sums" "[J", Cond.fieldLink RX6 54 "HotGroundModel" "share" "[I", Cond.fieldLink RX6 57 "HotGroundModel" "put" "[I", Cond.fieldLink RX6 60 "HotGroundModel" "cost" "[I", Cond.fieldLink RX6 63 "HotGroundModel" "fromYear" "[I", Cond.fieldLink RX6 66 "HotGroundModel" "gives" "[I", Cond.fieldLink RX6 69 "HotGroundModel" "promise" "[I", Cond.fieldLink RX6 72 "HotGroundModel" "wells" "I"]
def wsL_law_r5 : List Cond := [Cond.methodLink RL 13 yX5_well, Cond.instanceMethod yX5_well, Cond.selects RX5 yX5_well yX5_well, Cond.code yX5_well cX5_well 9 (some .int), Cond.fieldLink RX5 52 "HotGround$Wells" "count" "I", Cond.methodLink RX5 48 yX5_within, Cond.static yX5_within, Cond.code yX5_within cX5_within 3 (some .boolean), Cond.methodLink RX5 56 yX4_add, Cond.instanceMethod yX4_add, Cond.selects RX4 yX4_add yX4_add, Cond.code yX4_add cX4_add 4 (some .int), Cond.fieldLink RX4 26 "HotGround$Wells" "count" "I", Cond.methodLink RX5 60 yX4_shape, Cond.instanceMethod yX4_shape, Cond.selects RX4 yX4_shape yX4_shape, Cond.code yX4_shape cX4_shape 8 none, Cond.methodLink RL 17 yX6_well, Cond.instanceMethod yX6_well, Cond.selects RX6 yX6_well yX6_well, Cond.code yX6_well cX6_well 9 (some .int), Cond.methodLink RX6 76 yX6_in, Cond.static yX6_in, Cond.code yX6_in cX6_in 3 (some .boolean)]
def wsL_law_r6 : List Cond := [Cond.methodLink RL 18 yX5_open, Cond.instanceMethod yX5_open, Cond.selects RX5 yX5_open yX5_open, Cond.code yX5_open cX5_open 4 (some .int), Cond.fieldLink RX5 68 "HotGround$Wells" "open" "[Z", Cond.methodLink RX5 64 yX5_isWell, Cond.instanceMethod yX5_isWell, Cond.selects RX5 yX5_isWell yX5_isWell, Cond.code yX5_isWell cX5_isWell 2 (some .boolean), Cond.methodLink RL 22 yX6_open, Cond.instanceMethod yX6_open, Cond.selects RX6 yX6_open yX6_open, Cond.code yX6_open cX6_open 4 (some .int), Cond.methodLink RX6 80 yX6_isWell, Cond.instanceMethod yX6_isWell, Cond.selects RX6 yX6_isWell yX6_isWell, Cond.code yX6_isWell cX6_isWell 2 (some .boolean), Cond.methodLink RL 23 yX5_clean, Cond.instanceMethod yX5_clean, Cond.selects RX5 yX5_clean yX5_clean, Cond.code yX5_clean cX5_clean 3 (some .int), Cond.fieldLink RX5 72 "HotGround$Wells" "age" "[I", Cond.methodLink RL 27 yX6_clean, Cond.instanceMethod yX6_clean]
def wsL_law_r7 : List Cond := [Cond.selects RX6 yX6_clean yX6_clean, Cond.code yX6_clean cX6_clean 3 (some .int), Cond.methodLink RL 28 yX5_flow, Cond.instanceMethod yX5_flow, Cond.selects RX5 yX5_flow yX5_flow, Cond.code yX5_flow cX5_flow 3 (some .int), Cond.methodLink RX5 76 yX5_isPressure, Cond.static yX5_isPressure, Cond.code yX5_isPressure cX5_isPressure 1 (some .boolean), Cond.methodLink RX5 79 yX4_weight, Cond.instanceMethod yX4_weight, Cond.selects RX4 yX4_weight yX4_weight, Cond.code yX4_weight cX4_weight 3 (some .int), Cond.methodLink RX5 83 yX4_fifths, Cond.instanceMethod yX4_fifths, Cond.selects RX4 yX4_fifths yX4_fifths, Cond.code yX4_fifths cX4_fifths 4 (some .int), Cond.methodLink RX4 30 yX4_plain, Cond.instanceMethod yX4_plain, Cond.selects RX4 yX4_plain yX4_plain, Cond.code yX4_plain cX4_plain 6 (some .int), Cond.methodLink RX4 34 yX4_scaled, Cond.static yX4_scaled, Cond.code yX4_scaled cX4_scaled 2 (some .int)]
def wsL_law_r8 : List Cond := [Cond.methodLink RX4 37 yX4_tested, Cond.static yX4_tested, Cond.code yX4_tested cX4_tested 1 (some .int), Cond.methodLink RX4 41 Lib.Math.min.name, Cond.static Lib.Math.min.name, Cond.initialized "java/lang/Math", Cond.code Lib.Math.min.name Lib.Math.min.code 2 (some .int), Cond.methodLink RL 32 yX6_flow, Cond.instanceMethod yX6_flow, Cond.selects RX6 yX6_flow yX6_flow, Cond.code yX6_flow cX6_flow 3 (some .int), Cond.fieldLink RX6 84 "HotGroundModel" "trace" "J", Cond.constantLong RX6 88 (11), Cond.constantLong RX6 90 (111), Cond.methodLink RX6 92 yX6_flowOf, Cond.instanceMethod yX6_flowOf, Cond.selects RX6 yX6_flowOf yX6_flowOf, Cond.code yX6_flowOf cX6_flowOf 6 (some .int), Cond.methodLink RL 33 yX5_about, Cond.instanceMethod yX5_about, Cond.selects RX5 yX5_about yX5_about, Cond.code yX5_about cX5_about 3 (some .int), Cond.fieldLink RX5 86 "HotGround$Wells" "kind" "[I", Cond.fieldLink RX5 89 "HotGround$Wells" "box" "[I"]
def wsL_law_r9 : List Cond := [Cond.fieldLink RX5 92 "HotGround$Wells" "corners" "[I", Cond.methodLink RL 36 yX6_about, Cond.instanceMethod yX6_about, Cond.selects RX6 yX6_about yX6_about, Cond.code yX6_about cX6_about 3 (some .int), Cond.methodLink RL 37 yX5_turbine, Cond.instanceMethod yX5_turbine, Cond.selects RX5 yX5_turbine yX5_turbine, Cond.code yX5_turbine cX5_turbine 4 (some .int), Cond.fieldLink RX5 95 "HotGround$Plant" "count" "I", Cond.methodLink RX5 96 yX3_add, Cond.instanceMethod yX3_add, Cond.selects RX3 yX3_add yX3_add, Cond.code yX3_add cX3_add 5 (some .int), Cond.fieldLink RX3 23 "HotGround$Plant" "count" "I", Cond.methodLink RL 41 yX6_turbine, Cond.instanceMethod yX6_turbine, Cond.selects RX6 yX6_turbine yX6_turbine, Cond.code yX6_turbine cX6_turbine 4 (some .int), Cond.fieldLink RX6 96 "HotGroundModel" "turbines" "I", Cond.methodLink RL 42 yX5_on, Cond.instanceMethod yX5_on, Cond.selects RX5 yX5_on yX5_on, Cond.code yX5_on cX5_on 4 (some .int)]
def wsL_law_r10 : List Cond := [Cond.fieldLink RX5 99 "HotGround$Plant" "on" "[Z", Cond.methodLink RL 45 yX6_on, Cond.instanceMethod yX6_on, Cond.selects RX6 yX6_on yX6_on, Cond.code yX6_on cX6_on 4 (some .int), Cond.methodLink RL 46 yX5_at, Cond.instanceMethod yX5_at, Cond.selects RX5 yX5_at yX5_at, Cond.code yX5_at cX5_at 3 (some .int), Cond.methodLink RX5 102 yX4_supply, Cond.instanceMethod yX4_supply, Cond.selects RX4 yX4_supply yX4_supply, Cond.code yX4_supply cX4_supply 4 (some .int), Cond.methodLink RX4 46 yX4_fifths, Cond.methodLink RX4 49 yX4_steam, Cond.static yX4_steam, Cond.code yX4_steam cX4_steam 2 (some .int), Cond.methodLink RX5 105 yX3_draw, Cond.instanceMethod yX3_draw, Cond.selects RX3 yX3_draw yX3_draw, Cond.code yX3_draw cX3_draw 4 (some .int), Cond.methodLink RX3 27 Lib.Math.min.name, Cond.methodLink RX5 108 yX4_water, Cond.instanceMethod yX4_water]
def wsL_law_r11 : List Cond := [Cond.selects RX4 yX4_water yX4_water, Cond.code yX4_water cX4_water 5 (some .int), Cond.methodLink RL 49 yX6_at, Cond.instanceMethod yX6_at, Cond.selects RX6 yX6_at yX6_at, Cond.code yX6_at cX6_at 5 (some .int), Cond.methodLink RX6 102 yX6_supply, Cond.instanceMethod yX6_supply, Cond.selects RX6 yX6_supply yX6_supply, Cond.code yX6_supply cX6_supply 4 (some .int), Cond.methodLink RX6 99 yX6_steamOf, Cond.static yX6_steamOf, Cond.code yX6_steamOf cX6_steamOf 2 (some .int), Cond.methodLink RX6 106 yX6_draw, Cond.instanceMethod yX6_draw, Cond.selects RX6 yX6_draw yX6_draw, Cond.code yX6_draw cX6_draw 5 (some .int), Cond.methodLink RL 50 yX5_point, Cond.instanceMethod yX5_point, Cond.selects RX5 yX5_point yX5_point, Cond.code yX5_point cX5_point 1 (some .int), Cond.methodLink RX5 111 yX5_meeting, Cond.instanceMethod yX5_meeting, Cond.selects RX5 yX5_meeting yX5_meeting]
def wsL_law_r12 : List Cond := [Cond.code yX5_meeting cX5_meeting 2 (some .int), Cond.methodLink RL 54 yX6_point, Cond.instanceMethod yX6_point, Cond.selects RX6 yX6_point yX6_point, Cond.code yX6_point cX6_point 2 (some .int), Cond.methodLink RL 55 yX5_fill, Cond.instanceMethod yX5_fill, Cond.selects RX5 yX5_fill yX5_fill, Cond.code yX5_fill cX5_fill 4 (some .int), Cond.constant RX5 118 (10000000), Cond.fieldLink RX5 119 "HotGround$Ground" "mass" "[J", Cond.fieldLink RX5 123 "HotGround$Ground" "heat" "[J", Cond.methodLink RX5 115 yX5_isBox, Cond.static yX5_isBox, Cond.code yX5_isBox cX5_isBox 1 (some .boolean), Cond.methodLink RL 58 yX6_fill, Cond.instanceMethod yX6_fill, Cond.selects RX6 yX6_fill yX6_fill, Cond.code yX6_fill cX6_fill 4 (some .int), Cond.constant RX6 112 (10000000), Cond.methodLink RX6 109 yX6_isBox, Cond.static yX6_isBox, Cond.code yX6_isBox cX6_isBox 1 (some .boolean), Cond.methodLink RL 59 yX5_set]
def wsL_law_r13 : List Cond := [Cond.instanceMethod yX5_set, Cond.selects RX5 yX5_set yX5_set, Cond.code yX5_set cX5_set 4 (some .int), Cond.methodLink RX5 126 yX5_setLeak, Cond.instanceMethod yX5_setLeak, Cond.selects RX5 yX5_setLeak yX5_setLeak, Cond.code yX5_setLeak cX5_setLeak 4 (some .int), Cond.fieldLink RX5 184 "HotGround$Ground" "leak" "[I", Cond.methodLink RX5 129 yX5_setFeed, Cond.instanceMethod yX5_setFeed, Cond.selects RX5 yX5_setFeed yX5_setFeed, Cond.code yX5_setFeed cX5_setFeed 4 (some .int), Cond.fieldLink RX5 187 "HotGround$Ground" "feed" "[I", Cond.methodLink RX5 132 yX5_setGivenShare, Cond.instanceMethod yX5_setGivenShare, Cond.selects RX5 yX5_setGivenShare yX5_setGivenShare, Cond.code yX5_setGivenShare cX5_setGivenShare 3 (some .int), Cond.fieldLink RX5 190 "HotGround$Ground" "givenShare" "I", Cond.methodLink RX5 135 yX5_setGivenBox, Cond.instanceMethod yX5_setGivenBox, Cond.selects RX5 yX5_setGivenBox yX5_setGivenBox, Cond.code yX5_setGivenBox cX5_setGivenBox 3 (some .int), Cond.fieldLink RX5 193 "HotGround$Ground" "givenBox" "I", Cond.methodLink RL 62 yX6_set]
def wsL_law_r14 : List Cond := [Cond.instanceMethod yX6_set, Cond.selects RX6 yX6_set yX6_set, Cond.code yX6_set cX6_set 5 (some .int), Cond.fieldLink RX6 113 "HotGroundModel" "givenShare" "I", Cond.fieldLink RX6 116 "HotGroundModel" "givenBox" "I", Cond.methodLink RL 63 yX5_year, Cond.instanceMethod yX5_year, Cond.selects RX5 yX5_year yX5_year, Cond.code yX5_year cX5_year 3 (some .int), Cond.fieldLink RX5 141 "HotGround$Ground" "sums" "[J", Cond.methodLink RX5 138 yX5_passYear, Cond.instanceMethod yX5_passYear, Cond.selects RX5 yX5_passYear yX5_passYear, Cond.code yX5_passYear cX5_passYear 2 none, Cond.methodLink RX5 196 yX5_takeAll, Cond.instanceMethod yX5_takeAll, Cond.selects RX5 yX5_takeAll yX5_takeAll, Cond.code yX5_takeAll cX5_takeAll 5 (some .long), Cond.methodLink RX5 213 yX0_take, Cond.instanceMethod yX0_take, Cond.selects RX0 yX0_take yX0_take, Cond.code yX0_take cX0_take 8 (some .long), Cond.methodLink RX0 26 Lib.MathLoose.min_long.x, Cond.static Lib.MathLoose.min_long.x]
def wsL_law_r15 : List Cond := [Cond.code Lib.MathLoose.min_long.x Lib.MathLoose.min_long.code 4 (some .long), Cond.methodLink RX0 32 yX0_heatOf, Cond.instanceMethod yX0_heatOf, Cond.selects RX0 yX0_heatOf yX0_heatOf, Cond.code yX0_heatOf cX0_heatOf 4 (some .long), Cond.methodLink RX0 36 yX0_book, Cond.instanceMethod yX0_book, Cond.selects RX0 yX0_book yX0_book, Cond.code yX0_book cX0_book 6 none, Cond.methodLink RX5 200 yX0_giveBack, Cond.instanceMethod yX0_giveBack, Cond.selects RX0 yX0_giveBack yX0_giveBack, Cond.code yX0_giveBack cX0_giveBack 5 none, Cond.fieldLink RX0 40 "HotGround$Ground" "givenShare" "I", Cond.constantLong RX0 44 (1000), Cond.fieldLink RX0 46 "HotGround$Ground" "givenBox" "I", Cond.constantLong RX0 49 (40), Cond.methodLink RX0 51 yX0_pour, Cond.instanceMethod yX0_pour, Cond.selects RX0 yX0_pour yX0_pour, Cond.code yX0_pour cX0_pour 6 none, Cond.methodLink RX5 204 yX0_leakAll, Cond.instanceMethod yX0_leakAll, Cond.selects RX0 yX0_leakAll yX0_leakAll]
def wsL_law_r16 : List Cond := [Cond.code yX0_leakAll cX0_leakAll 9 none, Cond.methodLink RX5 207 yX0_feedAll, Cond.instanceMethod yX0_feedAll, Cond.selects RX0 yX0_feedAll yX0_feedAll, Cond.code yX0_feedAll cX0_feedAll 4 none, Cond.constantLong RX0 54 (10), Cond.methodLink RX5 210 yX4_grow, Cond.instanceMethod yX4_grow, Cond.selects RX4 yX4_grow yX4_grow, Cond.code yX4_grow cX4_grow 2 none, Cond.methodLink RL 66 yX6_year, Cond.instanceMethod yX6_year, Cond.selects RX6 yX6_year yX6_year, Cond.code yX6_year cX6_year 3 (some .int), Cond.methodLink RX6 144 yX6_oneYear, Cond.instanceMethod yX6_oneYear, Cond.selects RX6 yX6_oneYear yX6_oneYear, Cond.code yX6_oneYear cX6_oneYear 3 none, Cond.constantLong RX6 142 (10), Cond.methodLink RX6 131 yX6_point, Cond.methodLink RX6 135 yX6_wellsGive, Cond.instanceMethod yX6_wellsGive, Cond.selects RX6 yX6_wellsGive yX6_wellsGive, Cond.code yX6_wellsGive cX6_wellsGive 10 none]
def wsL_law_r17 : List Cond := [Cond.constantLong RX6 123 (1000), Cond.constantLong RX6 125 (40), Cond.methodLink RX6 119 yX6_goes, Cond.instanceMethod yX6_goes, Cond.selects RX6 yX6_goes yX6_goes, Cond.code yX6_goes cX6_goes 6 (some .long), Cond.methodLink RX6 127 yX6_comes, Cond.instanceMethod yX6_comes, Cond.selects RX6 yX6_comes yX6_comes, Cond.code yX6_comes cX6_comes 6 none, Cond.methodLink RX6 139 yX6_leaks, Cond.instanceMethod yX6_leaks, Cond.selects RX6 yX6_leaks yX6_leaks, Cond.code yX6_leaks cX6_leaks 9 none, Cond.methodLink RL 67 yX5_box, Cond.instanceMethod yX5_box, Cond.selects RX5 yX5_box yX5_box, Cond.code yX5_box cX5_box 3 (some .long), Cond.constantLong RX5 144 (-1), Cond.methodLink RL 71 yX6_box, Cond.instanceMethod yX6_box, Cond.selects RX6 yX6_box yX6_box, Cond.code yX6_box cX6_box 3 (some .long), Cond.constantLong RX6 147 (-1)]
def wsL_law_r18 : List Cond := [Cond.methodLink RL 72 yX5_sum, Cond.instanceMethod yX5_sum, Cond.selects RX5 yX5_sum yX5_sum, Cond.code yX5_sum cX5_sum 2 (some .long), Cond.methodLink RL 76 yX6_sum, Cond.instanceMethod yX6_sum, Cond.selects RX6 yX6_sum yX6_sum, Cond.code yX6_sum cX6_sum 2 (some .long), Cond.methodLink RL 77 yX5_share, Cond.instanceMethod yX5_share, Cond.selects RX5 yX5_share yX5_share, Cond.code yX5_share cX5_share 4 (some .int), Cond.fieldLink RX5 146 "HotGround$Kernel" "shares" "[I", Cond.methodLink RX5 149 yX1_together, Cond.instanceMethod yX1_together, Cond.selects RX1 yX1_together yX1_together, Cond.code yX1_together cX1_together 3 (some .int), Cond.methodLink RL 80 yX6_share, Cond.instanceMethod yX6_share, Cond.selects RX6 yX6_share yX6_share, Cond.code yX6_share cX6_share 5 (some .int), Cond.methodLink RL 81 yX5_put, Cond.instanceMethod yX5_put, Cond.selects RX5 yX5_put yX5_put]
def wsL_law_r19 : List Cond := [Cond.code yX5_put cX5_put 2 (some .int), Cond.constant RX5 152 (1000000), Cond.fieldLink RX5 153 "HotGround$Kernel" "count" "I", Cond.fieldLink RX5 154 "HotGround$Kernel" "amounts" "[I", Cond.methodLink RL 84 yX6_put, Cond.instanceMethod yX6_put, Cond.selects RX6 yX6_put yX6_put, Cond.code yX6_put cX6_put 2 (some .int), Cond.constant RX6 149 (1000000), Cond.fieldLink RX6 150 "HotGroundModel" "told" "I", Cond.methodLink RL 85 yX5_back, Cond.instanceMethod yX5_back, Cond.selects RX5 yX5_back yX5_back, Cond.code yX5_back cX5_back 2 (some .int), Cond.methodLink RX5 157 yX1_comes, Cond.instanceMethod yX1_comes, Cond.selects RX1 yX1_comes yX1_comes, Cond.code yX1_comes cX1_comes 5 (some .int), Cond.fieldLink RX1 16 "HotGround$Kernel" "count" "I", Cond.methodLink RL 88 yX6_back, Cond.instanceMethod yX6_back, Cond.selects RX6 yX6_back yX6_back, Cond.code yX6_back cX6_back 5 (some .int), Cond.methodLink RL 89 yX5_cut]
def wsL_law_r20 : List Cond := [Cond.instanceMethod yX5_cut, Cond.selects RX5 yX5_cut yX5_cut, Cond.code yX5_cut cX5_cut 1 (some .int), Cond.methodLink RL 92 yX6_cut, Cond.instanceMethod yX6_cut, Cond.selects RX6 yX6_cut yX6_cut, Cond.code yX6_cut cX6_cut 1 (some .int), Cond.methodLink RL 93 yX5_candidate, Cond.instanceMethod yX5_candidate, Cond.selects RX5 yX5_candidate yX5_candidate, Cond.code yX5_candidate cX5_candidate 4 (some .int), Cond.fieldLink RX5 163 "HotGround$Offers" "count" "I", Cond.methodLink RX5 160 yX5_isPlanYear, Cond.static yX5_isPlanYear, Cond.code yX5_isPlanYear cX5_isPlanYear 1 (some .boolean), Cond.methodLink RX5 164 yX2_add, Cond.instanceMethod yX2_add, Cond.selects RX2 yX2_add yX2_add, Cond.code yX2_add cX2_add 5 (some .int), Cond.fieldLink RX2 24 "HotGround$Offers" "count" "I", Cond.methodLink RL 96 yX6_candidate, Cond.instanceMethod yX6_candidate, Cond.selects RX6 yX6_candidate yX6_candidate, Cond.code yX6_candidate cX6_candidate 4 (some .int)]
def wsL_law_r21 : List Cond := [Cond.fieldLink RX6 153 "HotGroundModel" "candidates" "I", Cond.methodLink RL 97 yX5_promise, Cond.instanceMethod yX5_promise, Cond.selects RX5 yX5_promise yX5_promise, Cond.code yX5_promise cX5_promise 4 (some .int), Cond.fieldLink RX5 165 "HotGround$Offers" "promised" "[I", Cond.methodLink RL 100 yX6_promise, Cond.instanceMethod yX6_promise, Cond.selects RX6 yX6_promise yX6_promise, Cond.code yX6_promise cX6_promise 4 (some .int), Cond.methodLink RL 101 yX5_plan, Cond.instanceMethod yX5_plan, Cond.selects RX5 yX5_plan yX5_plan, Cond.code yX5_plan cX5_plan 3 (some .int), Cond.methodLink RX5 168 yX2_cheapest, Cond.instanceMethod yX2_cheapest, Cond.selects RX2 yX2_cheapest yX2_cheapest, Cond.code yX2_cheapest cX2_cheapest 5 (some .int), Cond.methodLink RX2 37 yX2_sets, Cond.instanceMethod yX2_sets, Cond.selects RX2 yX2_sets yX2_sets, Cond.code yX2_sets cX2_sets 1 (some .int), Cond.methodLink RX2 41 yX2_price, Cond.instanceMethod yX2_price]
def wsL_law_r22 : List Cond := [Cond.selects RX2 yX2_price yX2_price, Cond.code yX2_price cX2_price 4 (some .int), Cond.methodLink RX2 45 yX2_keeps, Cond.instanceMethod yX2_keeps, Cond.selects RX2 yX2_keeps yX2_keeps, Cond.code yX2_keeps cX2_keeps 3 (some .boolean), Cond.methodLink RX2 34 yX2_missing, Cond.instanceMethod yX2_missing, Cond.selects RX2 yX2_missing yX2_missing, Cond.code yX2_missing cX2_missing 5 (some .int), Cond.methodLink RX2 28 Lib.Math.max.name, Cond.static Lib.Math.max.name, Cond.code Lib.Math.max.name Lib.Math.max.code 2 (some .int), Cond.methodLink RX5 171 yX2_price, Cond.methodLink RL 104 yX6_plan, Cond.instanceMethod yX6_plan, Cond.selects RX6 yX6_plan yX6_plan, Cond.code yX6_plan cX6_plan 6 (some .int), Cond.methodLink RX6 156 yX6_lack, Cond.instanceMethod yX6_lack, Cond.selects RX6 yX6_lack yX6_lack, Cond.code yX6_lack cX6_lack 5 (some .int), Cond.methodLink RX6 159 yX6_costOf, Cond.instanceMethod yX6_costOf]
def wsL_law_r23 : List Cond := [Cond.selects RX6 yX6_costOf yX6_costOf, Cond.code yX6_costOf cX6_costOf 4 (some .int), Cond.methodLink RL 105 yX5_lacks, Cond.instanceMethod yX5_lacks, Cond.selects RX5 yX5_lacks yX5_lacks, Cond.code yX5_lacks cX5_lacks 3 (some .int), Cond.methodLink RX5 174 yX2_sets, Cond.methodLink RX5 177 yX2_missing, Cond.methodLink RL 108 yX6_lacks, Cond.instanceMethod yX6_lacks, Cond.selects RX6 yX6_lacks yX6_lacks, Cond.code yX6_lacks cX6_lacks 3 (some .int), Cond.methodLink RL 109 yX5_count, Cond.instanceMethod yX5_count, Cond.selects RX5 yX5_count yX5_count, Cond.code yX5_count cX5_count 2 (some .int), Cond.methodLink RX5 180 yX5_trues, Cond.static yX5_trues, Cond.code yX5_trues cX5_trues 4 (some .int), Cond.methodLink RL 112 yX6_count, Cond.instanceMethod yX6_count, Cond.selects RX6 yX6_count yX6_count, Cond.code yX6_count cX6_count 4 (some .int), Cond.methodLink RL 113 yX5_trace]
def wsL_law_r24 : List Cond := [Cond.instanceMethod yX5_trace, Cond.selects RX5 yX5_trace yX5_trace, Cond.code yX5_trace cX5_trace 1 (some .long), Cond.methodLink RL 117 yX6_trace, Cond.instanceMethod yX6_trace, Cond.selects RX6 yX6_trace yX6_trace, Cond.code yX6_trace cX6_trace 1 (some .long)]
def wsL_law : List Cond := (wsL_law_r1 ++ (wsL_law_r2 ++ (wsL_law_r3 ++ (wsL_law_r4 ++ (wsL_law_r5 ++ (wsL_law_r6 ++ (wsL_law_r7 ++ (wsL_law_r8 ++ (wsL_law_r9 ++ (wsL_law_r10 ++ (wsL_law_r11 ++ (wsL_law_r12 ++ (wsL_law_r13 ++ (wsL_law_r14 ++ (wsL_law_r15 ++ (wsL_law_r16 ++ (wsL_law_r17 ++ (wsL_law_r18 ++ (wsL_law_r19 ++ (wsL_law_r20 ++ (wsL_law_r21 ++ (wsL_law_r22 ++ (wsL_law_r23 ++ wsL_law_r24))))))))))))))))))))))) ++ wsX50 ++ wsX60 ++ wsX40 ++ wsX30 ++ wsX00 ++ wsX10 ++ wsX20 ++ ([] : List Cond)
theorem hg_mem {big ws : List Cond} (ps : List Nat) (hp : ws = ps.filterMap (fun i => big[i]?)) : ∀ w ∈ ws, w ∈ big := by
  intro w hw
  rw [hp] at hw
  obtain ⟨i, -, hi⟩ := List.mem_filterMap.mp hw
  exact List.mem_of_getElem? hi
set_option maxRecDepth 20000 in
theorem hg_in_wsL_law_r1 : ∀ w ∈ wsL_law_r1, w ∈ lw_tbl := hg_mem [33, 34, 25, 468, 469, 31, 35, 36, 37, 38, 39, 40, 41, 42, 26, 177, 74, 75, 27, 178, 98, 99, 28, 179] (by decide +kernel)
set_option maxRecDepth 20000 in
theorem hg_in_wsL_law_r2 : ∀ w ∈ wsL_law_r2, w ∈ lw_tbl := hg_mem [134, 135, 29, 180, 153, 154, 30, 181, 182, 44, 45, 46, 72, 49, 51, 53, 73, 55, 57, 77, 78, 79, 82, 83] (by decide +kernel)
set_option maxRecDepth 20000 in
theorem hg_in_wsL_law_r3 : ∀ w ∈ wsL_law_r3, w ∈ lw_tbl := hg_mem [84, 85, 101, 102, 103, 133, 104, 106, 108, 110, 116, 137, 138, 139, 142, 144, 156, 157, 158, 161, 162, 163, 164, 470] (by decide +kernel)
set_option maxRecDepth 20000 in
theorem hg_in_wsL_law_r4 : ∀ w ∈ wsL_law_r4, w ∈ lw_tbl := hg_mem [471, 472, 473, 475, 476, 477, 478, 479, 482, 483, 484, 485, 486, 487, 488, 489, 492, 493, 495, 497, 498, 499, 500, 474] (by decide +kernel)
set_option maxRecDepth 20000 in
theorem hg_in_wsL_law_r5 : ∀ w ∈ wsL_law_r5, w ∈ lw_tbl := hg_mem [196, 197, 198, 199, 48, 200, 201, 202, 203, 204, 205, 206, 47, 207, 208, 209, 210, 556, 557, 558, 559, 560, 561, 562] (by decide +kernel)
set_option maxRecDepth 20000 in
theorem hg_in_wsL_law_r6 : ∀ w ∈ wsL_law_r6, w ∈ lw_tbl := hg_mem [211, 212, 213, 214, 56, 215, 217, 0, 218, 563, 564, 565, 566, 567, 569, 13, 570, 219, 220, 221, 222, 54, 571, 572] (by decide +kernel)
set_option maxRecDepth 20000 in
theorem hg_in_wsL_law_r7 : ∀ w ∈ wsL_law_r7, w ∈ lw_tbl := hg_mem [573, 574, 223, 224, 225, 226, 227, 228, 229, 230, 231, 232, 233, 234, 235, 236, 237, 238, 240, 1, 241, 242, 243, 244] (by decide +kernel)
set_option maxRecDepth 20000 in
theorem hg_in_wsL_law_r8 : ∀ w ∈ wsL_law_r8, w ∈ lw_tbl := hg_mem [245, 246, 247, 248, 249, 32, 250, 575, 576, 577, 578, 480, 579, 580, 581, 583, 14, 584, 251, 252, 253, 254, 50, 52] (by decide +kernel)
set_option maxRecDepth 20000 in
theorem hg_in_wsL_law_r9 : ∀ w ∈ wsL_law_r9, w ∈ lw_tbl := hg_mem [58, 585, 586, 587, 588, 255, 256, 257, 258, 81, 259, 260, 261, 262, 80, 589, 590, 591, 592, 481, 263, 264, 265, 266] (by decide +kernel)
set_option maxRecDepth 20000 in
theorem hg_in_wsL_law_r10 : ∀ w ∈ wsL_law_r10, w ∈ lw_tbl := hg_mem [86, 593, 594, 595, 596, 267, 268, 269, 270, 271, 272, 273, 274, 275, 276, 277, 278, 279, 280, 281, 282, 283, 284, 285] (by decide +kernel)
set_option maxRecDepth 20000 in
theorem hg_in_wsL_law_r11 : ∀ w ∈ wsL_law_r11, w ∈ lw_tbl := hg_mem [286, 287, 597, 598, 599, 600, 601, 603, 15, 604, 605, 606, 607, 608, 610, 16, 611, 288, 289, 290, 291, 292, 294, 2] (by decide +kernel)
set_option maxRecDepth 20000 in
theorem hg_in_wsL_law_r12 : ∀ w ∈ wsL_law_r12, w ∈ lw_tbl := hg_mem [295, 612, 613, 614, 615, 296, 297, 298, 299, 303, 105, 107, 300, 301, 302, 616, 617, 618, 619, 623, 620, 621, 622, 304] (by decide +kernel)
set_option maxRecDepth 20000 in
theorem hg_in_wsL_law_r13 : ∀ w ∈ wsL_law_r13, w ∈ lw_tbl := hg_mem [305, 306, 307, 308, 310, 3, 311, 111, 312, 314, 4, 315, 109, 316, 318, 5, 319, 113, 320, 322, 6, 323, 115, 624] (by decide +kernel)
set_option maxRecDepth 20000 in
theorem hg_in_wsL_law_r14 : ∀ w ∈ wsL_law_r14, w ∈ lw_tbl := hg_mem [625, 626, 627, 490, 491, 324, 325, 326, 327, 117, 328, 330, 7, 331, 332, 334, 8, 335, 336, 337, 338, 339, 340, 341] (by decide +kernel)
set_option maxRecDepth 20000 in
theorem hg_in_wsL_law_r15 : ∀ w ∈ wsL_law_r15, w ∈ lw_tbl := hg_mem [342, 343, 345, 9, 346, 347, 349, 10, 350, 351, 352, 353, 354, 112, 355, 114, 356, 357, 359, 11, 360, 361, 362, 363] (by decide +kernel)
set_option maxRecDepth 20000 in
theorem hg_in_wsL_law_r16 : ∀ w ∈ wsL_law_r16, w ∈ lw_tbl := hg_mem [364, 365, 366, 367, 368, 369, 370, 371, 372, 373, 628, 629, 630, 631, 632, 634, 17, 635, 655, 636, 637, 639, 18, 640] (by decide +kernel)
set_option maxRecDepth 20000 in
theorem hg_in_wsL_law_r17 : ∀ w ∈ wsL_law_r17, w ∈ lw_tbl := hg_mem [645, 646, 641, 643, 19, 644, 647, 649, 20, 650, 651, 653, 21, 654, 374, 375, 376, 377, 378, 656, 657, 658, 659, 660] (by decide +kernel)
set_option maxRecDepth 20000 in
theorem hg_in_wsL_law_r18 : ∀ w ∈ wsL_law_r18, w ∈ lw_tbl := hg_mem [379, 380, 381, 382, 661, 662, 663, 664, 383, 384, 385, 386, 143, 387, 388, 389, 390, 665, 666, 667, 668, 391, 392, 393] (by decide +kernel)
set_option maxRecDepth 20000 in
theorem hg_in_wsL_law_r19 : ∀ w ∈ wsL_law_r19, w ∈ lw_tbl := hg_mem [394, 395, 141, 145, 669, 670, 671, 672, 673, 494, 396, 397, 398, 399, 400, 401, 402, 403, 140, 674, 675, 676, 677, 404] (by decide +kernel)
set_option maxRecDepth 20000 in
theorem hg_in_wsL_law_r20 : ∀ w ∈ wsL_law_r20, w ∈ lw_tbl := hg_mem [405, 406, 407, 678, 679, 680, 681, 408, 409, 410, 411, 160, 412, 413, 414, 415, 416, 417, 418, 159, 682, 683, 684, 685] (by decide +kernel)
set_option maxRecDepth 20000 in
theorem hg_in_wsL_law_r21 : ∀ w ∈ wsL_law_r21, w ∈ lw_tbl := hg_mem [496, 419, 420, 421, 422, 165, 686, 687, 688, 689, 423, 424, 425, 426, 427, 428, 429, 430, 431, 432, 433, 434, 435, 436] (by decide +kernel)
set_option maxRecDepth 20000 in
theorem hg_in_wsL_law_r22 : ∀ w ∈ wsL_law_r22, w ∈ lw_tbl := hg_mem [437, 438, 439, 441, 12, 442, 443, 444, 445, 446, 447, 448, 449, 450, 690, 691, 692, 693, 694, 696, 22, 697, 698, 700] (by decide +kernel)
set_option maxRecDepth 20000 in
theorem hg_in_wsL_law_r23 : ∀ w ∈ wsL_law_r23, w ∈ lw_tbl := hg_mem [23, 701, 451, 452, 453, 454, 455, 456, 702, 703, 704, 705, 457, 458, 459, 460, 461, 462, 463, 706, 707, 708, 709, 464] (by decide +kernel)
set_option maxRecDepth 20000 in
theorem hg_in_wsL_law_r24 : ∀ w ∈ wsL_law_r24, w ∈ lw_tbl := hg_mem [465, 466, 467, 710, 711, 712, 713] (by decide +kernel)
set_option maxRecDepth 20000 in
theorem hg_in_wsX50 : ∀ w ∈ wsX50, w ∈ lw_tbl := by decide +kernel
set_option maxRecDepth 20000 in
theorem hg_in_wsX60 : ∀ w ∈ wsX60, w ∈ lw_tbl := by decide +kernel
set_option maxRecDepth 20000 in
theorem hg_in_wsX40 : ∀ w ∈ wsX40, w ∈ lw_tbl := by decide +kernel
set_option maxRecDepth 20000 in
theorem hg_in_wsX30 : ∀ w ∈ wsX30, w ∈ lw_tbl := by decide +kernel
set_option maxRecDepth 20000 in
theorem hg_in_wsX00 : ∀ w ∈ wsX00, w ∈ lw_tbl := by decide +kernel
set_option maxRecDepth 20000 in
theorem hg_in_wsX10 : ∀ w ∈ wsX10, w ∈ lw_tbl := by decide +kernel
set_option maxRecDepth 20000 in
theorem hg_in_wsX20 : ∀ w ∈ wsX20, w ∈ lw_tbl := by decide +kernel
theorem wsL_law_in : ∀ w ∈ wsL_law, w ∈ lw_tbl := List.forall_mem_append.mpr ⟨List.forall_mem_append.mpr ⟨List.forall_mem_append.mpr ⟨List.forall_mem_append.mpr ⟨List.forall_mem_append.mpr ⟨List.forall_mem_append.mpr ⟨List.forall_mem_append.mpr ⟨List.forall_mem_append.mpr ⟨List.forall_mem_append.mpr ⟨hg_in_wsL_law_r1, List.forall_mem_append.mpr ⟨hg_in_wsL_law_r2, List.forall_mem_append.mpr ⟨hg_in_wsL_law_r3, List.forall_mem_append.mpr ⟨hg_in_wsL_law_r4, List.forall_mem_append.mpr ⟨hg_in_wsL_law_r5, List.forall_mem_append.mpr ⟨hg_in_wsL_law_r6, List.forall_mem_append.mpr ⟨hg_in_wsL_law_r7, List.forall_mem_append.mpr ⟨hg_in_wsL_law_r8, List.forall_mem_append.mpr ⟨hg_in_wsL_law_r9, List.forall_mem_append.mpr ⟨hg_in_wsL_law_r10, List.forall_mem_append.mpr ⟨hg_in_wsL_law_r11, List.forall_mem_append.mpr ⟨hg_in_wsL_law_r12, List.forall_mem_append.mpr ⟨hg_in_wsL_law_r13, List.forall_mem_append.mpr ⟨hg_in_wsL_law_r14, List.forall_mem_append.mpr ⟨hg_in_wsL_law_r15, List.forall_mem_append.mpr ⟨hg_in_wsL_law_r16, List.forall_mem_append.mpr ⟨hg_in_wsL_law_r17, List.forall_mem_append.mpr ⟨hg_in_wsL_law_r18, List.forall_mem_append.mpr ⟨hg_in_wsL_law_r19, List.forall_mem_append.mpr ⟨hg_in_wsL_law_r20, List.forall_mem_append.mpr ⟨hg_in_wsL_law_r21, List.forall_mem_append.mpr ⟨hg_in_wsL_law_r22, List.forall_mem_append.mpr ⟨hg_in_wsL_law_r23, hg_in_wsL_law_r24⟩⟩⟩⟩⟩⟩⟩⟩⟩⟩⟩⟩⟩⟩⟩⟩⟩⟩⟩⟩⟩⟩⟩, hg_in_wsX50⟩, hg_in_wsX60⟩, hg_in_wsX40⟩, hg_in_wsX30⟩, hg_in_wsX00⟩, hg_in_wsX10⟩, hg_in_wsX20⟩, fun _ h => absurd h List.not_mem_nil⟩
theorem inlX0 : ∀ w ∈ wsX00, w ∈ wsL_law := fun _ h => List.mem_append_left _ (List.mem_append_left _ (List.mem_append_left _ (List.mem_append_right _ h)))
theorem inX0 : ∀ w ∈ wsX00, w ∈ lw_tbl := fun w h => wsL_law_in w (inlX0 w h)
theorem inlX1 : ∀ w ∈ wsX10, w ∈ wsL_law := fun _ h => List.mem_append_left _ (List.mem_append_left _ (List.mem_append_right _ h))
theorem inX1 : ∀ w ∈ wsX10, w ∈ lw_tbl := fun w h => wsL_law_in w (inlX1 w h)
theorem inlX2 : ∀ w ∈ wsX20, w ∈ wsL_law := fun _ h => List.mem_append_left _ (List.mem_append_right _ h)
theorem inX2 : ∀ w ∈ wsX20, w ∈ lw_tbl := fun w h => wsL_law_in w (inlX2 w h)
theorem inlX3 : ∀ w ∈ wsX30, w ∈ wsL_law := fun _ h => List.mem_append_left _ (List.mem_append_left _ (List.mem_append_left _ (List.mem_append_left _ (List.mem_append_right _ h))))
theorem inX3 : ∀ w ∈ wsX30, w ∈ lw_tbl := fun w h => wsL_law_in w (inlX3 w h)
theorem inlX4 : ∀ w ∈ wsX40, w ∈ wsL_law := fun _ h => List.mem_append_left _ (List.mem_append_left _ (List.mem_append_left _ (List.mem_append_left _ (List.mem_append_left _ (List.mem_append_right _ h)))))
theorem inX4 : ∀ w ∈ wsX40, w ∈ lw_tbl := fun w h => wsL_law_in w (inlX4 w h)
theorem inlX5 : ∀ w ∈ wsX50, w ∈ wsL_law := fun _ h => List.mem_append_left _ (List.mem_append_left _ (List.mem_append_left _ (List.mem_append_left _ (List.mem_append_left _ (List.mem_append_left _ (List.mem_append_left _ (List.mem_append_right _ h)))))))
theorem inX5 : ∀ w ∈ wsX50, w ∈ lw_tbl := fun w h => wsL_law_in w (inlX5 w h)
theorem inlX6 : ∀ w ∈ wsX60, w ∈ wsL_law := fun _ h => List.mem_append_left _ (List.mem_append_left _ (List.mem_append_left _ (List.mem_append_left _ (List.mem_append_left _ (List.mem_append_left _ (List.mem_append_right _ h))))))
theorem inX6 : ∀ w ∈ wsX60, w ∈ lw_tbl := fun w h => wsL_law_in w (inlX6 w h)
theorem inJ9 : ∀ w ∈ wsJ90, w ∈ lw_tbl := by decide +kernel
theorem dX0_init_0 : decode cX0_init 0 = .ok (.aload_n 0, 1) := by decide +kernel
theorem dX0_init_1 : decode cX0_init 1 = .ok (.invokespecial 1, 3) := by decide +kernel
theorem dX0_init_4 : decode cX0_init 4 = .ok (.aload_n 0, 1) := by decide +kernel
theorem dX0_init_5 : decode cX0_init 5 = .ok (.iconst 4, 1) := by decide +kernel
theorem dX0_init_6 : decode cX0_init 6 = .ok (.newarray .long, 2) := by decide +kernel
theorem dX0_init_8 : decode cX0_init 8 = .ok (.putfield 9, 3) := by decide +kernel
theorem dX0_init_11 : decode cX0_init 11 = .ok (.aload_n 0, 1) := by decide +kernel
theorem dX0_init_12 : decode cX0_init 12 = .ok (.iconst 4, 1) := by decide +kernel
theorem dX0_init_13 : decode cX0_init 13 = .ok (.newarray .long, 2) := by decide +kernel
theorem dX0_init_15 : decode cX0_init 15 = .ok (.putfield 13, 3) := by decide +kernel
theorem dX0_init_18 : decode cX0_init 18 = .ok (.aload_n 0, 1) := by decide +kernel
theorem dX0_init_19 : decode cX0_init 19 = .ok (.iconst 4, 1) := by decide +kernel
theorem dX0_init_20 : decode cX0_init 20 = .ok (.newarray .int, 2) := by decide +kernel
theorem dX0_init_22 : decode cX0_init 22 = .ok (.putfield 16, 3) := by decide +kernel
theorem dX0_init_25 : decode cX0_init 25 = .ok (.aload_n 0, 1) := by decide +kernel
theorem dX0_init_26 : decode cX0_init 26 = .ok (.iconst 3, 1) := by decide +kernel
theorem dX0_init_27 : decode cX0_init 27 = .ok (.newarray .int, 2) := by decide +kernel
theorem dX0_init_29 : decode cX0_init 29 = .ok (.dup, 1) := by decide +kernel
theorem dX0_init_30 : decode cX0_init 30 = .ok (.iconst 0, 1) := by decide +kernel
theorem dX0_init_31 : decode cX0_init 31 = .ok (.sipush 1000, 3) := by decide +kernel
theorem dX0_init_34 : decode cX0_init 34 = .ok (.iastore, 1) := by decide +kernel
theorem dX0_init_35 : decode cX0_init 35 = .ok (.dup, 1) := by decide +kernel
theorem dX0_init_36 : decode cX0_init 36 = .ok (.iconst 1, 1) := by decide +kernel
theorem dX0_init_37 : decode cX0_init 37 = .ok (.sipush 1000, 3) := by decide +kernel
theorem dX0_init_40 : decode cX0_init 40 = .ok (.iastore, 1) := by decide +kernel
theorem dX0_init_41 : decode cX0_init 41 = .ok (.dup, 1) := by decide +kernel
theorem dX0_init_42 : decode cX0_init 42 = .ok (.iconst 2, 1) := by decide +kernel
theorem dX0_init_43 : decode cX0_init 43 = .ok (.sipush 1000, 3) := by decide +kernel
theorem dX0_init_46 : decode cX0_init 46 = .ok (.iastore, 1) := by decide +kernel
theorem dX0_init_47 : decode cX0_init 47 = .ok (.putfield 20, 3) := by decide +kernel
theorem dX0_init_50 : decode cX0_init 50 = .ok (.aload_n 0, 1) := by decide +kernel
theorem dX0_init_51 : decode cX0_init 51 = .ok (.bipush 9, 2) := by decide +kernel
theorem dX0_init_53 : decode cX0_init 53 = .ok (.newarray .long, 2) := by decide +kernel
theorem dX0_init_55 : decode cX0_init 55 = .ok (.putfield 23, 3) := by decide +kernel
theorem dX0_init_58 : decode cX0_init 58 = .ok (.return_, 1) := by decide +kernel
theorem dX0_heatOf_0 : decode cX0_heatOf 0 = .ok (.aload_n 0, 1) := by decide +kernel
theorem dX0_heatOf_1 : decode cX0_heatOf 1 = .ok (.getfield 9, 3) := by decide +kernel
theorem dX0_heatOf_4 : decode cX0_heatOf 4 = .ok (.iload_n 1, 1) := by decide +kernel
theorem dX0_heatOf_5 : decode cX0_heatOf 5 = .ok (.laload, 1) := by decide +kernel
theorem dX0_heatOf_6 : decode cX0_heatOf 6 = .ok (.lconst 0, 1) := by decide +kernel
theorem dX0_heatOf_7 : decode cX0_heatOf 7 = .ok (.lcmp, 1) := by decide +kernel
theorem dX0_heatOf_8 : decode cX0_heatOf 8 = .ok (.ifCond .gt 7, 3) := by decide +kernel
theorem dX0_heatOf_11 : decode cX0_heatOf 11 = .ok (.lconst 0, 1) := by decide +kernel
theorem dX0_heatOf_12 : decode cX0_heatOf 12 = .ok (.goto 18, 3) := by decide +kernel
theorem dX0_heatOf_15 : decode cX0_heatOf 15 = .ok (.lload_n 2, 1) := by decide +kernel
theorem dX0_heatOf_16 : decode cX0_heatOf 16 = .ok (.aload_n 0, 1) := by decide +kernel
theorem dX0_heatOf_17 : decode cX0_heatOf 17 = .ok (.getfield 13, 3) := by decide +kernel
theorem dX0_heatOf_20 : decode cX0_heatOf 20 = .ok (.iload_n 1, 1) := by decide +kernel
theorem dX0_heatOf_21 : decode cX0_heatOf 21 = .ok (.laload, 1) := by decide +kernel
theorem dX0_heatOf_22 : decode cX0_heatOf 22 = .ok (.lmul, 1) := by decide +kernel
theorem dX0_heatOf_23 : decode cX0_heatOf 23 = .ok (.aload_n 0, 1) := by decide +kernel
theorem dX0_heatOf_24 : decode cX0_heatOf 24 = .ok (.getfield 9, 3) := by decide +kernel
theorem dX0_heatOf_27 : decode cX0_heatOf 27 = .ok (.iload_n 1, 1) := by decide +kernel
theorem dX0_heatOf_28 : decode cX0_heatOf 28 = .ok (.laload, 1) := by decide +kernel
theorem dX0_heatOf_29 : decode cX0_heatOf 29 = .ok (.ldiv, 1) := by decide +kernel
theorem dX0_heatOf_30 : decode cX0_heatOf 30 = .ok (.lreturn, 1) := by decide +kernel
set_option maxRecDepth 20000 in
theorem ggX0_take_X0_heatOf : GoodIn wsX0_take wsX0_heatOf := goodIn_r _ [11, 1, 6, 17, 18, 19, 20, 21, 22, 23] (by decide +kernel) (by decide +kernel)
set_option maxRecDepth 20000 in
theorem gX0_take_X0_heatOf : GoodIn wsX0_take (wsV RX0 32 RX0 yX0_heatOf wsX0_heatOf) := goodIn_app (goodIn_of _ (by decide +kernel)) ggX0_take_X0_heatOf
set_option maxRecDepth 20000 in
theorem ggX0_take_X0_book : GoodIn wsX0_take wsX0_book := goodIn_r _ [15, 16, 17, 18, 19, 20, 21, 22, 23] (by decide +kernel) (by decide +kernel)
set_option maxRecDepth 20000 in
theorem gX0_take_X0_book : GoodIn wsX0_take (wsV RX0 36 RX0 yX0_book wsX0_book) := goodIn_app (goodIn_of _ (by decide +kernel)) ggX0_take_X0_book
theorem dX0_take_0 : decode cX0_take 0 = .ok (.lload_n 2, 1) := by decide +kernel
theorem dX0_take_1 : decode cX0_take 1 = .ok (.aload_n 0, 1) := by decide +kernel
theorem dX0_take_2 : decode cX0_take 2 = .ok (.getfield 9, 3) := by decide +kernel
theorem dX0_take_5 : decode cX0_take 5 = .ok (.iload_n 1, 1) := by decide +kernel
theorem dX0_take_6 : decode cX0_take 6 = .ok (.laload, 1) := by decide +kernel
theorem dX0_take_7 : decode cX0_take 7 = .ok (.invokestatic 26, 3) := by decide +kernel
theorem dX0_take_10 : decode cX0_take 10 = .ok (.lstore 4, 2) := by decide +kernel
theorem dX0_take_12 : decode cX0_take 12 = .ok (.aload_n 0, 1) := by decide +kernel
theorem dX0_take_13 : decode cX0_take 13 = .ok (.iload_n 1, 1) := by decide +kernel
theorem dX0_take_14 : decode cX0_take 14 = .ok (.lload 4, 2) := by decide +kernel
theorem dX0_take_16 : decode cX0_take 16 = .ok (.invokevirtual 32, 3) := by decide +kernel
theorem dX0_take_19 : decode cX0_take 19 = .ok (.lstore 6, 2) := by decide +kernel
theorem dX0_take_21 : decode cX0_take 21 = .ok (.aload_n 0, 1) := by decide +kernel
theorem dX0_take_22 : decode cX0_take 22 = .ok (.getfield 9, 3) := by decide +kernel
theorem dX0_take_25 : decode cX0_take 25 = .ok (.iload_n 1, 1) := by decide +kernel
theorem dX0_take_26 : decode cX0_take 26 = .ok (.dup2, 1) := by decide +kernel
theorem dX0_take_27 : decode cX0_take 27 = .ok (.laload, 1) := by decide +kernel
theorem dX0_take_28 : decode cX0_take 28 = .ok (.lload 4, 2) := by decide +kernel
theorem dX0_take_30 : decode cX0_take 30 = .ok (.lsub, 1) := by decide +kernel
theorem dX0_take_31 : decode cX0_take 31 = .ok (.lastore, 1) := by decide +kernel
theorem dX0_take_32 : decode cX0_take 32 = .ok (.aload_n 0, 1) := by decide +kernel
theorem dX0_take_33 : decode cX0_take 33 = .ok (.getfield 13, 3) := by decide +kernel
theorem dX0_take_36 : decode cX0_take 36 = .ok (.iload_n 1, 1) := by decide +kernel
theorem dX0_take_37 : decode cX0_take 37 = .ok (.dup2, 1) := by decide +kernel
theorem dX0_take_38 : decode cX0_take 38 = .ok (.laload, 1) := by decide +kernel
theorem dX0_take_39 : decode cX0_take 39 = .ok (.lload 6, 2) := by decide +kernel
theorem dX0_take_41 : decode cX0_take 41 = .ok (.lsub, 1) := by decide +kernel
theorem dX0_take_42 : decode cX0_take 42 = .ok (.lastore, 1) := by decide +kernel
theorem dX0_take_43 : decode cX0_take 43 = .ok (.aload_n 0, 1) := by decide +kernel
theorem dX0_take_44 : decode cX0_take 44 = .ok (.iconst 0, 1) := by decide +kernel
theorem dX0_take_45 : decode cX0_take 45 = .ok (.lload 4, 2) := by decide +kernel
theorem dX0_take_47 : decode cX0_take 47 = .ok (.lload 6, 2) := by decide +kernel
theorem dX0_take_49 : decode cX0_take 49 = .ok (.invokevirtual 36, 3) := by decide +kernel
theorem dX0_take_52 : decode cX0_take 52 = .ok (.lload 4, 2) := by decide +kernel
theorem dX0_take_54 : decode cX0_take 54 = .ok (.lreturn, 1) := by decide +kernel
set_option maxRecDepth 20000 in
theorem ggX0_giveBack_X0_pour : GoodIn wsX0_giveBack wsX0_pour := goodIn_r _ [9, 10, 11, 17, 18, 19, 20, 21, 22, 23] (by decide +kernel) (by decide +kernel)
set_option maxRecDepth 20000 in
theorem gX0_giveBack_X0_pour : GoodIn wsX0_giveBack (wsV RX0 51 RX0 yX0_pour wsX0_pour) := goodIn_app (goodIn_of _ (by decide +kernel)) ggX0_giveBack_X0_pour
set_option maxRecDepth 20000 in
theorem ggX0_giveBack_X0_book : GoodIn wsX0_giveBack wsX0_book := goodIn_r _ [15, 16, 17, 18, 19, 20, 21, 22, 23] (by decide +kernel) (by decide +kernel)
set_option maxRecDepth 20000 in
theorem gX0_giveBack_X0_book : GoodIn wsX0_giveBack (wsV RX0 36 RX0 yX0_book wsX0_book) := goodIn_app (goodIn_of _ (by decide +kernel)) ggX0_giveBack_X0_book
theorem dX0_giveBack_0 : decode cX0_giveBack 0 = .ok (.lload_n 1, 1) := by decide +kernel
theorem dX0_giveBack_1 : decode cX0_giveBack 1 = .ok (.aload_n 0, 1) := by decide +kernel
theorem dX0_giveBack_2 : decode cX0_giveBack 2 = .ok (.getfield 40, 3) := by decide +kernel
theorem dX0_giveBack_5 : decode cX0_giveBack 5 = .ok (.i2l, 1) := by decide +kernel
theorem dX0_giveBack_6 : decode cX0_giveBack 6 = .ok (.lmul, 1) := by decide +kernel
theorem dX0_giveBack_7 : decode cX0_giveBack 7 = .ok (.ldc2_w 44, 3) := by decide +kernel
theorem dX0_giveBack_10 : decode cX0_giveBack 10 = .ok (.ldiv, 1) := by decide +kernel
theorem dX0_giveBack_11 : decode cX0_giveBack 11 = .ok (.lstore_n 3, 1) := by decide +kernel
theorem dX0_giveBack_12 : decode cX0_giveBack 12 = .ok (.aload_n 0, 1) := by decide +kernel
theorem dX0_giveBack_13 : decode cX0_giveBack 13 = .ok (.aload_n 0, 1) := by decide +kernel
theorem dX0_giveBack_14 : decode cX0_giveBack 14 = .ok (.getfield 46, 3) := by decide +kernel
theorem dX0_giveBack_17 : decode cX0_giveBack 17 = .ok (.lload_n 3, 1) := by decide +kernel
theorem dX0_giveBack_18 : decode cX0_giveBack 18 = .ok (.lload_n 3, 1) := by decide +kernel
theorem dX0_giveBack_19 : decode cX0_giveBack 19 = .ok (.ldc2_w 49, 3) := by decide +kernel
theorem dX0_giveBack_22 : decode cX0_giveBack 22 = .ok (.lmul, 1) := by decide +kernel
theorem dX0_giveBack_23 : decode cX0_giveBack 23 = .ok (.invokevirtual 51, 3) := by decide +kernel
theorem dX0_giveBack_26 : decode cX0_giveBack 26 = .ok (.aload_n 0, 1) := by decide +kernel
theorem dX0_giveBack_27 : decode cX0_giveBack 27 = .ok (.iconst 2, 1) := by decide +kernel
theorem dX0_giveBack_28 : decode cX0_giveBack 28 = .ok (.lload_n 3, 1) := by decide +kernel
theorem dX0_giveBack_29 : decode cX0_giveBack 29 = .ok (.lload_n 3, 1) := by decide +kernel
theorem dX0_giveBack_30 : decode cX0_giveBack 30 = .ok (.ldc2_w 49, 3) := by decide +kernel
theorem dX0_giveBack_33 : decode cX0_giveBack 33 = .ok (.lmul, 1) := by decide +kernel
theorem dX0_giveBack_34 : decode cX0_giveBack 34 = .ok (.invokevirtual 36, 3) := by decide +kernel
theorem dX0_giveBack_37 : decode cX0_giveBack 37 = .ok (.return_, 1) := by decide +kernel
set_option maxRecDepth 20000 in
theorem ggX0_leakAll_X0_heatOf : GoodIn wsX0_leakAll wsX0_heatOf := goodIn_r _ [7, 1, 8, 13, 14, 15, 16, 17, 18, 19] (by decide +kernel) (by decide +kernel)
set_option maxRecDepth 20000 in
theorem gX0_leakAll_X0_heatOf : GoodIn wsX0_leakAll (wsV RX0 32 RX0 yX0_heatOf wsX0_heatOf) := goodIn_app (goodIn_of _ (by decide +kernel)) ggX0_leakAll_X0_heatOf
set_option maxRecDepth 20000 in
theorem ggX0_leakAll_X0_pour : GoodIn wsX0_leakAll wsX0_pour := goodIn_r _ [12, 1, 8, 13, 14, 15, 16, 17, 18, 19] (by decide +kernel) (by decide +kernel)
set_option maxRecDepth 20000 in
theorem gX0_leakAll_X0_pour : GoodIn wsX0_leakAll (wsV RX0 51 RX0 yX0_pour wsX0_pour) := goodIn_app (goodIn_of _ (by decide +kernel)) ggX0_leakAll_X0_pour
theorem dX0_leakAll_0 : decode cX0_leakAll 0 = .ok (.iconst 0, 1) := by decide +kernel
theorem dX0_leakAll_1 : decode cX0_leakAll 1 = .ok (.istore_n 1, 1) := by decide +kernel
theorem dX0_leakAll_2 : decode cX0_leakAll 2 = .ok (.iload_n 1, 1) := by decide +kernel
theorem dX0_leakAll_3 : decode cX0_leakAll 3 = .ok (.iconst 3, 1) := by decide +kernel
theorem dX0_leakAll_4 : decode cX0_leakAll 4 = .ok (.if_icmp .ge 112, 3) := by decide +kernel
theorem dX0_leakAll_7 : decode cX0_leakAll 7 = .ok (.aload_n 0, 1) := by decide +kernel
theorem dX0_leakAll_8 : decode cX0_leakAll 8 = .ok (.getfield 9, 3) := by decide +kernel
theorem dX0_leakAll_11 : decode cX0_leakAll 11 = .ok (.iload_n 1, 1) := by decide +kernel
theorem dX0_leakAll_12 : decode cX0_leakAll 12 = .ok (.laload, 1) := by decide +kernel
theorem dX0_leakAll_13 : decode cX0_leakAll 13 = .ok (.aload_n 0, 1) := by decide +kernel
theorem dX0_leakAll_14 : decode cX0_leakAll 14 = .ok (.getfield 9, 3) := by decide +kernel
theorem dX0_leakAll_17 : decode cX0_leakAll 17 = .ok (.iload_n 1, 1) := by decide +kernel
theorem dX0_leakAll_18 : decode cX0_leakAll 18 = .ok (.iconst 1, 1) := by decide +kernel
theorem dX0_leakAll_19 : decode cX0_leakAll 19 = .ok (.iadd, 1) := by decide +kernel
theorem dX0_leakAll_20 : decode cX0_leakAll 20 = .ok (.laload, 1) := by decide +kernel
theorem dX0_leakAll_21 : decode cX0_leakAll 21 = .ok (.lcmp, 1) := by decide +kernel
theorem dX0_leakAll_22 : decode cX0_leakAll 22 = .ok (.ifCond .lt 7, 3) := by decide +kernel
theorem dX0_leakAll_25 : decode cX0_leakAll 25 = .ok (.iconst 1, 1) := by decide +kernel
theorem dX0_leakAll_26 : decode cX0_leakAll 26 = .ok (.goto 4, 3) := by decide +kernel
theorem dX0_leakAll_29 : decode cX0_leakAll 29 = .ok (.iconst 0, 1) := by decide +kernel
theorem dX0_leakAll_30 : decode cX0_leakAll 30 = .ok (.istore_n 2, 1) := by decide +kernel
theorem dX0_leakAll_31 : decode cX0_leakAll 31 = .ok (.iload_n 2, 1) := by decide +kernel
theorem dX0_leakAll_32 : decode cX0_leakAll 32 = .ok (.ifCond .eq 7, 3) := by decide +kernel
theorem dX0_leakAll_35 : decode cX0_leakAll 35 = .ok (.iload_n 1, 1) := by decide +kernel
theorem dX0_leakAll_36 : decode cX0_leakAll 36 = .ok (.goto 6, 3) := by decide +kernel
theorem dX0_leakAll_39 : decode cX0_leakAll 39 = .ok (.iload_n 1, 1) := by decide +kernel
theorem dX0_leakAll_40 : decode cX0_leakAll 40 = .ok (.iconst 1, 1) := by decide +kernel
theorem dX0_leakAll_41 : decode cX0_leakAll 41 = .ok (.iadd, 1) := by decide +kernel
theorem dX0_leakAll_42 : decode cX0_leakAll 42 = .ok (.istore_n 3, 1) := by decide +kernel
theorem dX0_leakAll_43 : decode cX0_leakAll 43 = .ok (.iload_n 2, 1) := by decide +kernel
theorem dX0_leakAll_44 : decode cX0_leakAll 44 = .ok (.ifCond .eq 9, 3) := by decide +kernel
theorem dX0_leakAll_47 : decode cX0_leakAll 47 = .ok (.iload_n 1, 1) := by decide +kernel
theorem dX0_leakAll_48 : decode cX0_leakAll 48 = .ok (.iconst 1, 1) := by decide +kernel
theorem dX0_leakAll_49 : decode cX0_leakAll 49 = .ok (.iadd, 1) := by decide +kernel
theorem dX0_leakAll_50 : decode cX0_leakAll 50 = .ok (.goto 4, 3) := by decide +kernel
theorem dX0_leakAll_53 : decode cX0_leakAll 53 = .ok (.iload_n 1, 1) := by decide +kernel
theorem dX0_leakAll_54 : decode cX0_leakAll 54 = .ok (.istore 4, 2) := by decide +kernel
theorem dX0_leakAll_56 : decode cX0_leakAll 56 = .ok (.aload_n 0, 1) := by decide +kernel
theorem dX0_leakAll_57 : decode cX0_leakAll 57 = .ok (.getfield 9, 3) := by decide +kernel
theorem dX0_leakAll_60 : decode cX0_leakAll 60 = .ok (.iload_n 3, 1) := by decide +kernel
theorem dX0_leakAll_61 : decode cX0_leakAll 61 = .ok (.laload, 1) := by decide +kernel
theorem dX0_leakAll_62 : decode cX0_leakAll 62 = .ok (.aload_n 0, 1) := by decide +kernel
theorem dX0_leakAll_63 : decode cX0_leakAll 63 = .ok (.getfield 9, 3) := by decide +kernel
theorem dX0_leakAll_66 : decode cX0_leakAll 66 = .ok (.iload 4, 2) := by decide +kernel
theorem dX0_leakAll_68 : decode cX0_leakAll 68 = .ok (.laload, 1) := by decide +kernel
theorem dX0_leakAll_69 : decode cX0_leakAll 69 = .ok (.lsub, 1) := by decide +kernel
theorem dX0_leakAll_70 : decode cX0_leakAll 70 = .ok (.aload_n 0, 1) := by decide +kernel
theorem dX0_leakAll_71 : decode cX0_leakAll 71 = .ok (.getfield 20, 3) := by decide +kernel
theorem dX0_leakAll_74 : decode cX0_leakAll 74 = .ok (.iload_n 1, 1) := by decide +kernel
theorem dX0_leakAll_75 : decode cX0_leakAll 75 = .ok (.iaload, 1) := by decide +kernel
theorem dX0_leakAll_76 : decode cX0_leakAll 76 = .ok (.i2l, 1) := by decide +kernel
theorem dX0_leakAll_77 : decode cX0_leakAll 77 = .ok (.ldiv, 1) := by decide +kernel
theorem dX0_leakAll_78 : decode cX0_leakAll 78 = .ok (.lstore 5, 2) := by decide +kernel
theorem dX0_leakAll_80 : decode cX0_leakAll 80 = .ok (.aload_n 0, 1) := by decide +kernel
theorem dX0_leakAll_81 : decode cX0_leakAll 81 = .ok (.iload_n 3, 1) := by decide +kernel
theorem dX0_leakAll_82 : decode cX0_leakAll 82 = .ok (.lload 5, 2) := by decide +kernel
theorem dX0_leakAll_84 : decode cX0_leakAll 84 = .ok (.invokevirtual 32, 3) := by decide +kernel
theorem dX0_leakAll_87 : decode cX0_leakAll 87 = .ok (.lstore 7, 2) := by decide +kernel
theorem dX0_leakAll_89 : decode cX0_leakAll 89 = .ok (.aload_n 0, 1) := by decide +kernel
theorem dX0_leakAll_90 : decode cX0_leakAll 90 = .ok (.iload_n 3, 1) := by decide +kernel
theorem dX0_leakAll_91 : decode cX0_leakAll 91 = .ok (.lload 5, 2) := by decide +kernel
theorem dX0_leakAll_93 : decode cX0_leakAll 93 = .ok (.lneg, 1) := by decide +kernel
theorem dX0_leakAll_94 : decode cX0_leakAll 94 = .ok (.lload 7, 2) := by decide +kernel
theorem dX0_leakAll_96 : decode cX0_leakAll 96 = .ok (.lneg, 1) := by decide +kernel
theorem dX0_leakAll_97 : decode cX0_leakAll 97 = .ok (.invokevirtual 51, 3) := by decide +kernel
theorem dX0_leakAll_100 : decode cX0_leakAll 100 = .ok (.aload_n 0, 1) := by decide +kernel
theorem dX0_leakAll_101 : decode cX0_leakAll 101 = .ok (.iload 4, 2) := by decide +kernel
theorem dX0_leakAll_103 : decode cX0_leakAll 103 = .ok (.lload 5, 2) := by decide +kernel
theorem dX0_leakAll_105 : decode cX0_leakAll 105 = .ok (.lload 7, 2) := by decide +kernel
theorem dX0_leakAll_107 : decode cX0_leakAll 107 = .ok (.invokevirtual 51, 3) := by decide +kernel
theorem dX0_leakAll_110 : decode cX0_leakAll 110 = .ok (.iinc 1 1, 3) := by decide +kernel
theorem dX0_leakAll_113 : decode cX0_leakAll 113 = .ok (.goto (-111), 3) := by decide +kernel
theorem dX0_leakAll_116 : decode cX0_leakAll 116 = .ok (.return_, 1) := by decide +kernel
set_option maxRecDepth 20000 in
theorem ggX0_feedAll_X0_pour : GoodIn wsX0_feedAll wsX0_pour := goodIn_r _ [7, 8, 9, 15, 16, 17, 18, 19, 20, 21] (by decide +kernel) (by decide +kernel)
set_option maxRecDepth 20000 in
theorem gX0_feedAll_X0_pour : GoodIn wsX0_feedAll (wsV RX0 51 RX0 yX0_pour wsX0_pour) := goodIn_app (goodIn_of _ (by decide +kernel)) ggX0_feedAll_X0_pour
set_option maxRecDepth 20000 in
theorem ggX0_feedAll_X0_book : GoodIn wsX0_feedAll wsX0_book := goodIn_r _ [13, 14, 15, 16, 17, 18, 19, 20, 21] (by decide +kernel) (by decide +kernel)
set_option maxRecDepth 20000 in
theorem gX0_feedAll_X0_book : GoodIn wsX0_feedAll (wsV RX0 36 RX0 yX0_book wsX0_book) := goodIn_app (goodIn_of _ (by decide +kernel)) ggX0_feedAll_X0_book
theorem dX0_feedAll_0 : decode cX0_feedAll 0 = .ok (.iconst 0, 1) := by decide +kernel
theorem dX0_feedAll_1 : decode cX0_feedAll 1 = .ok (.istore_n 1, 1) := by decide +kernel
theorem dX0_feedAll_2 : decode cX0_feedAll 2 = .ok (.iload_n 1, 1) := by decide +kernel
theorem dX0_feedAll_3 : decode cX0_feedAll 3 = .ok (.iconst 4, 1) := by decide +kernel
theorem dX0_feedAll_4 : decode cX0_feedAll 4 = .ok (.if_icmp .ge 39, 3) := by decide +kernel
theorem dX0_feedAll_7 : decode cX0_feedAll 7 = .ok (.aload_n 0, 1) := by decide +kernel
theorem dX0_feedAll_8 : decode cX0_feedAll 8 = .ok (.getfield 16, 3) := by decide +kernel
theorem dX0_feedAll_11 : decode cX0_feedAll 11 = .ok (.iload_n 1, 1) := by decide +kernel
theorem dX0_feedAll_12 : decode cX0_feedAll 12 = .ok (.iaload, 1) := by decide +kernel
theorem dX0_feedAll_13 : decode cX0_feedAll 13 = .ok (.i2l, 1) := by decide +kernel
theorem dX0_feedAll_14 : decode cX0_feedAll 14 = .ok (.lstore_n 2, 1) := by decide +kernel
theorem dX0_feedAll_15 : decode cX0_feedAll 15 = .ok (.aload_n 0, 1) := by decide +kernel
theorem dX0_feedAll_16 : decode cX0_feedAll 16 = .ok (.iload_n 1, 1) := by decide +kernel
theorem dX0_feedAll_17 : decode cX0_feedAll 17 = .ok (.lload_n 2, 1) := by decide +kernel
theorem dX0_feedAll_18 : decode cX0_feedAll 18 = .ok (.lload_n 2, 1) := by decide +kernel
theorem dX0_feedAll_19 : decode cX0_feedAll 19 = .ok (.ldc2_w 54, 3) := by decide +kernel
theorem dX0_feedAll_22 : decode cX0_feedAll 22 = .ok (.lmul, 1) := by decide +kernel
theorem dX0_feedAll_23 : decode cX0_feedAll 23 = .ok (.invokevirtual 51, 3) := by decide +kernel
theorem dX0_feedAll_26 : decode cX0_feedAll 26 = .ok (.aload_n 0, 1) := by decide +kernel
theorem dX0_feedAll_27 : decode cX0_feedAll 27 = .ok (.iconst 4, 1) := by decide +kernel
theorem dX0_feedAll_28 : decode cX0_feedAll 28 = .ok (.lload_n 2, 1) := by decide +kernel
theorem dX0_feedAll_29 : decode cX0_feedAll 29 = .ok (.lload_n 2, 1) := by decide +kernel
theorem dX0_feedAll_30 : decode cX0_feedAll 30 = .ok (.ldc2_w 54, 3) := by decide +kernel
theorem dX0_feedAll_33 : decode cX0_feedAll 33 = .ok (.lmul, 1) := by decide +kernel
theorem dX0_feedAll_34 : decode cX0_feedAll 34 = .ok (.invokevirtual 36, 3) := by decide +kernel
theorem dX0_feedAll_37 : decode cX0_feedAll 37 = .ok (.iinc 1 1, 3) := by decide +kernel
theorem dX0_feedAll_40 : decode cX0_feedAll 40 = .ok (.goto (-38), 3) := by decide +kernel
theorem dX0_feedAll_43 : decode cX0_feedAll 43 = .ok (.return_, 1) := by decide +kernel
theorem dX0_pour_0 : decode cX0_pour 0 = .ok (.aload_n 0, 1) := by decide +kernel
theorem dX0_pour_1 : decode cX0_pour 1 = .ok (.getfield 9, 3) := by decide +kernel
theorem dX0_pour_4 : decode cX0_pour 4 = .ok (.iload_n 1, 1) := by decide +kernel
theorem dX0_pour_5 : decode cX0_pour 5 = .ok (.dup2, 1) := by decide +kernel
theorem dX0_pour_6 : decode cX0_pour 6 = .ok (.laload, 1) := by decide +kernel
theorem dX0_pour_7 : decode cX0_pour 7 = .ok (.lload_n 2, 1) := by decide +kernel
theorem dX0_pour_8 : decode cX0_pour 8 = .ok (.ladd, 1) := by decide +kernel
theorem dX0_pour_9 : decode cX0_pour 9 = .ok (.lastore, 1) := by decide +kernel
theorem dX0_pour_10 : decode cX0_pour 10 = .ok (.aload_n 0, 1) := by decide +kernel
theorem dX0_pour_11 : decode cX0_pour 11 = .ok (.getfield 13, 3) := by decide +kernel
theorem dX0_pour_14 : decode cX0_pour 14 = .ok (.iload_n 1, 1) := by decide +kernel
theorem dX0_pour_15 : decode cX0_pour 15 = .ok (.dup2, 1) := by decide +kernel
theorem dX0_pour_16 : decode cX0_pour 16 = .ok (.laload, 1) := by decide +kernel
theorem dX0_pour_17 : decode cX0_pour 17 = .ok (.lload 4, 2) := by decide +kernel
theorem dX0_pour_19 : decode cX0_pour 19 = .ok (.ladd, 1) := by decide +kernel
theorem dX0_pour_20 : decode cX0_pour 20 = .ok (.lastore, 1) := by decide +kernel
theorem dX0_pour_21 : decode cX0_pour 21 = .ok (.return_, 1) := by decide +kernel
theorem dX0_book_0 : decode cX0_book 0 = .ok (.aload_n 0, 1) := by decide +kernel
theorem dX0_book_1 : decode cX0_book 1 = .ok (.getfield 23, 3) := by decide +kernel
theorem dX0_book_4 : decode cX0_book 4 = .ok (.iload_n 1, 1) := by decide +kernel
theorem dX0_book_5 : decode cX0_book 5 = .ok (.dup2, 1) := by decide +kernel
theorem dX0_book_6 : decode cX0_book 6 = .ok (.laload, 1) := by decide +kernel
theorem dX0_book_7 : decode cX0_book 7 = .ok (.lload_n 2, 1) := by decide +kernel
theorem dX0_book_8 : decode cX0_book 8 = .ok (.ladd, 1) := by decide +kernel
theorem dX0_book_9 : decode cX0_book 9 = .ok (.lastore, 1) := by decide +kernel
theorem dX0_book_10 : decode cX0_book 10 = .ok (.aload_n 0, 1) := by decide +kernel
theorem dX0_book_11 : decode cX0_book 11 = .ok (.getfield 23, 3) := by decide +kernel
theorem dX0_book_14 : decode cX0_book 14 = .ok (.iload_n 1, 1) := by decide +kernel
theorem dX0_book_15 : decode cX0_book 15 = .ok (.iconst 1, 1) := by decide +kernel
theorem dX0_book_16 : decode cX0_book 16 = .ok (.iadd, 1) := by decide +kernel
theorem dX0_book_17 : decode cX0_book 17 = .ok (.dup2, 1) := by decide +kernel
theorem dX0_book_18 : decode cX0_book 18 = .ok (.laload, 1) := by decide +kernel
theorem dX0_book_19 : decode cX0_book 19 = .ok (.lload 4, 2) := by decide +kernel
theorem dX0_book_21 : decode cX0_book 21 = .ok (.ladd, 1) := by decide +kernel
theorem dX0_book_22 : decode cX0_book 22 = .ok (.lastore, 1) := by decide +kernel
theorem dX0_book_23 : decode cX0_book 23 = .ok (.return_, 1) := by decide +kernel
theorem dX1_init_0 : decode cX1_init 0 = .ok (.aload_n 0, 1) := by decide +kernel
theorem dX1_init_1 : decode cX1_init 1 = .ok (.invokespecial 1, 3) := by decide +kernel
theorem dX1_init_4 : decode cX1_init 4 = .ok (.aload_n 0, 1) := by decide +kernel
theorem dX1_init_5 : decode cX1_init 5 = .ok (.bipush 6, 2) := by decide +kernel
theorem dX1_init_7 : decode cX1_init 7 = .ok (.newarray .int, 2) := by decide +kernel
theorem dX1_init_9 : decode cX1_init 9 = .ok (.putfield 9, 3) := by decide +kernel
theorem dX1_init_12 : decode cX1_init 12 = .ok (.aload_n 0, 1) := by decide +kernel
theorem dX1_init_13 : decode cX1_init 13 = .ok (.bipush 12, 2) := by decide +kernel
theorem dX1_init_15 : decode cX1_init 15 = .ok (.newarray .int, 2) := by decide +kernel
theorem dX1_init_17 : decode cX1_init 17 = .ok (.putfield 13, 3) := by decide +kernel
theorem dX1_init_20 : decode cX1_init 20 = .ok (.return_, 1) := by decide +kernel
theorem dX1_together_0 : decode cX1_together 0 = .ok (.iconst 0, 1) := by decide +kernel
theorem dX1_together_1 : decode cX1_together 1 = .ok (.istore_n 1, 1) := by decide +kernel
theorem dX1_together_2 : decode cX1_together 2 = .ok (.iconst 0, 1) := by decide +kernel
theorem dX1_together_3 : decode cX1_together 3 = .ok (.istore_n 2, 1) := by decide +kernel
theorem dX1_together_4 : decode cX1_together 4 = .ok (.iload_n 2, 1) := by decide +kernel
theorem dX1_together_5 : decode cX1_together 5 = .ok (.bipush 6, 2) := by decide +kernel
theorem dX1_together_7 : decode cX1_together 7 = .ok (.if_icmp .ge 18, 3) := by decide +kernel
theorem dX1_together_10 : decode cX1_together 10 = .ok (.iload_n 1, 1) := by decide +kernel
theorem dX1_together_11 : decode cX1_together 11 = .ok (.aload_n 0, 1) := by decide +kernel
theorem dX1_together_12 : decode cX1_together 12 = .ok (.getfield 9, 3) := by decide +kernel
theorem dX1_together_15 : decode cX1_together 15 = .ok (.iload_n 2, 1) := by decide +kernel
theorem dX1_together_16 : decode cX1_together 16 = .ok (.iaload, 1) := by decide +kernel
theorem dX1_together_17 : decode cX1_together 17 = .ok (.iadd, 1) := by decide +kernel
theorem dX1_together_18 : decode cX1_together 18 = .ok (.istore_n 1, 1) := by decide +kernel
theorem dX1_together_19 : decode cX1_together 19 = .ok (.iinc 2 1, 3) := by decide +kernel
theorem dX1_together_22 : decode cX1_together 22 = .ok (.goto (-18), 3) := by decide +kernel
theorem dX1_together_25 : decode cX1_together 25 = .ok (.iload_n 1, 1) := by decide +kernel
theorem dX1_together_26 : decode cX1_together 26 = .ok (.ireturn, 1) := by decide +kernel
theorem dX1_comes_0 : decode cX1_comes 0 = .ok (.iconst 0, 1) := by decide +kernel
theorem dX1_comes_1 : decode cX1_comes 1 = .ok (.istore_n 2, 1) := by decide +kernel
theorem dX1_comes_2 : decode cX1_comes 2 = .ok (.iconst 0, 1) := by decide +kernel
theorem dX1_comes_3 : decode cX1_comes 3 = .ok (.istore_n 3, 1) := by decide +kernel
theorem dX1_comes_4 : decode cX1_comes 4 = .ok (.iload_n 3, 1) := by decide +kernel
theorem dX1_comes_5 : decode cX1_comes 5 = .ok (.bipush 6, 2) := by decide +kernel
theorem dX1_comes_7 : decode cX1_comes 7 = .ok (.if_icmp .ge 49, 3) := by decide +kernel
theorem dX1_comes_10 : decode cX1_comes 10 = .ok (.iload_n 1, 1) := by decide +kernel
theorem dX1_comes_11 : decode cX1_comes 11 = .ok (.iload_n 3, 1) := by decide +kernel
theorem dX1_comes_12 : decode cX1_comes 12 = .ok (.isub, 1) := by decide +kernel
theorem dX1_comes_13 : decode cX1_comes 13 = .ok (.istore 4, 2) := by decide +kernel
theorem dX1_comes_15 : decode cX1_comes 15 = .ok (.iload 4, 2) := by decide +kernel
theorem dX1_comes_17 : decode cX1_comes 17 = .ok (.ifCond .lt 33, 3) := by decide +kernel
theorem dX1_comes_20 : decode cX1_comes 20 = .ok (.iload 4, 2) := by decide +kernel
theorem dX1_comes_22 : decode cX1_comes 22 = .ok (.aload_n 0, 1) := by decide +kernel
theorem dX1_comes_23 : decode cX1_comes 23 = .ok (.getfield 16, 3) := by decide +kernel
theorem dX1_comes_26 : decode cX1_comes 26 = .ok (.if_icmp .ge 24, 3) := by decide +kernel
theorem dX1_comes_29 : decode cX1_comes 29 = .ok (.iload_n 2, 1) := by decide +kernel
theorem dX1_comes_30 : decode cX1_comes 30 = .ok (.aload_n 0, 1) := by decide +kernel
theorem dX1_comes_31 : decode cX1_comes 31 = .ok (.getfield 13, 3) := by decide +kernel
theorem dX1_comes_34 : decode cX1_comes 34 = .ok (.iload 4, 2) := by decide +kernel
theorem dX1_comes_36 : decode cX1_comes 36 = .ok (.iaload, 1) := by decide +kernel
theorem dX1_comes_37 : decode cX1_comes 37 = .ok (.aload_n 0, 1) := by decide +kernel
theorem dX1_comes_38 : decode cX1_comes 38 = .ok (.getfield 9, 3) := by decide +kernel
theorem dX1_comes_41 : decode cX1_comes 41 = .ok (.iload_n 3, 1) := by decide +kernel
theorem dX1_comes_42 : decode cX1_comes 42 = .ok (.iaload, 1) := by decide +kernel
theorem dX1_comes_43 : decode cX1_comes 43 = .ok (.imul, 1) := by decide +kernel
theorem dX1_comes_44 : decode cX1_comes 44 = .ok (.sipush 1000, 3) := by decide +kernel
theorem dX1_comes_47 : decode cX1_comes 47 = .ok (.idiv, 1) := by decide +kernel
theorem dX1_comes_48 : decode cX1_comes 48 = .ok (.iadd, 1) := by decide +kernel
theorem dX1_comes_49 : decode cX1_comes 49 = .ok (.istore_n 2, 1) := by decide +kernel
theorem dX1_comes_50 : decode cX1_comes 50 = .ok (.iinc 3 1, 3) := by decide +kernel
theorem dX1_comes_53 : decode cX1_comes 53 = .ok (.goto (-49), 3) := by decide +kernel
theorem dX1_comes_56 : decode cX1_comes 56 = .ok (.iload_n 2, 1) := by decide +kernel
theorem dX1_comes_57 : decode cX1_comes 57 = .ok (.ireturn, 1) := by decide +kernel
theorem dX2_init_0 : decode cX2_init 0 = .ok (.aload_n 0, 1) := by decide +kernel
theorem dX2_init_1 : decode cX2_init 1 = .ok (.invokespecial 3, 3) := by decide +kernel
theorem dX2_init_4 : decode cX2_init 4 = .ok (.aload_n 0, 1) := by decide +kernel
theorem dX2_init_5 : decode cX2_init 5 = .ok (.bipush 8, 2) := by decide +kernel
theorem dX2_init_7 : decode cX2_init 7 = .ok (.newarray .int, 2) := by decide +kernel
theorem dX2_init_9 : decode cX2_init 9 = .ok (.putfield 11, 3) := by decide +kernel
theorem dX2_init_12 : decode cX2_init 12 = .ok (.aload_n 0, 1) := by decide +kernel
theorem dX2_init_13 : decode cX2_init 13 = .ok (.bipush 8, 2) := by decide +kernel
theorem dX2_init_15 : decode cX2_init 15 = .ok (.newarray .int, 2) := by decide +kernel
theorem dX2_init_17 : decode cX2_init 17 = .ok (.putfield 15, 3) := by decide +kernel
theorem dX2_init_20 : decode cX2_init 20 = .ok (.aload_n 0, 1) := by decide +kernel
theorem dX2_init_21 : decode cX2_init 21 = .ok (.bipush 8, 2) := by decide +kernel
theorem dX2_init_23 : decode cX2_init 23 = .ok (.newarray .int, 2) := by decide +kernel
theorem dX2_init_25 : decode cX2_init 25 = .ok (.putfield 18, 3) := by decide +kernel
theorem dX2_init_28 : decode cX2_init 28 = .ok (.aload_n 0, 1) := by decide +kernel
theorem dX2_init_29 : decode cX2_init 29 = .ok (.bipush 6, 2) := by decide +kernel
theorem dX2_init_31 : decode cX2_init 31 = .ok (.newarray .int, 2) := by decide +kernel
theorem dX2_init_33 : decode cX2_init 33 = .ok (.putfield 21, 3) := by decide +kernel
theorem dX2_init_36 : decode cX2_init 36 = .ok (.return_, 1) := by decide +kernel
theorem dX2_add_0 : decode cX2_add 0 = .ok (.aload_n 0, 1) := by decide +kernel
theorem dX2_add_1 : decode cX2_add 1 = .ok (.getfield 24, 3) := by decide +kernel
theorem dX2_add_4 : decode cX2_add 4 = .ok (.istore 4, 2) := by decide +kernel
theorem dX2_add_6 : decode cX2_add 6 = .ok (.aload_n 0, 1) := by decide +kernel
theorem dX2_add_7 : decode cX2_add 7 = .ok (.getfield 11, 3) := by decide +kernel
theorem dX2_add_10 : decode cX2_add 10 = .ok (.iload 4, 2) := by decide +kernel
theorem dX2_add_12 : decode cX2_add 12 = .ok (.iload_n 1, 1) := by decide +kernel
theorem dX2_add_13 : decode cX2_add 13 = .ok (.iastore, 1) := by decide +kernel
theorem dX2_add_14 : decode cX2_add 14 = .ok (.aload_n 0, 1) := by decide +kernel
theorem dX2_add_15 : decode cX2_add 15 = .ok (.getfield 15, 3) := by decide +kernel
theorem dX2_add_18 : decode cX2_add 18 = .ok (.iload 4, 2) := by decide +kernel
theorem dX2_add_20 : decode cX2_add 20 = .ok (.iload_n 2, 1) := by decide +kernel
theorem dX2_add_21 : decode cX2_add 21 = .ok (.iastore, 1) := by decide +kernel
theorem dX2_add_22 : decode cX2_add 22 = .ok (.aload_n 0, 1) := by decide +kernel
theorem dX2_add_23 : decode cX2_add 23 = .ok (.getfield 18, 3) := by decide +kernel
theorem dX2_add_26 : decode cX2_add 26 = .ok (.iload 4, 2) := by decide +kernel
theorem dX2_add_28 : decode cX2_add 28 = .ok (.iload_n 3, 1) := by decide +kernel
theorem dX2_add_29 : decode cX2_add 29 = .ok (.iastore, 1) := by decide +kernel
theorem dX2_add_30 : decode cX2_add 30 = .ok (.aload_n 0, 1) := by decide +kernel
theorem dX2_add_31 : decode cX2_add 31 = .ok (.dup, 1) := by decide +kernel
theorem dX2_add_32 : decode cX2_add 32 = .ok (.getfield 24, 3) := by decide +kernel
theorem dX2_add_35 : decode cX2_add 35 = .ok (.iconst 1, 1) := by decide +kernel
theorem dX2_add_36 : decode cX2_add 36 = .ok (.iadd, 1) := by decide +kernel
theorem dX2_add_37 : decode cX2_add 37 = .ok (.putfield 24, 3) := by decide +kernel
theorem dX2_add_40 : decode cX2_add 40 = .ok (.iload 4, 2) := by decide +kernel
theorem dX2_add_42 : decode cX2_add 42 = .ok (.ireturn, 1) := by decide +kernel
theorem dX2_sets_0 : decode cX2_sets 0 = .ok (.iconst 1, 1) := by decide +kernel
theorem dX2_sets_1 : decode cX2_sets 1 = .ok (.aload_n 0, 1) := by decide +kernel
theorem dX2_sets_2 : decode cX2_sets 2 = .ok (.getfield 24, 3) := by decide +kernel
theorem dX2_sets_5 : decode cX2_sets 5 = .ok (.ishl, 1) := by decide +kernel
theorem dX2_sets_6 : decode cX2_sets 6 = .ok (.ireturn, 1) := by decide +kernel
theorem dX2_price_0 : decode cX2_price 0 = .ok (.iconst 0, 1) := by decide +kernel
theorem dX2_price_1 : decode cX2_price 1 = .ok (.istore_n 2, 1) := by decide +kernel
theorem dX2_price_2 : decode cX2_price 2 = .ok (.iconst 0, 1) := by decide +kernel
theorem dX2_price_3 : decode cX2_price 3 = .ok (.istore_n 3, 1) := by decide +kernel
theorem dX2_price_4 : decode cX2_price 4 = .ok (.iload_n 3, 1) := by decide +kernel
theorem dX2_price_5 : decode cX2_price 5 = .ok (.aload_n 0, 1) := by decide +kernel
theorem dX2_price_6 : decode cX2_price 6 = .ok (.getfield 24, 3) := by decide +kernel
theorem dX2_price_9 : decode cX2_price 9 = .ok (.if_icmp .ge 27, 3) := by decide +kernel
theorem dX2_price_12 : decode cX2_price 12 = .ok (.iload_n 1, 1) := by decide +kernel
theorem dX2_price_13 : decode cX2_price 13 = .ok (.iload_n 3, 1) := by decide +kernel
theorem dX2_price_14 : decode cX2_price 14 = .ok (.ishr, 1) := by decide +kernel
theorem dX2_price_15 : decode cX2_price 15 = .ok (.iconst 1, 1) := by decide +kernel
theorem dX2_price_16 : decode cX2_price 16 = .ok (.iand, 1) := by decide +kernel
theorem dX2_price_17 : decode cX2_price 17 = .ok (.iconst 1, 1) := by decide +kernel
theorem dX2_price_18 : decode cX2_price 18 = .ok (.if_icmp .ne 12, 3) := by decide +kernel
theorem dX2_price_21 : decode cX2_price 21 = .ok (.iload_n 2, 1) := by decide +kernel
theorem dX2_price_22 : decode cX2_price 22 = .ok (.aload_n 0, 1) := by decide +kernel
theorem dX2_price_23 : decode cX2_price 23 = .ok (.getfield 11, 3) := by decide +kernel
theorem dX2_price_26 : decode cX2_price 26 = .ok (.iload_n 3, 1) := by decide +kernel
theorem dX2_price_27 : decode cX2_price 27 = .ok (.iaload, 1) := by decide +kernel
theorem dX2_price_28 : decode cX2_price 28 = .ok (.iadd, 1) := by decide +kernel
theorem dX2_price_29 : decode cX2_price 29 = .ok (.istore_n 2, 1) := by decide +kernel
theorem dX2_price_30 : decode cX2_price 30 = .ok (.iinc 3 1, 3) := by decide +kernel
theorem dX2_price_33 : decode cX2_price 33 = .ok (.goto (-29), 3) := by decide +kernel
theorem dX2_price_36 : decode cX2_price 36 = .ok (.iload_n 2, 1) := by decide +kernel
theorem dX2_price_37 : decode cX2_price 37 = .ok (.ireturn, 1) := by decide +kernel
theorem dX2_missing_0 : decode cX2_missing 0 = .ok (.iconst 0, 1) := by decide +kernel
theorem dX2_missing_1 : decode cX2_missing 1 = .ok (.istore_n 3, 1) := by decide +kernel
theorem dX2_missing_2 : decode cX2_missing 2 = .ok (.iconst 0, 1) := by decide +kernel
theorem dX2_missing_3 : decode cX2_missing 3 = .ok (.istore 4, 2) := by decide +kernel
theorem dX2_missing_5 : decode cX2_missing 5 = .ok (.iload 4, 2) := by decide +kernel
theorem dX2_missing_7 : decode cX2_missing 7 = .ok (.aload_n 0, 1) := by decide +kernel
theorem dX2_missing_8 : decode cX2_missing 8 = .ok (.getfield 24, 3) := by decide +kernel
theorem dX2_missing_11 : decode cX2_missing 11 = .ok (.if_icmp .ge 40, 3) := by decide +kernel
theorem dX2_missing_14 : decode cX2_missing 14 = .ok (.iload_n 1, 1) := by decide +kernel
theorem dX2_missing_15 : decode cX2_missing 15 = .ok (.iload 4, 2) := by decide +kernel
theorem dX2_missing_17 : decode cX2_missing 17 = .ok (.ishr, 1) := by decide +kernel
theorem dX2_missing_18 : decode cX2_missing 18 = .ok (.iconst 1, 1) := by decide +kernel
theorem dX2_missing_19 : decode cX2_missing 19 = .ok (.iand, 1) := by decide +kernel
theorem dX2_missing_20 : decode cX2_missing 20 = .ok (.iconst 1, 1) := by decide +kernel
theorem dX2_missing_21 : decode cX2_missing 21 = .ok (.if_icmp .ne 24, 3) := by decide +kernel
theorem dX2_missing_24 : decode cX2_missing 24 = .ok (.aload_n 0, 1) := by decide +kernel
theorem dX2_missing_25 : decode cX2_missing 25 = .ok (.getfield 15, 3) := by decide +kernel
theorem dX2_missing_28 : decode cX2_missing 28 = .ok (.iload 4, 2) := by decide +kernel
theorem dX2_missing_30 : decode cX2_missing 30 = .ok (.iaload, 1) := by decide +kernel
theorem dX2_missing_31 : decode cX2_missing 31 = .ok (.iload_n 2, 1) := by decide +kernel
theorem dX2_missing_32 : decode cX2_missing 32 = .ok (.if_icmp .gt 13, 3) := by decide +kernel
theorem dX2_missing_35 : decode cX2_missing 35 = .ok (.iload_n 3, 1) := by decide +kernel
theorem dX2_missing_36 : decode cX2_missing 36 = .ok (.aload_n 0, 1) := by decide +kernel
theorem dX2_missing_37 : decode cX2_missing 37 = .ok (.getfield 18, 3) := by decide +kernel
theorem dX2_missing_40 : decode cX2_missing 40 = .ok (.iload 4, 2) := by decide +kernel
theorem dX2_missing_42 : decode cX2_missing 42 = .ok (.iaload, 1) := by decide +kernel
theorem dX2_missing_43 : decode cX2_missing 43 = .ok (.iadd, 1) := by decide +kernel
theorem dX2_missing_44 : decode cX2_missing 44 = .ok (.istore_n 3, 1) := by decide +kernel
theorem dX2_missing_45 : decode cX2_missing 45 = .ok (.iinc 4 1, 3) := by decide +kernel
theorem dX2_missing_48 : decode cX2_missing 48 = .ok (.goto (-43), 3) := by decide +kernel
theorem dX2_missing_51 : decode cX2_missing 51 = .ok (.aload_n 0, 1) := by decide +kernel
theorem dX2_missing_52 : decode cX2_missing 52 = .ok (.getfield 21, 3) := by decide +kernel
theorem dX2_missing_55 : decode cX2_missing 55 = .ok (.iload_n 2, 1) := by decide +kernel
theorem dX2_missing_56 : decode cX2_missing 56 = .ok (.iaload, 1) := by decide +kernel
theorem dX2_missing_57 : decode cX2_missing 57 = .ok (.iload_n 3, 1) := by decide +kernel
theorem dX2_missing_58 : decode cX2_missing 58 = .ok (.isub, 1) := by decide +kernel
theorem dX2_missing_59 : decode cX2_missing 59 = .ok (.iconst 0, 1) := by decide +kernel
theorem dX2_missing_60 : decode cX2_missing 60 = .ok (.invokestatic 28, 3) := by decide +kernel
theorem dX2_missing_63 : decode cX2_missing 63 = .ok (.ireturn, 1) := by decide +kernel
set_option maxRecDepth 20000 in
theorem ggX2_keeps_X2_missing : GoodIn wsX2_keeps wsX2_missing := goodIn_r _ [5, 6, 7, 8, 9, 10, 11, 12, 13, 14, 15, 16, 17, 18] (by decide +kernel) (by decide +kernel)
set_option maxRecDepth 20000 in
theorem gX2_keeps_X2_missing : GoodIn wsX2_keeps (wsV RX2 34 RX2 yX2_missing wsX2_missing) := goodIn_app (goodIn_of _ (by decide +kernel)) ggX2_keeps_X2_missing
theorem dX2_keeps_0 : decode cX2_keeps 0 = .ok (.iconst 0, 1) := by decide +kernel
theorem dX2_keeps_1 : decode cX2_keeps 1 = .ok (.istore_n 2, 1) := by decide +kernel
theorem dX2_keeps_2 : decode cX2_keeps 2 = .ok (.iload_n 2, 1) := by decide +kernel
theorem dX2_keeps_3 : decode cX2_keeps 3 = .ok (.bipush 6, 2) := by decide +kernel
theorem dX2_keeps_5 : decode cX2_keeps 5 = .ok (.if_icmp .ge 20, 3) := by decide +kernel
theorem dX2_keeps_8 : decode cX2_keeps 8 = .ok (.aload_n 0, 1) := by decide +kernel
theorem dX2_keeps_9 : decode cX2_keeps 9 = .ok (.iload_n 1, 1) := by decide +kernel
theorem dX2_keeps_10 : decode cX2_keeps 10 = .ok (.iload_n 2, 1) := by decide +kernel
theorem dX2_keeps_11 : decode cX2_keeps 11 = .ok (.invokevirtual 34, 3) := by decide +kernel
theorem dX2_keeps_14 : decode cX2_keeps 14 = .ok (.ifCond .le 5, 3) := by decide +kernel
theorem dX2_keeps_17 : decode cX2_keeps 17 = .ok (.iconst 0, 1) := by decide +kernel
theorem dX2_keeps_18 : decode cX2_keeps 18 = .ok (.ireturn, 1) := by decide +kernel
theorem dX2_keeps_19 : decode cX2_keeps 19 = .ok (.iinc 2 1, 3) := by decide +kernel
theorem dX2_keeps_22 : decode cX2_keeps 22 = .ok (.goto (-20), 3) := by decide +kernel
theorem dX2_keeps_25 : decode cX2_keeps 25 = .ok (.iconst 1, 1) := by decide +kernel
theorem dX2_keeps_26 : decode cX2_keeps 26 = .ok (.ireturn, 1) := by decide +kernel
set_option maxRecDepth 20000 in
theorem ggX2_cheapest_X2_sets : GoodIn wsX2_cheapest wsX2_sets := goodIn_r _ [5, 6, 27, 28, 29, 30, 31] (by decide +kernel) (by decide +kernel)
set_option maxRecDepth 20000 in
theorem gX2_cheapest_X2_sets : GoodIn wsX2_cheapest (wsV RX2 37 RX2 yX2_sets wsX2_sets) := goodIn_app (goodIn_of _ (by decide +kernel)) ggX2_cheapest_X2_sets
set_option maxRecDepth 20000 in
theorem ggX2_cheapest_X2_price : GoodIn wsX2_cheapest wsX2_price := goodIn_r _ [10, 6, 11, 27, 28, 29, 30, 31] (by decide +kernel) (by decide +kernel)
set_option maxRecDepth 20000 in
theorem gX2_cheapest_X2_price : GoodIn wsX2_cheapest (wsV RX2 41 RX2 yX2_price wsX2_price) := goodIn_app (goodIn_of _ (by decide +kernel)) ggX2_cheapest_X2_price
set_option maxRecDepth 20000 in
theorem ggX2_cheapest_X2_keeps : GoodIn wsX2_cheapest wsX2_keeps := goodIn_r _ [15, 16, 17, 18, 4, 19, 6, 20, 21, 22, 23, 24, 25, 26, 27, 28, 29, 30, 31] (by decide +kernel) (by decide +kernel)
set_option maxRecDepth 20000 in
theorem gX2_cheapest_X2_keeps : GoodIn wsX2_cheapest (wsV RX2 45 RX2 yX2_keeps wsX2_keeps) := goodIn_app (goodIn_of _ (by decide +kernel)) ggX2_cheapest_X2_keeps
theorem dX2_cheapest_0 : decode cX2_cheapest 0 = .ok (.bipush (-9), 2) := by decide +kernel
theorem dX2_cheapest_2 : decode cX2_cheapest 2 = .ok (.istore_n 1, 1) := by decide +kernel
theorem dX2_cheapest_3 : decode cX2_cheapest 3 = .ok (.iconst 0, 1) := by decide +kernel
theorem dX2_cheapest_4 : decode cX2_cheapest 4 = .ok (.istore_n 2, 1) := by decide +kernel
theorem dX2_cheapest_5 : decode cX2_cheapest 5 = .ok (.iconst 0, 1) := by decide +kernel
theorem dX2_cheapest_6 : decode cX2_cheapest 6 = .ok (.istore_n 3, 1) := by decide +kernel
theorem dX2_cheapest_7 : decode cX2_cheapest 7 = .ok (.iload_n 3, 1) := by decide +kernel
theorem dX2_cheapest_8 : decode cX2_cheapest 8 = .ok (.aload_n 0, 1) := by decide +kernel
theorem dX2_cheapest_9 : decode cX2_cheapest 9 = .ok (.invokevirtual 37, 3) := by decide +kernel
theorem dX2_cheapest_12 : decode cX2_cheapest 12 = .ok (.if_icmp .ge 41, 3) := by decide +kernel
theorem dX2_cheapest_15 : decode cX2_cheapest 15 = .ok (.aload_n 0, 1) := by decide +kernel
theorem dX2_cheapest_16 : decode cX2_cheapest 16 = .ok (.iload_n 3, 1) := by decide +kernel
theorem dX2_cheapest_17 : decode cX2_cheapest 17 = .ok (.invokevirtual 41, 3) := by decide +kernel
theorem dX2_cheapest_20 : decode cX2_cheapest 20 = .ok (.istore 4, 2) := by decide +kernel
theorem dX2_cheapest_22 : decode cX2_cheapest 22 = .ok (.iload_n 1, 1) := by decide +kernel
theorem dX2_cheapest_23 : decode cX2_cheapest 23 = .ok (.bipush (-9), 2) := by decide +kernel
theorem dX2_cheapest_25 : decode cX2_cheapest 25 = .ok (.if_icmp .eq 9, 3) := by decide +kernel
theorem dX2_cheapest_28 : decode cX2_cheapest 28 = .ok (.iload 4, 2) := by decide +kernel
theorem dX2_cheapest_30 : decode cX2_cheapest 30 = .ok (.iload_n 2, 1) := by decide +kernel
theorem dX2_cheapest_31 : decode cX2_cheapest 31 = .ok (.if_icmp .ge 16, 3) := by decide +kernel
theorem dX2_cheapest_34 : decode cX2_cheapest 34 = .ok (.aload_n 0, 1) := by decide +kernel
theorem dX2_cheapest_35 : decode cX2_cheapest 35 = .ok (.iload_n 3, 1) := by decide +kernel
theorem dX2_cheapest_36 : decode cX2_cheapest 36 = .ok (.invokevirtual 45, 3) := by decide +kernel
theorem dX2_cheapest_39 : decode cX2_cheapest 39 = .ok (.ifCond .eq 8, 3) := by decide +kernel
theorem dX2_cheapest_42 : decode cX2_cheapest 42 = .ok (.iload_n 3, 1) := by decide +kernel
theorem dX2_cheapest_43 : decode cX2_cheapest 43 = .ok (.istore_n 1, 1) := by decide +kernel
theorem dX2_cheapest_44 : decode cX2_cheapest 44 = .ok (.iload 4, 2) := by decide +kernel
theorem dX2_cheapest_46 : decode cX2_cheapest 46 = .ok (.istore_n 2, 1) := by decide +kernel
theorem dX2_cheapest_47 : decode cX2_cheapest 47 = .ok (.iinc 3 1, 3) := by decide +kernel
theorem dX2_cheapest_50 : decode cX2_cheapest 50 = .ok (.goto (-43), 3) := by decide +kernel
theorem dX2_cheapest_53 : decode cX2_cheapest 53 = .ok (.iload_n 1, 1) := by decide +kernel
theorem dX2_cheapest_54 : decode cX2_cheapest 54 = .ok (.ireturn, 1) := by decide +kernel
theorem dX3_init_0 : decode cX3_init 0 = .ok (.aload_n 0, 1) := by decide +kernel
theorem dX3_init_1 : decode cX3_init 1 = .ok (.invokespecial 1, 3) := by decide +kernel
theorem dX3_init_4 : decode cX3_init 4 = .ok (.aload_n 0, 1) := by decide +kernel
theorem dX3_init_5 : decode cX3_init 5 = .ok (.iconst 4, 1) := by decide +kernel
theorem dX3_init_6 : decode cX3_init 6 = .ok (.newarray .int, 2) := by decide +kernel
theorem dX3_init_8 : decode cX3_init 8 = .ok (.putfield 9, 3) := by decide +kernel
theorem dX3_init_11 : decode cX3_init 11 = .ok (.aload_n 0, 1) := by decide +kernel
theorem dX3_init_12 : decode cX3_init 12 = .ok (.iconst 4, 1) := by decide +kernel
theorem dX3_init_13 : decode cX3_init 13 = .ok (.newarray .int, 2) := by decide +kernel
theorem dX3_init_15 : decode cX3_init 15 = .ok (.putfield 13, 3) := by decide +kernel
theorem dX3_init_18 : decode cX3_init 18 = .ok (.aload_n 0, 1) := by decide +kernel
theorem dX3_init_19 : decode cX3_init 19 = .ok (.iconst 4, 1) := by decide +kernel
theorem dX3_init_20 : decode cX3_init 20 = .ok (.newarray .int, 2) := by decide +kernel
theorem dX3_init_22 : decode cX3_init 22 = .ok (.putfield 16, 3) := by decide +kernel
theorem dX3_init_25 : decode cX3_init 25 = .ok (.aload_n 0, 1) := by decide +kernel
theorem dX3_init_26 : decode cX3_init 26 = .ok (.iconst 4, 1) := by decide +kernel
theorem dX3_init_27 : decode cX3_init 27 = .ok (.newarray .boolean, 2) := by decide +kernel
theorem dX3_init_29 : decode cX3_init 29 = .ok (.putfield 19, 3) := by decide +kernel
theorem dX3_init_32 : decode cX3_init 32 = .ok (.return_, 1) := by decide +kernel
theorem dX3_add_0 : decode cX3_add 0 = .ok (.aload_n 0, 1) := by decide +kernel
theorem dX3_add_1 : decode cX3_add 1 = .ok (.getfield 23, 3) := by decide +kernel
theorem dX3_add_4 : decode cX3_add 4 = .ok (.istore 4, 2) := by decide +kernel
theorem dX3_add_6 : decode cX3_add 6 = .ok (.aload_n 0, 1) := by decide +kernel
theorem dX3_add_7 : decode cX3_add 7 = .ok (.getfield 9, 3) := by decide +kernel
theorem dX3_add_10 : decode cX3_add 10 = .ok (.iload 4, 2) := by decide +kernel
theorem dX3_add_12 : decode cX3_add 12 = .ok (.iload_n 1, 1) := by decide +kernel
theorem dX3_add_13 : decode cX3_add 13 = .ok (.iastore, 1) := by decide +kernel
theorem dX3_add_14 : decode cX3_add 14 = .ok (.aload_n 0, 1) := by decide +kernel
theorem dX3_add_15 : decode cX3_add 15 = .ok (.getfield 13, 3) := by decide +kernel
theorem dX3_add_18 : decode cX3_add 18 = .ok (.iload 4, 2) := by decide +kernel
theorem dX3_add_20 : decode cX3_add 20 = .ok (.iload_n 2, 1) := by decide +kernel
theorem dX3_add_21 : decode cX3_add 21 = .ok (.iastore, 1) := by decide +kernel
theorem dX3_add_22 : decode cX3_add 22 = .ok (.aload_n 0, 1) := by decide +kernel
theorem dX3_add_23 : decode cX3_add 23 = .ok (.getfield 16, 3) := by decide +kernel
theorem dX3_add_26 : decode cX3_add 26 = .ok (.iload 4, 2) := by decide +kernel
theorem dX3_add_28 : decode cX3_add 28 = .ok (.iload_n 3, 1) := by decide +kernel
theorem dX3_add_29 : decode cX3_add 29 = .ok (.iastore, 1) := by decide +kernel
theorem dX3_add_30 : decode cX3_add 30 = .ok (.aload_n 0, 1) := by decide +kernel
theorem dX3_add_31 : decode cX3_add 31 = .ok (.getfield 19, 3) := by decide +kernel
theorem dX3_add_34 : decode cX3_add 34 = .ok (.iload 4, 2) := by decide +kernel
theorem dX3_add_36 : decode cX3_add 36 = .ok (.iconst 1, 1) := by decide +kernel
theorem dX3_add_37 : decode cX3_add 37 = .ok (.bastore, 1) := by decide +kernel
theorem dX3_add_38 : decode cX3_add 38 = .ok (.aload_n 0, 1) := by decide +kernel
theorem dX3_add_39 : decode cX3_add 39 = .ok (.dup, 1) := by decide +kernel
theorem dX3_add_40 : decode cX3_add 40 = .ok (.getfield 23, 3) := by decide +kernel
theorem dX3_add_43 : decode cX3_add 43 = .ok (.iconst 1, 1) := by decide +kernel
theorem dX3_add_44 : decode cX3_add 44 = .ok (.iadd, 1) := by decide +kernel
theorem dX3_add_45 : decode cX3_add 45 = .ok (.putfield 23, 3) := by decide +kernel
theorem dX3_add_48 : decode cX3_add 48 = .ok (.iload 4, 2) := by decide +kernel
theorem dX3_add_50 : decode cX3_add 50 = .ok (.ireturn, 1) := by decide +kernel
theorem dX3_draw_0 : decode cX3_draw 0 = .ok (.iconst 0, 1) := by decide +kernel
theorem dX3_draw_1 : decode cX3_draw 1 = .ok (.istore_n 2, 1) := by decide +kernel
theorem dX3_draw_2 : decode cX3_draw 2 = .ok (.iconst 0, 1) := by decide +kernel
theorem dX3_draw_3 : decode cX3_draw 3 = .ok (.istore_n 3, 1) := by decide +kernel
theorem dX3_draw_4 : decode cX3_draw 4 = .ok (.iload_n 3, 1) := by decide +kernel
theorem dX3_draw_5 : decode cX3_draw 5 = .ok (.aload_n 0, 1) := by decide +kernel
theorem dX3_draw_6 : decode cX3_draw 6 = .ok (.getfield 23, 3) := by decide +kernel
theorem dX3_draw_9 : decode cX3_draw 9 = .ok (.if_icmp .ge 50, 3) := by decide +kernel
theorem dX3_draw_12 : decode cX3_draw 12 = .ok (.aload_n 0, 1) := by decide +kernel
theorem dX3_draw_13 : decode cX3_draw 13 = .ok (.getfield 19, 3) := by decide +kernel
theorem dX3_draw_16 : decode cX3_draw 16 = .ok (.iload_n 3, 1) := by decide +kernel
theorem dX3_draw_17 : decode cX3_draw 17 = .ok (.baload, 1) := by decide +kernel
theorem dX3_draw_18 : decode cX3_draw 18 = .ok (.ifCond .eq 35, 3) := by decide +kernel
theorem dX3_draw_21 : decode cX3_draw 21 = .ok (.iload_n 1, 1) := by decide +kernel
theorem dX3_draw_22 : decode cX3_draw 22 = .ok (.aload_n 0, 1) := by decide +kernel
theorem dX3_draw_23 : decode cX3_draw 23 = .ok (.getfield 9, 3) := by decide +kernel
theorem dX3_draw_26 : decode cX3_draw 26 = .ok (.iload_n 3, 1) := by decide +kernel
theorem dX3_draw_27 : decode cX3_draw 27 = .ok (.iaload, 1) := by decide +kernel
theorem dX3_draw_28 : decode cX3_draw 28 = .ok (.if_icmp .lt 25, 3) := by decide +kernel
theorem dX3_draw_31 : decode cX3_draw 31 = .ok (.iload_n 2, 1) := by decide +kernel
theorem dX3_draw_32 : decode cX3_draw 32 = .ok (.aload_n 0, 1) := by decide +kernel
theorem dX3_draw_33 : decode cX3_draw 33 = .ok (.getfield 13, 3) := by decide +kernel
theorem dX3_draw_36 : decode cX3_draw 36 = .ok (.iload_n 3, 1) := by decide +kernel
theorem dX3_draw_37 : decode cX3_draw 37 = .ok (.iaload, 1) := by decide +kernel
theorem dX3_draw_38 : decode cX3_draw 38 = .ok (.iload_n 1, 1) := by decide +kernel
theorem dX3_draw_39 : decode cX3_draw 39 = .ok (.iconst 1, 1) := by decide +kernel
theorem dX3_draw_40 : decode cX3_draw 40 = .ok (.iadd, 1) := by decide +kernel
theorem dX3_draw_41 : decode cX3_draw 41 = .ok (.imul, 1) := by decide +kernel
theorem dX3_draw_42 : decode cX3_draw 42 = .ok (.aload_n 0, 1) := by decide +kernel
theorem dX3_draw_43 : decode cX3_draw 43 = .ok (.getfield 16, 3) := by decide +kernel
theorem dX3_draw_46 : decode cX3_draw 46 = .ok (.iload_n 3, 1) := by decide +kernel
theorem dX3_draw_47 : decode cX3_draw 47 = .ok (.iaload, 1) := by decide +kernel
theorem dX3_draw_48 : decode cX3_draw 48 = .ok (.invokestatic 27, 3) := by decide +kernel
theorem dX3_draw_51 : decode cX3_draw 51 = .ok (.iadd, 1) := by decide +kernel
theorem dX3_draw_52 : decode cX3_draw 52 = .ok (.istore_n 2, 1) := by decide +kernel
theorem dX3_draw_53 : decode cX3_draw 53 = .ok (.iinc 3 1, 3) := by decide +kernel
theorem dX3_draw_56 : decode cX3_draw 56 = .ok (.goto (-52), 3) := by decide +kernel
theorem dX3_draw_59 : decode cX3_draw 59 = .ok (.iload_n 2, 1) := by decide +kernel
theorem dX3_draw_60 : decode cX3_draw 60 = .ok (.ireturn, 1) := by decide +kernel
theorem dX4_init_0 : decode cX4_init 0 = .ok (.aload_n 0, 1) := by decide +kernel
theorem dX4_init_1 : decode cX4_init 1 = .ok (.invokespecial 1, 3) := by decide +kernel
theorem dX4_init_4 : decode cX4_init 4 = .ok (.aload_n 0, 1) := by decide +kernel
theorem dX4_init_5 : decode cX4_init 5 = .ok (.bipush 8, 2) := by decide +kernel
theorem dX4_init_7 : decode cX4_init 7 = .ok (.newarray .int, 2) := by decide +kernel
theorem dX4_init_9 : decode cX4_init 9 = .ok (.putfield 9, 3) := by decide +kernel
theorem dX4_init_12 : decode cX4_init 12 = .ok (.aload_n 0, 1) := by decide +kernel
theorem dX4_init_13 : decode cX4_init 13 = .ok (.bipush 8, 2) := by decide +kernel
theorem dX4_init_15 : decode cX4_init 15 = .ok (.newarray .int, 2) := by decide +kernel
theorem dX4_init_17 : decode cX4_init 17 = .ok (.putfield 13, 3) := by decide +kernel
theorem dX4_init_20 : decode cX4_init 20 = .ok (.aload_n 0, 1) := by decide +kernel
theorem dX4_init_21 : decode cX4_init 21 = .ok (.bipush 8, 2) := by decide +kernel
theorem dX4_init_23 : decode cX4_init 23 = .ok (.newarray .int, 2) := by decide +kernel
theorem dX4_init_25 : decode cX4_init 25 = .ok (.putfield 16, 3) := by decide +kernel
theorem dX4_init_28 : decode cX4_init 28 = .ok (.aload_n 0, 1) := by decide +kernel
theorem dX4_init_29 : decode cX4_init 29 = .ok (.bipush 8, 2) := by decide +kernel
theorem dX4_init_31 : decode cX4_init 31 = .ok (.newarray .boolean, 2) := by decide +kernel
theorem dX4_init_33 : decode cX4_init 33 = .ok (.putfield 19, 3) := by decide +kernel
theorem dX4_init_36 : decode cX4_init 36 = .ok (.aload_n 0, 1) := by decide +kernel
theorem dX4_init_37 : decode cX4_init 37 = .ok (.bipush 40, 2) := by decide +kernel
theorem dX4_init_39 : decode cX4_init 39 = .ok (.newarray .int, 2) := by decide +kernel
theorem dX4_init_41 : decode cX4_init 41 = .ok (.putfield 23, 3) := by decide +kernel
theorem dX4_init_44 : decode cX4_init 44 = .ok (.return_, 1) := by decide +kernel
theorem dX4_add_0 : decode cX4_add 0 = .ok (.aload_n 0, 1) := by decide +kernel
theorem dX4_add_1 : decode cX4_add 1 = .ok (.getfield 26, 3) := by decide +kernel
theorem dX4_add_4 : decode cX4_add 4 = .ok (.istore_n 3, 1) := by decide +kernel
theorem dX4_add_5 : decode cX4_add 5 = .ok (.aload_n 0, 1) := by decide +kernel
theorem dX4_add_6 : decode cX4_add 6 = .ok (.getfield 9, 3) := by decide +kernel
theorem dX4_add_9 : decode cX4_add 9 = .ok (.iload_n 3, 1) := by decide +kernel
theorem dX4_add_10 : decode cX4_add 10 = .ok (.iload_n 1, 1) := by decide +kernel
theorem dX4_add_11 : decode cX4_add 11 = .ok (.iastore, 1) := by decide +kernel
theorem dX4_add_12 : decode cX4_add 12 = .ok (.aload_n 0, 1) := by decide +kernel
theorem dX4_add_13 : decode cX4_add 13 = .ok (.getfield 13, 3) := by decide +kernel
theorem dX4_add_16 : decode cX4_add 16 = .ok (.iload_n 3, 1) := by decide +kernel
theorem dX4_add_17 : decode cX4_add 17 = .ok (.iload_n 2, 1) := by decide +kernel
theorem dX4_add_18 : decode cX4_add 18 = .ok (.iastore, 1) := by decide +kernel
theorem dX4_add_19 : decode cX4_add 19 = .ok (.aload_n 0, 1) := by decide +kernel
theorem dX4_add_20 : decode cX4_add 20 = .ok (.dup, 1) := by decide +kernel
theorem dX4_add_21 : decode cX4_add 21 = .ok (.getfield 26, 3) := by decide +kernel
theorem dX4_add_24 : decode cX4_add 24 = .ok (.iconst 1, 1) := by decide +kernel
theorem dX4_add_25 : decode cX4_add 25 = .ok (.iadd, 1) := by decide +kernel
theorem dX4_add_26 : decode cX4_add 26 = .ok (.putfield 26, 3) := by decide +kernel
theorem dX4_add_29 : decode cX4_add 29 = .ok (.iload_n 3, 1) := by decide +kernel
theorem dX4_add_30 : decode cX4_add 30 = .ok (.ireturn, 1) := by decide +kernel
theorem dX4_shape_0 : decode cX4_shape 0 = .ok (.iload_n 1, 1) := by decide +kernel
theorem dX4_shape_1 : decode cX4_shape 1 = .ok (.iconst 5, 1) := by decide +kernel
theorem dX4_shape_2 : decode cX4_shape 2 = .ok (.imul, 1) := by decide +kernel
theorem dX4_shape_3 : decode cX4_shape 3 = .ok (.istore 7, 2) := by decide +kernel
theorem dX4_shape_5 : decode cX4_shape 5 = .ok (.aload_n 0, 1) := by decide +kernel
theorem dX4_shape_6 : decode cX4_shape 6 = .ok (.getfield 23, 3) := by decide +kernel
theorem dX4_shape_9 : decode cX4_shape 9 = .ok (.iload 7, 2) := by decide +kernel
theorem dX4_shape_11 : decode cX4_shape 11 = .ok (.iload_n 2, 1) := by decide +kernel
theorem dX4_shape_12 : decode cX4_shape 12 = .ok (.iastore, 1) := by decide +kernel
theorem dX4_shape_13 : decode cX4_shape 13 = .ok (.aload_n 0, 1) := by decide +kernel
theorem dX4_shape_14 : decode cX4_shape 14 = .ok (.getfield 23, 3) := by decide +kernel
theorem dX4_shape_17 : decode cX4_shape 17 = .ok (.iload 7, 2) := by decide +kernel
theorem dX4_shape_19 : decode cX4_shape 19 = .ok (.iconst 1, 1) := by decide +kernel
theorem dX4_shape_20 : decode cX4_shape 20 = .ok (.iadd, 1) := by decide +kernel
theorem dX4_shape_21 : decode cX4_shape 21 = .ok (.iload_n 3, 1) := by decide +kernel
theorem dX4_shape_22 : decode cX4_shape 22 = .ok (.iastore, 1) := by decide +kernel
theorem dX4_shape_23 : decode cX4_shape 23 = .ok (.aload_n 0, 1) := by decide +kernel
theorem dX4_shape_24 : decode cX4_shape 24 = .ok (.getfield 23, 3) := by decide +kernel
theorem dX4_shape_27 : decode cX4_shape 27 = .ok (.iload 7, 2) := by decide +kernel
theorem dX4_shape_29 : decode cX4_shape 29 = .ok (.iconst 2, 1) := by decide +kernel
theorem dX4_shape_30 : decode cX4_shape 30 = .ok (.iadd, 1) := by decide +kernel
theorem dX4_shape_31 : decode cX4_shape 31 = .ok (.iload 4, 2) := by decide +kernel
theorem dX4_shape_33 : decode cX4_shape 33 = .ok (.iastore, 1) := by decide +kernel
theorem dX4_shape_34 : decode cX4_shape 34 = .ok (.aload_n 0, 1) := by decide +kernel
theorem dX4_shape_35 : decode cX4_shape 35 = .ok (.getfield 23, 3) := by decide +kernel
theorem dX4_shape_38 : decode cX4_shape 38 = .ok (.iload 7, 2) := by decide +kernel
theorem dX4_shape_40 : decode cX4_shape 40 = .ok (.iconst 3, 1) := by decide +kernel
theorem dX4_shape_41 : decode cX4_shape 41 = .ok (.iadd, 1) := by decide +kernel
theorem dX4_shape_42 : decode cX4_shape 42 = .ok (.iload 5, 2) := by decide +kernel
theorem dX4_shape_44 : decode cX4_shape 44 = .ok (.iastore, 1) := by decide +kernel
theorem dX4_shape_45 : decode cX4_shape 45 = .ok (.aload_n 0, 1) := by decide +kernel
theorem dX4_shape_46 : decode cX4_shape 46 = .ok (.getfield 23, 3) := by decide +kernel
theorem dX4_shape_49 : decode cX4_shape 49 = .ok (.iload 7, 2) := by decide +kernel
theorem dX4_shape_51 : decode cX4_shape 51 = .ok (.iconst 4, 1) := by decide +kernel
theorem dX4_shape_52 : decode cX4_shape 52 = .ok (.iadd, 1) := by decide +kernel
theorem dX4_shape_53 : decode cX4_shape 53 = .ok (.iload 6, 2) := by decide +kernel
theorem dX4_shape_55 : decode cX4_shape 55 = .ok (.iastore, 1) := by decide +kernel
theorem dX4_shape_56 : decode cX4_shape 56 = .ok (.return_, 1) := by decide +kernel
theorem dX4_weight_0 : decode cX4_weight 0 = .ok (.iconst 1, 1) := by decide +kernel
theorem dX4_weight_1 : decode cX4_weight 1 = .ok (.istore_n 2, 1) := by decide +kernel
theorem dX4_weight_2 : decode cX4_weight 2 = .ok (.aload_n 0, 1) := by decide +kernel
theorem dX4_weight_3 : decode cX4_weight 3 = .ok (.getfield 9, 3) := by decide +kernel
theorem dX4_weight_6 : decode cX4_weight 6 = .ok (.iload_n 1, 1) := by decide +kernel
theorem dX4_weight_7 : decode cX4_weight 7 = .ok (.iaload, 1) := by decide +kernel
theorem dX4_weight_8 : decode cX4_weight 8 = .ok (.iconst 1, 1) := by decide +kernel
theorem dX4_weight_9 : decode cX4_weight 9 = .ok (.if_icmp .lt 6, 3) := by decide +kernel
theorem dX4_weight_12 : decode cX4_weight 12 = .ok (.iinc 2 10, 3) := by decide +kernel
theorem dX4_weight_15 : decode cX4_weight 15 = .ok (.aload_n 0, 1) := by decide +kernel
theorem dX4_weight_16 : decode cX4_weight 16 = .ok (.getfield 9, 3) := by decide +kernel
theorem dX4_weight_19 : decode cX4_weight 19 = .ok (.iload_n 1, 1) := by decide +kernel
theorem dX4_weight_20 : decode cX4_weight 20 = .ok (.iaload, 1) := by decide +kernel
theorem dX4_weight_21 : decode cX4_weight 21 = .ok (.iconst 2, 1) := by decide +kernel
theorem dX4_weight_22 : decode cX4_weight 22 = .ok (.if_icmp .lt 6, 3) := by decide +kernel
theorem dX4_weight_25 : decode cX4_weight 25 = .ok (.iinc 2 100, 3) := by decide +kernel
theorem dX4_weight_28 : decode cX4_weight 28 = .ok (.iload_n 2, 1) := by decide +kernel
theorem dX4_weight_29 : decode cX4_weight 29 = .ok (.ireturn, 1) := by decide +kernel
set_option maxRecDepth 20000 in
theorem ggX4_fifths_X4_plain : GoodIn wsX4_fifths wsX4_plain := goodIn_r _ [7, 8, 19, 20, 21, 22, 23, 24] (by decide +kernel) (by decide +kernel)
set_option maxRecDepth 20000 in
theorem gX4_fifths_X4_plain : GoodIn wsX4_fifths (wsV RX4 30 RX4 yX4_plain wsX4_plain) := goodIn_app (goodIn_of _ (by decide +kernel)) ggX4_fifths_X4_plain
set_option maxRecDepth 20000 in
theorem ggX4_fifths_X4_scaled : GoodIn wsX4_fifths wsX4_scaled := goodIn_r _ [11] (by decide +kernel) (by decide +kernel)
set_option maxRecDepth 20000 in
theorem gX4_fifths_X4_scaled : GoodIn wsX4_fifths (va_wsS RX4 34 yX4_scaled wsX4_scaled) := goodIn_app (goodIn_of _ (by decide +kernel)) ggX4_fifths_X4_scaled
set_option maxRecDepth 20000 in
theorem ggX4_fifths_X4_tested : GoodIn wsX4_fifths wsX4_tested := goodIn_r _ [14, 15, 16, 17, 18] (by decide +kernel) (by decide +kernel)
set_option maxRecDepth 20000 in
theorem gX4_fifths_X4_tested : GoodIn wsX4_fifths (va_wsS RX4 37 yX4_tested wsX4_tested) := goodIn_app (goodIn_of _ (by decide +kernel)) ggX4_fifths_X4_tested
theorem dX4_fifths_0 : decode cX4_fifths 0 = .ok (.aload_n 0, 1) := by decide +kernel
theorem dX4_fifths_1 : decode cX4_fifths 1 = .ok (.iload_n 1, 1) := by decide +kernel
theorem dX4_fifths_2 : decode cX4_fifths 2 = .ok (.iload_n 2, 1) := by decide +kernel
theorem dX4_fifths_3 : decode cX4_fifths 3 = .ok (.invokevirtual 30, 3) := by decide +kernel
theorem dX4_fifths_6 : decode cX4_fifths 6 = .ok (.istore_n 3, 1) := by decide +kernel
theorem dX4_fifths_7 : decode cX4_fifths 7 = .ok (.aload_n 0, 1) := by decide +kernel
theorem dX4_fifths_8 : decode cX4_fifths 8 = .ok (.getfield 9, 3) := by decide +kernel
theorem dX4_fifths_11 : decode cX4_fifths 11 = .ok (.iload_n 1, 1) := by decide +kernel
theorem dX4_fifths_12 : decode cX4_fifths 12 = .ok (.iaload, 1) := by decide +kernel
theorem dX4_fifths_13 : decode cX4_fifths 13 = .ok (.iconst 1, 1) := by decide +kernel
theorem dX4_fifths_14 : decode cX4_fifths 14 = .ok (.if_icmp .lt 14, 3) := by decide +kernel
theorem dX4_fifths_17 : decode cX4_fifths 17 = .ok (.iload_n 3, 1) := by decide +kernel
theorem dX4_fifths_18 : decode cX4_fifths 18 = .ok (.aload_n 0, 1) := by decide +kernel
theorem dX4_fifths_19 : decode cX4_fifths 19 = .ok (.getfield 16, 3) := by decide +kernel
theorem dX4_fifths_22 : decode cX4_fifths 22 = .ok (.iload_n 1, 1) := by decide +kernel
theorem dX4_fifths_23 : decode cX4_fifths 23 = .ok (.iaload, 1) := by decide +kernel
theorem dX4_fifths_24 : decode cX4_fifths 24 = .ok (.invokestatic 34, 3) := by decide +kernel
theorem dX4_fifths_27 : decode cX4_fifths 27 = .ok (.istore_n 3, 1) := by decide +kernel
theorem dX4_fifths_28 : decode cX4_fifths 28 = .ok (.aload_n 0, 1) := by decide +kernel
theorem dX4_fifths_29 : decode cX4_fifths 29 = .ok (.getfield 9, 3) := by decide +kernel
theorem dX4_fifths_32 : decode cX4_fifths 32 = .ok (.iload_n 1, 1) := by decide +kernel
theorem dX4_fifths_33 : decode cX4_fifths 33 = .ok (.iaload, 1) := by decide +kernel
theorem dX4_fifths_34 : decode cX4_fifths 34 = .ok (.iconst 2, 1) := by decide +kernel
theorem dX4_fifths_35 : decode cX4_fifths 35 = .ok (.if_icmp .lt 8, 3) := by decide +kernel
theorem dX4_fifths_38 : decode cX4_fifths 38 = .ok (.iload_n 3, 1) := by decide +kernel
theorem dX4_fifths_39 : decode cX4_fifths 39 = .ok (.invokestatic 37, 3) := by decide +kernel
theorem dX4_fifths_42 : decode cX4_fifths 42 = .ok (.istore_n 3, 1) := by decide +kernel
theorem dX4_fifths_43 : decode cX4_fifths 43 = .ok (.iload_n 3, 1) := by decide +kernel
theorem dX4_fifths_44 : decode cX4_fifths 44 = .ok (.ireturn, 1) := by decide +kernel
theorem dX4_plain_0 : decode cX4_plain 0 = .ok (.iload_n 1, 1) := by decide +kernel
theorem dX4_plain_1 : decode cX4_plain 1 = .ok (.iconst 5, 1) := by decide +kernel
theorem dX4_plain_2 : decode cX4_plain 2 = .ok (.imul, 1) := by decide +kernel
theorem dX4_plain_3 : decode cX4_plain 3 = .ok (.iload_n 2, 1) := by decide +kernel
theorem dX4_plain_4 : decode cX4_plain 4 = .ok (.iconst 5, 1) := by decide +kernel
theorem dX4_plain_5 : decode cX4_plain 5 = .ok (.idiv, 1) := by decide +kernel
theorem dX4_plain_6 : decode cX4_plain 6 = .ok (.iadd, 1) := by decide +kernel
theorem dX4_plain_7 : decode cX4_plain 7 = .ok (.istore_n 3, 1) := by decide +kernel
theorem dX4_plain_8 : decode cX4_plain 8 = .ok (.iload_n 2, 1) := by decide +kernel
theorem dX4_plain_9 : decode cX4_plain 9 = .ok (.iconst 5, 1) := by decide +kernel
theorem dX4_plain_10 : decode cX4_plain 10 = .ok (.irem, 1) := by decide +kernel
theorem dX4_plain_11 : decode cX4_plain 11 = .ok (.istore 4, 2) := by decide +kernel
theorem dX4_plain_13 : decode cX4_plain 13 = .ok (.iconst 5, 1) := by decide +kernel
theorem dX4_plain_14 : decode cX4_plain 14 = .ok (.iload 4, 2) := by decide +kernel
theorem dX4_plain_16 : decode cX4_plain 16 = .ok (.isub, 1) := by decide +kernel
theorem dX4_plain_17 : decode cX4_plain 17 = .ok (.aload_n 0, 1) := by decide +kernel
theorem dX4_plain_18 : decode cX4_plain 18 = .ok (.getfield 23, 3) := by decide +kernel
theorem dX4_plain_21 : decode cX4_plain 21 = .ok (.iload_n 3, 1) := by decide +kernel
theorem dX4_plain_22 : decode cX4_plain 22 = .ok (.iaload, 1) := by decide +kernel
theorem dX4_plain_23 : decode cX4_plain 23 = .ok (.imul, 1) := by decide +kernel
theorem dX4_plain_24 : decode cX4_plain 24 = .ok (.istore 5, 2) := by decide +kernel
theorem dX4_plain_26 : decode cX4_plain 26 = .ok (.iload 4, 2) := by decide +kernel
theorem dX4_plain_28 : decode cX4_plain 28 = .ok (.ifCond .ne 8, 3) := by decide +kernel
theorem dX4_plain_31 : decode cX4_plain 31 = .ok (.iload 5, 2) := by decide +kernel
theorem dX4_plain_33 : decode cX4_plain 33 = .ok (.goto 17, 3) := by decide +kernel
theorem dX4_plain_36 : decode cX4_plain 36 = .ok (.iload 5, 2) := by decide +kernel
theorem dX4_plain_38 : decode cX4_plain 38 = .ok (.iload 4, 2) := by decide +kernel
theorem dX4_plain_40 : decode cX4_plain 40 = .ok (.aload_n 0, 1) := by decide +kernel
theorem dX4_plain_41 : decode cX4_plain 41 = .ok (.getfield 23, 3) := by decide +kernel
theorem dX4_plain_44 : decode cX4_plain 44 = .ok (.iload_n 3, 1) := by decide +kernel
theorem dX4_plain_45 : decode cX4_plain 45 = .ok (.iconst 1, 1) := by decide +kernel
theorem dX4_plain_46 : decode cX4_plain 46 = .ok (.iadd, 1) := by decide +kernel
theorem dX4_plain_47 : decode cX4_plain 47 = .ok (.iaload, 1) := by decide +kernel
theorem dX4_plain_48 : decode cX4_plain 48 = .ok (.imul, 1) := by decide +kernel
theorem dX4_plain_49 : decode cX4_plain 49 = .ok (.iadd, 1) := by decide +kernel
theorem dX4_plain_50 : decode cX4_plain 50 = .ok (.ireturn, 1) := by decide +kernel
theorem dX4_scaled_0 : decode cX4_scaled 0 = .ok (.iload_n 1, 1) := by decide +kernel
theorem dX4_scaled_1 : decode cX4_scaled 1 = .ok (.bipush 20, 2) := by decide +kernel
theorem dX4_scaled_3 : decode cX4_scaled 3 = .ok (.if_icmp .lt 7, 3) := by decide +kernel
theorem dX4_scaled_6 : decode cX4_scaled 6 = .ok (.iconst 0, 1) := by decide +kernel
theorem dX4_scaled_7 : decode cX4_scaled 7 = .ok (.goto 12, 3) := by decide +kernel
theorem dX4_scaled_10 : decode cX4_scaled 10 = .ok (.iload_n 0, 1) := by decide +kernel
theorem dX4_scaled_11 : decode cX4_scaled 11 = .ok (.bipush 20, 2) := by decide +kernel
theorem dX4_scaled_13 : decode cX4_scaled 13 = .ok (.iload_n 1, 1) := by decide +kernel
theorem dX4_scaled_14 : decode cX4_scaled 14 = .ok (.isub, 1) := by decide +kernel
theorem dX4_scaled_15 : decode cX4_scaled 15 = .ok (.imul, 1) := by decide +kernel
theorem dX4_scaled_16 : decode cX4_scaled 16 = .ok (.bipush 20, 2) := by decide +kernel
theorem dX4_scaled_18 : decode cX4_scaled 18 = .ok (.idiv, 1) := by decide +kernel
theorem dX4_scaled_19 : decode cX4_scaled 19 = .ok (.ireturn, 1) := by decide +kernel
theorem dX4_tested_0 : decode cX4_tested 0 = .ok (.iload_n 0, 1) := by decide +kernel
theorem dX4_tested_1 : decode cX4_tested 1 = .ok (.sipush 1000, 3) := by decide +kernel
theorem dX4_tested_4 : decode cX4_tested 4 = .ok (.invokestatic 41, 3) := by decide +kernel
theorem dX4_tested_7 : decode cX4_tested 7 = .ok (.ireturn, 1) := by decide +kernel
theorem dX4_steam_0 : decode cX4_steam 0 = .ok (.iload_n 0, 1) := by decide +kernel
theorem dX4_steam_1 : decode cX4_steam 1 = .ok (.sipush 300, 3) := by decide +kernel
theorem dX4_steam_4 : decode cX4_steam 4 = .ok (.iconst 5, 1) := by decide +kernel
theorem dX4_steam_5 : decode cX4_steam 5 = .ok (.iload_n 1, 1) := by decide +kernel
theorem dX4_steam_6 : decode cX4_steam 6 = .ok (.imul, 1) := by decide +kernel
theorem dX4_steam_7 : decode cX4_steam 7 = .ok (.isub, 1) := by decide +kernel
theorem dX4_steam_8 : decode cX4_steam 8 = .ok (.imul, 1) := by decide +kernel
theorem dX4_steam_9 : decode cX4_steam 9 = .ok (.sipush 1000, 3) := by decide +kernel
theorem dX4_steam_12 : decode cX4_steam 12 = .ok (.idiv, 1) := by decide +kernel
theorem dX4_steam_13 : decode cX4_steam 13 = .ok (.ireturn, 1) := by decide +kernel
set_option maxRecDepth 20000 in
theorem ggX4_supply_X4_fifths : GoodIn wsX4_supply wsX4_fifths := goodIn_r _ [7, 8, 9, 10, 11, 12, 6, 13, 14, 15, 16, 17, 18, 19, 20, 21, 22, 23, 24, 28, 29, 30, 31, 32, 33] (by decide +kernel) (by decide +kernel)
set_option maxRecDepth 20000 in
theorem gX4_supply_X4_fifths : GoodIn wsX4_supply (wsV RX4 46 RX4 yX4_fifths wsX4_fifths) := goodIn_app (goodIn_of _ (by decide +kernel)) ggX4_supply_X4_fifths
set_option maxRecDepth 20000 in
theorem ggX4_supply_X4_steam : GoodIn wsX4_supply wsX4_steam := goodIn_r _ [27] (by decide +kernel) (by decide +kernel)
set_option maxRecDepth 20000 in
theorem gX4_supply_X4_steam : GoodIn wsX4_supply (va_wsS RX4 49 yX4_steam wsX4_steam) := goodIn_app (goodIn_of _ (by decide +kernel)) ggX4_supply_X4_steam
theorem dX4_supply_0 : decode cX4_supply 0 = .ok (.iconst 0, 1) := by decide +kernel
theorem dX4_supply_1 : decode cX4_supply 1 = .ok (.istore_n 2, 1) := by decide +kernel
theorem dX4_supply_2 : decode cX4_supply 2 = .ok (.iconst 0, 1) := by decide +kernel
theorem dX4_supply_3 : decode cX4_supply 3 = .ok (.istore_n 3, 1) := by decide +kernel
theorem dX4_supply_4 : decode cX4_supply 4 = .ok (.iload_n 3, 1) := by decide +kernel
theorem dX4_supply_5 : decode cX4_supply 5 = .ok (.aload_n 0, 1) := by decide +kernel
theorem dX4_supply_6 : decode cX4_supply 6 = .ok (.getfield 26, 3) := by decide +kernel
theorem dX4_supply_9 : decode cX4_supply 9 = .ok (.if_icmp .ge 31, 3) := by decide +kernel
theorem dX4_supply_12 : decode cX4_supply 12 = .ok (.aload_n 0, 1) := by decide +kernel
theorem dX4_supply_13 : decode cX4_supply 13 = .ok (.getfield 19, 3) := by decide +kernel
theorem dX4_supply_16 : decode cX4_supply 16 = .ok (.iload_n 3, 1) := by decide +kernel
theorem dX4_supply_17 : decode cX4_supply 17 = .ok (.baload, 1) := by decide +kernel
theorem dX4_supply_18 : decode cX4_supply 18 = .ok (.ifCond .eq 16, 3) := by decide +kernel
theorem dX4_supply_21 : decode cX4_supply 21 = .ok (.iload_n 2, 1) := by decide +kernel
theorem dX4_supply_22 : decode cX4_supply 22 = .ok (.aload_n 0, 1) := by decide +kernel
theorem dX4_supply_23 : decode cX4_supply 23 = .ok (.iload_n 3, 1) := by decide +kernel
theorem dX4_supply_24 : decode cX4_supply 24 = .ok (.iload_n 1, 1) := by decide +kernel
theorem dX4_supply_25 : decode cX4_supply 25 = .ok (.invokevirtual 46, 3) := by decide +kernel
theorem dX4_supply_28 : decode cX4_supply 28 = .ok (.iload_n 1, 1) := by decide +kernel
theorem dX4_supply_29 : decode cX4_supply 29 = .ok (.invokestatic 49, 3) := by decide +kernel
theorem dX4_supply_32 : decode cX4_supply 32 = .ok (.iadd, 1) := by decide +kernel
theorem dX4_supply_33 : decode cX4_supply 33 = .ok (.istore_n 2, 1) := by decide +kernel
theorem dX4_supply_34 : decode cX4_supply 34 = .ok (.iinc 3 1, 3) := by decide +kernel
theorem dX4_supply_37 : decode cX4_supply 37 = .ok (.goto (-33), 3) := by decide +kernel
theorem dX4_supply_40 : decode cX4_supply 40 = .ok (.iload_n 2, 1) := by decide +kernel
theorem dX4_supply_41 : decode cX4_supply 41 = .ok (.ireturn, 1) := by decide +kernel
set_option maxRecDepth 20000 in
theorem ggX4_water_X4_fifths : GoodIn wsX4_water wsX4_fifths := goodIn_r _ [7, 8, 9, 10, 11, 12, 6, 13, 14, 15, 16, 17, 18, 19, 20, 21, 22, 23, 24, 28, 29, 30, 31, 32, 33] (by decide +kernel) (by decide +kernel)
set_option maxRecDepth 20000 in
theorem gX4_water_X4_fifths : GoodIn wsX4_water (wsV RX4 46 RX4 yX4_fifths wsX4_fifths) := goodIn_app (goodIn_of _ (by decide +kernel)) ggX4_water_X4_fifths
set_option maxRecDepth 20000 in
theorem ggX4_water_X4_steam : GoodIn wsX4_water wsX4_steam := goodIn_r _ [27] (by decide +kernel) (by decide +kernel)
set_option maxRecDepth 20000 in
theorem gX4_water_X4_steam : GoodIn wsX4_water (va_wsS RX4 49 yX4_steam wsX4_steam) := goodIn_app (goodIn_of _ (by decide +kernel)) ggX4_water_X4_steam
theorem dX4_water_0 : decode cX4_water 0 = .ok (.iconst 0, 1) := by decide +kernel
theorem dX4_water_1 : decode cX4_water 1 = .ok (.istore_n 2, 1) := by decide +kernel
theorem dX4_water_2 : decode cX4_water 2 = .ok (.iconst 0, 1) := by decide +kernel
theorem dX4_water_3 : decode cX4_water 3 = .ok (.istore_n 3, 1) := by decide +kernel
theorem dX4_water_4 : decode cX4_water 4 = .ok (.iload_n 3, 1) := by decide +kernel
theorem dX4_water_5 : decode cX4_water 5 = .ok (.aload_n 0, 1) := by decide +kernel
theorem dX4_water_6 : decode cX4_water 6 = .ok (.getfield 26, 3) := by decide +kernel
theorem dX4_water_9 : decode cX4_water 9 = .ok (.if_icmp .ge 38, 3) := by decide +kernel
theorem dX4_water_12 : decode cX4_water 12 = .ok (.aload_n 0, 1) := by decide +kernel
theorem dX4_water_13 : decode cX4_water 13 = .ok (.getfield 19, 3) := by decide +kernel
theorem dX4_water_16 : decode cX4_water 16 = .ok (.iload_n 3, 1) := by decide +kernel
theorem dX4_water_17 : decode cX4_water 17 = .ok (.baload, 1) := by decide +kernel
theorem dX4_water_18 : decode cX4_water 18 = .ok (.ifCond .eq 23, 3) := by decide +kernel
theorem dX4_water_21 : decode cX4_water 21 = .ok (.aload_n 0, 1) := by decide +kernel
theorem dX4_water_22 : decode cX4_water 22 = .ok (.iload_n 3, 1) := by decide +kernel
theorem dX4_water_23 : decode cX4_water 23 = .ok (.iload_n 1, 1) := by decide +kernel
theorem dX4_water_24 : decode cX4_water 24 = .ok (.invokevirtual 46, 3) := by decide +kernel
theorem dX4_water_27 : decode cX4_water 27 = .ok (.istore 4, 2) := by decide +kernel
theorem dX4_water_29 : decode cX4_water 29 = .ok (.iload_n 2, 1) := by decide +kernel
theorem dX4_water_30 : decode cX4_water 30 = .ok (.iload 4, 2) := by decide +kernel
theorem dX4_water_32 : decode cX4_water 32 = .ok (.iload 4, 2) := by decide +kernel
theorem dX4_water_34 : decode cX4_water 34 = .ok (.iload_n 1, 1) := by decide +kernel
theorem dX4_water_35 : decode cX4_water 35 = .ok (.invokestatic 49, 3) := by decide +kernel
theorem dX4_water_38 : decode cX4_water 38 = .ok (.isub, 1) := by decide +kernel
theorem dX4_water_39 : decode cX4_water 39 = .ok (.iadd, 1) := by decide +kernel
theorem dX4_water_40 : decode cX4_water 40 = .ok (.istore_n 2, 1) := by decide +kernel
theorem dX4_water_41 : decode cX4_water 41 = .ok (.iinc 3 1, 3) := by decide +kernel
theorem dX4_water_44 : decode cX4_water 44 = .ok (.goto (-40), 3) := by decide +kernel
theorem dX4_water_47 : decode cX4_water 47 = .ok (.iload_n 2, 1) := by decide +kernel
theorem dX4_water_48 : decode cX4_water 48 = .ok (.ireturn, 1) := by decide +kernel
theorem dX4_grow_0 : decode cX4_grow 0 = .ok (.iconst 0, 1) := by decide +kernel
theorem dX4_grow_1 : decode cX4_grow 1 = .ok (.istore_n 1, 1) := by decide +kernel
theorem dX4_grow_2 : decode cX4_grow 2 = .ok (.iload_n 1, 1) := by decide +kernel
theorem dX4_grow_3 : decode cX4_grow 3 = .ok (.aload_n 0, 1) := by decide +kernel
theorem dX4_grow_4 : decode cX4_grow 4 = .ok (.getfield 26, 3) := by decide +kernel
theorem dX4_grow_7 : decode cX4_grow 7 = .ok (.if_icmp .ge 28, 3) := by decide +kernel
theorem dX4_grow_10 : decode cX4_grow 10 = .ok (.aload_n 0, 1) := by decide +kernel
theorem dX4_grow_11 : decode cX4_grow 11 = .ok (.getfield 19, 3) := by decide +kernel
theorem dX4_grow_14 : decode cX4_grow 14 = .ok (.iload_n 1, 1) := by decide +kernel
theorem dX4_grow_15 : decode cX4_grow 15 = .ok (.baload, 1) := by decide +kernel
theorem dX4_grow_16 : decode cX4_grow 16 = .ok (.ifCond .eq 13, 3) := by decide +kernel
theorem dX4_grow_19 : decode cX4_grow 19 = .ok (.aload_n 0, 1) := by decide +kernel
theorem dX4_grow_20 : decode cX4_grow 20 = .ok (.getfield 16, 3) := by decide +kernel
theorem dX4_grow_23 : decode cX4_grow 23 = .ok (.iload_n 1, 1) := by decide +kernel
theorem dX4_grow_24 : decode cX4_grow 24 = .ok (.dup2, 1) := by decide +kernel
theorem dX4_grow_25 : decode cX4_grow 25 = .ok (.iaload, 1) := by decide +kernel
theorem dX4_grow_26 : decode cX4_grow 26 = .ok (.iconst 1, 1) := by decide +kernel
theorem dX4_grow_27 : decode cX4_grow 27 = .ok (.iadd, 1) := by decide +kernel
theorem dX4_grow_28 : decode cX4_grow 28 = .ok (.iastore, 1) := by decide +kernel
theorem dX4_grow_29 : decode cX4_grow 29 = .ok (.iinc 1 1, 3) := by decide +kernel
theorem dX4_grow_32 : decode cX4_grow 32 = .ok (.goto (-30), 3) := by decide +kernel

abbrev vwCl : List vw_C := [(RX0, TX0, 7), (RX1, TX1, 3), (RX2, TX2, 5), (RX3, TX3, 5), (RX4, TX4, 6), (RX5, TX5, 6), (RX6, TX6, 27)]
end
section
/-! The state of both systems as one value, and rows that the walks use. -/
abbrev hg_S : Type := (Nat → Nat) × (Nat → Nat → Int32) × (Nat → Nat → Int64) × Int64
/-- scalars: 0 wells, 1 turbines, 2 the share that is given back, 3 the box, 4 years told, 5 candidates -/
def hg_n (S : hg_S) (k : Nat) : Nat := S.1 k
/-- int rows: 0 kind, 1 box, 2 age, 3 open, 4 corners, 5 least, 6 rate, 7 most, 8 on, 9 leak, 10 feed, 11 shares, 12 put, 13 cost, 14 year, 15 steam, 16 promise -/
def hg_i (S : hg_S) (k : Nat) : Nat → Int32 := S.2.1 k
/-- long rows: 0 mass, 1 heat, 2 sums -/
def hg_l (S : hg_S) (k : Nat) : Nat → Int64 := S.2.2.1 k
def hg_t (S : hg_S) : Int64 := S.2.2.2
def hg_sn (S : hg_S) (k v : Nat) : hg_S := (va_up S.1 k v, S.2)
def hg_si (S : hg_S) (k : Nat) (f : Nat → Int32) : hg_S := (S.1, va_up S.2.1 k f, S.2.2)
def hg_sl (S : hg_S) (k : Nat) (f : Nat → Int64) : hg_S := (S.1, S.2.1, va_up S.2.2.1 k f, S.2.2.2)
def hg_st (S : hg_S) (v : Int64) : hg_S := (S.1, S.2.1, S.2.2.1, v)
/-- the system's cells: six objects, then their rows -/
def xW (o : Nat → Nat) (cI cJ cZ : ClassId) (S : hg_S) : va_W := [
  (o 0, .inr (5, [.ref (o 1), .ref (o 2), .ref (o 3), .ref (o 4), .ref (o 5), .long (hg_t S)])),
  (o 1, .inr (4, [.int (nI (hg_n S 0)), .ref (o 6), .ref (o 7), .ref (o 8), .ref (o 9), .ref (o 10)])),
  (o 2, .inr (3, [.int (nI (hg_n S 1)), .ref (o 11), .ref (o 12), .ref (o 13), .ref (o 14)])),
  (o 3, .inr (0, [.ref (o 15), .ref (o 16), .ref (o 17), .ref (o 18), .int (nI (hg_n S 2)), .int (nI (hg_n S 3)), .ref (o 19)])),
  (o 4, .inr (1, [.int (nI (hg_n S 4)), .ref (o 20), .ref (o 21)])),
  (o 5, .inr (2, [.int (nI (hg_n S 5)), .ref (o 22), .ref (o 23), .ref (o 24), .ref (o 25)])),
  (o 6, .inl (cI, 8, .inl (hg_i S 0))), (o 7, .inl (cI, 8, .inl (hg_i S 1))), (o 8, .inl (cI, 8, .inl (hg_i S 2))), (o 9, .inl (cZ, 8, .inl (hg_i S 3))), (o 10, .inl (cI, 40, .inl (hg_i S 4))),
  (o 11, .inl (cI, 4, .inl (hg_i S 5))), (o 12, .inl (cI, 4, .inl (hg_i S 6))), (o 13, .inl (cI, 4, .inl (hg_i S 7))), (o 14, .inl (cZ, 4, .inl (hg_i S 8))),
  (o 15, .inl (cJ, 4, .inr (.inl (hg_l S 0)))), (o 16, .inl (cJ, 4, .inr (.inl (hg_l S 1)))), (o 17, .inl (cI, 4, .inl (hg_i S 10))), (o 18, .inl (cI, 3, .inl (hg_i S 9))), (o 19, .inl (cJ, 9, .inr (.inl (hg_l S 2)))),
  (o 20, .inl (cI, 6, .inl (hg_i S 11))), (o 21, .inl (cI, 12, .inl (hg_i S 12))),
  (o 22, .inl (cI, 8, .inl (hg_i S 13))), (o 23, .inl (cI, 8, .inl (hg_i S 14))), (o 24, .inl (cI, 8, .inl (hg_i S 15))), (o 25, .inl (cI, 6, .inl (hg_i S 16)))]
/-- the reference's cells: its object, then its rows -/
def mW (o : Nat → Nat) (cI cJ cZ : ClassId) (S : hg_S) : va_W := [
  (o 0, .inr (6, [.int (nI (hg_n S 0)), .ref (o 1), .ref (o 2), .ref (o 3), .ref (o 4), .ref (o 5), .long (hg_t S), .int (nI (hg_n S 1)), .ref (o 6), .ref (o 7), .ref (o 8), .ref (o 9), .ref (o 10), .ref (o 11), .ref (o 12), .ref (o 13), .int (nI (hg_n S 2)), .int (nI (hg_n S 3)), .ref (o 14), .ref (o 15), .int (nI (hg_n S 4)), .ref (o 16), .int (nI (hg_n S 5)), .ref (o 17), .ref (o 18), .ref (o 19), .ref (o 20)])),
  (o 1, .inl (cI, 8, .inl (hg_i S 0))), (o 2, .inl (cI, 8, .inl (hg_i S 1))), (o 3, .inl (cI, 8, .inl (hg_i S 2))), (o 4, .inl (cZ, 8, .inl (hg_i S 3))), (o 5, .inl (cI, 40, .inl (hg_i S 4))),
  (o 6, .inl (cI, 4, .inl (hg_i S 5))), (o 7, .inl (cI, 4, .inl (hg_i S 6))), (o 8, .inl (cI, 4, .inl (hg_i S 7))), (o 9, .inl (cZ, 4, .inl (hg_i S 8))),
  (o 10, .inl (cJ, 4, .inr (.inl (hg_l S 0)))), (o 11, .inl (cJ, 4, .inr (.inl (hg_l S 1)))), (o 12, .inl (cI, 3, .inl (hg_i S 9))), (o 13, .inl (cI, 4, .inl (hg_i S 10))), (o 14, .inl (cJ, 9, .inr (.inl (hg_l S 2)))),
  (o 15, .inl (cI, 6, .inl (hg_i S 11))), (o 16, .inl (cI, 12, .inl (hg_i S 12))),
  (o 17, .inl (cI, 8, .inl (hg_i S 13))), (o 18, .inl (cI, 8, .inl (hg_i S 14))), (o 19, .inl (cI, 8, .inl (hg_i S 15))), (o 20, .inl (cI, 6, .inl (hg_i S 16)))]
abbrev hg_ty (cI cJ cZ : ClassId) : List (ClassId × FieldType) := [(cI, .int), (cJ, .long), (cZ, .boolean)]
/-- a picture that is only read -/
def hg_R (D : va_G) (ws : va_W) (tys : List (ClassId × FieldType)) (U : State) : Prop := va_P D vwCl ws U.heap ∧ va_K D vwCl tys U
/-- a picture that is written -/
def hg_Wr (D : va_G) (ws : va_W) (tys : List (ClassId × FieldType)) (sz : Nat) (U : State) : Prop := U.heap.size = sz ∧ va_P D vwCl ws U.heap ∧ va_K D vwCl tys U ∧ va_D (fun _ => True) ws
def hg_At (D : va_G) (ws : va_W) (A : Nat → Prop) (t : State) : Prop := va_P D vwCl ws t.heap ∧ va_D A ws
theorem h_start {l : Launch} {y : MethodName} {ws ws' : List Cond} {rm : Room} {Qc : Array Value → State → Outcome → State → Prop} {mc ms : Nat} {free : Addr → Prop} {cc : ByteArray} {maxL : Nat} {ret : Option FieldType} {av : List Value} {Pic : State → Prop}
    (hy : plainName y.cls = true) (hw : ws = Cond.code y cc maxL ret :: ws') (hn : (lg_sl av).length ≤ maxL)
    (body : ∀ (p : Program) (e : Env) (s : State) (m : MethodId) (args : Array Value) (below : List Frame) (meth : Method) (c : Code) (ls : Array Slot), p.tables.exec = Jvm.exec → c.code = cc → meth.sig.returnType = ret → (∀ w ∈ ws, w.before args s = true) → s.vm.findClass y.cls = some m.cls → meth.locks = false → c.maxLocals = maxL → meth.name = y.name → Pic s → lv_has ls maxL (lv_args 0 av) →
      W p l e rm s m args below meth c s.heap [] 0 0 (MQ below Qc args s mc ms free) (F0 m 0 ls [])) : Met l y ws rm (va_Pc av Pic) Qc mc ms free := by
  refine Met.ofW (cc := cc) (maxL := maxL) (ret := ret) hy hw ?_
  intro p e s m args below meth c s₁ B hml hv
  obtain ⟨rfl, hpic⟩ := hv
  rw [lg_entry_eq]
  exact body p e s m _ below meth c _ B.exec B.bytes B.returns (atoms_spec (ws := ws) B.pre) (findClass_of_methodNamed B.named) B.notSynchronized hml ((name_of_methodNamed B.named B.method).1) hpic (lv_entry av hn)
section HG
variable {p : Program} {l : Launch} {e : Env} {R : Room} {s : State} {m : MethodId} {args : Array Value} {below : List Frame} {meth : Method} {c : Code} {H : Heap} {locs : List Loc} {cells slots : Nat} {Q : State → Prop}
variable {cc : ByteArray} {pc : Nat} {ls : Array Slot} {rest st0 : List Value} {D : va_G} {cl : List vw_C} {A : Nat → Prop} {a : Nat} {tys : List (ClassId × FieldType)} {ws ws' : va_W} {H0 : Heap}
theorem h_topi {x y : Int32} (h : x = y) (k : W p l e R s m args below meth c H locs cells slots Q (F0 m pc ls (.int y :: rest))) : W p l e R s m args below meth c H locs cells slots Q (F0 m pc ls (.int x :: rest)) := by subst h; exact k
theorem h_topl {x y : Int64} (h : x = y) (k : W p l e R s m args below meth c H locs cells slots Q (F0 m pc ls (.long y :: rest))) : W p l e R s m args below meth c H locs cells slots Q (F0 m pc ls (.long x :: rest)) := by subst h; exact k
theorem h_iald (hexec : p.tables.exec = Jvm.exec) (hb : c.code = cc) (hK : va_K D cl tys s) (hP : va_P D cl ws H) (q0 t0 : Nat) {cA : ClassId} {n : Nat} {f : Nat → Int32} (ha : ws[q0]? = some (a, .inl (cA, n, .inl f))) (ht : tys[t0]? = some (cA, .int)) {i : Int32} (k : Nat) (hi : i = nI k) (hk : k < n) (hn : n < 2 ^ 31) (hdg : decode cc pc = .ok (.iaload, 1))
    (kk : W p l e R s m args below meth c H locs cells slots Q (F0 m (pc + 1) ls (.int (f k) :: rest))) : W p l e R s m args below meth c H locs cells slots Q (F0 m pc ls (.int i :: .ref a :: rest)) := by
  subst hi
  refine va_iald hexec hb hK hP q0 t0 ha ht (vp_in_nI hk hn) hdg ?_
  rw [nI_clamp (Nat.lt_trans hk hn)]; exact kk
theorem h_zald (hexec : p.tables.exec = Jvm.exec) (hb : c.code = cc) (hK : va_K D cl tys s) (hP : va_P D cl ws H) (q0 t0 : Nat) {cA : ClassId} {n : Nat} {f : Nat → Int32} (ha : ws[q0]? = some (a, .inl (cA, n, .inl f))) (ht : tys[t0]? = some (cA, .boolean)) {i : Int32} (k : Nat) (hi : i = nI k) (hk : k < n) (hn : n < 2 ^ 31) (hdg : decode cc pc = .ok (.baload, 1))
    (kk : W p l e R s m args below meth c H locs cells slots Q (F0 m (pc + 1) ls (.int (f k) :: rest))) : W p l e R s m args below meth c H locs cells slots Q (F0 m pc ls (.int i :: .ref a :: rest)) := by
  subst hi
  refine va_zald hexec hb hK hP q0 t0 ha ht (vp_in_nI hk hn) hdg ?_
  rw [nI_clamp (Nat.lt_trans hk hn)]; exact kk
theorem h_lald (hexec : p.tables.exec = Jvm.exec) (hb : c.code = cc) (hK : va_K D cl tys s) (hP : va_P D cl ws H) (q0 t0 : Nat) {cA : ClassId} {n : Nat} {f : Nat → Int64} (ha : ws[q0]? = some (a, .inl (cA, n, .inr (.inl f)))) (ht : tys[t0]? = some (cA, .long)) {i : Int32} (k : Nat) (hi : i = nI k) (hk : k < n) (hn : n < 2 ^ 31) (hdg : decode cc pc = .ok (.laload, 1))
    (kk : W p l e R s m args below meth c H locs cells slots Q (F0 m (pc + 1) ls (.long (f k) :: rest))) : W p l e R s m args below meth c H locs cells slots Q (F0 m pc ls (.int i :: .ref a :: rest)) := by
  subst hi
  refine va_lald hexec hb hK hP q0 t0 ha ht (vp_in_nI hk hn) hdg ?_
  rw [nI_clamp (Nat.lt_trans hk hn)]; exact kk
theorem h_iast (hexec : p.tables.exec = Jvm.exec) (hb : c.code = cc) (hK : va_K D cl tys s) (hP : va_P D cl ws H) (hD : va_D A ws) (hS : va_S A H0 H locs) (q0 t0 : Nat) {cA : ClassId} {n : Nat} {f : Nat → Int32} (ha : ws[q0]? = some (a, .inl (cA, n, .inl f))) (ht : tys[t0]? = some (cA, .int)) {i : Int32} {x : Int32} (k : Nat) (hi : i = nI k) (hk : k < n) (hn : n < 2 ^ 31) (hw : ws.set q0 (a, .inl (cA, n, .inl (upd f k x))) = ws') (hdg : decode cc pc = .ok (.iastore, 1))
    (kk : ∀ (H1 : Heap) (locs1 : List Loc), va_P D cl ws' H1 → va_D A ws' → va_S A H0 H1 locs1 → W p l e R s m args below meth c H1 locs1 cells slots Q (F0 m (pc + 1) ls rest)) : W p l e R s m args below meth c H locs cells slots Q (F0 m pc ls (.int x :: .int i :: .ref a :: rest)) := by
  subst hi
  refine va_iast hexec hb hK hP hD hS q0 t0 ha ht (vp_in_nI hk hn) hdg ?_
  rw [nI_clamp (Nat.lt_trans hk hn), hw]; exact kk
theorem h_zast (hexec : p.tables.exec = Jvm.exec) (hb : c.code = cc) (hK : va_K D cl tys s) (hP : va_P D cl ws H) (hD : va_D A ws) (hS : va_S A H0 H locs) (q0 t0 : Nat) {cA : ClassId} {n : Nat} {f : Nat → Int32} (ha : ws[q0]? = some (a, .inl (cA, n, .inl f))) (ht : tys[t0]? = some (cA, .boolean)) {i : Int32} {x : Int32} (k : Nat) (hi : i = nI k) (hk : k < n) (hn : n < 2 ^ 31) (hx : vp_nar .boolean x = x) (hw : ws.set q0 (a, .inl (cA, n, .inl (upd f k x))) = ws') (hdg : decode cc pc = .ok (.bastore, 1))
    (kk : ∀ (H1 : Heap) (locs1 : List Loc), va_P D cl ws' H1 → va_D A ws' → va_S A H0 H1 locs1 → W p l e R s m args below meth c H1 locs1 cells slots Q (F0 m (pc + 1) ls rest)) : W p l e R s m args below meth c H locs cells slots Q (F0 m pc ls (.int x :: .int i :: .ref a :: rest)) := by
  subst hi
  refine va_zast hexec hb hK hP hD hS q0 t0 ha ht (vp_in_nI hk hn) hdg ?_
  rw [nI_clamp (Nat.lt_trans hk hn), hx, hw]; exact kk
theorem h_last (hexec : p.tables.exec = Jvm.exec) (hb : c.code = cc) (hK : va_K D cl tys s) (hP : va_P D cl ws H) (hD : va_D A ws) (hS : va_S A H0 H locs) (q0 t0 : Nat) {cA : ClassId} {n : Nat} {f : Nat → Int64} (ha : ws[q0]? = some (a, .inl (cA, n, .inr (.inl f)))) (ht : tys[t0]? = some (cA, .long)) {i : Int32} {x : Int64} (k : Nat) (hi : i = nI k) (hk : k < n) (hn : n < 2 ^ 31) (hw : ws.set q0 (a, .inl (cA, n, .inr (.inl (vp_updL f k x)))) = ws') (hdg : decode cc pc = .ok (.lastore, 1))
    (kk : ∀ (H1 : Heap) (locs1 : List Loc), va_P D cl ws' H1 → va_D A ws' → va_S A H0 H1 locs1 → W p l e R s m args below meth c H1 locs1 cells slots Q (F0 m (pc + 1) ls rest)) : W p l e R s m args below meth c H locs cells slots Q (F0 m pc ls (.long x :: .int i :: .ref a :: rest)) := by
  subst hi
  refine va_last hexec hb hK hP hD hS q0 t0 ha ht (vp_in_nI hk hn) hdg ?_
  rw [nI_clamp (Nat.lt_trans hk hn), hw]; exact kk
theorem h_put (hexec : p.tables.exec = Jvm.exec) (hb : c.code = cc) {own ref C : String} {T : u_T} {N ci index : Nat} {Ts : List Cond} (hts : ∀ w ∈ Ts, w.before args s = true) (hin : ∀ w ∈ u_ws C T N, w ∈ Ts) (ty0 : Nat → FieldType) (hty : ∀ k, k < N → parseFieldDescriptor (T k).2.2.1 = some (ty0 k)) (hnm : ∀ a, a < N → ∀ b, b < N → a ≠ b → (T a).2.1 ≠ (T b).2.1) (hown : s.vm.findClass own = some m.cls) (hK : va_K D cl tys s) (hP : va_P D cl ws H) (hD : va_D A ws) (hS0 : va_S A H0 H locs) (q0 : Nat) {fs : List Value} (he : ws[q0]? = some (a, .inr (ci, fs))) (hc : cl[ci]? = some (C, T, N)) (k : Nat) (hk : k < N) (hlink : (Cond.fieldLink own index ref (T k).2.1 (T k).2.2.1).before args s = true) (hsame : ∀ x, s.fieldFound? (T k).1 (T k).2.1 (T k).2.2.1 = some x → s.fieldFound? ref (T k).2.1 (T k).2.2.1 = some x) (hfin : (T k).2.2.2 = false) {ty : FieldType} {v : Value} (hd : parseFieldDescriptor (T k).2.2.1 = some ty) (hn : narrow ty v = v) (hfit : fits ty v = true) (hl : k < fs.length) (hw : ws.set q0 (a, .inr (ci, fs.set k v)) = ws')
    (hdg : decode cc pc = .ok (.putfield index, 3)) (kk : ∀ (H1 : Heap) (locs1 : List Loc), va_P D cl ws' H1 → va_D A ws' → va_S A H0 H1 locs1 → W p l e R s m args below meth c H1 locs1 cells slots Q (F0 m (pc + 3) ls rest)) : W p l e R s m args below meth c H locs cells slots Q (F0 m pc ls (v :: .ref a :: rest)) := by
  refine va_put hexec hb hts hin ty0 hty hnm hown hK hP hD hS0 q0 he hc k hk hlink hsame hfin hd hn hfit hl hdg ?_
  rw [hw]; exact kk
theorem h_blindR {av : List Value} : FrameBlind (va_Pc av (hg_R D ws tys)) := fun a U g mk q => by
  obtain ⟨q1, qP, qK⟩ := q
  exact ⟨q1, qP, va_K.moved (u := U) (U := U.calling g mk a) (Vm.Alike.refl U.vm) qK⟩
theorem h_blindW {av : List Value} {sz : Nat} : FrameBlind (va_Pc av (hg_Wr D ws tys sz)) := fun a U g mk q => by
  obtain ⟨q0, q1, qP, qK, qD⟩ := q
  exact ⟨q0, q1, qP, va_K.moved (u := U) (U := U.calling g mk a) (Vm.Alike.refl U.vm) qK, qD⟩
theorem h_blind0 {av : List Value} : FrameBlind (va_Pc av (fun _ => True)) := fun a U g mk q => q
/-- a static method that looks at no cell -/
theorem h_preS0 {As : List Value} : PreS s H (va_Pc As (fun _ => True)) As := ⟨h_blind0, fun U hU hW => ⟨rfl, trivial⟩⟩
theorem h_preSR {As : List Value} (hK : va_K D vwCl tys s) (hP : va_P D vwCl ws H) : PreS s H (va_Pc As (hg_R D ws tys)) As := ⟨h_blindR, fun U hU hW => ⟨rfl, by rw [hU]; exact hP, va_K.moved hW.alike hK⟩⟩
theorem h_preR {As : List Value} {C : String} (hK : va_K D vwCl tys s) (hP : va_P D vwCl ws H) (q0 : Nat) {ci : Nat} {q : vw_C} {fs : List Value} (he : ws[q0]? = some (a, .inr (ci, fs))) (hc : vwCl[ci]? = some q) (hC : q.1 = C) : PreV s H C a (va_Pc (.ref a :: As) (hg_R D ws tys)) As := by
  subst hC
  exact ⟨h_blindR, va_recv hK hP hc he, fun U hU hW => ⟨rfl, by rw [hU]; exact hP, va_K.moved hW.alike hK⟩⟩
theorem h_preW {As : List Value} {C : String} (hK : va_K D vwCl tys s) (hP : va_P D vwCl ws H) (hD : va_D A ws) (q0 : Nat) {ci : Nat} {q : vw_C} {fs : List Value} (he : ws[q0]? = some (a, .inr (ci, fs))) (hc : vwCl[ci]? = some q) (hC : q.1 = C) : PreV s H C a (va_Pc (.ref a :: As) (hg_Wr D ws tys H.size)) As := by
  subst hC
  exact ⟨h_blindW, va_recv hK hP hc he, fun U hU hW => ⟨rfl, by rw [hU], by rw [hU]; exact hP, va_K.moved hW.alike hK, hD.weaken (fun _ _ _ _ => trivial)⟩⟩
/-- all of the world may be written, and what is new -/
theorem h_all (hD : va_D A ws) (hS : va_S A H0 H locs) (hA : ∀ q, H0.size ≤ q → A q) : ∀ q, va_A ws H.size q → A q := by
  rintro q (⟨k, e, h⟩ | h)
  · exact hD.2 k (q, e) h
  · exact hA q (Nat.le_trans hS.1 h)
theorem h_calli {a : Array Value} {w1 : va_W} {post : Int32 → Prop} (hr : va_Run p l e R s m args below meth c H locs cells slots 0 0 (F0 m pc ls st0) rest (va_Qi (fun (r : Int32) (_ : Unit) => post r) (fun _ t => hg_At D w1 (va_A ws H.size) t) (va_A ws H.size) a) (va_A ws H.size)) (hS : va_S A H0 H locs) (hF : ∀ q, va_A ws H.size q → A q)
    (kk : ∀ (r : Int32) (H1 : Heap) (locs1 : List Loc), post r → va_P D vwCl w1 H1 → va_D A w1 → va_S A H0 H1 locs1 → W p l e R s m args below meth c H1 locs1 cells slots Q (F0 m (pc + 3) ls (.int r :: rest))) : W p l e R s m args below meth c H locs cells slots Q (F0 m pc ls st0) := by
  refine va_calli hr hS (fun q _ h => hF q h) hF (fun r u t H1 locs1 ht hvm hp hB hz hk hS1 => ?_)
  obtain ⟨hP1, hD1⟩ := hB
  rw [ht] at hP1
  exact kk r H1 locs1 hp hP1 (hD1.weaken (fun _ _ _ h => hF _ h)) hS1
theorem h_calll {a : Array Value} {w1 : va_W} {post : Int64 → Prop} (hr : va_Run p l e R s m args below meth c H locs cells slots 0 0 (F0 m pc ls st0) rest (va_Ql (fun (r : Int64) (_ : Unit) => post r) (fun _ t => hg_At D w1 (va_A ws H.size) t) (va_A ws H.size) a) (va_A ws H.size)) (hS : va_S A H0 H locs) (hF : ∀ q, va_A ws H.size q → A q)
    (kk : ∀ (r : Int64) (H1 : Heap) (locs1 : List Loc), post r → va_P D vwCl w1 H1 → va_D A w1 → va_S A H0 H1 locs1 → W p l e R s m args below meth c H1 locs1 cells slots Q (F0 m (pc + 3) ls (.long r :: rest))) : W p l e R s m args below meth c H locs cells slots Q (F0 m pc ls st0) := by
  refine va_calll hr hS (fun q _ h => hF q h) hF (fun r u t H1 locs1 ht hvm hp hB hz hk hS1 => ?_)
  obtain ⟨hP1, hD1⟩ := hB
  rw [ht] at hP1
  exact kk r H1 locs1 hp hP1 (hD1.weaken (fun _ _ _ h => hF _ h)) hS1
theorem h_callv {a : Array Value} {w1 : va_W} (hr : va_Run p l e R s m args below meth c H locs cells slots 0 0 (F0 m pc ls st0) rest (va_Qv (fun (_ : Unit) => True) (fun _ t => hg_At D w1 (va_A ws H.size) t) (va_A ws H.size) a) (va_A ws H.size)) (hS : va_S A H0 H locs) (hF : ∀ q, va_A ws H.size q → A q)
    (kk : ∀ (H1 : Heap) (locs1 : List Loc), va_P D vwCl w1 H1 → va_D A w1 → va_S A H0 H1 locs1 → W p l e R s m args below meth c H1 locs1 cells slots Q (F0 m (pc + 3) ls rest)) : W p l e R s m args below meth c H locs cells slots Q (F0 m pc ls st0) := by
  refine va_callv hr hS (fun q _ h => hF q h) hF (fun u t H1 locs1 ht hvm hp hB hz hk hS1 => ?_)
  obtain ⟨hP1, hD1⟩ := hB
  rw [ht] at hP1
  exact kk H1 locs1 hP1 (hD1.weaken (fun _ _ _ h => hF _ h)) hS1
end HG
/-- what a boolean method answers -/
def hg_in (v lo hi : Int32) : Int32 := if lo ≤ v ∧ v ≤ hi then 1 else 0
def hg_b (P : Prop) [Decidable P] : Int32 := if P then 1 else 0
theorem hg_in_nar (v lo hi : Int32) : narrow .boolean (.int (hg_in v lo hi)) = .int (hg_in v lo hi) := by
  unfold hg_in
  split <;> rfl
theorem hg_in_1 {v lo hi : Int32} (h : lo ≤ v ∧ v ≤ hi) : hg_in v lo hi = 1 := if_pos h
theorem hg_in_0 {v lo hi : Int32} (h : ¬ (lo ≤ v ∧ v ≤ hi)) : hg_in v lo hi = 0 := if_neg h
theorem hg_le {a b : Int32} : a ≤ b ↔ a.toInt ≤ b.toInt := Int32.le_iff_toInt_le
theorem hg_lt {a b : Int32} : a < b ↔ a.toInt < b.toInt := Int32.lt_iff_toInt_lt
/-- sums over the first n -/
def hg_sum (g : Nat → Int32) : Nat → Int32
  | 0 => 0
  | n + 1 => hg_sum g n + g n
end
section
theorem dX4_grow_35 : decode cX4_grow 35 = .ok (.return_, 1) := by decide +kernel
/-! What the document's numbers are, over the state: both systems are tied to these. -/
theorem i_0 : (nI 0).toInt = 0 := by decide
theorem i_1 : (nI 1).toInt = 1 := by decide
theorem i_2 : (nI 2).toInt = 2 := by decide
theorem i_19 : (nI 19).toInt = 19 := by decide
theorem i_20 : (nI 20).toInt = 20 := by decide
theorem i_1000 : (nI 1000).toInt = 1000 := by decide
theorem i_z : (0 : Int32).toInt = 0 := by decide
theorem nI_eq0 {n : Nat} (h : n < 2 ^ 31) : nI n = 0 ↔ n = 0 := by
  rw [← nI_0, nI_eq h (by omega)]
theorem hg_nlt {a b : Int32} : ¬ a < b ↔ b ≤ a := by rw [hg_lt, hg_le]; omega
theorem hg_nle {a b : Int32} : ¬ a ≤ b ↔ b < a := by rw [hg_lt, hg_le]; omega
def f_plain (S : hg_S) (w p : Nat) : Int32 := if p % 5 = 0 then nI (5 - p % 5) * hg_i S 4 (w * 5 + p / 5) else nI (5 - p % 5) * hg_i S 4 (w * 5 + p / 5) + nI (p % 5) * hg_i S 4 (w * 5 + p / 5 + 1)
def f_scaled (up age : Int32) : Int32 := if age < nI 20 then up * (nI 20 - age) / nI 20 else nI 0
def f_tested (up : Int32) : Int32 := if nI 1000 < up then nI 1000 else up
def f_up (S : hg_S) (w p : Nat) : Int32 := if hg_i S 0 w < nI 1 then f_plain S w p else f_scaled (f_plain S w p) (hg_i S 2 w)
def f_flow (S : hg_S) (w p : Nat) : Int32 := if hg_i S 0 w < nI 2 then f_up S w p else f_tested (f_up S w p)
def f_weight (S : hg_S) (w : Nat) : Int32 := if hg_i S 0 w < nI 1 then nI 1 else if hg_i S 0 w < nI 2 then nI 11 else nI 111
def f_steam (flow : Int32) (p : Nat) : Int32 := flow * nI (300 - 5 * p) / nI 1000
def f_sup1 (S : hg_S) (p w : Nat) : Int32 := if hg_i S 3 w = 0 then 0 else f_steam (f_flow S w p) p
def f_supply (S : hg_S) (p : Nat) : Int32 := hg_sum (f_sup1 S p) (hg_n S 0)
def f_wat1 (S : hg_S) (p w : Nat) : Int32 := if hg_i S 3 w = 0 then 0 else f_flow S w p - f_steam (f_flow S w p) p
def f_water (S : hg_S) (p : Nat) : Int32 := hg_sum (f_wat1 S p) (hg_n S 0)
def f_dr (S : hg_S) (p t : Nat) : Int32 := if hg_i S 7 t < hg_i S 6 t * nI (p + 1) then hg_i S 7 t else hg_i S 6 t * nI (p + 1)
def f_draw1 (S : hg_S) (p t : Nat) : Int32 := if hg_i S 8 t = 0 then 0 else if nI p < hg_i S 5 t then 0 else f_dr S p t
def f_draw (S : hg_S) (p : Nat) : Int32 := hg_sum (f_draw1 S p) (hg_n S 1)
def f_meet (S : hg_S) : Nat → Int32
  | 0 => -9
  | k + 1 => if f_draw S k ≤ f_supply S k then nI k else f_meet S k
def f_point (S : hg_S) : Int32 := f_meet S 21
theorem hg_sum_0 {g : Nat → Int32} : nI 0 = hg_sum g 0 := nI_0
theorem hg_sum_keep {g : Nat → Int32} {n : Nat} (h : g n = 0) : hg_sum g n = hg_sum g (n + 1) := by
  show _ = hg_sum g n + g n
  rw [h, Int32.add_zero]
section HF
variable {p : Program} {l : Launch} {e : Env} {R : Room} {s : State} {m : MethodId} {args : Array Value} {below : List Frame} {meth : Method} {c : Code} {H : Heap} {locs : List Loc} {cells slots : Nat} {Q : State → Prop}
variable {pc nL : Nat} {D : va_G} {cl : List vw_C} {A : Nat → Prop} {H0 : Heap}
/-- a loop that reads: its locals by the turn -/
theorem h_for (N : Nat) (inv : Nat → List (Nat × Value))
    (step : ∀ (i : Nat) (ls : Array Slot), i < N → lv_has ls nL (inv i) → (∀ ls' : Array Slot, lv_has ls' nL (inv (i + 1)) → W p l e R s m args below meth c H locs cells slots Q (F0 m pc ls' [])) → W p l e R s m args below meth c H locs cells slots Q (F0 m pc ls []))
    (done : ∀ ls : Array Slot, lv_has ls nL (inv N) → W p l e R s m args below meth c H locs cells slots Q (F0 m pc ls [])) {ls : Array Slot} (hl : lv_has ls nL (inv 0)) : W p l e R s m args below meth c H locs cells slots Q (F0 m pc ls []) := by
  have key : ∀ (d i : Nat), i + d = N → ∀ ls : Array Slot, lv_has ls nL (inv i) → W p l e R s m args below meth c H locs cells slots Q (F0 m pc ls []) := by
    intro d
    induction d with
    | zero => intro i hi ls h; have e : i = N := hi; subst e; exact done ls h
    | succ d ih => intro i hi ls h; exact step i ls (by omega) h (fun ls' h' => ih (i + 1) (by omega) ls' h')
  exact key N 0 (by omega) ls hl
/-- a loop that reads, with a fact -/
theorem h_forI (N : Nat) (inv : Nat → List (Nat × Value)) (I : Nat → Prop)
    (step : ∀ (i : Nat) (ls : Array Slot), i < N → I i → lv_has ls nL (inv i) → (∀ ls' : Array Slot, I (i + 1) → lv_has ls' nL (inv (i + 1)) → W p l e R s m args below meth c H locs cells slots Q (F0 m pc ls' [])) → W p l e R s m args below meth c H locs cells slots Q (F0 m pc ls []))
    (done : ∀ ls : Array Slot, I N → lv_has ls nL (inv N) → W p l e R s m args below meth c H locs cells slots Q (F0 m pc ls [])) (hI : I 0) {ls : Array Slot} (hl : lv_has ls nL (inv 0)) : W p l e R s m args below meth c H locs cells slots Q (F0 m pc ls []) := by
  have key : ∀ (d i : Nat), i + d = N → I i → ∀ ls : Array Slot, lv_has ls nL (inv i) → W p l e R s m args below meth c H locs cells slots Q (F0 m pc ls []) := by
    intro d
    induction d with
    | zero => intro i hi hI ls h; have e : i = N := hi; subst e; exact done ls hI h
    | succ d ih => intro i hi hI ls h; exact step i ls (by omega) hI h (fun ls' hI' h' => ih (i + 1) (by omega) hI' ls' h')
  exact key N 0 (by omega) hI ls hl
/-- a loop that counts down to 0, with the end below -/
theorem h_down (N : Nat) (inv : Nat → List (Nat × Value))
    (step : ∀ (i : Nat) (ls : Array Slot), i < N → lv_has ls nL (inv (i + 1)) → (∀ ls' : Array Slot, lv_has ls' nL (inv i) → W p l e R s m args below meth c H locs cells slots Q (F0 m pc ls' [])) → W p l e R s m args below meth c H locs cells slots Q (F0 m pc ls []))
    (done : ∀ ls : Array Slot, lv_has ls nL (inv 0) → W p l e R s m args below meth c H locs cells slots Q (F0 m pc ls [])) {ls : Array Slot} (hl : lv_has ls nL (inv N)) : W p l e R s m args below meth c H locs cells slots Q (F0 m pc ls []) := by
  have key : ∀ (i : Nat), i ≤ N → ∀ ls : Array Slot, lv_has ls nL (inv i) → W p l e R s m args below meth c H locs cells slots Q (F0 m pc ls []) := by
    intro i
    induction i with
    | zero => intro _ ls h; exact done ls h
    | succ i ih => intro hi ls h; exact step i ls (by omega) h (fun ls' h' => ih (by omega) ls' h')
  exact key N (Nat.le_refl N) ls hl
/-- a loop that writes: its locals and its cells by the turn -/
theorem h_forW (N : Nat) (inv : Nat → List (Nat × Value)) (wi : Nat → va_W)
    (step : ∀ (i : Nat) (ls : Array Slot) (H : Heap) (locs : List Loc), i < N → lv_has ls nL (inv i) → va_P D cl (wi i) H → va_D A (wi i) → va_S A H0 H locs → (∀ (ls' : Array Slot) (H' : Heap) (locs' : List Loc), lv_has ls' nL (inv (i + 1)) → va_P D cl (wi (i + 1)) H' → va_D A (wi (i + 1)) → va_S A H0 H' locs' → W p l e R s m args below meth c H' locs' cells slots Q (F0 m pc ls' [])) → W p l e R s m args below meth c H locs cells slots Q (F0 m pc ls []))
    (done : ∀ (ls : Array Slot) (H : Heap) (locs : List Loc), lv_has ls nL (inv N) → va_P D cl (wi N) H → va_D A (wi N) → va_S A H0 H locs → W p l e R s m args below meth c H locs cells slots Q (F0 m pc ls [])) {ls : Array Slot} (hl : lv_has ls nL (inv 0)) (hP : va_P D cl (wi 0) H) (hD : va_D A (wi 0)) (hS : va_S A H0 H locs) : W p l e R s m args below meth c H locs cells slots Q (F0 m pc ls []) := by
  have key : ∀ (d i : Nat), i + d = N → ∀ (ls : Array Slot) (H : Heap) (locs : List Loc), lv_has ls nL (inv i) → va_P D cl (wi i) H → va_D A (wi i) → va_S A H0 H locs → W p l e R s m args below meth c H locs cells slots Q (F0 m pc ls []) := by
    intro d
    induction d with
    | zero => intro i hi ls H locs h1 h2 h3 h4; have e : i = N := hi; subst e; exact done ls H locs h1 h2 h3 h4
    | succ d ih => intro i hi ls H locs h1 h2 h3 h4; exact step i ls H locs (by omega) h1 h2 h3 h4 (fun ls' H' locs' g1 g2 g3 g4 => ih (i + 1) (by omega) ls' H' locs' g1 g2 g3 g4)
  exact key N 0 (by omega) ls H locs hl hP hD hS
/-- two roads meet with a number on the stack -/
theorem h_joini {g : JFrame} {ls2 : Array Slot} {rest : List Value} (pc2 : Nat) (E : Int32) (k2 : ∀ x : Int32, x = E → W p l e R s m args below meth c H locs cells slots Q (F0 m pc2 ls2 (.int x :: rest))) (k1 : (∀ x : Int32, x = E → W p l e R s m args below meth c H locs cells slots Q (F0 m pc2 ls2 (.int x :: rest))) → W p l e R s m args below meth c H locs cells slots Q g) : W p l e R s m args below meth c H locs cells slots Q g := k1 k2
theorem h_joinl {g : JFrame} {ls2 : Array Slot} {rest : List Value} (pc2 : Nat) (E : Int64) (k2 : ∀ x : Int64, x = E → W p l e R s m args below meth c H locs cells slots Q (F0 m pc2 ls2 (.long x :: rest))) (k1 : (∀ x : Int64, x = E → W p l e R s m args below meth c H locs cells slots Q (F0 m pc2 ls2 (.long x :: rest))) → W p l e R s m args below meth c H locs cells slots Q g) : W p l e R s m args below meth c H locs cells slots Q g := k1 k2
end HF
def f_ages (S : hg_S) (i : Nat) : Nat → Int32 := fun w => if w < i ∧ ¬ hg_i S 3 w = 0 then hg_i S 2 w + nI 1 else hg_i S 2 w
theorem hg_si_self (S : hg_S) (k : Nat) : hg_si S k (hg_i S k) = S := by
  obtain ⟨a, b, c, d⟩ := S
  show (a, va_up b k (b k), c, d) = _
  congr 2
  funext j
  unfold va_up
  split
  · next h => rw [h]
  · rfl
theorem hg_sl_self (S : hg_S) (k : Nat) : hg_sl S k (hg_l S k) = S := by
  obtain ⟨a, b, c, d⟩ := S
  show (a, b, va_up c k (c k), d) = _
  congr 3
  funext j
  unfold va_up
  split
  · next h => rw [h]
  · rfl
theorem f_ages_0 (S : hg_S) : S = hg_si S 2 (f_ages S 0) := by
  have h : f_ages S 0 = hg_i S 2 := by
    funext w
    unfold f_ages
    rw [if_neg (fun h => Nat.not_lt_zero w h.1)]
  rw [h, hg_si_self]
theorem f_ages_put {S : hg_S} {i : Nat} (h : ¬ hg_i S 3 i = 0) : upd (f_ages S i) i (f_ages S i i + nI 1) = f_ages S (i + 1) := by
  funext w
  unfold upd
  by_cases hw : w = i
  · subst hw
    rw [if_pos rfl]
    unfold f_ages
    rw [if_neg (fun q => Nat.lt_irrefl _ q.1), if_pos ⟨Nat.lt_succ_self _, h⟩]
  · rw [if_neg hw]
    unfold f_ages
    by_cases h1 : w < i ∧ ¬ hg_i S 3 w = 0
    · rw [if_pos h1, if_pos ⟨Nat.lt_succ_of_lt h1.1, h1.2⟩]
    · rw [if_neg h1, if_neg (fun q => h1 ⟨by omega, q.2⟩)]
theorem f_ages_skip {S : hg_S} {i : Nat} (h : hg_i S 3 i = 0) : f_ages S i = f_ages S (i + 1) := by
  funext w
  unfold f_ages
  by_cases h1 : w < i ∧ ¬ hg_i S 3 w = 0
  · rw [if_pos h1, if_pos ⟨Nat.lt_succ_of_lt h1.1, h1.2⟩]
  · rw [if_neg h1, if_neg (fun q => h1 ⟨by
      have : w ≠ i := fun e => q.2 (e ▸ h)
      omega, q.2⟩)]

theorem hg_subneg {a b : Nat} (ha : a < 2 ^ 30) (hb : b < 2 ^ 30) : nI a - nI b < 0 ↔ a < b := by
  rw [hg_lt, pk_sub_toInt ha hb, i_z]; omega
theorem hg_n0 {a : Nat} (ha : a < 2 ^ 31) : nI a < 0 ↔ False := ⟨fun h => nI_pos ha h, False.elim⟩
/-- what comes back in a year: share k of what was put in k years before -/
def f_com1 (S : hg_S) (y k : Nat) : Int32 := if y < k then 0 else if y - k < hg_n S 4 then hg_i S 12 (y - k) * hg_i S 11 k / nI 1000 else 0
def f_comes (S : hg_S) (y : Nat) : Int32 := hg_sum (f_com1 S y) 6
/-- candidate k is in the set -/
abbrev f_in (s : Int32) (k : Nat) : Prop := (s >>> (nI k &&& 31)) &&& nI 1 = nI 1
def f_cost1 (S : hg_S) (s : Int32) (k : Nat) : Int32 := if f_in s k then hg_i S 13 k else 0
def f_cost (S : hg_S) (s : Int32) : Int32 := hg_sum (f_cost1 S s) (hg_n S 5)
def f_gives1 (S : hg_S) (s : Int32) (y k : Nat) : Int32 := if f_in s k then (if nI y < hg_i S 14 k then 0 else hg_i S 15 k) else 0
def f_gap (S : hg_S) (s : Int32) (y : Nat) : Int32 := hg_i S 16 y - hg_sum (f_gives1 S s y) (hg_n S 5)
def f_lack (S : hg_S) (s : Int32) (y : Nat) : Int32 := if f_gap S s y < nI 0 then nI 0 else f_gap S s y
abbrev f_keeps (S : hg_S) (s : Int32) : Prop := ∀ y, y < 6 → ¬ 0 < f_lack S s y
/-- the best set among the first i, and its cost -/
def f_best (S : hg_S) : Nat → Int32 × Int32
  | 0 => (-9, 0)
  | i + 1 => if ((f_best S i).1 = -9 ∨ f_cost S (nI i) < (f_best S i).2) ∧ f_keeps S (nI i) then (nI i, f_cost S (nI i)) else f_best S i
theorem hg_shl8 : ∀ n, n ≤ 8 → nI 1 <<< (nI n &&& 31) = nI (2 ^ n) := by
  intro n h
  have key : ∀ k : Fin 9, nI 1 <<< (nI k.val &&& 31) = nI (2 ^ k.val) := by decide +kernel
  exact key ⟨n, by omega⟩
theorem hg_pow8 {n : Nat} (h : n ≤ 8) : 2 ^ n < 2 ^ 31 := Nat.pow_lt_pow_right (by decide) (by omega)
/-! boxes -/
def f_warm (mass heat part : Int64) : Int64 := if 0 < mass then part * heat / mass else 0
def s_pour (S : hg_S) (b : Nat) (m h : Int64) : hg_S := hg_sl (hg_sl S 0 (vp_updL (hg_l S 0) b (hg_l S 0 b + m))) 1 (vp_updL (hg_l S 1) b (hg_l S 1 b + h))
def s_drain (S : hg_S) (b : Nat) (m h : Int64) : hg_S := hg_sl (hg_sl S 0 (vp_updL (hg_l S 0) b (hg_l S 0 b - m))) 1 (vp_updL (hg_l S 1) b (hg_l S 1 b - h))
def s_book (S : hg_S) (k : Nat) (m h : Int64) : hg_S := hg_sl S 2 (vp_updL (vp_updL (hg_l S 2) k (hg_l S 2 k + m)) (k + 1) (vp_updL (hg_l S 2) k (hg_l S 2 k + m) (k + 1) + h))
def f_part (S : hg_S) (b : Nat) (want : Int64) : Int64 := if hg_l S 0 b < want then hg_l S 0 b else want
def f_wm (S : hg_S) (b : Nat) (part : Int64) : Int64 := f_warm (hg_l S 0 b) (hg_l S 1 b) part
def s_take (S : hg_S) (b : Nat) (want : Int64) : hg_S := s_book (s_drain S b (f_part S b want) (f_wm S b (f_part S b want))) 0 (f_part S b want) (f_wm S b (f_part S b want))
def f_given (S : hg_S) (taken : Int64) : Int64 := taken * Int32.toInt64 (nI (hg_n S 2)) / 1000
def s_give (S : hg_S) (taken : Int64) : hg_S := s_book (s_pour S (hg_n S 3) (f_given S taken) (f_given S taken * 40)) 2 (f_given S taken) (f_given S taken * 40)
def f_leakP (S : hg_S) (i a b : Nat) : Int64 := (hg_l S 0 a - hg_l S 0 b) / Int32.toInt64 (hg_i S 9 i)
def s_move (S : hg_S) (a b : Nat) (m : Int64) : hg_S := s_pour (s_pour S a (-m) (-(f_wm S a m))) b m (f_wm S a m)
def s_leak (S : hg_S) (i : Nat) : hg_S := if hg_l S 0 i < hg_l S 0 (i + 1) then s_move S (i + 1) i (f_leakP S i (i + 1) i) else s_move S i (i + 1) (f_leakP S i i (i + 1))
def s_leaks (S : hg_S) : Nat → hg_S
  | 0 => S
  | i + 1 => s_leak (s_leaks S i) i
def f_feedM (S : hg_S) (b : Nat) : Int64 := Int32.toInt64 (hg_i S 10 b)
def s_feed (S : hg_S) (b : Nat) : hg_S := s_book (s_pour S b (f_feedM S b) (f_feedM S b * 10)) 4 (f_feedM S b) (f_feedM S b * 10)
def s_feeds (S : hg_S) : Nat → hg_S
  | 0 => S
  | i + 1 => s_feed (s_feeds S i) i
theorem s_leak_i (S : hg_S) (i k : Nat) : hg_i (s_leak S i) k = hg_i S k := by unfold s_leak; split <;> rfl
theorem s_leaks_i (S : hg_S) (i k : Nat) : hg_i (s_leaks S i) k = hg_i S k := by
  induction i with
  | zero => rfl
  | succ i ih => exact (s_leak_i _ _ _).trans ih
theorem s_feeds_i (S : hg_S) (i k : Nat) : hg_i (s_feeds S i) k = hg_i S k := by
  induction i with
  | zero => rfl
  | succ i ih => exact ih
end
section
set_option maxHeartbeats 4000000 in
set_option maxRecDepth 100000 in
/-- PLAIN -/
theorem m_X4_plain (l : Launch) (D : va_G) (o : Nat → Nat) (cI cJ cZ : ClassId) (S : hg_S) (w p : Nat) (hw : w < 8) (hp : p ≤ 20) : Met l yX4_plain wsX4_plain ({ frames := 0, cells := 0, slots := 0, locals := 0 }) (va_Pc [.ref (o 1), .int (nI w), .int (nI p)] (hg_R D (xW o cI cJ cZ S) (hg_ty cI cJ cZ))) (vp_Si (fun r => r = f_plain S w p)) 0 0 (fun _ => False) := by
  refine h_start (cc := cX4_plain) (maxL := 6) (ret := (some .int)) (by decide) rfl (Nat.le_of_ble_eq_true rfl) ?_
  intro pg ev s mi args below meth cd ls hx hb hr hts hown hlocks hml hnm hpic hl
  obtain ⟨hP, hK⟩ := hpic
  have hi4 : ∀ w ∈ u_ws RX4 TX4 6, w ∈ wsX4_plain := by decide +kernel
  have hl : lv_has ls 6 [(0, .ref (o 1)), (1, .int (nI w)), (2, .int (nI p))] := hl
  refine lv_iload_n hx hb dX4_plain_0 rfl (lv_at hl 1 rfl) ?_
  refine lv_iconst (v := nI 5) hx hb dX4_plain_1 (by decide) ?_
  refine lv_imul hx hb dX4_plain_2 ?_
  refine h_topi (y := nI (w * 5)) (pk_mul _ _) ?_
  refine lv_iload_n hx hb dX4_plain_3 rfl (lv_at hl 2 rfl) ?_
  refine lv_iconst (v := nI 5) hx hb dX4_plain_4 (by decide) ?_
  refine lv_idiv hx hb dX4_plain_5 (by decide) ?_
  refine h_topi (y := nI (p / 5)) (pk_div (by omega) (by omega) (by omega)) ?_
  refine lv_iadd hx hb dX4_plain_6 ?_
  refine h_topi (y := nI ((w * 5) + (p / 5))) (nI_add _ _) ?_
  refine lv_istore_n (lv' := [(3, .int (nI ((w * 5) + (p / 5)))), (0, .ref (o 1)), (1, .int (nI w)), (2, .int (nI p))]) hx hb dX4_plain_7 rfl hl (by decide) rfl (fun ls hl => ?_)
  refine lv_iload_n hx hb dX4_plain_8 rfl (lv_at hl 3 rfl) ?_
  refine lv_iconst (v := nI 5) hx hb dX4_plain_9 (by decide) ?_
  refine lv_irem hx hb dX4_plain_10 (by decide) ?_
  refine h_topi (y := nI (p % 5)) (pk_rem (by omega) (by omega) (by omega)) ?_
  refine lv_istore (lv' := [(4, .int (nI (p % 5))), (3, .int (nI ((w * 5) + (p / 5)))), (0, .ref (o 1)), (1, .int (nI w)), (2, .int (nI p))]) hx hb dX4_plain_11 hl (by decide) rfl (fun ls hl => ?_)
  refine lv_iconst (v := nI 5) hx hb dX4_plain_13 (by decide) ?_
  refine lv_iload hx hb dX4_plain_14 (lv_at hl 0 rfl) ?_
  refine lv_isub hx hb dX4_plain_16 ?_
  refine h_topi (y := nI (5 - (p % 5))) (pk_sub (by omega)) ?_
  refine lv_aload_n hx hb dX4_plain_17 rfl (lv_at hl 2 rfl) ?_
  refine va_get (C := RX4) (T := TX4) (N := 6) (v := .ref (o 10)) hx hb hts hi4 hown hK hP 1 rfl rfl 5 (by decide) (hts (.fieldLink RX4 23 "HotGround$Wells" "corners" "[I") (by decide +kernel)) (fun _ h9 => h9) rfl dX4_plain_18 ?_
  refine lv_iload_n hx hb dX4_plain_21 rfl (lv_at hl 1 rfl) ?_
  refine h_iald (f := hg_i S 4) hx hb hK hP 10 0 rfl rfl ((w * 5) + (p / 5)) (rfl) (by omega) (by decide) dX4_plain_22 ?_
  refine lv_imul hx hb dX4_plain_23 ?_
  refine lv_istore (lv' := [(5, .int ((nI (5 - (p % 5))) * (hg_i S 4 ((w * 5) + (p / 5))))), (4, .int (nI (p % 5))), (3, .int (nI ((w * 5) + (p / 5)))), (0, .ref (o 1)), (1, .int (nI w)), (2, .int (nI p))]) hx hb dX4_plain_24 hl (by decide) rfl (fun ls hl => ?_)
  refine lv_iload hx hb dX4_plain_26 (lv_at hl 1 rfl) ?_
  refine lv_if_ne (tgt := 36) hx hb dX4_plain_28 (by decide) (fun c_28 => ?_) (fun c_28 => ?_)
  · skip
    have c28 : ¬ p % 5 = 0 := fun h => c_28 ((nI_eq0 (by omega)).mpr h)
    refine lv_iload hx hb dX4_plain_36 (lv_at hl 0 rfl) ?_
    refine lv_iload hx hb dX4_plain_38 (lv_at hl 1 rfl) ?_
    refine lv_aload_n hx hb dX4_plain_40 rfl (lv_at hl 3 rfl) ?_
    refine va_get (C := RX4) (T := TX4) (N := 6) (v := .ref (o 10)) hx hb hts hi4 hown hK hP 1 rfl rfl 5 (by decide) (hts (.fieldLink RX4 23 "HotGround$Wells" "corners" "[I") (by decide +kernel)) (fun _ h9 => h9) rfl dX4_plain_41 ?_
    refine lv_iload_n hx hb dX4_plain_44 rfl (lv_at hl 2 rfl) ?_
    refine lv_iconst (v := nI 1) hx hb dX4_plain_45 (by decide) ?_
    refine lv_iadd hx hb dX4_plain_46 ?_
    refine h_topi (y := nI (((w * 5) + (p / 5)) + 1)) (nI_add _ _) ?_
    refine h_iald (f := hg_i S 4) hx hb hK hP 10 0 rfl rfl (((w * 5) + (p / 5)) + 1) (rfl) (by omega) (by decide) dX4_plain_47 ?_
    refine lv_imul hx hb dX4_plain_48 ?_
    refine lv_iadd hx hb dX4_plain_49 ?_
    exact W.iret (v := ((nI (5 - (p % 5))) * (hg_i S 4 ((w * 5) + (p / 5)))) + ((nI (p % 5)) * (hg_i S 4 (((w * 5) + (p / 5)) + 1)))) hx hb hr (fun t ht hW => ⟨_, rfl, by unfold f_plain; first | rw [if_pos c28] | rw [if_neg c28], ht⟩) (fun _ h9 => nomatch h9) dX4_plain_50
  · skip
    have c28 : p % 5 = 0 := (nI_eq0 (by omega)).mp c_28
    refine lv_iload hx hb dX4_plain_31 (lv_at hl 0 rfl) ?_
    refine lv_goto (tgt := 50) hx hb dX4_plain_33 (by decide) ?_
    exact W.iret (v := (nI (5 - (p % 5))) * (hg_i S 4 ((w * 5) + (p / 5)))) hx hb hr (fun t ht hW => ⟨_, rfl, by unfold f_plain; first | rw [if_pos c28] | rw [if_neg c28], ht⟩) (fun _ h9 => nomatch h9) dX4_plain_50
set_option maxHeartbeats 4000000 in
set_option maxRecDepth 100000 in
/-- SCALED -/
theorem m_X4_scaled (l : Launch) (a b : Int32) : Met l yX4_scaled wsX4_scaled ({ frames := 0, cells := 0, slots := 0, locals := 0 }) (va_Pc [.int a, .int b] (fun _ => True)) (vp_Si (fun r => r = f_scaled a b)) 0 0 (fun _ => False) := by
  refine h_start (cc := cX4_scaled) (maxL := 2) (ret := (some .int)) (by decide) rfl (Nat.le_of_ble_eq_true rfl) ?_
  intro pg ev s mi args below meth cd ls hx hb hr hts hown hlocks hml hnm hpic hl
  have hl : lv_has ls 2 [(0, .int a), (1, .int b)] := hl
  refine lv_iload_n hx hb dX4_scaled_0 rfl (lv_at hl 1 rfl) ?_
  refine lv_bipush (v := nI 20) hx hb dX4_scaled_1 (by decide) ?_
  refine lv_icmp_lt (tgt := 10) hx hb dX4_scaled_3 (by decide) (fun c_3 => ?_) (fun c_3 => ?_)
  · skip
    refine lv_iload_n hx hb dX4_scaled_10 rfl (lv_at hl 0 rfl) ?_
    refine lv_bipush (v := nI 20) hx hb dX4_scaled_11 (by decide) ?_
    refine lv_iload_n hx hb dX4_scaled_13 rfl (lv_at hl 1 rfl) ?_
    refine lv_isub hx hb dX4_scaled_14 ?_
    refine lv_imul hx hb dX4_scaled_15 ?_
    refine lv_bipush (v := nI 20) hx hb dX4_scaled_16 (by decide) ?_
    refine lv_idiv hx hb dX4_scaled_18 (by decide) ?_
    exact W.iret (v := (a * ((nI 20) - b)) / (nI 20)) hx hb hr (fun t ht hW => ⟨_, rfl, by unfold f_scaled; first | rw [if_neg (by first | exact c_3 | rw [hg_nlt]; exact c_3)] | rw [if_pos (by first | exact c_3 | (rw [hg_nle] at c_3; exact c_3))], ht⟩) (fun _ h9 => nomatch h9) dX4_scaled_19
  · skip
    refine lv_iconst (v := nI 0) hx hb dX4_scaled_6 (by decide) ?_
    refine lv_goto (tgt := 19) hx hb dX4_scaled_7 (by decide) ?_
    exact W.iret (v := nI 0) hx hb hr (fun t ht hW => ⟨_, rfl, by unfold f_scaled; first | rw [if_neg (by first | exact c_3 | rw [hg_nlt]; exact c_3)] | rw [if_pos (by first | exact c_3 | (rw [hg_nle] at c_3; exact c_3))], ht⟩) (fun _ h9 => nomatch h9) dX4_scaled_19
set_option maxHeartbeats 4000000 in
set_option maxRecDepth 100000 in
/-- TESTED -/
theorem m_X4_tested (l : Launch) (a : Int32) : Met l yX4_tested wsX4_tested ({ frames := 1, cells := 0, slots := 0, locals := 13 }) (va_Pc [.int a] (fun _ => True)) (vp_Si (fun r => r = f_tested a)) 0 0 (fun _ => False) := by
  refine h_start (cc := cX4_tested) (maxL := 1) (ret := (some .int)) (by decide) rfl (Nat.le_of_ble_eq_true rfl) ?_
  intro pg ev s mi args below meth cd ls hx hb hr hts hown hlocks hml hnm hpic hl
  have hl : lv_has ls 1 [(0, .int a)] := hl
  refine lv_iload_n hx hb dX4_tested_0 rfl (lv_at hl 0 rfl) ?_
  refine lv_sipush (v := nI 1000) hx hb dX4_tested_1 (by decide) ?_
  refine va_mmin hx hb (by rw [hml]; exact hl.1.symm) hown (hts (.methodLink RX4 41 Lib.Math.min.name) (by decide +kernel)) (hts (.static Lib.Math.min.name) (by decide +kernel)) (hts (.initialized "java/lang/Math") (by decide +kernel)) (hts (.code Lib.Math.min.name Lib.Math.min.code 2 (some .int)) (by decide +kernel)) (Nat.le_of_ble_eq_true rfl) (Nat.le_of_ble_eq_true rfl) (Nat.zero_le _) (Nat.zero_le _) dX4_tested_4 ?_
  exact W.iret (v := if nI 1000 < a then nI 1000 else a) hx hb hr (fun t ht hW => ⟨_, rfl, rfl, ht⟩) (fun _ h9 => nomatch h9) dX4_tested_7
set_option maxHeartbeats 4000000 in
set_option maxRecDepth 100000 in
/-- STEAM -/
theorem m_X4_steam (l : Launch) (a : Int32) (p : Nat) (hp : p ≤ 20) : Met l yX4_steam wsX4_steam ({ frames := 0, cells := 0, slots := 0, locals := 0 }) (va_Pc [.int a, .int (nI p)] (fun _ => True)) (vp_Si (fun r => r = f_steam a p)) 0 0 (fun _ => False) := by
  refine h_start (cc := cX4_steam) (maxL := 2) (ret := (some .int)) (by decide) rfl (Nat.le_of_ble_eq_true rfl) ?_
  intro pg ev s mi args below meth cd ls hx hb hr hts hown hlocks hml hnm hpic hl
  have hl : lv_has ls 2 [(0, .int a), (1, .int (nI p))] := hl
  refine lv_iload_n hx hb dX4_steam_0 rfl (lv_at hl 0 rfl) ?_
  refine lv_sipush (v := nI 300) hx hb dX4_steam_1 (by decide) ?_
  refine lv_iconst (v := nI 5) hx hb dX4_steam_4 (by decide) ?_
  refine lv_iload_n hx hb dX4_steam_5 rfl (lv_at hl 1 rfl) ?_
  refine lv_imul hx hb dX4_steam_6 ?_
  refine h_topi (y := nI (5 * p)) (pk_mul _ _) ?_
  refine lv_isub hx hb dX4_steam_7 ?_
  refine h_topi (y := nI (300 - (5 * p))) (pk_sub (by omega)) ?_
  refine lv_imul hx hb dX4_steam_8 ?_
  refine lv_sipush (v := nI 1000) hx hb dX4_steam_9 (by decide) ?_
  refine lv_idiv hx hb dX4_steam_12 (by decide) ?_
  exact W.iret (v := (a * (nI (300 - (5 * p)))) / (nI 1000)) hx hb hr (fun t ht hW => ⟨_, rfl, rfl, ht⟩) (fun _ h9 => nomatch h9) dX4_steam_13
set_option maxHeartbeats 4000000 in
set_option maxRecDepth 100000 in
/-- a flow in fifths -/
theorem m_X4_fifths (l : Launch) (D : va_G) (o : Nat → Nat) (cI cJ cZ : ClassId) (S : hg_S) (w p : Nat) (hw : w < 8) (hp : p ≤ 20) : Met l yX4_fifths wsX4_fifths ({ frames := 2, cells := 0, slots := 0, locals := 33 }) (va_Pc [.ref (o 1), .int (nI w), .int (nI p)] (hg_R D (xW o cI cJ cZ S) (hg_ty cI cJ cZ))) (vp_Si (fun r => r = f_flow S w p)) 0 0 (fun _ => False) := by
  refine h_start (cc := cX4_fifths) (maxL := 4) (ret := (some .int)) (by decide) rfl (Nat.le_of_ble_eq_true rfl) ?_
  intro pg ev s mi args below meth cd ls hx hb hr hts hown hlocks hml hnm hpic hl
  obtain ⟨hP, hK⟩ := hpic
  have hi4 : ∀ w ∈ u_ws RX4 TX4 6, w ∈ wsX4_fifths := by decide +kernel
  have hl : lv_has ls 4 [(0, .ref (o 1)), (1, .int (nI w)), (2, .int (nI p))] := hl
  refine lv_aload_n hx hb dX4_fifths_0 rfl (lv_at hl 0 rfl) ?_
  refine lv_iload_n hx hb dX4_fifths_1 rfl (lv_at hl 1 rfl) ?_
  refine lv_iload_n hx hb dX4_fifths_2 rfl (lv_at hl 2 rfl) ?_
  refine vp_callSi (va_Run.run (va_runV (As := [.int (nI w), .int (nI p)]) (rest := []) ⟨hx, hb, hml, hown, hts⟩ (m_X4_plain l D o cI cJ cZ S w p (by omega) (by omega)) (cwV 2 hts gX4_fifths_X4_plain rfl rfl rfl (by decide +kernel) ⟨Nat.le_of_ble_eq_true rfl, Nat.le_of_ble_eq_true rfl⟩) (h_preR hK hP 1 rfl rfl rfl) rfl rfl hl.1 rfl (lv_room (Nat.le_of_ble_eq_true rfl)) dX4_fifths_3 ⟨Nat.le_of_ble_eq_true rfl, Nat.le_of_ble_eq_true rfl⟩)) (fun r_1 hr_1 => ?_)
  subst hr_1
  refine lv_istore_n (lv' := [(3, .int (f_plain S w p)), (0, .ref (o 1)), (1, .int (nI w)), (2, .int (nI p))]) hx hb dX4_fifths_6 rfl hl (by decide) rfl (fun ls hl => ?_)
  refine lv_aload_n hx hb dX4_fifths_7 rfl (lv_at hl 1 rfl) ?_
  refine va_get (C := RX4) (T := TX4) (N := 6) (v := .ref (o 6)) hx hb hts hi4 hown hK hP 1 rfl rfl 1 (by decide) (hts (.fieldLink RX4 9 "HotGround$Wells" "kind" "[I") (by decide +kernel)) (fun _ h9 => h9) rfl dX4_fifths_8 ?_
  refine lv_iload_n hx hb dX4_fifths_11 rfl (lv_at hl 2 rfl) ?_
  refine h_iald (f := hg_i S 0) hx hb hK hP 6 0 rfl rfl w (rfl) (by omega) (by decide) dX4_fifths_12 ?_
  refine lv_iconst (v := nI 1) hx hb dX4_fifths_13 (by decide) ?_
  refine lv_icmp_lt (tgt := 28) hx hb dX4_fifths_14 (by decide) (fun c_14 => ?_) (fun c_14 => ?_)
  · skip
    refine lv_aload_n hx hb dX4_fifths_28 rfl (lv_at hl 1 rfl) ?_
    refine va_get (C := RX4) (T := TX4) (N := 6) (v := .ref (o 6)) hx hb hts hi4 hown hK hP 1 rfl rfl 1 (by decide) (hts (.fieldLink RX4 9 "HotGround$Wells" "kind" "[I") (by decide +kernel)) (fun _ h9 => h9) rfl dX4_fifths_29 ?_
    refine lv_iload_n hx hb dX4_fifths_32 rfl (lv_at hl 2 rfl) ?_
    refine h_iald (f := hg_i S 0) hx hb hK hP 6 0 rfl rfl w (rfl) (by omega) (by decide) dX4_fifths_33 ?_
    refine lv_iconst (v := nI 2) hx hb dX4_fifths_34 (by decide) ?_
    refine lv_icmp_lt (tgt := 43) hx hb dX4_fifths_35 (by decide) (fun c_35 => ?_) (fun c_35 => ?_)
    · skip
      refine lv_iload_n hx hb dX4_fifths_43 rfl (lv_at hl 0 rfl) ?_
      exact W.iret (v := f_plain S w p) hx hb hr (fun t ht hW => ⟨_, rfl, by unfold f_flow f_up; simp only [c_14, c_35, if_true, if_false], ht⟩) (fun _ h9 => nomatch h9) dX4_fifths_44
    · skip
      refine lv_iload_n hx hb dX4_fifths_38 rfl (lv_at hl 0 rfl) ?_
      refine vp_callSi (va_Run.run (va_runS (As := [.int (f_plain S w p)]) (rest := []) ⟨hx, hb, hml, hown, hts⟩ (m_X4_tested l (f_plain S w p)) (va_cwS 1 hts gX4_fifths_X4_tested rfl rfl rfl (by decide +kernel) ⟨Nat.le_of_ble_eq_true rfl, Nat.le_of_ble_eq_true rfl⟩) (h_preS0) rfl rfl hl.1 rfl (lv_room (Nat.le_of_ble_eq_true rfl)) dX4_fifths_39 ⟨Nat.le_of_ble_eq_true rfl, Nat.le_of_ble_eq_true rfl⟩)) (fun r_2 hr_2 => ?_)
      subst hr_2
      refine lv_istore_n (lv' := [(3, .int (f_tested (f_plain S w p))), (0, .ref (o 1)), (1, .int (nI w)), (2, .int (nI p))]) hx hb dX4_fifths_42 rfl hl (by decide) rfl (fun ls hl => ?_)
      refine lv_iload_n hx hb dX4_fifths_43 rfl (lv_at hl 0 rfl) ?_
      exact W.iret (v := f_tested (f_plain S w p)) hx hb hr (fun t ht hW => ⟨_, rfl, by unfold f_flow f_up; simp only [c_14, c_35, if_true, if_false], ht⟩) (fun _ h9 => nomatch h9) dX4_fifths_44
  · skip
    refine lv_iload_n hx hb dX4_fifths_17 rfl (lv_at hl 0 rfl) ?_
    refine lv_aload_n hx hb dX4_fifths_18 rfl (lv_at hl 1 rfl) ?_
    refine va_get (C := RX4) (T := TX4) (N := 6) (v := .ref (o 8)) hx hb hts hi4 hown hK hP 1 rfl rfl 3 (by decide) (hts (.fieldLink RX4 16 "HotGround$Wells" "age" "[I") (by decide +kernel)) (fun _ h9 => h9) rfl dX4_fifths_19 ?_
    refine lv_iload_n hx hb dX4_fifths_22 rfl (lv_at hl 2 rfl) ?_
    refine h_iald (f := hg_i S 2) hx hb hK hP 8 0 rfl rfl w (rfl) (by omega) (by decide) dX4_fifths_23 ?_
    refine vp_callSi (va_Run.run (va_runS (As := [.int (f_plain S w p), .int (hg_i S 2 w)]) (rest := []) ⟨hx, hb, hml, hown, hts⟩ (m_X4_scaled l (f_plain S w p) (hg_i S 2 w)) (va_cwS 2 hts gX4_fifths_X4_scaled rfl rfl rfl (by decide +kernel) ⟨Nat.le_of_ble_eq_true rfl, Nat.le_of_ble_eq_true rfl⟩) (h_preS0) rfl rfl hl.1 rfl (lv_room (Nat.le_of_ble_eq_true rfl)) dX4_fifths_24 ⟨Nat.le_of_ble_eq_true rfl, Nat.le_of_ble_eq_true rfl⟩)) (fun r_3 hr_3 => ?_)
    subst hr_3
    refine lv_istore_n (lv' := [(3, .int (f_scaled (f_plain S w p) (hg_i S 2 w))), (0, .ref (o 1)), (1, .int (nI w)), (2, .int (nI p))]) hx hb dX4_fifths_27 rfl hl (by decide) rfl (fun ls hl => ?_)
    refine lv_aload_n hx hb dX4_fifths_28 rfl (lv_at hl 1 rfl) ?_
    refine va_get (C := RX4) (T := TX4) (N := 6) (v := .ref (o 6)) hx hb hts hi4 hown hK hP 1 rfl rfl 1 (by decide) (hts (.fieldLink RX4 9 "HotGround$Wells" "kind" "[I") (by decide +kernel)) (fun _ h9 => h9) rfl dX4_fifths_29 ?_
    refine lv_iload_n hx hb dX4_fifths_32 rfl (lv_at hl 2 rfl) ?_
    refine h_iald (f := hg_i S 0) hx hb hK hP 6 0 rfl rfl w (rfl) (by omega) (by decide) dX4_fifths_33 ?_
    refine lv_iconst (v := nI 2) hx hb dX4_fifths_34 (by decide) ?_
    refine lv_icmp_lt (tgt := 43) hx hb dX4_fifths_35 (by decide) (fun c_35 => ?_) (fun c_35 => ?_)
    · skip
      refine lv_iload_n hx hb dX4_fifths_43 rfl (lv_at hl 0 rfl) ?_
      exact W.iret (v := f_scaled (f_plain S w p) (hg_i S 2 w)) hx hb hr (fun t ht hW => ⟨_, rfl, by unfold f_flow f_up; simp only [c_14, c_35, if_true, if_false], ht⟩) (fun _ h9 => nomatch h9) dX4_fifths_44
    · skip
      refine lv_iload_n hx hb dX4_fifths_38 rfl (lv_at hl 0 rfl) ?_
      refine vp_callSi (va_Run.run (va_runS (As := [.int (f_scaled (f_plain S w p) (hg_i S 2 w))]) (rest := []) ⟨hx, hb, hml, hown, hts⟩ (m_X4_tested l (f_scaled (f_plain S w p) (hg_i S 2 w))) (va_cwS 1 hts gX4_fifths_X4_tested rfl rfl rfl (by decide +kernel) ⟨Nat.le_of_ble_eq_true rfl, Nat.le_of_ble_eq_true rfl⟩) (h_preS0) rfl rfl hl.1 rfl (lv_room (Nat.le_of_ble_eq_true rfl)) dX4_fifths_39 ⟨Nat.le_of_ble_eq_true rfl, Nat.le_of_ble_eq_true rfl⟩)) (fun r_4 hr_4 => ?_)
      subst hr_4
      refine lv_istore_n (lv' := [(3, .int (f_tested (f_scaled (f_plain S w p) (hg_i S 2 w)))), (0, .ref (o 1)), (1, .int (nI w)), (2, .int (nI p))]) hx hb dX4_fifths_42 rfl hl (by decide) rfl (fun ls hl => ?_)
      refine lv_iload_n hx hb dX4_fifths_43 rfl (lv_at hl 0 rfl) ?_
      exact W.iret (v := f_tested (f_scaled (f_plain S w p) (hg_i S 2 w))) hx hb hr (fun t ht hW => ⟨_, rfl, by unfold f_flow f_up; simp only [c_14, c_35, if_true, if_false], ht⟩) (fun _ h9 => nomatch h9) dX4_fifths_44
set_option maxHeartbeats 4000000 in
set_option maxRecDepth 100000 in
/-- what one asking brings to the trace -/
theorem m_X4_weight (l : Launch) (D : va_G) (o : Nat → Nat) (cI cJ cZ : ClassId) (S : hg_S) (w : Nat) (hw : w < 8) : Met l yX4_weight wsX4_weight ({ frames := 0, cells := 0, slots := 0, locals := 0 }) (va_Pc [.ref (o 1), .int (nI w)] (hg_R D (xW o cI cJ cZ S) (hg_ty cI cJ cZ))) (vp_Si (fun r => r = f_weight S w)) 0 0 (fun _ => False) := by
  refine h_start (cc := cX4_weight) (maxL := 3) (ret := (some .int)) (by decide) rfl (Nat.le_of_ble_eq_true rfl) ?_
  intro pg ev s mi args below meth cd ls hx hb hr hts hown hlocks hml hnm hpic hl
  obtain ⟨hP, hK⟩ := hpic
  have hi4 : ∀ w ∈ u_ws RX4 TX4 6, w ∈ wsX4_weight := by decide +kernel
  have hl : lv_has ls 3 [(0, .ref (o 1)), (1, .int (nI w))] := hl
  refine lv_iconst (v := nI 1) hx hb dX4_weight_0 (by decide) ?_
  refine lv_istore_n (lv' := [(2, .int (nI 1)), (0, .ref (o 1)), (1, .int (nI w))]) hx hb dX4_weight_1 rfl hl (by decide) rfl (fun ls hl => ?_)
  refine lv_aload_n hx hb dX4_weight_2 rfl (lv_at hl 1 rfl) ?_
  refine va_get (C := RX4) (T := TX4) (N := 6) (v := .ref (o 6)) hx hb hts hi4 hown hK hP 1 rfl rfl 1 (by decide) (hts (.fieldLink RX4 9 "HotGround$Wells" "kind" "[I") (by decide +kernel)) (fun _ h9 => h9) rfl dX4_weight_3 ?_
  refine lv_iload_n hx hb dX4_weight_6 rfl (lv_at hl 2 rfl) ?_
  refine h_iald (f := hg_i S 0) hx hb hK hP 6 0 rfl rfl w (rfl) (by omega) (by decide) dX4_weight_7 ?_
  refine lv_iconst (v := nI 1) hx hb dX4_weight_8 (by decide) ?_
  refine lv_icmp_lt (tgt := 15) hx hb dX4_weight_9 (by decide) (fun c_9 => ?_) (fun c_9 => ?_)
  · skip
    refine lv_aload_n hx hb dX4_weight_15 rfl (lv_at hl 1 rfl) ?_
    refine va_get (C := RX4) (T := TX4) (N := 6) (v := .ref (o 6)) hx hb hts hi4 hown hK hP 1 rfl rfl 1 (by decide) (hts (.fieldLink RX4 9 "HotGround$Wells" "kind" "[I") (by decide +kernel)) (fun _ h9 => h9) rfl dX4_weight_16 ?_
    refine lv_iload_n hx hb dX4_weight_19 rfl (lv_at hl 2 rfl) ?_
    refine h_iald (f := hg_i S 0) hx hb hK hP 6 0 rfl rfl w (rfl) (by omega) (by decide) dX4_weight_20 ?_
    refine lv_iconst (v := nI 2) hx hb dX4_weight_21 (by decide) ?_
    refine lv_icmp_lt (tgt := 28) hx hb dX4_weight_22 (by decide) (fun c_22 => ?_) (fun c_22 => ?_)
    · skip
      refine lv_iload_n hx hb dX4_weight_28 rfl (lv_at hl 0 rfl) ?_
      exact W.iret (v := nI 1) hx hb hr (fun t ht hW => ⟨_, rfl, by unfold f_weight; simp only [c_9, c_22, if_true, if_false], ht⟩) (fun _ h9 => nomatch h9) dX4_weight_29
    · skip
      refine lv_iinc (v := nI 101) (lv' := [(2, .int (nI 101)), (0, .ref (o 1)), (1, .int (nI w))]) hx hb dX4_weight_25 hl (k := 0) rfl (by decide) (by decide) rfl (fun ls hl => ?_)
      refine lv_iload_n hx hb dX4_weight_28 rfl (lv_at hl 0 rfl) ?_
      exact W.iret (v := nI 101) hx hb hr (fun t ht hW => ⟨_, rfl, by exfalso; simp only [hg_lt, hg_le, i_1, i_2] at c_9 c_22; omega, ht⟩) (fun _ h9 => nomatch h9) dX4_weight_29
  · skip
    refine lv_iinc (v := nI 11) (lv' := [(2, .int (nI 11)), (0, .ref (o 1)), (1, .int (nI w))]) hx hb dX4_weight_12 hl (k := 0) rfl (by decide) (by decide) rfl (fun ls hl => ?_)
    refine lv_aload_n hx hb dX4_weight_15 rfl (lv_at hl 1 rfl) ?_
    refine va_get (C := RX4) (T := TX4) (N := 6) (v := .ref (o 6)) hx hb hts hi4 hown hK hP 1 rfl rfl 1 (by decide) (hts (.fieldLink RX4 9 "HotGround$Wells" "kind" "[I") (by decide +kernel)) (fun _ h9 => h9) rfl dX4_weight_16 ?_
    refine lv_iload_n hx hb dX4_weight_19 rfl (lv_at hl 2 rfl) ?_
    refine h_iald (f := hg_i S 0) hx hb hK hP 6 0 rfl rfl w (rfl) (by omega) (by decide) dX4_weight_20 ?_
    refine lv_iconst (v := nI 2) hx hb dX4_weight_21 (by decide) ?_
    refine lv_icmp_lt (tgt := 28) hx hb dX4_weight_22 (by decide) (fun c_22 => ?_) (fun c_22 => ?_)
    · skip
      refine lv_iload_n hx hb dX4_weight_28 rfl (lv_at hl 0 rfl) ?_
      exact W.iret (v := nI 11) hx hb hr (fun t ht hW => ⟨_, rfl, by unfold f_weight; simp only [c_9, c_22, if_true, if_false], ht⟩) (fun _ h9 => nomatch h9) dX4_weight_29
    · skip
      refine lv_iinc (v := nI 111) (lv' := [(2, .int (nI 111)), (0, .ref (o 1)), (1, .int (nI w))]) hx hb dX4_weight_25 hl (k := 0) rfl (by decide) (by decide) rfl (fun ls hl => ?_)
      refine lv_iload_n hx hb dX4_weight_28 rfl (lv_at hl 0 rfl) ?_
      exact W.iret (v := nI 111) hx hb hr (fun t ht hW => ⟨_, rfl, by unfold f_weight; simp only [c_9, c_22, if_true, if_false], ht⟩) (fun _ h9 => nomatch h9) dX4_weight_29
set_option maxHeartbeats 4000000 in
set_option maxRecDepth 100000 in
/-- SUPPLY -/
theorem m_X4_supply (l : Launch) (D : va_G) (o : Nat → Nat) (cI cJ cZ : ClassId) (S : hg_S) (h0 : hg_n S 0 ≤ 8) (p : Nat) (hp : p ≤ 20) : Met l yX4_supply wsX4_supply ({ frames := 3, cells := 0, slots := 0, locals := 56 }) (va_Pc [.ref (o 1), .int (nI p)] (hg_R D (xW o cI cJ cZ S) (hg_ty cI cJ cZ))) (vp_Si (fun r => r = f_supply S p)) 0 0 (fun _ => False) := by
  refine h_start (cc := cX4_supply) (maxL := 4) (ret := (some .int)) (by decide) rfl (Nat.le_of_ble_eq_true rfl) ?_
  intro pg ev s mi args below meth cd ls hx hb hr hts hown hlocks hml hnm hpic hl
  obtain ⟨hP, hK⟩ := hpic
  have hi4 : ∀ w ∈ u_ws RX4 TX4 6, w ∈ wsX4_supply := by decide +kernel
  have hl : lv_has ls 4 [(0, .ref (o 1)), (1, .int (nI p))] := hl
  refine lv_iconst (v := nI 0) hx hb dX4_supply_0 (by decide) ?_
  refine h_topi (y := hg_sum (f_sup1 S p) 0) (hg_sum_0) ?_
  refine lv_istore_n (lv' := [(2, .int (hg_sum (f_sup1 S p) 0)), (0, .ref (o 1)), (1, .int (nI p))]) hx hb dX4_supply_1 rfl hl (by decide) rfl (fun ls hl => ?_)
  refine lv_iconst (v := nI 0) hx hb dX4_supply_2 (by decide) ?_
  refine lv_istore_n (lv' := [(3, .int (nI 0)), (2, .int (hg_sum (f_sup1 S p) 0)), (0, .ref (o 1)), (1, .int (nI p))]) hx hb dX4_supply_3 rfl hl (by decide) rfl (fun ls hl => ?_)
  refine h_for (nL := 4) (hg_n S 0) (fun i => [(3, .int (nI i)), (2, .int (hg_sum (f_sup1 S p) i)), (0, .ref (o 1)), (1, .int (nI p))]) ?_ ?_ (lv_sub hl [0, 1, 2, 3] rfl)
  · intro i ls hi hl ih
    have hl : lv_has ls 4 [(3, .int (nI i)), (2, .int (hg_sum (f_sup1 S p) i)), (0, .ref (o 1)), (1, .int (nI p))] := hl
    refine lv_iload_n hx hb dX4_supply_4 rfl (lv_at hl 0 rfl) ?_
    refine lv_aload_n hx hb dX4_supply_5 rfl (lv_at hl 2 rfl) ?_
    refine va_get (C := RX4) (T := TX4) (N := 6) (v := .int (nI (hg_n S 0))) hx hb hts hi4 hown hK hP 1 rfl rfl 0 (by decide) (hts (.fieldLink RX4 26 "HotGround$Wells" "count" "I") (by decide +kernel)) (fun _ h9 => h9) rfl dX4_supply_6 ?_
    refine lv_icmp_ge (tgt := 40) hx hb dX4_supply_9 (by decide) (fun c_9 => absurd c_9 (nI_ge hi (by omega))) (fun c_9 => ?_)
    refine lv_aload_n hx hb dX4_supply_12 rfl (lv_at hl 2 rfl) ?_
    refine va_get (C := RX4) (T := TX4) (N := 6) (v := .ref (o 9)) hx hb hts hi4 hown hK hP 1 rfl rfl 4 (by decide) (hts (.fieldLink RX4 19 "HotGround$Wells" "open" "[Z") (by decide +kernel)) (fun _ h9 => h9) rfl dX4_supply_13 ?_
    refine lv_iload_n hx hb dX4_supply_16 rfl (lv_at hl 0 rfl) ?_
    refine h_zald (f := hg_i S 3) hx hb hK hP 9 2 rfl rfl i (rfl) (by omega) (by decide) dX4_supply_17 ?_
    refine lv_if_eq (tgt := 34) hx hb dX4_supply_18 (by decide) (fun c_18 => ?_) (fun c_18 => ?_)
    · skip
      rw [show hg_sum (f_sup1 S p) i = hg_sum (f_sup1 S p) (i + 1) from hg_sum_keep (g := f_sup1 S p) (n := i) (by unfold f_sup1; rw [if_pos c_18])] at hl
      have hl : lv_has ls 4 [(3, .int (nI i)), (2, .int (hg_sum (f_sup1 S p) (i + 1))), (0, .ref (o 1)), (1, .int (nI p))] := hl
      refine lv_iinc (v := nI (i + 1)) (lv' := [(3, .int (nI (i + 1))), (2, .int (hg_sum (f_sup1 S p) (i + 1))), (0, .ref (o 1)), (1, .int (nI p))]) hx hb dX4_supply_34 hl (k := 0) rfl (nI_1 _) (by decide) rfl (fun ls hl => ?_)
      refine lv_goto (tgt := 4) hx hb dX4_supply_37 (by decide) ?_
      exact ih ls (lv_sub hl [0, 1, 2, 3] rfl)
    · skip
      refine lv_iload_n hx hb dX4_supply_21 rfl (lv_at hl 1 rfl) ?_
      refine lv_aload_n hx hb dX4_supply_22 rfl (lv_at hl 2 rfl) ?_
      refine lv_iload_n hx hb dX4_supply_23 rfl (lv_at hl 0 rfl) ?_
      refine lv_iload_n hx hb dX4_supply_24 rfl (lv_at hl 3 rfl) ?_
      refine vp_callSi (va_Run.run (va_runV (As := [.int (nI i), .int (nI p)]) (rest := [.int (hg_sum (f_sup1 S p) i)]) ⟨hx, hb, hml, hown, hts⟩ (m_X4_fifths l D o cI cJ cZ S i p (by omega) (by omega)) (cwV 2 hts gX4_supply_X4_fifths rfl rfl rfl (by decide +kernel) ⟨Nat.le_of_ble_eq_true rfl, Nat.le_of_ble_eq_true rfl⟩) (h_preR hK hP 1 rfl rfl rfl) rfl rfl hl.1 rfl (lv_room (Nat.le_of_ble_eq_true rfl)) dX4_supply_25 ⟨Nat.le_of_ble_eq_true rfl, Nat.le_of_ble_eq_true rfl⟩)) (fun r_1 hr_1 => ?_)
      subst hr_1
      refine lv_iload_n hx hb dX4_supply_28 rfl (lv_at hl 3 rfl) ?_
      refine vp_callSi (va_Run.run (va_runS (As := [.int (f_flow S i p), .int (nI p)]) (rest := [.int (hg_sum (f_sup1 S p) i)]) ⟨hx, hb, hml, hown, hts⟩ (m_X4_steam l (f_flow S i p) p (by omega)) (va_cwS 2 hts gX4_supply_X4_steam rfl rfl rfl (by decide +kernel) ⟨Nat.le_of_ble_eq_true rfl, Nat.le_of_ble_eq_true rfl⟩) (h_preS0) rfl rfl hl.1 rfl (lv_room (Nat.le_of_ble_eq_true rfl)) dX4_supply_29 ⟨Nat.le_of_ble_eq_true rfl, Nat.le_of_ble_eq_true rfl⟩)) (fun r_2 hr_2 => ?_)
      subst hr_2
      refine lv_iadd hx hb dX4_supply_32 ?_
      refine h_topi (y := hg_sum (f_sup1 S p) (i + 1)) (by show _ + _ = _ + f_sup1 S p i; unfold f_sup1; rw [if_neg c_18]) ?_
      refine lv_istore_n (lv' := [(2, .int (hg_sum (f_sup1 S p) (i + 1))), (3, .int (nI i)), (0, .ref (o 1)), (1, .int (nI p))]) hx hb dX4_supply_33 rfl hl (by decide) rfl (fun ls hl => ?_)
      refine lv_iinc (v := nI (i + 1)) (lv' := [(3, .int (nI (i + 1))), (2, .int (hg_sum (f_sup1 S p) (i + 1))), (0, .ref (o 1)), (1, .int (nI p))]) hx hb dX4_supply_34 hl (k := 1) rfl (nI_1 _) (by decide) rfl (fun ls hl => ?_)
      refine lv_goto (tgt := 4) hx hb dX4_supply_37 (by decide) ?_
      exact ih ls (lv_sub hl [0, 1, 2, 3] rfl)
  · intro ls hl
    have hl : lv_has ls 4 [(3, .int (nI (hg_n S 0))), (2, .int (hg_sum (f_sup1 S p) (hg_n S 0))), (0, .ref (o 1)), (1, .int (nI p))] := hl
    refine lv_iload_n hx hb dX4_supply_4 rfl (lv_at hl 0 rfl) ?_
    refine lv_aload_n hx hb dX4_supply_5 rfl (lv_at hl 2 rfl) ?_
    refine va_get (C := RX4) (T := TX4) (N := 6) (v := .int (nI (hg_n S 0))) hx hb hts hi4 hown hK hP 1 rfl rfl 0 (by decide) (hts (.fieldLink RX4 26 "HotGround$Wells" "count" "I") (by decide +kernel)) (fun _ h9 => h9) rfl dX4_supply_6 ?_
    refine lv_icmp_ge (tgt := 40) hx hb dX4_supply_9 (by decide) (fun c_9 => ?_) (fun c_9 => absurd (nI_le (Nat.le_refl _) (by omega)) c_9)
    refine lv_iload_n hx hb dX4_supply_40 rfl (lv_at hl 1 rfl) ?_
    exact W.iret (v := hg_sum (f_sup1 S p) (hg_n S 0)) hx hb hr (fun t ht hW => ⟨_, rfl, rfl, ht⟩) (fun _ h9 => nomatch h9) dX4_supply_41
set_option maxHeartbeats 4000000 in
set_option maxRecDepth 100000 in
/-- WATER -/
theorem m_X4_water (l : Launch) (D : va_G) (o : Nat → Nat) (cI cJ cZ : ClassId) (S : hg_S) (h0 : hg_n S 0 ≤ 8) (p : Nat) (hp : p ≤ 20) : Met l yX4_water wsX4_water ({ frames := 3, cells := 0, slots := 0, locals := 56 }) (va_Pc [.ref (o 1), .int (nI p)] (hg_R D (xW o cI cJ cZ S) (hg_ty cI cJ cZ))) (vp_Si (fun r => r = f_water S p)) 0 0 (fun _ => False) := by
  refine h_start (cc := cX4_water) (maxL := 5) (ret := (some .int)) (by decide) rfl (Nat.le_of_ble_eq_true rfl) ?_
  intro pg ev s mi args below meth cd ls hx hb hr hts hown hlocks hml hnm hpic hl
  obtain ⟨hP, hK⟩ := hpic
  have hi4 : ∀ w ∈ u_ws RX4 TX4 6, w ∈ wsX4_water := by decide +kernel
  have hl : lv_has ls 5 [(0, .ref (o 1)), (1, .int (nI p))] := hl
  refine lv_iconst (v := nI 0) hx hb dX4_water_0 (by decide) ?_
  refine h_topi (y := hg_sum (f_wat1 S p) 0) (hg_sum_0) ?_
  refine lv_istore_n (lv' := [(2, .int (hg_sum (f_wat1 S p) 0)), (0, .ref (o 1)), (1, .int (nI p))]) hx hb dX4_water_1 rfl hl (by decide) rfl (fun ls hl => ?_)
  refine lv_iconst (v := nI 0) hx hb dX4_water_2 (by decide) ?_
  refine lv_istore_n (lv' := [(3, .int (nI 0)), (2, .int (hg_sum (f_wat1 S p) 0)), (0, .ref (o 1)), (1, .int (nI p))]) hx hb dX4_water_3 rfl hl (by decide) rfl (fun ls hl => ?_)
  refine h_for (nL := 5) (hg_n S 0) (fun i => [(3, .int (nI i)), (2, .int (hg_sum (f_wat1 S p) i)), (0, .ref (o 1)), (1, .int (nI p))]) ?_ ?_ (lv_sub hl [0, 1, 2, 3] rfl)
  · intro i ls hi hl ih
    have hl : lv_has ls 5 [(3, .int (nI i)), (2, .int (hg_sum (f_wat1 S p) i)), (0, .ref (o 1)), (1, .int (nI p))] := hl
    refine lv_iload_n hx hb dX4_water_4 rfl (lv_at hl 0 rfl) ?_
    refine lv_aload_n hx hb dX4_water_5 rfl (lv_at hl 2 rfl) ?_
    refine va_get (C := RX4) (T := TX4) (N := 6) (v := .int (nI (hg_n S 0))) hx hb hts hi4 hown hK hP 1 rfl rfl 0 (by decide) (hts (.fieldLink RX4 26 "HotGround$Wells" "count" "I") (by decide +kernel)) (fun _ h9 => h9) rfl dX4_water_6 ?_
    refine lv_icmp_ge (tgt := 47) hx hb dX4_water_9 (by decide) (fun c_9 => absurd c_9 (nI_ge hi (by omega))) (fun c_9 => ?_)
    refine lv_aload_n hx hb dX4_water_12 rfl (lv_at hl 2 rfl) ?_
    refine va_get (C := RX4) (T := TX4) (N := 6) (v := .ref (o 9)) hx hb hts hi4 hown hK hP 1 rfl rfl 4 (by decide) (hts (.fieldLink RX4 19 "HotGround$Wells" "open" "[Z") (by decide +kernel)) (fun _ h9 => h9) rfl dX4_water_13 ?_
    refine lv_iload_n hx hb dX4_water_16 rfl (lv_at hl 0 rfl) ?_
    refine h_zald (f := hg_i S 3) hx hb hK hP 9 2 rfl rfl i (rfl) (by omega) (by decide) dX4_water_17 ?_
    refine lv_if_eq (tgt := 41) hx hb dX4_water_18 (by decide) (fun c_18 => ?_) (fun c_18 => ?_)
    · skip
      rw [show hg_sum (f_wat1 S p) i = hg_sum (f_wat1 S p) (i + 1) from hg_sum_keep (g := f_wat1 S p) (n := i) (by unfold f_wat1; rw [if_pos c_18])] at hl
      have hl : lv_has ls 5 [(3, .int (nI i)), (2, .int (hg_sum (f_wat1 S p) (i + 1))), (0, .ref (o 1)), (1, .int (nI p))] := hl
      refine lv_iinc (v := nI (i + 1)) (lv' := [(3, .int (nI (i + 1))), (2, .int (hg_sum (f_wat1 S p) (i + 1))), (0, .ref (o 1)), (1, .int (nI p))]) hx hb dX4_water_41 hl (k := 0) rfl (nI_1 _) (by decide) rfl (fun ls hl => ?_)
      refine lv_goto (tgt := 4) hx hb dX4_water_44 (by decide) ?_
      exact ih ls (lv_sub hl [0, 1, 2, 3] rfl)
    · skip
      refine lv_aload_n hx hb dX4_water_21 rfl (lv_at hl 2 rfl) ?_
      refine lv_iload_n hx hb dX4_water_22 rfl (lv_at hl 0 rfl) ?_
      refine lv_iload_n hx hb dX4_water_23 rfl (lv_at hl 3 rfl) ?_
      refine vp_callSi (va_Run.run (va_runV (As := [.int (nI i), .int (nI p)]) (rest := []) ⟨hx, hb, hml, hown, hts⟩ (m_X4_fifths l D o cI cJ cZ S i p (by omega) (by omega)) (cwV 2 hts gX4_water_X4_fifths rfl rfl rfl (by decide +kernel) ⟨Nat.le_of_ble_eq_true rfl, Nat.le_of_ble_eq_true rfl⟩) (h_preR hK hP 1 rfl rfl rfl) rfl rfl hl.1 rfl (lv_room (Nat.le_of_ble_eq_true rfl)) dX4_water_24 ⟨Nat.le_of_ble_eq_true rfl, Nat.le_of_ble_eq_true rfl⟩)) (fun r_1 hr_1 => ?_)
      subst hr_1
      refine lv_istore (lv' := [(4, .int (f_flow S i p)), (3, .int (nI i)), (2, .int (hg_sum (f_wat1 S p) i)), (0, .ref (o 1)), (1, .int (nI p))]) hx hb dX4_water_27 hl (by decide) rfl (fun ls hl => ?_)
      refine lv_iload_n hx hb dX4_water_29 rfl (lv_at hl 2 rfl) ?_
      refine lv_iload hx hb dX4_water_30 (lv_at hl 0 rfl) ?_
      refine lv_iload hx hb dX4_water_32 (lv_at hl 0 rfl) ?_
      refine lv_iload_n hx hb dX4_water_34 rfl (lv_at hl 4 rfl) ?_
      refine vp_callSi (va_Run.run (va_runS (As := [.int (f_flow S i p), .int (nI p)]) (rest := [.int (f_flow S i p), .int (hg_sum (f_wat1 S p) i)]) ⟨hx, hb, hml, hown, hts⟩ (m_X4_steam l (f_flow S i p) p (by omega)) (va_cwS 2 hts gX4_water_X4_steam rfl rfl rfl (by decide +kernel) ⟨Nat.le_of_ble_eq_true rfl, Nat.le_of_ble_eq_true rfl⟩) (h_preS0) rfl rfl hl.1 rfl (lv_room (Nat.le_of_ble_eq_true rfl)) dX4_water_35 ⟨Nat.le_of_ble_eq_true rfl, Nat.le_of_ble_eq_true rfl⟩)) (fun r_2 hr_2 => ?_)
      subst hr_2
      refine lv_isub hx hb dX4_water_38 ?_
      refine lv_iadd hx hb dX4_water_39 ?_
      refine h_topi (y := hg_sum (f_wat1 S p) (i + 1)) (by show _ + _ = _ + f_wat1 S p i; unfold f_wat1; rw [if_neg c_18]) ?_
      refine lv_istore_n (lv' := [(2, .int (hg_sum (f_wat1 S p) (i + 1))), (4, .int (f_flow S i p)), (3, .int (nI i)), (0, .ref (o 1)), (1, .int (nI p))]) hx hb dX4_water_40 rfl hl (by decide) rfl (fun ls hl => ?_)
      refine lv_iinc (v := nI (i + 1)) (lv' := [(3, .int (nI (i + 1))), (2, .int (hg_sum (f_wat1 S p) (i + 1))), (4, .int (f_flow S i p)), (0, .ref (o 1)), (1, .int (nI p))]) hx hb dX4_water_41 hl (k := 2) rfl (nI_1 _) (by decide) rfl (fun ls hl => ?_)
      refine lv_goto (tgt := 4) hx hb dX4_water_44 (by decide) ?_
      exact ih ls (lv_sub hl [0, 1, 3, 4] rfl)
  · intro ls hl
    have hl : lv_has ls 5 [(3, .int (nI (hg_n S 0))), (2, .int (hg_sum (f_wat1 S p) (hg_n S 0))), (0, .ref (o 1)), (1, .int (nI p))] := hl
    refine lv_iload_n hx hb dX4_water_4 rfl (lv_at hl 0 rfl) ?_
    refine lv_aload_n hx hb dX4_water_5 rfl (lv_at hl 2 rfl) ?_
    refine va_get (C := RX4) (T := TX4) (N := 6) (v := .int (nI (hg_n S 0))) hx hb hts hi4 hown hK hP 1 rfl rfl 0 (by decide) (hts (.fieldLink RX4 26 "HotGround$Wells" "count" "I") (by decide +kernel)) (fun _ h9 => h9) rfl dX4_water_6 ?_
    refine lv_icmp_ge (tgt := 47) hx hb dX4_water_9 (by decide) (fun c_9 => ?_) (fun c_9 => absurd (nI_le (Nat.le_refl _) (by omega)) c_9)
    refine lv_iload_n hx hb dX4_water_47 rfl (lv_at hl 1 rfl) ?_
    exact W.iret (v := hg_sum (f_wat1 S p) (hg_n S 0)) hx hb hr (fun t ht hW => ⟨_, rfl, rfl, ht⟩) (fun _ h9 => nomatch h9) dX4_water_48
set_option maxHeartbeats 4000000 in
set_option maxRecDepth 100000 in
/-- a well more -/
theorem m_X4_add (l : Launch) (D : va_G) (o : Nat → Nat) (cI cJ cZ : ClassId) (S : hg_S) (sz : Nat) (hc : hg_n S 0 < 8) (a b : Int32) : Met l yX4_add wsX4_add ({ frames := 0, cells := 0, slots := 0, locals := 0 }) (va_Pc [.ref (o 1), .int a, .int b] (hg_Wr D (xW o cI cJ cZ S) (hg_ty cI cJ cZ) sz)) (va_Qi (fun (r : Int32) (_ : Unit) => r = nI (hg_n S 0)) (fun _ t => hg_At D (xW o cI cJ cZ (hg_sn (hg_si (hg_si S 0 (upd (hg_i S 0) (hg_n S 0) a)) 1 (upd (hg_i S 1) (hg_n S 0) b)) 0 (hg_n S 0 + 1))) (va_A (xW o cI cJ cZ S) sz) t) (va_A (xW o cI cJ cZ S) sz)) 0 0 (va_A (xW o cI cJ cZ S) sz) := by
  refine h_start (cc := cX4_add) (maxL := 4) (ret := (some .int)) (by decide) rfl (Nat.le_of_ble_eq_true rfl) ?_
  intro pg ev s mi args below meth cd ls hx hb hr hts hown hlocks hml hnm hpic hl
  obtain ⟨hsz, hP, hK, hD0⟩ := hpic
  subst hsz
  have hD := hD0.self (sz := s.heap.size)
  generalize hAe : va_A (xW o cI cJ cZ S) s.heap.size = A at hD ⊢
  have hA : ∀ q : Nat, s.heap.size ≤ q → A q := fun q h => by rw [← hAe]; exact Or.inr h
  have hS : va_S A s.heap s.heap [] := va_S.rf
  have hi4 : ∀ w ∈ u_ws RX4 TX4 6, w ∈ wsX4_add := by decide +kernel
  have hl : lv_has ls 4 [(0, .ref (o 1)), (1, .int a), (2, .int b)] := hl
  refine lv_aload_n hx hb dX4_add_0 rfl (lv_at hl 0 rfl) ?_
  refine va_get (C := RX4) (T := TX4) (N := 6) (v := .int (nI (hg_n S 0))) hx hb hts hi4 hown hK hP 1 rfl rfl 0 (by decide) (hts (.fieldLink RX4 26 "HotGround$Wells" "count" "I") (by decide +kernel)) (fun _ h9 => h9) rfl dX4_add_1 ?_
  refine lv_istore_n (lv' := [(3, .int (nI (hg_n S 0))), (0, .ref (o 1)), (1, .int a), (2, .int b)]) hx hb dX4_add_4 rfl hl (by decide) rfl (fun ls hl => ?_)
  refine lv_aload_n hx hb dX4_add_5 rfl (lv_at hl 1 rfl) ?_
  refine va_get (C := RX4) (T := TX4) (N := 6) (v := .ref (o 6)) hx hb hts hi4 hown hK hP 1 rfl rfl 1 (by decide) (hts (.fieldLink RX4 9 "HotGround$Wells" "kind" "[I") (by decide +kernel)) (fun _ h9 => h9) rfl dX4_add_6 ?_
  refine lv_iload_n hx hb dX4_add_9 rfl (lv_at hl 0 rfl) ?_
  refine lv_iload_n hx hb dX4_add_10 rfl (lv_at hl 2 rfl) ?_
  refine h_iast (f := hg_i S 0) (ws' := xW o cI cJ cZ (hg_si S 0 (upd (hg_i S 0) (hg_n S 0) a))) hx hb hK hP hD hS 6 0 rfl rfl (hg_n S 0) (rfl) (by omega) (by decide) rfl dX4_add_11 (fun H locs hP hD hS => ?_)
  refine lv_aload_n hx hb dX4_add_12 rfl (lv_at hl 1 rfl) ?_
  refine va_get (C := RX4) (T := TX4) (N := 6) (v := .ref (o 7)) hx hb hts hi4 hown hK hP 1 rfl rfl 2 (by decide) (hts (.fieldLink RX4 13 "HotGround$Wells" "box" "[I") (by decide +kernel)) (fun _ h9 => h9) rfl dX4_add_13 ?_
  refine lv_iload_n hx hb dX4_add_16 rfl (lv_at hl 0 rfl) ?_
  refine lv_iload_n hx hb dX4_add_17 rfl (lv_at hl 3 rfl) ?_
  refine h_iast (f := hg_i S 1) (ws' := xW o cI cJ cZ (hg_si (hg_si S 0 (upd (hg_i S 0) (hg_n S 0) a)) 1 (upd (hg_i S 1) (hg_n S 0) b))) hx hb hK hP hD hS 7 0 rfl rfl (hg_n S 0) (rfl) (by omega) (by decide) rfl dX4_add_18 (fun H locs hP hD hS => ?_)
  refine lv_aload_n hx hb dX4_add_19 rfl (lv_at hl 1 rfl) ?_
  refine lv_dup hx hb dX4_add_20 rfl ?_
  refine va_get (C := RX4) (T := TX4) (N := 6) (v := .int (nI (hg_n S 0))) hx hb hts hi4 hown hK hP 1 rfl rfl 0 (by decide) (hts (.fieldLink RX4 26 "HotGround$Wells" "count" "I") (by decide +kernel)) (fun _ h9 => h9) rfl dX4_add_21 ?_
  refine lv_iconst (v := nI 1) hx hb dX4_add_24 (by decide) ?_
  refine lv_iadd hx hb dX4_add_25 ?_
  refine h_topi (y := nI ((hg_n S 0) + 1)) (nI_add _ _) ?_
  refine h_put (C := RX4) (T := TX4) (N := 6) (v := .int (nI ((hg_n S 0) + 1))) (ty := .int) (ws' := xW o cI cJ cZ (hg_sn (hg_si (hg_si S 0 (upd (hg_i S 0) (hg_n S 0) a)) 1 (upd (hg_i S 1) (hg_n S 0) b)) 0 ((hg_n S 0) + 1))) hx hb hts hi4 tyX4 tyX4_ok nmX4 hown hK hP hD hS 1 rfl rfl 0 (by decide) (hts (.fieldLink RX4 26 "HotGround$Wells" "count" "I") (by decide +kernel)) (fun _ h9 => h9) rfl (by decide +kernel) rfl rfl (Nat.le_of_ble_eq_true rfl) rfl dX4_add_26 (fun H locs hP hD hS => ?_)
  refine lv_iload_n hx hb dX4_add_29 rfl (lv_at hl 0 rfl) ?_
  exact W.iret (v := nI (hg_n S 0)) hx hb hr (fun t ht hW => ⟨⟨_, (), rfl, rfl, ⟨by rw [ht]; exact hP, hD⟩⟩, hS.F ht⟩) hS.2.2 dX4_add_30
set_option maxHeartbeats 4000000 in
set_option maxRecDepth 100000 in
/-- its corners -/
theorem m_X4_shape (l : Launch) (D : va_G) (o : Nat → Nat) (cI cJ cZ : ClassId) (S : hg_S) (sz : Nat) (w : Nat) (hw : w < 8) (a b d f g : Int32) : Met l yX4_shape wsX4_shape ({ frames := 0, cells := 0, slots := 0, locals := 0 }) (va_Pc [.ref (o 1), .int (nI w), .int a, .int b, .int d, .int f, .int g] (hg_Wr D (xW o cI cJ cZ S) (hg_ty cI cJ cZ) sz)) (va_Qv (fun (_ : Unit) => True) (fun _ t => hg_At D (xW o cI cJ cZ (hg_si S 4 (upd (upd (upd (upd (upd (hg_i S 4) (w * 5) a) (w * 5 + 1) b) (w * 5 + 2) d) (w * 5 + 3) f) (w * 5 + 4) g))) (va_A (xW o cI cJ cZ S) sz) t) (va_A (xW o cI cJ cZ S) sz)) 0 0 (va_A (xW o cI cJ cZ S) sz) := by
  refine h_start (cc := cX4_shape) (maxL := 8) (ret := none) (by decide) rfl (Nat.le_of_ble_eq_true rfl) ?_
  intro pg ev s mi args below meth cd ls hx hb hr hts hown hlocks hml hnm hpic hl
  obtain ⟨hsz, hP, hK, hD0⟩ := hpic
  subst hsz
  have hD := hD0.self (sz := s.heap.size)
  generalize hAe : va_A (xW o cI cJ cZ S) s.heap.size = A at hD ⊢
  have hA : ∀ q : Nat, s.heap.size ≤ q → A q := fun q h => by rw [← hAe]; exact Or.inr h
  have hS : va_S A s.heap s.heap [] := va_S.rf
  have hi4 : ∀ w ∈ u_ws RX4 TX4 6, w ∈ wsX4_shape := by decide +kernel
  have hl : lv_has ls 8 [(0, .ref (o 1)), (1, .int (nI w)), (2, .int a), (3, .int b), (4, .int d), (5, .int f), (6, .int g)] := hl
  refine lv_iload_n hx hb dX4_shape_0 rfl (lv_at hl 1 rfl) ?_
  refine lv_iconst (v := nI 5) hx hb dX4_shape_1 (by decide) ?_
  refine lv_imul hx hb dX4_shape_2 ?_
  refine h_topi (y := nI (w * 5)) (pk_mul _ _) ?_
  refine lv_istore (lv' := [(7, .int (nI (w * 5))), (0, .ref (o 1)), (1, .int (nI w)), (2, .int a), (3, .int b), (4, .int d), (5, .int f), (6, .int g)]) hx hb dX4_shape_3 hl (by decide) rfl (fun ls hl => ?_)
  refine lv_aload_n hx hb dX4_shape_5 rfl (lv_at hl 1 rfl) ?_
  refine va_get (C := RX4) (T := TX4) (N := 6) (v := .ref (o 10)) hx hb hts hi4 hown hK hP 1 rfl rfl 5 (by decide) (hts (.fieldLink RX4 23 "HotGround$Wells" "corners" "[I") (by decide +kernel)) (fun _ h9 => h9) rfl dX4_shape_6 ?_
  refine lv_iload hx hb dX4_shape_9 (lv_at hl 0 rfl) ?_
  refine lv_iload_n hx hb dX4_shape_11 rfl (lv_at hl 3 rfl) ?_
  refine h_iast (f := hg_i S 4) (ws' := xW o cI cJ cZ (hg_si S 4 (upd (hg_i S 4) (w * 5) a))) hx hb hK hP hD hS 10 0 rfl rfl (w * 5) (rfl) (by omega) (by decide) rfl dX4_shape_12 (fun H locs hP hD hS => ?_)
  refine lv_aload_n hx hb dX4_shape_13 rfl (lv_at hl 1 rfl) ?_
  refine va_get (C := RX4) (T := TX4) (N := 6) (v := .ref (o 10)) hx hb hts hi4 hown hK hP 1 rfl rfl 5 (by decide) (hts (.fieldLink RX4 23 "HotGround$Wells" "corners" "[I") (by decide +kernel)) (fun _ h9 => h9) rfl dX4_shape_14 ?_
  refine lv_iload hx hb dX4_shape_17 (lv_at hl 0 rfl) ?_
  refine lv_iconst (v := nI 1) hx hb dX4_shape_19 (by decide) ?_
  refine lv_iadd hx hb dX4_shape_20 ?_
  refine h_topi (y := nI ((w * 5) + 1)) (nI_add _ _) ?_
  refine lv_iload_n hx hb dX4_shape_21 rfl (lv_at hl 4 rfl) ?_
  refine h_iast (f := upd (hg_i S 4) (w * 5) a) (ws' := xW o cI cJ cZ (hg_si S 4 (upd (upd (hg_i S 4) (w * 5) a) ((w * 5) + 1) b))) hx hb hK hP hD hS 10 0 rfl rfl ((w * 5) + 1) (rfl) (by omega) (by decide) rfl dX4_shape_22 (fun H locs hP hD hS => ?_)
  refine lv_aload_n hx hb dX4_shape_23 rfl (lv_at hl 1 rfl) ?_
  refine va_get (C := RX4) (T := TX4) (N := 6) (v := .ref (o 10)) hx hb hts hi4 hown hK hP 1 rfl rfl 5 (by decide) (hts (.fieldLink RX4 23 "HotGround$Wells" "corners" "[I") (by decide +kernel)) (fun _ h9 => h9) rfl dX4_shape_24 ?_
  refine lv_iload hx hb dX4_shape_27 (lv_at hl 0 rfl) ?_
  refine lv_iconst (v := nI 2) hx hb dX4_shape_29 (by decide) ?_
  refine lv_iadd hx hb dX4_shape_30 ?_
  refine h_topi (y := nI ((w * 5) + 2)) (nI_add _ _) ?_
  refine lv_iload hx hb dX4_shape_31 (lv_at hl 5 rfl) ?_
  refine h_iast (f := upd (upd (hg_i S 4) (w * 5) a) ((w * 5) + 1) b) (ws' := xW o cI cJ cZ (hg_si S 4 (upd (upd (upd (hg_i S 4) (w * 5) a) ((w * 5) + 1) b) ((w * 5) + 2) d))) hx hb hK hP hD hS 10 0 rfl rfl ((w * 5) + 2) (rfl) (by omega) (by decide) rfl dX4_shape_33 (fun H locs hP hD hS => ?_)
  refine lv_aload_n hx hb dX4_shape_34 rfl (lv_at hl 1 rfl) ?_
  refine va_get (C := RX4) (T := TX4) (N := 6) (v := .ref (o 10)) hx hb hts hi4 hown hK hP 1 rfl rfl 5 (by decide) (hts (.fieldLink RX4 23 "HotGround$Wells" "corners" "[I") (by decide +kernel)) (fun _ h9 => h9) rfl dX4_shape_35 ?_
  refine lv_iload hx hb dX4_shape_38 (lv_at hl 0 rfl) ?_
  refine lv_iconst (v := nI 3) hx hb dX4_shape_40 (by decide) ?_
  refine lv_iadd hx hb dX4_shape_41 ?_
  refine h_topi (y := nI ((w * 5) + 3)) (nI_add _ _) ?_
  refine lv_iload hx hb dX4_shape_42 (lv_at hl 6 rfl) ?_
  refine h_iast (f := upd (upd (upd (hg_i S 4) (w * 5) a) ((w * 5) + 1) b) ((w * 5) + 2) d) (ws' := xW o cI cJ cZ (hg_si S 4 (upd (upd (upd (upd (hg_i S 4) (w * 5) a) ((w * 5) + 1) b) ((w * 5) + 2) d) ((w * 5) + 3) f))) hx hb hK hP hD hS 10 0 rfl rfl ((w * 5) + 3) (rfl) (by omega) (by decide) rfl dX4_shape_44 (fun H locs hP hD hS => ?_)
  refine lv_aload_n hx hb dX4_shape_45 rfl (lv_at hl 1 rfl) ?_
  refine va_get (C := RX4) (T := TX4) (N := 6) (v := .ref (o 10)) hx hb hts hi4 hown hK hP 1 rfl rfl 5 (by decide) (hts (.fieldLink RX4 23 "HotGround$Wells" "corners" "[I") (by decide +kernel)) (fun _ h9 => h9) rfl dX4_shape_46 ?_
  refine lv_iload hx hb dX4_shape_49 (lv_at hl 0 rfl) ?_
  refine lv_iconst (v := nI 4) hx hb dX4_shape_51 (by decide) ?_
  refine lv_iadd hx hb dX4_shape_52 ?_
  refine h_topi (y := nI ((w * 5) + 4)) (nI_add _ _) ?_
  refine lv_iload hx hb dX4_shape_53 (lv_at hl 7 rfl) ?_
  refine h_iast (f := upd (upd (upd (upd (hg_i S 4) (w * 5) a) ((w * 5) + 1) b) ((w * 5) + 2) d) ((w * 5) + 3) f) (ws' := xW o cI cJ cZ (hg_si S 4 (upd (upd (upd (upd (upd (hg_i S 4) (w * 5) a) ((w * 5) + 1) b) ((w * 5) + 2) d) ((w * 5) + 3) f) ((w * 5) + 4) g))) hx hb hK hP hD hS 10 0 rfl rfl ((w * 5) + 4) (rfl) (by omega) (by decide) rfl dX4_shape_55 (fun H locs hP hD hS => ?_)
  exact W.vret hx hb hr (fun t ht hW => ⟨⟨(), rfl, trivial, ⟨by rw [ht]; exact hP, hD⟩⟩, hS.F ht⟩) hS.2.2 dX4_shape_56
set_option maxHeartbeats 4000000 in
set_option maxRecDepth 100000 in
/-- a year older -/
theorem m_X4_grow (l : Launch) (D : va_G) (o : Nat → Nat) (cI cJ cZ : ClassId) (S : hg_S) (sz : Nat) (h0 : hg_n S 0 ≤ 8) : Met l yX4_grow wsX4_grow ({ frames := 0, cells := 0, slots := 0, locals := 0 }) (va_Pc [.ref (o 1)] (hg_Wr D (xW o cI cJ cZ S) (hg_ty cI cJ cZ) sz)) (va_Qv (fun (_ : Unit) => True) (fun _ t => hg_At D (xW o cI cJ cZ (hg_si S 2 (f_ages S (hg_n S 0)))) (va_A (xW o cI cJ cZ S) sz) t) (va_A (xW o cI cJ cZ S) sz)) 0 0 (va_A (xW o cI cJ cZ S) sz) := by
  refine h_start (cc := cX4_grow) (maxL := 2) (ret := none) (by decide) rfl (Nat.le_of_ble_eq_true rfl) ?_
  intro pg ev s mi args below meth cd ls hx hb hr hts hown hlocks hml hnm hpic hl
  obtain ⟨hsz, hP, hK, hD0⟩ := hpic
  subst hsz
  have hD := hD0.self (sz := s.heap.size)
  generalize hAe : va_A (xW o cI cJ cZ S) s.heap.size = A at hD ⊢
  have hA : ∀ q : Nat, s.heap.size ≤ q → A q := fun q h => by rw [← hAe]; exact Or.inr h
  have hS : va_S A s.heap s.heap [] := va_S.rf
  have hi4 : ∀ w ∈ u_ws RX4 TX4 6, w ∈ wsX4_grow := by decide +kernel
  have hl : lv_has ls 2 [(0, .ref (o 1))] := hl
  refine lv_iconst (v := nI 0) hx hb dX4_grow_0 (by decide) ?_
  refine lv_istore_n (lv' := [(1, .int (nI 0)), (0, .ref (o 1))]) hx hb dX4_grow_1 rfl hl (by decide) rfl (fun ls hl => ?_)
  rw [show S = hg_si S 2 (f_ages S 0) from f_ages_0 S] at hP hD
  refine h_forW (nL := 2) (hg_n S 0) (fun i => [(1, .int (nI i)), (0, .ref (o 1))]) (fun i => xW o cI cJ cZ (hg_si S 2 (f_ages S i))) ?_ ?_ (lv_sub hl [0, 1] rfl) hP hD hS
  · intro i ls H locs hi hl hP hD hS ih
    have hl : lv_has ls 2 [(1, .int (nI i)), (0, .ref (o 1))] := hl
    refine lv_iload_n hx hb dX4_grow_2 rfl (lv_at hl 0 rfl) ?_
    refine lv_aload_n hx hb dX4_grow_3 rfl (lv_at hl 1 rfl) ?_
    refine va_get (C := RX4) (T := TX4) (N := 6) (v := .int (nI (hg_n S 0))) hx hb hts hi4 hown hK hP 1 rfl rfl 0 (by decide) (hts (.fieldLink RX4 26 "HotGround$Wells" "count" "I") (by decide +kernel)) (fun _ h9 => h9) rfl dX4_grow_4 ?_
    refine lv_icmp_ge (tgt := 35) hx hb dX4_grow_7 (by decide) (fun c_7 => absurd c_7 (nI_ge hi (by omega))) (fun c_7 => ?_)
    refine lv_aload_n hx hb dX4_grow_10 rfl (lv_at hl 1 rfl) ?_
    refine va_get (C := RX4) (T := TX4) (N := 6) (v := .ref (o 9)) hx hb hts hi4 hown hK hP 1 rfl rfl 4 (by decide) (hts (.fieldLink RX4 19 "HotGround$Wells" "open" "[Z") (by decide +kernel)) (fun _ h9 => h9) rfl dX4_grow_11 ?_
    refine lv_iload_n hx hb dX4_grow_14 rfl (lv_at hl 0 rfl) ?_
    refine h_zald (f := hg_i S 3) hx hb hK hP 9 2 rfl rfl i (rfl) (by omega) (by decide) dX4_grow_15 ?_
    refine lv_if_eq (tgt := 29) hx hb dX4_grow_16 (by decide) (fun c_16 => ?_) (fun c_16 => ?_)
    · skip
      refine lv_iinc (v := nI (i + 1)) (lv' := [(1, .int (nI (i + 1))), (0, .ref (o 1))]) hx hb dX4_grow_29 hl (k := 0) rfl (nI_1 _) (by decide) rfl (fun ls hl => ?_)
      refine lv_goto (tgt := 2) hx hb dX4_grow_32 (by decide) ?_
      rw [show (hg_si S 2 (f_ages S i) : hg_S) = hg_si S 2 (f_ages S (i + 1)) from congrArg (hg_si S 2) (f_ages_skip c_16)] at hP hD
      exact ih ls H locs (lv_sub hl [0, 1] rfl) hP hD hS
    · skip
      refine lv_aload_n hx hb dX4_grow_19 rfl (lv_at hl 1 rfl) ?_
      refine va_get (C := RX4) (T := TX4) (N := 6) (v := .ref (o 8)) hx hb hts hi4 hown hK hP 1 rfl rfl 3 (by decide) (hts (.fieldLink RX4 16 "HotGround$Wells" "age" "[I") (by decide +kernel)) (fun _ h9 => h9) rfl dX4_grow_20 ?_
      refine lv_iload_n hx hb dX4_grow_23 rfl (lv_at hl 0 rfl) ?_
      refine lv_dup2_11 hx hb dX4_grow_24 rfl rfl ?_
      refine h_iald (f := f_ages S i) hx hb hK hP 8 0 rfl rfl i (rfl) (by omega) (by decide) dX4_grow_25 ?_
      refine lv_iconst (v := nI 1) hx hb dX4_grow_26 (by decide) ?_
      refine lv_iadd hx hb dX4_grow_27 ?_
      refine lv_topi (fun z_1 ez_1 => ?_)
      refine h_iast (f := f_ages S i) (ws' := xW o cI cJ cZ (hg_si S 2 (upd (f_ages S i) i z_1))) hx hb hK hP hD hS 8 0 rfl rfl i (rfl) (by omega) (by decide) rfl dX4_grow_28 (fun H locs hP hD hS => ?_)
      refine lv_iinc (v := nI (i + 1)) (lv' := [(1, .int (nI (i + 1))), (0, .ref (o 1))]) hx hb dX4_grow_29 hl (k := 0) rfl (nI_1 _) (by decide) rfl (fun ls hl => ?_)
      refine lv_goto (tgt := 2) hx hb dX4_grow_32 (by decide) ?_
      subst ez_1
      rw [show (hg_si S 2 (upd (f_ages S i) i ((f_ages S i i) + (nI 1))) : hg_S) = hg_si S 2 (f_ages S (i + 1)) from congrArg (hg_si S 2) (f_ages_put c_16)] at hP hD
      exact ih ls H locs (lv_sub hl [0, 1] rfl) hP hD hS
  · intro ls H locs hl hP hD hS
    have hl : lv_has ls 2 [(1, .int (nI (hg_n S 0))), (0, .ref (o 1))] := hl
    refine lv_iload_n hx hb dX4_grow_2 rfl (lv_at hl 0 rfl) ?_
    refine lv_aload_n hx hb dX4_grow_3 rfl (lv_at hl 1 rfl) ?_
    refine va_get (C := RX4) (T := TX4) (N := 6) (v := .int (nI (hg_n S 0))) hx hb hts hi4 hown hK hP 1 rfl rfl 0 (by decide) (hts (.fieldLink RX4 26 "HotGround$Wells" "count" "I") (by decide +kernel)) (fun _ h9 => h9) rfl dX4_grow_4 ?_
    refine lv_icmp_ge (tgt := 35) hx hb dX4_grow_7 (by decide) (fun c_7 => ?_) (fun c_7 => absurd (nI_le (Nat.le_refl _) (by omega)) c_7)
    exact W.vret hx hb hr (fun t ht hW => ⟨⟨(), rfl, trivial, ⟨by rw [ht]; exact hP, hD⟩⟩, hS.F ht⟩) hS.2.2 dX4_grow_35
end
section
set_option maxHeartbeats 4000000 in
set_option maxRecDepth 100000 in
/-- DRAW -/
theorem m_X3_draw (l : Launch) (D : va_G) (o : Nat → Nat) (cI cJ cZ : ClassId) (S : hg_S) (h1 : hg_n S 1 ≤ 4) (p : Nat) (hp : p ≤ 20) : Met l yX3_draw wsX3_draw ({ frames := 1, cells := 0, slots := 0, locals := 14 }) (va_Pc [.ref (o 2), .int (nI p)] (hg_R D (xW o cI cJ cZ S) (hg_ty cI cJ cZ))) (vp_Si (fun r => r = f_draw S p)) 0 0 (fun _ => False) := by
  refine h_start (cc := cX3_draw) (maxL := 4) (ret := (some .int)) (by decide) rfl (Nat.le_of_ble_eq_true rfl) ?_
  intro pg ev s mi args below meth cd ls hx hb hr hts hown hlocks hml hnm hpic hl
  obtain ⟨hP, hK⟩ := hpic
  have hi3 : ∀ w ∈ u_ws RX3 TX3 5, w ∈ wsX3_draw := by decide +kernel
  have hl : lv_has ls 4 [(0, .ref (o 2)), (1, .int (nI p))] := hl
  refine lv_iconst (v := nI 0) hx hb dX3_draw_0 (by decide) ?_
  refine h_topi (y := hg_sum (f_draw1 S p) 0) (hg_sum_0) ?_
  refine lv_istore_n (lv' := [(2, .int (hg_sum (f_draw1 S p) 0)), (0, .ref (o 2)), (1, .int (nI p))]) hx hb dX3_draw_1 rfl hl (by decide) rfl (fun ls hl => ?_)
  refine lv_iconst (v := nI 0) hx hb dX3_draw_2 (by decide) ?_
  refine lv_istore_n (lv' := [(3, .int (nI 0)), (2, .int (hg_sum (f_draw1 S p) 0)), (0, .ref (o 2)), (1, .int (nI p))]) hx hb dX3_draw_3 rfl hl (by decide) rfl (fun ls hl => ?_)
  refine h_for (nL := 4) (hg_n S 1) (fun i => [(3, .int (nI i)), (2, .int (hg_sum (f_draw1 S p) i)), (0, .ref (o 2)), (1, .int (nI p))]) ?_ ?_ (lv_sub hl [0, 1, 2, 3] rfl)
  · intro i ls hi hl ih
    have hl : lv_has ls 4 [(3, .int (nI i)), (2, .int (hg_sum (f_draw1 S p) i)), (0, .ref (o 2)), (1, .int (nI p))] := hl
    refine lv_iload_n hx hb dX3_draw_4 rfl (lv_at hl 0 rfl) ?_
    refine lv_aload_n hx hb dX3_draw_5 rfl (lv_at hl 2 rfl) ?_
    refine va_get (C := RX3) (T := TX3) (N := 5) (v := .int (nI (hg_n S 1))) hx hb hts hi3 hown hK hP 2 rfl rfl 0 (by decide) (hts (.fieldLink RX3 23 "HotGround$Plant" "count" "I") (by decide +kernel)) (fun _ h9 => h9) rfl dX3_draw_6 ?_
    refine lv_icmp_ge (tgt := 59) hx hb dX3_draw_9 (by decide) (fun c_9 => absurd c_9 (nI_ge hi (by omega))) (fun c_9 => ?_)
    refine lv_aload_n hx hb dX3_draw_12 rfl (lv_at hl 2 rfl) ?_
    refine va_get (C := RX3) (T := TX3) (N := 5) (v := .ref (o 14)) hx hb hts hi3 hown hK hP 2 rfl rfl 4 (by decide) (hts (.fieldLink RX3 19 "HotGround$Plant" "on" "[Z") (by decide +kernel)) (fun _ h9 => h9) rfl dX3_draw_13 ?_
    refine lv_iload_n hx hb dX3_draw_16 rfl (lv_at hl 0 rfl) ?_
    refine h_zald (f := hg_i S 8) hx hb hK hP 14 2 rfl rfl i (rfl) (by omega) (by decide) dX3_draw_17 ?_
    refine lv_if_eq (tgt := 53) hx hb dX3_draw_18 (by decide) (fun c_18 => ?_) (fun c_18 => ?_)
    · skip
      rw [show hg_sum (f_draw1 S p) i = hg_sum (f_draw1 S p) (i + 1) from hg_sum_keep (g := f_draw1 S p) (n := i) (by unfold f_draw1; rw [if_pos c_18])] at hl
      have hl : lv_has ls 4 [(3, .int (nI i)), (2, .int (hg_sum (f_draw1 S p) (i + 1))), (0, .ref (o 2)), (1, .int (nI p))] := hl
      refine lv_iinc (v := nI (i + 1)) (lv' := [(3, .int (nI (i + 1))), (2, .int (hg_sum (f_draw1 S p) (i + 1))), (0, .ref (o 2)), (1, .int (nI p))]) hx hb dX3_draw_53 hl (k := 0) rfl (nI_1 _) (by decide) rfl (fun ls hl => ?_)
      refine lv_goto (tgt := 4) hx hb dX3_draw_56 (by decide) ?_
      exact ih ls (lv_sub hl [0, 1, 2, 3] rfl)
    · skip
      refine lv_iload_n hx hb dX3_draw_21 rfl (lv_at hl 3 rfl) ?_
      refine lv_aload_n hx hb dX3_draw_22 rfl (lv_at hl 2 rfl) ?_
      refine va_get (C := RX3) (T := TX3) (N := 5) (v := .ref (o 11)) hx hb hts hi3 hown hK hP 2 rfl rfl 1 (by decide) (hts (.fieldLink RX3 9 "HotGround$Plant" "least" "[I") (by decide +kernel)) (fun _ h9 => h9) rfl dX3_draw_23 ?_
      refine lv_iload_n hx hb dX3_draw_26 rfl (lv_at hl 0 rfl) ?_
      refine h_iald (f := hg_i S 5) hx hb hK hP 11 0 rfl rfl i (rfl) (by omega) (by decide) dX3_draw_27 ?_
      refine lv_icmp_lt (tgt := 53) hx hb dX3_draw_28 (by decide) (fun c_28 => ?_) (fun c_28 => ?_)
      · skip
        rw [show hg_sum (f_draw1 S p) i = hg_sum (f_draw1 S p) (i + 1) from hg_sum_keep (g := f_draw1 S p) (n := i) (by unfold f_draw1; rw [if_neg c_18, if_pos c_28])] at hl
        have hl : lv_has ls 4 [(3, .int (nI i)), (2, .int (hg_sum (f_draw1 S p) (i + 1))), (0, .ref (o 2)), (1, .int (nI p))] := hl
        refine lv_iinc (v := nI (i + 1)) (lv' := [(3, .int (nI (i + 1))), (2, .int (hg_sum (f_draw1 S p) (i + 1))), (0, .ref (o 2)), (1, .int (nI p))]) hx hb dX3_draw_53 hl (k := 0) rfl (nI_1 _) (by decide) rfl (fun ls hl => ?_)
        refine lv_goto (tgt := 4) hx hb dX3_draw_56 (by decide) ?_
        exact ih ls (lv_sub hl [0, 1, 2, 3] rfl)
      · skip
        refine lv_iload_n hx hb dX3_draw_31 rfl (lv_at hl 1 rfl) ?_
        refine lv_aload_n hx hb dX3_draw_32 rfl (lv_at hl 2 rfl) ?_
        refine va_get (C := RX3) (T := TX3) (N := 5) (v := .ref (o 12)) hx hb hts hi3 hown hK hP 2 rfl rfl 2 (by decide) (hts (.fieldLink RX3 13 "HotGround$Plant" "rate" "[I") (by decide +kernel)) (fun _ h9 => h9) rfl dX3_draw_33 ?_
        refine lv_iload_n hx hb dX3_draw_36 rfl (lv_at hl 0 rfl) ?_
        refine h_iald (f := hg_i S 6) hx hb hK hP 12 0 rfl rfl i (rfl) (by omega) (by decide) dX3_draw_37 ?_
        refine lv_iload_n hx hb dX3_draw_38 rfl (lv_at hl 3 rfl) ?_
        refine lv_iconst (v := nI 1) hx hb dX3_draw_39 (by decide) ?_
        refine lv_iadd hx hb dX3_draw_40 ?_
        refine h_topi (y := nI (p + 1)) (nI_add _ _) ?_
        refine lv_imul hx hb dX3_draw_41 ?_
        refine lv_aload_n hx hb dX3_draw_42 rfl (lv_at hl 2 rfl) ?_
        refine va_get (C := RX3) (T := TX3) (N := 5) (v := .ref (o 13)) hx hb hts hi3 hown hK hP 2 rfl rfl 3 (by decide) (hts (.fieldLink RX3 16 "HotGround$Plant" "most" "[I") (by decide +kernel)) (fun _ h9 => h9) rfl dX3_draw_43 ?_
        refine lv_iload_n hx hb dX3_draw_46 rfl (lv_at hl 0 rfl) ?_
        refine h_iald (f := hg_i S 7) hx hb hK hP 13 0 rfl rfl i (rfl) (by omega) (by decide) dX3_draw_47 ?_
        refine va_mmin hx hb (by rw [hml]; exact hl.1.symm) hown (hts (.methodLink RX3 27 Lib.Math.min.name) (by decide +kernel)) (hts (.static Lib.Math.min.name) (by decide +kernel)) (hts (.initialized "java/lang/Math") (by decide +kernel)) (hts (.code Lib.Math.min.name Lib.Math.min.code 2 (some .int)) (by decide +kernel)) (Nat.le_of_ble_eq_true rfl) (Nat.le_of_ble_eq_true rfl) (Nat.zero_le _) (Nat.zero_le _) dX3_draw_48 ?_
        refine lv_iadd hx hb dX3_draw_51 ?_
        refine h_topi (y := hg_sum (f_draw1 S p) (i + 1)) (by show _ + _ = _ + f_draw1 S p i; unfold f_draw1 f_dr; rw [if_neg c_18, if_neg c_28]) ?_
        refine lv_istore_n (lv' := [(2, .int (hg_sum (f_draw1 S p) (i + 1))), (3, .int (nI i)), (0, .ref (o 2)), (1, .int (nI p))]) hx hb dX3_draw_52 rfl hl (by decide) rfl (fun ls hl => ?_)
        refine lv_iinc (v := nI (i + 1)) (lv' := [(3, .int (nI (i + 1))), (2, .int (hg_sum (f_draw1 S p) (i + 1))), (0, .ref (o 2)), (1, .int (nI p))]) hx hb dX3_draw_53 hl (k := 1) rfl (nI_1 _) (by decide) rfl (fun ls hl => ?_)
        refine lv_goto (tgt := 4) hx hb dX3_draw_56 (by decide) ?_
        exact ih ls (lv_sub hl [0, 1, 2, 3] rfl)
  · intro ls hl
    have hl : lv_has ls 4 [(3, .int (nI (hg_n S 1))), (2, .int (hg_sum (f_draw1 S p) (hg_n S 1))), (0, .ref (o 2)), (1, .int (nI p))] := hl
    refine lv_iload_n hx hb dX3_draw_4 rfl (lv_at hl 0 rfl) ?_
    refine lv_aload_n hx hb dX3_draw_5 rfl (lv_at hl 2 rfl) ?_
    refine va_get (C := RX3) (T := TX3) (N := 5) (v := .int (nI (hg_n S 1))) hx hb hts hi3 hown hK hP 2 rfl rfl 0 (by decide) (hts (.fieldLink RX3 23 "HotGround$Plant" "count" "I") (by decide +kernel)) (fun _ h9 => h9) rfl dX3_draw_6 ?_
    refine lv_icmp_ge (tgt := 59) hx hb dX3_draw_9 (by decide) (fun c_9 => ?_) (fun c_9 => absurd (nI_le (Nat.le_refl _) (by omega)) c_9)
    refine lv_iload_n hx hb dX3_draw_59 rfl (lv_at hl 1 rfl) ?_
    exact W.iret (v := hg_sum (f_draw1 S p) (hg_n S 1)) hx hb hr (fun t ht hW => ⟨_, rfl, rfl, ht⟩) (fun _ h9 => nomatch h9) dX3_draw_60
set_option maxHeartbeats 4000000 in
set_option maxRecDepth 100000 in
/-- a turbine more -/
theorem m_X3_add (l : Launch) (D : va_G) (o : Nat → Nat) (cI cJ cZ : ClassId) (S : hg_S) (sz : Nat) (hc : hg_n S 1 < 4) (a b d : Int32) : Met l yX3_add wsX3_add ({ frames := 0, cells := 0, slots := 0, locals := 0 }) (va_Pc [.ref (o 2), .int a, .int b, .int d] (hg_Wr D (xW o cI cJ cZ S) (hg_ty cI cJ cZ) sz)) (va_Qi (fun (r : Int32) (_ : Unit) => r = nI (hg_n S 1)) (fun _ t => hg_At D (xW o cI cJ cZ (hg_sn (hg_si (hg_si (hg_si (hg_si S 5 (upd (hg_i S 5) (hg_n S 1) a)) 6 (upd (hg_i S 6) (hg_n S 1) b)) 7 (upd (hg_i S 7) (hg_n S 1) d)) 8 (upd (hg_i S 8) (hg_n S 1) (nI 1))) 1 (hg_n S 1 + 1))) (va_A (xW o cI cJ cZ S) sz) t) (va_A (xW o cI cJ cZ S) sz)) 0 0 (va_A (xW o cI cJ cZ S) sz) := by
  refine h_start (cc := cX3_add) (maxL := 5) (ret := (some .int)) (by decide) rfl (Nat.le_of_ble_eq_true rfl) ?_
  intro pg ev s mi args below meth cd ls hx hb hr hts hown hlocks hml hnm hpic hl
  obtain ⟨hsz, hP, hK, hD0⟩ := hpic
  subst hsz
  have hD := hD0.self (sz := s.heap.size)
  generalize hAe : va_A (xW o cI cJ cZ S) s.heap.size = A at hD ⊢
  have hA : ∀ q : Nat, s.heap.size ≤ q → A q := fun q h => by rw [← hAe]; exact Or.inr h
  have hS : va_S A s.heap s.heap [] := va_S.rf
  have hi3 : ∀ w ∈ u_ws RX3 TX3 5, w ∈ wsX3_add := by decide +kernel
  have hl : lv_has ls 5 [(0, .ref (o 2)), (1, .int a), (2, .int b), (3, .int d)] := hl
  refine lv_aload_n hx hb dX3_add_0 rfl (lv_at hl 0 rfl) ?_
  refine va_get (C := RX3) (T := TX3) (N := 5) (v := .int (nI (hg_n S 1))) hx hb hts hi3 hown hK hP 2 rfl rfl 0 (by decide) (hts (.fieldLink RX3 23 "HotGround$Plant" "count" "I") (by decide +kernel)) (fun _ h9 => h9) rfl dX3_add_1 ?_
  refine lv_istore (lv' := [(4, .int (nI (hg_n S 1))), (0, .ref (o 2)), (1, .int a), (2, .int b), (3, .int d)]) hx hb dX3_add_4 hl (by decide) rfl (fun ls hl => ?_)
  refine lv_aload_n hx hb dX3_add_6 rfl (lv_at hl 1 rfl) ?_
  refine va_get (C := RX3) (T := TX3) (N := 5) (v := .ref (o 11)) hx hb hts hi3 hown hK hP 2 rfl rfl 1 (by decide) (hts (.fieldLink RX3 9 "HotGround$Plant" "least" "[I") (by decide +kernel)) (fun _ h9 => h9) rfl dX3_add_7 ?_
  refine lv_iload hx hb dX3_add_10 (lv_at hl 0 rfl) ?_
  refine lv_iload_n hx hb dX3_add_12 rfl (lv_at hl 2 rfl) ?_
  refine h_iast (f := hg_i S 5) (ws' := xW o cI cJ cZ (hg_si S 5 (upd (hg_i S 5) (hg_n S 1) a))) hx hb hK hP hD hS 11 0 rfl rfl (hg_n S 1) (rfl) (by omega) (by decide) rfl dX3_add_13 (fun H locs hP hD hS => ?_)
  refine lv_aload_n hx hb dX3_add_14 rfl (lv_at hl 1 rfl) ?_
  refine va_get (C := RX3) (T := TX3) (N := 5) (v := .ref (o 12)) hx hb hts hi3 hown hK hP 2 rfl rfl 2 (by decide) (hts (.fieldLink RX3 13 "HotGround$Plant" "rate" "[I") (by decide +kernel)) (fun _ h9 => h9) rfl dX3_add_15 ?_
  refine lv_iload hx hb dX3_add_18 (lv_at hl 0 rfl) ?_
  refine lv_iload_n hx hb dX3_add_20 rfl (lv_at hl 3 rfl) ?_
  refine h_iast (f := hg_i S 6) (ws' := xW o cI cJ cZ (hg_si (hg_si S 5 (upd (hg_i S 5) (hg_n S 1) a)) 6 (upd (hg_i S 6) (hg_n S 1) b))) hx hb hK hP hD hS 12 0 rfl rfl (hg_n S 1) (rfl) (by omega) (by decide) rfl dX3_add_21 (fun H locs hP hD hS => ?_)
  refine lv_aload_n hx hb dX3_add_22 rfl (lv_at hl 1 rfl) ?_
  refine va_get (C := RX3) (T := TX3) (N := 5) (v := .ref (o 13)) hx hb hts hi3 hown hK hP 2 rfl rfl 3 (by decide) (hts (.fieldLink RX3 16 "HotGround$Plant" "most" "[I") (by decide +kernel)) (fun _ h9 => h9) rfl dX3_add_23 ?_
  refine lv_iload hx hb dX3_add_26 (lv_at hl 0 rfl) ?_
  refine lv_iload_n hx hb dX3_add_28 rfl (lv_at hl 4 rfl) ?_
  refine h_iast (f := hg_i S 7) (ws' := xW o cI cJ cZ (hg_si (hg_si (hg_si S 5 (upd (hg_i S 5) (hg_n S 1) a)) 6 (upd (hg_i S 6) (hg_n S 1) b)) 7 (upd (hg_i S 7) (hg_n S 1) d))) hx hb hK hP hD hS 13 0 rfl rfl (hg_n S 1) (rfl) (by omega) (by decide) rfl dX3_add_29 (fun H locs hP hD hS => ?_)
  refine lv_aload_n hx hb dX3_add_30 rfl (lv_at hl 1 rfl) ?_
  refine va_get (C := RX3) (T := TX3) (N := 5) (v := .ref (o 14)) hx hb hts hi3 hown hK hP 2 rfl rfl 4 (by decide) (hts (.fieldLink RX3 19 "HotGround$Plant" "on" "[Z") (by decide +kernel)) (fun _ h9 => h9) rfl dX3_add_31 ?_
  refine lv_iload hx hb dX3_add_34 (lv_at hl 0 rfl) ?_
  refine lv_iconst (v := nI 1) hx hb dX3_add_36 (by decide) ?_
  refine h_zast (f := hg_i S 8) (ws' := xW o cI cJ cZ (hg_si (hg_si (hg_si (hg_si S 5 (upd (hg_i S 5) (hg_n S 1) a)) 6 (upd (hg_i S 6) (hg_n S 1) b)) 7 (upd (hg_i S 7) (hg_n S 1) d)) 8 (upd (hg_i S 8) (hg_n S 1) (nI 1)))) hx hb hK hP hD hS 14 2 rfl rfl (hg_n S 1) (rfl) (by omega) (by decide) (by decide) rfl dX3_add_37 (fun H locs hP hD hS => ?_)
  refine lv_aload_n hx hb dX3_add_38 rfl (lv_at hl 1 rfl) ?_
  refine lv_dup hx hb dX3_add_39 rfl ?_
  refine va_get (C := RX3) (T := TX3) (N := 5) (v := .int (nI (hg_n S 1))) hx hb hts hi3 hown hK hP 2 rfl rfl 0 (by decide) (hts (.fieldLink RX3 23 "HotGround$Plant" "count" "I") (by decide +kernel)) (fun _ h9 => h9) rfl dX3_add_40 ?_
  refine lv_iconst (v := nI 1) hx hb dX3_add_43 (by decide) ?_
  refine lv_iadd hx hb dX3_add_44 ?_
  refine h_topi (y := nI ((hg_n S 1) + 1)) (nI_add _ _) ?_
  refine h_put (C := RX3) (T := TX3) (N := 5) (v := .int (nI ((hg_n S 1) + 1))) (ty := .int) (ws' := xW o cI cJ cZ (hg_sn (hg_si (hg_si (hg_si (hg_si S 5 (upd (hg_i S 5) (hg_n S 1) a)) 6 (upd (hg_i S 6) (hg_n S 1) b)) 7 (upd (hg_i S 7) (hg_n S 1) d)) 8 (upd (hg_i S 8) (hg_n S 1) (nI 1))) 1 ((hg_n S 1) + 1))) hx hb hts hi3 tyX3 tyX3_ok nmX3 hown hK hP hD hS 2 rfl rfl 0 (by decide) (hts (.fieldLink RX3 23 "HotGround$Plant" "count" "I") (by decide +kernel)) (fun _ h9 => h9) rfl (by decide +kernel) rfl rfl (Nat.le_of_ble_eq_true rfl) rfl dX3_add_45 (fun H locs hP hD hS => ?_)
  refine lv_iload hx hb dX3_add_48 (lv_at hl 0 rfl) ?_
  exact W.iret (v := nI (hg_n S 1)) hx hb hr (fun t ht hW => ⟨⟨_, (), rfl, rfl, ⟨by rw [ht]; exact hP, hD⟩⟩, hS.F ht⟩) hS.2.2 dX3_add_50
set_option maxHeartbeats 4000000 in
set_option maxRecDepth 100000 in
/-- the shares together -/
theorem m_X1_together (l : Launch) (D : va_G) (o : Nat → Nat) (cI cJ cZ : ClassId) (S : hg_S)  : Met l yX1_together wsX1_together ({ frames := 0, cells := 0, slots := 0, locals := 0 }) (va_Pc [.ref (o 4)] (hg_R D (xW o cI cJ cZ S) (hg_ty cI cJ cZ))) (vp_Si (fun r => r = hg_sum (hg_i S 11) 6)) 0 0 (fun _ => False) := by
  refine h_start (cc := cX1_together) (maxL := 3) (ret := (some .int)) (by decide) rfl (Nat.le_of_ble_eq_true rfl) ?_
  intro pg ev s mi args below meth cd ls hx hb hr hts hown hlocks hml hnm hpic hl
  obtain ⟨hP, hK⟩ := hpic
  have hi1 : ∀ w ∈ u_ws RX1 TX1 3, w ∈ wsX1_together := by decide +kernel
  have hl : lv_has ls 3 [(0, .ref (o 4))] := hl
  refine lv_iconst (v := nI 0) hx hb dX1_together_0 (by decide) ?_
  refine h_topi (y := hg_sum (hg_i S 11) 0) (hg_sum_0) ?_
  refine lv_istore_n (lv' := [(1, .int (hg_sum (hg_i S 11) 0)), (0, .ref (o 4))]) hx hb dX1_together_1 rfl hl (by decide) rfl (fun ls hl => ?_)
  refine lv_iconst (v := nI 0) hx hb dX1_together_2 (by decide) ?_
  refine lv_istore_n (lv' := [(2, .int (nI 0)), (1, .int (hg_sum (hg_i S 11) 0)), (0, .ref (o 4))]) hx hb dX1_together_3 rfl hl (by decide) rfl (fun ls hl => ?_)
  refine h_for (nL := 3) (6) (fun i => [(2, .int (nI i)), (1, .int (hg_sum (hg_i S 11) i)), (0, .ref (o 4))]) ?_ ?_ (lv_sub hl [0, 1, 2] rfl)
  · intro i ls hi hl ih
    have hl : lv_has ls 3 [(2, .int (nI i)), (1, .int (hg_sum (hg_i S 11) i)), (0, .ref (o 4))] := hl
    refine lv_iload_n hx hb dX1_together_4 rfl (lv_at hl 0 rfl) ?_
    refine lv_bipush (v := nI 6) hx hb dX1_together_5 (by decide) ?_
    refine lv_icmp_ge (tgt := 25) hx hb dX1_together_7 (by decide) (fun c_7 => absurd c_7 (nI_ge hi (by omega))) (fun c_7 => ?_)
    refine lv_iload_n hx hb dX1_together_10 rfl (lv_at hl 1 rfl) ?_
    refine lv_aload_n hx hb dX1_together_11 rfl (lv_at hl 2 rfl) ?_
    refine va_get (C := RX1) (T := TX1) (N := 3) (v := .ref (o 20)) hx hb hts hi1 hown hK hP 4 rfl rfl 1 (by decide) (hts (.fieldLink RX1 9 "HotGround$Kernel" "shares" "[I") (by decide +kernel)) (fun _ h9 => h9) rfl dX1_together_12 ?_
    refine lv_iload_n hx hb dX1_together_15 rfl (lv_at hl 0 rfl) ?_
    refine h_iald (f := hg_i S 11) hx hb hK hP 20 0 rfl rfl i (rfl) (by omega) (by decide) dX1_together_16 ?_
    refine lv_iadd hx hb dX1_together_17 ?_
    refine h_topi (y := hg_sum (hg_i S 11) (i + 1)) (rfl) ?_
    refine lv_istore_n (lv' := [(1, .int (hg_sum (hg_i S 11) (i + 1))), (2, .int (nI i)), (0, .ref (o 4))]) hx hb dX1_together_18 rfl hl (by decide) rfl (fun ls hl => ?_)
    refine lv_iinc (v := nI (i + 1)) (lv' := [(2, .int (nI (i + 1))), (1, .int (hg_sum (hg_i S 11) (i + 1))), (0, .ref (o 4))]) hx hb dX1_together_19 hl (k := 1) rfl (nI_1 _) (by decide) rfl (fun ls hl => ?_)
    refine lv_goto (tgt := 4) hx hb dX1_together_22 (by decide) ?_
    exact ih ls (lv_sub hl [0, 1, 2] rfl)
  · intro ls hl
    have hl : lv_has ls 3 [(2, .int (nI 6)), (1, .int (hg_sum (hg_i S 11) 6)), (0, .ref (o 4))] := hl
    refine lv_iload_n hx hb dX1_together_4 rfl (lv_at hl 0 rfl) ?_
    refine lv_bipush (v := nI 6) hx hb dX1_together_5 (by decide) ?_
    refine lv_icmp_ge (tgt := 25) hx hb dX1_together_7 (by decide) (fun c_7 => ?_) (fun c_7 => absurd (nI_le (Nat.le_refl _) (by omega)) c_7)
    refine lv_iload_n hx hb dX1_together_25 rfl (lv_at hl 1 rfl) ?_
    exact W.iret (v := hg_sum (hg_i S 11) 6) hx hb hr (fun t ht hW => ⟨_, rfl, rfl, ht⟩) (fun _ h9 => nomatch h9) dX1_together_26
set_option maxHeartbeats 4000000 in
set_option maxRecDepth 100000 in
/-- what comes back -/
theorem m_X1_comes (l : Launch) (D : va_G) (o : Nat → Nat) (cI cJ cZ : ClassId) (S : hg_S) (h4 : hg_n S 4 ≤ 12) (y : Nat) (hy : y ≤ 16) : Met l yX1_comes wsX1_comes ({ frames := 0, cells := 0, slots := 0, locals := 0 }) (va_Pc [.ref (o 4), .int (nI y)] (hg_R D (xW o cI cJ cZ S) (hg_ty cI cJ cZ))) (vp_Si (fun r => r = f_comes S y)) 0 0 (fun _ => False) := by
  refine h_start (cc := cX1_comes) (maxL := 5) (ret := (some .int)) (by decide) rfl (Nat.le_of_ble_eq_true rfl) ?_
  intro pg ev s mi args below meth cd ls hx hb hr hts hown hlocks hml hnm hpic hl
  obtain ⟨hP, hK⟩ := hpic
  have hi1 : ∀ w ∈ u_ws RX1 TX1 3, w ∈ wsX1_comes := by decide +kernel
  have hl : lv_has ls 5 [(0, .ref (o 4)), (1, .int (nI y))] := hl
  refine lv_iconst (v := nI 0) hx hb dX1_comes_0 (by decide) ?_
  refine h_topi (y := hg_sum (f_com1 S y) 0) (hg_sum_0) ?_
  refine lv_istore_n (lv' := [(2, .int (hg_sum (f_com1 S y) 0)), (0, .ref (o 4)), (1, .int (nI y))]) hx hb dX1_comes_1 rfl hl (by decide) rfl (fun ls hl => ?_)
  refine lv_iconst (v := nI 0) hx hb dX1_comes_2 (by decide) ?_
  refine lv_istore_n (lv' := [(3, .int (nI 0)), (2, .int (hg_sum (f_com1 S y) 0)), (0, .ref (o 4)), (1, .int (nI y))]) hx hb dX1_comes_3 rfl hl (by decide) rfl (fun ls hl => ?_)
  refine h_for (nL := 5) (6) (fun i => [(3, .int (nI i)), (2, .int (hg_sum (f_com1 S y) i)), (0, .ref (o 4)), (1, .int (nI y))]) ?_ ?_ (lv_sub hl [0, 1, 2, 3] rfl)
  · intro i ls hi hl ih
    have hl : lv_has ls 5 [(3, .int (nI i)), (2, .int (hg_sum (f_com1 S y) i)), (0, .ref (o 4)), (1, .int (nI y))] := hl
    refine lv_iload_n hx hb dX1_comes_4 rfl (lv_at hl 0 rfl) ?_
    refine lv_bipush (v := nI 6) hx hb dX1_comes_5 (by decide) ?_
    refine lv_icmp_ge (tgt := 56) hx hb dX1_comes_7 (by decide) (fun c_7 => absurd c_7 (nI_ge hi (by omega))) (fun c_7 => ?_)
    refine lv_iload_n hx hb dX1_comes_10 rfl (lv_at hl 3 rfl) ?_
    refine lv_iload_n hx hb dX1_comes_11 rfl (lv_at hl 0 rfl) ?_
    refine lv_isub hx hb dX1_comes_12 ?_
    refine lv_istore (lv' := [(4, .int ((nI y) - (nI i))), (3, .int (nI i)), (2, .int (hg_sum (f_com1 S y) i)), (0, .ref (o 4)), (1, .int (nI y))]) hx hb dX1_comes_13 hl (by decide) rfl (fun ls hl => ?_)
    refine lv_iload hx hb dX1_comes_15 (lv_at hl 0 rfl) ?_
    refine lv_if_lt (tgt := 50) hx hb dX1_comes_17 (by decide) (fun c_17 => ?_) (fun c_17 => ?_)
    · skip
      rw [show hg_sum (f_com1 S y) i = hg_sum (f_com1 S y) (i + 1) from hg_sum_keep (g := f_com1 S y) (n := i) (by unfold f_com1; rw [if_pos ((hg_subneg (by omega) (by omega)).mp c_17)])] at hl
      have hl : lv_has ls 5 [(4, .int ((nI y) - (nI i))), (3, .int (nI i)), (2, .int (hg_sum (f_com1 S y) (i + 1))), (0, .ref (o 4)), (1, .int (nI y))] := hl
      refine lv_iinc (v := nI (i + 1)) (lv' := [(3, .int (nI (i + 1))), (4, .int ((nI y) - (nI i))), (2, .int (hg_sum (f_com1 S y) (i + 1))), (0, .ref (o 4)), (1, .int (nI y))]) hx hb dX1_comes_50 hl (k := 1) rfl (nI_1 _) (by decide) rfl (fun ls hl => ?_)
      refine lv_goto (tgt := 4) hx hb dX1_comes_53 (by decide) ?_
      exact ih ls (lv_sub hl [0, 2, 3, 4] rfl)
    · skip
      have hik : i ≤ y := Nat.not_lt.mp (fun h => c_17 ((hg_subneg (by omega) (by omega)).mpr h))
      rw [show (nI y) - (nI i) = nI (y - i) from pk_sub hik] at hl
      have hl : lv_has ls 5 [(4, .int (nI (y - i))), (3, .int (nI i)), (2, .int (hg_sum (f_com1 S y) i)), (0, .ref (o 4)), (1, .int (nI y))] := hl
      refine lv_iload hx hb dX1_comes_20 (lv_at hl 0 rfl) ?_
      refine lv_aload_n hx hb dX1_comes_22 rfl (lv_at hl 3 rfl) ?_
      refine va_get (C := RX1) (T := TX1) (N := 3) (v := .int (nI (hg_n S 4))) hx hb hts hi1 hown hK hP 4 rfl rfl 0 (by decide) (hts (.fieldLink RX1 16 "HotGround$Kernel" "count" "I") (by decide +kernel)) (fun _ h9 => h9) rfl dX1_comes_23 ?_
      refine lv_icmp_ge (tgt := 50) hx hb dX1_comes_26 (by decide) (fun c_26 => ?_) (fun c_26 => ?_)
      · skip
        have c26 := (nI_leI (by omega) (by omega)).mp c_26
        rw [show hg_sum (f_com1 S y) i = hg_sum (f_com1 S y) (i + 1) from hg_sum_keep (g := f_com1 S y) (n := i) (by unfold f_com1; rw [if_neg (by omega), if_neg (by omega)])] at hl
        have hl : lv_has ls 5 [(4, .int (nI (y - i))), (3, .int (nI i)), (2, .int (hg_sum (f_com1 S y) (i + 1))), (0, .ref (o 4)), (1, .int (nI y))] := hl
        refine lv_iinc (v := nI (i + 1)) (lv' := [(3, .int (nI (i + 1))), (4, .int (nI (y - i))), (2, .int (hg_sum (f_com1 S y) (i + 1))), (0, .ref (o 4)), (1, .int (nI y))]) hx hb dX1_comes_50 hl (k := 1) rfl (nI_1 _) (by decide) rfl (fun ls hl => ?_)
        refine lv_goto (tgt := 4) hx hb dX1_comes_53 (by decide) ?_
        exact ih ls (lv_sub hl [0, 2, 3, 4] rfl)
      · skip
        have c26 : y - i < hg_n S 4 := Nat.not_le.mp (fun h => c_26 ((nI_leI (by omega) (by omega)).mpr h))
        refine lv_iload_n hx hb dX1_comes_29 rfl (lv_at hl 2 rfl) ?_
        refine lv_aload_n hx hb dX1_comes_30 rfl (lv_at hl 3 rfl) ?_
        refine va_get (C := RX1) (T := TX1) (N := 3) (v := .ref (o 21)) hx hb hts hi1 hown hK hP 4 rfl rfl 2 (by decide) (hts (.fieldLink RX1 13 "HotGround$Kernel" "amounts" "[I") (by decide +kernel)) (fun _ h9 => h9) rfl dX1_comes_31 ?_
        refine lv_iload hx hb dX1_comes_34 (lv_at hl 0 rfl) ?_
        refine h_iald (f := hg_i S 12) hx hb hK hP 21 0 rfl rfl (y - i) (rfl) (by omega) (by decide) dX1_comes_36 ?_
        refine lv_aload_n hx hb dX1_comes_37 rfl (lv_at hl 3 rfl) ?_
        refine va_get (C := RX1) (T := TX1) (N := 3) (v := .ref (o 20)) hx hb hts hi1 hown hK hP 4 rfl rfl 1 (by decide) (hts (.fieldLink RX1 9 "HotGround$Kernel" "shares" "[I") (by decide +kernel)) (fun _ h9 => h9) rfl dX1_comes_38 ?_
        refine lv_iload_n hx hb dX1_comes_41 rfl (lv_at hl 1 rfl) ?_
        refine h_iald (f := hg_i S 11) hx hb hK hP 20 0 rfl rfl i (rfl) (by omega) (by decide) dX1_comes_42 ?_
        refine lv_imul hx hb dX1_comes_43 ?_
        refine lv_sipush (v := nI 1000) hx hb dX1_comes_44 (by decide) ?_
        refine lv_idiv hx hb dX1_comes_47 (by decide) ?_
        refine lv_iadd hx hb dX1_comes_48 ?_
        refine h_topi (y := hg_sum (f_com1 S y) (i + 1)) (by show _ + _ = _ + f_com1 S y i; unfold f_com1; rw [if_neg (by omega), if_pos c26]) ?_
        refine lv_istore_n (lv' := [(2, .int (hg_sum (f_com1 S y) (i + 1))), (4, .int (nI (y - i))), (3, .int (nI i)), (0, .ref (o 4)), (1, .int (nI y))]) hx hb dX1_comes_49 rfl hl (by decide) rfl (fun ls hl => ?_)
        refine lv_iinc (v := nI (i + 1)) (lv' := [(3, .int (nI (i + 1))), (2, .int (hg_sum (f_com1 S y) (i + 1))), (4, .int (nI (y - i))), (0, .ref (o 4)), (1, .int (nI y))]) hx hb dX1_comes_50 hl (k := 2) rfl (nI_1 _) (by decide) rfl (fun ls hl => ?_)
        refine lv_goto (tgt := 4) hx hb dX1_comes_53 (by decide) ?_
        exact ih ls (lv_sub hl [0, 1, 3, 4] rfl)
  · intro ls hl
    have hl : lv_has ls 5 [(3, .int (nI 6)), (2, .int (hg_sum (f_com1 S y) 6)), (0, .ref (o 4)), (1, .int (nI y))] := hl
    refine lv_iload_n hx hb dX1_comes_4 rfl (lv_at hl 0 rfl) ?_
    refine lv_bipush (v := nI 6) hx hb dX1_comes_5 (by decide) ?_
    refine lv_icmp_ge (tgt := 56) hx hb dX1_comes_7 (by decide) (fun c_7 => ?_) (fun c_7 => absurd (nI_le (Nat.le_refl _) (by omega)) c_7)
    refine lv_iload_n hx hb dX1_comes_56 rfl (lv_at hl 1 rfl) ?_
    exact W.iret (v := hg_sum (f_com1 S y) 6) hx hb hr (fun t ht hW => ⟨_, rfl, rfl, ht⟩) (fun _ h9 => nomatch h9) dX1_comes_57
set_option maxHeartbeats 4000000 in
set_option maxRecDepth 100000 in
/-- a candidate more -/
theorem m_X2_add (l : Launch) (D : va_G) (o : Nat → Nat) (cI cJ cZ : ClassId) (S : hg_S) (sz : Nat) (hc : hg_n S 5 < 8) (a b d : Int32) : Met l yX2_add wsX2_add ({ frames := 0, cells := 0, slots := 0, locals := 0 }) (va_Pc [.ref (o 5), .int a, .int b, .int d] (hg_Wr D (xW o cI cJ cZ S) (hg_ty cI cJ cZ) sz)) (va_Qi (fun (r : Int32) (_ : Unit) => r = nI (hg_n S 5)) (fun _ t => hg_At D (xW o cI cJ cZ (hg_sn (hg_si (hg_si (hg_si S 13 (upd (hg_i S 13) (hg_n S 5) a)) 14 (upd (hg_i S 14) (hg_n S 5) b)) 15 (upd (hg_i S 15) (hg_n S 5) d)) 5 (hg_n S 5 + 1))) (va_A (xW o cI cJ cZ S) sz) t) (va_A (xW o cI cJ cZ S) sz)) 0 0 (va_A (xW o cI cJ cZ S) sz) := by
  refine h_start (cc := cX2_add) (maxL := 5) (ret := (some .int)) (by decide) rfl (Nat.le_of_ble_eq_true rfl) ?_
  intro pg ev s mi args below meth cd ls hx hb hr hts hown hlocks hml hnm hpic hl
  obtain ⟨hsz, hP, hK, hD0⟩ := hpic
  subst hsz
  have hD := hD0.self (sz := s.heap.size)
  generalize hAe : va_A (xW o cI cJ cZ S) s.heap.size = A at hD ⊢
  have hA : ∀ q : Nat, s.heap.size ≤ q → A q := fun q h => by rw [← hAe]; exact Or.inr h
  have hS : va_S A s.heap s.heap [] := va_S.rf
  have hi2 : ∀ w ∈ u_ws RX2 TX2 5, w ∈ wsX2_add := by decide +kernel
  have hl : lv_has ls 5 [(0, .ref (o 5)), (1, .int a), (2, .int b), (3, .int d)] := hl
  refine lv_aload_n hx hb dX2_add_0 rfl (lv_at hl 0 rfl) ?_
  refine va_get (C := RX2) (T := TX2) (N := 5) (v := .int (nI (hg_n S 5))) hx hb hts hi2 hown hK hP 5 rfl rfl 0 (by decide) (hts (.fieldLink RX2 24 "HotGround$Offers" "count" "I") (by decide +kernel)) (fun _ h9 => h9) rfl dX2_add_1 ?_
  refine lv_istore (lv' := [(4, .int (nI (hg_n S 5))), (0, .ref (o 5)), (1, .int a), (2, .int b), (3, .int d)]) hx hb dX2_add_4 hl (by decide) rfl (fun ls hl => ?_)
  refine lv_aload_n hx hb dX2_add_6 rfl (lv_at hl 1 rfl) ?_
  refine va_get (C := RX2) (T := TX2) (N := 5) (v := .ref (o 22)) hx hb hts hi2 hown hK hP 5 rfl rfl 1 (by decide) (hts (.fieldLink RX2 11 "HotGround$Offers" "cost" "[I") (by decide +kernel)) (fun _ h9 => h9) rfl dX2_add_7 ?_
  refine lv_iload hx hb dX2_add_10 (lv_at hl 0 rfl) ?_
  refine lv_iload_n hx hb dX2_add_12 rfl (lv_at hl 2 rfl) ?_
  refine h_iast (f := hg_i S 13) (ws' := xW o cI cJ cZ (hg_si S 13 (upd (hg_i S 13) (hg_n S 5) a))) hx hb hK hP hD hS 22 0 rfl rfl (hg_n S 5) (rfl) (by omega) (by decide) rfl dX2_add_13 (fun H locs hP hD hS => ?_)
  refine lv_aload_n hx hb dX2_add_14 rfl (lv_at hl 1 rfl) ?_
  refine va_get (C := RX2) (T := TX2) (N := 5) (v := .ref (o 23)) hx hb hts hi2 hown hK hP 5 rfl rfl 2 (by decide) (hts (.fieldLink RX2 15 "HotGround$Offers" "from" "[I") (by decide +kernel)) (fun _ h9 => h9) rfl dX2_add_15 ?_
  refine lv_iload hx hb dX2_add_18 (lv_at hl 0 rfl) ?_
  refine lv_iload_n hx hb dX2_add_20 rfl (lv_at hl 3 rfl) ?_
  refine h_iast (f := hg_i S 14) (ws' := xW o cI cJ cZ (hg_si (hg_si S 13 (upd (hg_i S 13) (hg_n S 5) a)) 14 (upd (hg_i S 14) (hg_n S 5) b))) hx hb hK hP hD hS 23 0 rfl rfl (hg_n S 5) (rfl) (by omega) (by decide) rfl dX2_add_21 (fun H locs hP hD hS => ?_)
  refine lv_aload_n hx hb dX2_add_22 rfl (lv_at hl 1 rfl) ?_
  refine va_get (C := RX2) (T := TX2) (N := 5) (v := .ref (o 24)) hx hb hts hi2 hown hK hP 5 rfl rfl 3 (by decide) (hts (.fieldLink RX2 18 "HotGround$Offers" "steam" "[I") (by decide +kernel)) (fun _ h9 => h9) rfl dX2_add_23 ?_
  refine lv_iload hx hb dX2_add_26 (lv_at hl 0 rfl) ?_
  refine lv_iload_n hx hb dX2_add_28 rfl (lv_at hl 4 rfl) ?_
  refine h_iast (f := hg_i S 15) (ws' := xW o cI cJ cZ (hg_si (hg_si (hg_si S 13 (upd (hg_i S 13) (hg_n S 5) a)) 14 (upd (hg_i S 14) (hg_n S 5) b)) 15 (upd (hg_i S 15) (hg_n S 5) d))) hx hb hK hP hD hS 24 0 rfl rfl (hg_n S 5) (rfl) (by omega) (by decide) rfl dX2_add_29 (fun H locs hP hD hS => ?_)
  refine lv_aload_n hx hb dX2_add_30 rfl (lv_at hl 1 rfl) ?_
  refine lv_dup hx hb dX2_add_31 rfl ?_
  refine va_get (C := RX2) (T := TX2) (N := 5) (v := .int (nI (hg_n S 5))) hx hb hts hi2 hown hK hP 5 rfl rfl 0 (by decide) (hts (.fieldLink RX2 24 "HotGround$Offers" "count" "I") (by decide +kernel)) (fun _ h9 => h9) rfl dX2_add_32 ?_
  refine lv_iconst (v := nI 1) hx hb dX2_add_35 (by decide) ?_
  refine lv_iadd hx hb dX2_add_36 ?_
  refine h_topi (y := nI ((hg_n S 5) + 1)) (nI_add _ _) ?_
  refine h_put (C := RX2) (T := TX2) (N := 5) (v := .int (nI ((hg_n S 5) + 1))) (ty := .int) (ws' := xW o cI cJ cZ (hg_sn (hg_si (hg_si (hg_si S 13 (upd (hg_i S 13) (hg_n S 5) a)) 14 (upd (hg_i S 14) (hg_n S 5) b)) 15 (upd (hg_i S 15) (hg_n S 5) d)) 5 ((hg_n S 5) + 1))) hx hb hts hi2 tyX2 tyX2_ok nmX2 hown hK hP hD hS 5 rfl rfl 0 (by decide) (hts (.fieldLink RX2 24 "HotGround$Offers" "count" "I") (by decide +kernel)) (fun _ h9 => h9) rfl (by decide +kernel) rfl rfl (Nat.le_of_ble_eq_true rfl) rfl dX2_add_37 (fun H locs hP hD hS => ?_)
  refine lv_iload hx hb dX2_add_40 (lv_at hl 0 rfl) ?_
  exact W.iret (v := nI (hg_n S 5)) hx hb hr (fun t ht hW => ⟨⟨_, (), rfl, rfl, ⟨by rw [ht]; exact hP, hD⟩⟩, hS.F ht⟩) hS.2.2 dX2_add_42
set_option maxHeartbeats 4000000 in
set_option maxRecDepth 100000 in
/-- how many sets -/
theorem m_X2_sets (l : Launch) (D : va_G) (o : Nat → Nat) (cI cJ cZ : ClassId) (S : hg_S) (h5 : hg_n S 5 ≤ 8)  : Met l yX2_sets wsX2_sets ({ frames := 0, cells := 0, slots := 0, locals := 0 }) (va_Pc [.ref (o 5)] (hg_R D (xW o cI cJ cZ S) (hg_ty cI cJ cZ))) (vp_Si (fun r => r = nI (2 ^ hg_n S 5))) 0 0 (fun _ => False) := by
  refine h_start (cc := cX2_sets) (maxL := 1) (ret := (some .int)) (by decide) rfl (Nat.le_of_ble_eq_true rfl) ?_
  intro pg ev s mi args below meth cd ls hx hb hr hts hown hlocks hml hnm hpic hl
  obtain ⟨hP, hK⟩ := hpic
  have hi2 : ∀ w ∈ u_ws RX2 TX2 5, w ∈ wsX2_sets := by decide +kernel
  have hl : lv_has ls 1 [(0, .ref (o 5))] := hl
  refine lv_iconst (v := nI 1) hx hb dX2_sets_0 (by decide) ?_
  refine lv_aload_n hx hb dX2_sets_1 rfl (lv_at hl 0 rfl) ?_
  refine va_get (C := RX2) (T := TX2) (N := 5) (v := .int (nI (hg_n S 5))) hx hb hts hi2 hown hK hP 5 rfl rfl 0 (by decide) (hts (.fieldLink RX2 24 "HotGround$Offers" "count" "I") (by decide +kernel)) (fun _ h9 => h9) rfl dX2_sets_2 ?_
  refine lv_ishl hx hb dX2_sets_5 ?_
  refine h_topi (y := nI (2 ^ hg_n S 5)) (hg_shl8 _ h5) ?_
  exact W.iret (v := nI (2 ^ hg_n S 5)) hx hb hr (fun t ht hW => ⟨_, rfl, rfl, ht⟩) (fun _ h9 => nomatch h9) dX2_sets_6
set_option maxHeartbeats 4000000 in
set_option maxRecDepth 100000 in
/-- what a set costs -/
theorem m_X2_price (l : Launch) (D : va_G) (o : Nat → Nat) (cI cJ cZ : ClassId) (S : hg_S) (h5 : hg_n S 5 ≤ 8) (a : Int32) : Met l yX2_price wsX2_price ({ frames := 0, cells := 0, slots := 0, locals := 0 }) (va_Pc [.ref (o 5), .int a] (hg_R D (xW o cI cJ cZ S) (hg_ty cI cJ cZ))) (vp_Si (fun r => r = f_cost S a)) 0 0 (fun _ => False) := by
  refine h_start (cc := cX2_price) (maxL := 4) (ret := (some .int)) (by decide) rfl (Nat.le_of_ble_eq_true rfl) ?_
  intro pg ev s mi args below meth cd ls hx hb hr hts hown hlocks hml hnm hpic hl
  obtain ⟨hP, hK⟩ := hpic
  have hi2 : ∀ w ∈ u_ws RX2 TX2 5, w ∈ wsX2_price := by decide +kernel
  have hl : lv_has ls 4 [(0, .ref (o 5)), (1, .int a)] := hl
  refine lv_iconst (v := nI 0) hx hb dX2_price_0 (by decide) ?_
  refine h_topi (y := hg_sum (f_cost1 S a) 0) (hg_sum_0) ?_
  refine lv_istore_n (lv' := [(2, .int (hg_sum (f_cost1 S a) 0)), (0, .ref (o 5)), (1, .int a)]) hx hb dX2_price_1 rfl hl (by decide) rfl (fun ls hl => ?_)
  refine lv_iconst (v := nI 0) hx hb dX2_price_2 (by decide) ?_
  refine lv_istore_n (lv' := [(3, .int (nI 0)), (2, .int (hg_sum (f_cost1 S a) 0)), (0, .ref (o 5)), (1, .int a)]) hx hb dX2_price_3 rfl hl (by decide) rfl (fun ls hl => ?_)
  refine h_for (nL := 4) (hg_n S 5) (fun i => [(3, .int (nI i)), (2, .int (hg_sum (f_cost1 S a) i)), (0, .ref (o 5)), (1, .int a)]) ?_ ?_ (lv_sub hl [0, 1, 2, 3] rfl)
  · intro i ls hi hl ih
    have hl : lv_has ls 4 [(3, .int (nI i)), (2, .int (hg_sum (f_cost1 S a) i)), (0, .ref (o 5)), (1, .int a)] := hl
    refine lv_iload_n hx hb dX2_price_4 rfl (lv_at hl 0 rfl) ?_
    refine lv_aload_n hx hb dX2_price_5 rfl (lv_at hl 2 rfl) ?_
    refine va_get (C := RX2) (T := TX2) (N := 5) (v := .int (nI (hg_n S 5))) hx hb hts hi2 hown hK hP 5 rfl rfl 0 (by decide) (hts (.fieldLink RX2 24 "HotGround$Offers" "count" "I") (by decide +kernel)) (fun _ h9 => h9) rfl dX2_price_6 ?_
    refine lv_icmp_ge (tgt := 36) hx hb dX2_price_9 (by decide) (fun c_9 => absurd c_9 (nI_ge hi (by omega))) (fun c_9 => ?_)
    refine lv_iload_n hx hb dX2_price_12 rfl (lv_at hl 3 rfl) ?_
    refine lv_iload_n hx hb dX2_price_13 rfl (lv_at hl 0 rfl) ?_
    refine lv_ishr hx hb dX2_price_14 ?_
    refine lv_iconst (v := nI 1) hx hb dX2_price_15 (by decide) ?_
    refine lv_iand hx hb dX2_price_16 ?_
    refine lv_iconst (v := nI 1) hx hb dX2_price_17 (by decide) ?_
    refine lv_icmp_ne (tgt := 30) hx hb dX2_price_18 (by decide) (fun c_18 => ?_) (fun c_18 => ?_)
    · skip
      rw [show hg_sum (f_cost1 S a) i = hg_sum (f_cost1 S a) (i + 1) from hg_sum_keep (g := f_cost1 S a) (n := i) (by unfold f_cost1; rw [if_neg c_18])] at hl
      have hl : lv_has ls 4 [(3, .int (nI i)), (2, .int (hg_sum (f_cost1 S a) (i + 1))), (0, .ref (o 5)), (1, .int a)] := hl
      refine lv_iinc (v := nI (i + 1)) (lv' := [(3, .int (nI (i + 1))), (2, .int (hg_sum (f_cost1 S a) (i + 1))), (0, .ref (o 5)), (1, .int a)]) hx hb dX2_price_30 hl (k := 0) rfl (nI_1 _) (by decide) rfl (fun ls hl => ?_)
      refine lv_goto (tgt := 4) hx hb dX2_price_33 (by decide) ?_
      exact ih ls (lv_sub hl [0, 1, 2, 3] rfl)
    · skip
      refine lv_iload_n hx hb dX2_price_21 rfl (lv_at hl 1 rfl) ?_
      refine lv_aload_n hx hb dX2_price_22 rfl (lv_at hl 2 rfl) ?_
      refine va_get (C := RX2) (T := TX2) (N := 5) (v := .ref (o 22)) hx hb hts hi2 hown hK hP 5 rfl rfl 1 (by decide) (hts (.fieldLink RX2 11 "HotGround$Offers" "cost" "[I") (by decide +kernel)) (fun _ h9 => h9) rfl dX2_price_23 ?_
      refine lv_iload_n hx hb dX2_price_26 rfl (lv_at hl 0 rfl) ?_
      refine h_iald (f := hg_i S 13) hx hb hK hP 22 0 rfl rfl i (rfl) (by omega) (by decide) dX2_price_27 ?_
      refine lv_iadd hx hb dX2_price_28 ?_
      refine h_topi (y := hg_sum (f_cost1 S a) (i + 1)) (by show _ + _ = _ + f_cost1 S a i; unfold f_cost1; rw [if_pos c_18]) ?_
      refine lv_istore_n (lv' := [(2, .int (hg_sum (f_cost1 S a) (i + 1))), (3, .int (nI i)), (0, .ref (o 5)), (1, .int a)]) hx hb dX2_price_29 rfl hl (by decide) rfl (fun ls hl => ?_)
      refine lv_iinc (v := nI (i + 1)) (lv' := [(3, .int (nI (i + 1))), (2, .int (hg_sum (f_cost1 S a) (i + 1))), (0, .ref (o 5)), (1, .int a)]) hx hb dX2_price_30 hl (k := 1) rfl (nI_1 _) (by decide) rfl (fun ls hl => ?_)
      refine lv_goto (tgt := 4) hx hb dX2_price_33 (by decide) ?_
      exact ih ls (lv_sub hl [0, 1, 2, 3] rfl)
  · intro ls hl
    have hl : lv_has ls 4 [(3, .int (nI (hg_n S 5))), (2, .int (hg_sum (f_cost1 S a) (hg_n S 5))), (0, .ref (o 5)), (1, .int a)] := hl
    refine lv_iload_n hx hb dX2_price_4 rfl (lv_at hl 0 rfl) ?_
    refine lv_aload_n hx hb dX2_price_5 rfl (lv_at hl 2 rfl) ?_
    refine va_get (C := RX2) (T := TX2) (N := 5) (v := .int (nI (hg_n S 5))) hx hb hts hi2 hown hK hP 5 rfl rfl 0 (by decide) (hts (.fieldLink RX2 24 "HotGround$Offers" "count" "I") (by decide +kernel)) (fun _ h9 => h9) rfl dX2_price_6 ?_
    refine lv_icmp_ge (tgt := 36) hx hb dX2_price_9 (by decide) (fun c_9 => ?_) (fun c_9 => absurd (nI_le (Nat.le_refl _) (by omega)) c_9)
    refine lv_iload_n hx hb dX2_price_36 rfl (lv_at hl 1 rfl) ?_
    exact W.iret (v := hg_sum (f_cost1 S a) (hg_n S 5)) hx hb hr (fun t ht hW => ⟨_, rfl, rfl, ht⟩) (fun _ h9 => nomatch h9) dX2_price_37
set_option maxHeartbeats 4000000 in
set_option maxRecDepth 100000 in
/-- by how much a set falls short -/
theorem m_X2_missing (l : Launch) (D : va_G) (o : Nat → Nat) (cI cJ cZ : ClassId) (S : hg_S) (h5 : hg_n S 5 ≤ 8) (a : Int32) (y : Nat) (hy : y < 6) : Met l yX2_missing wsX2_missing ({ frames := 1, cells := 0, slots := 0, locals := 13 }) (va_Pc [.ref (o 5), .int a, .int (nI y)] (hg_R D (xW o cI cJ cZ S) (hg_ty cI cJ cZ))) (vp_Si (fun r => r = f_lack S a y)) 0 0 (fun _ => False) := by
  refine h_start (cc := cX2_missing) (maxL := 5) (ret := (some .int)) (by decide) rfl (Nat.le_of_ble_eq_true rfl) ?_
  intro pg ev s mi args below meth cd ls hx hb hr hts hown hlocks hml hnm hpic hl
  obtain ⟨hP, hK⟩ := hpic
  have hi2 : ∀ w ∈ u_ws RX2 TX2 5, w ∈ wsX2_missing := by decide +kernel
  have hl : lv_has ls 5 [(0, .ref (o 5)), (1, .int a), (2, .int (nI y))] := hl
  refine lv_iconst (v := nI 0) hx hb dX2_missing_0 (by decide) ?_
  refine h_topi (y := hg_sum (f_gives1 S a y) 0) (hg_sum_0) ?_
  refine lv_istore_n (lv' := [(3, .int (hg_sum (f_gives1 S a y) 0)), (0, .ref (o 5)), (1, .int a), (2, .int (nI y))]) hx hb dX2_missing_1 rfl hl (by decide) rfl (fun ls hl => ?_)
  refine lv_iconst (v := nI 0) hx hb dX2_missing_2 (by decide) ?_
  refine lv_istore (lv' := [(4, .int (nI 0)), (3, .int (hg_sum (f_gives1 S a y) 0)), (0, .ref (o 5)), (1, .int a), (2, .int (nI y))]) hx hb dX2_missing_3 hl (by decide) rfl (fun ls hl => ?_)
  refine h_for (nL := 5) (hg_n S 5) (fun i => [(4, .int (nI i)), (3, .int (hg_sum (f_gives1 S a y) i)), (0, .ref (o 5)), (1, .int a), (2, .int (nI y))]) ?_ ?_ (lv_sub hl [0, 1, 2, 3, 4] rfl)
  · intro i ls hi hl ih
    have hl : lv_has ls 5 [(4, .int (nI i)), (3, .int (hg_sum (f_gives1 S a y) i)), (0, .ref (o 5)), (1, .int a), (2, .int (nI y))] := hl
    refine lv_iload hx hb dX2_missing_5 (lv_at hl 0 rfl) ?_
    refine lv_aload_n hx hb dX2_missing_7 rfl (lv_at hl 2 rfl) ?_
    refine va_get (C := RX2) (T := TX2) (N := 5) (v := .int (nI (hg_n S 5))) hx hb hts hi2 hown hK hP 5 rfl rfl 0 (by decide) (hts (.fieldLink RX2 24 "HotGround$Offers" "count" "I") (by decide +kernel)) (fun _ h9 => h9) rfl dX2_missing_8 ?_
    refine lv_icmp_ge (tgt := 51) hx hb dX2_missing_11 (by decide) (fun c_11 => absurd c_11 (nI_ge hi (by omega))) (fun c_11 => ?_)
    refine lv_iload_n hx hb dX2_missing_14 rfl (lv_at hl 3 rfl) ?_
    refine lv_iload hx hb dX2_missing_15 (lv_at hl 0 rfl) ?_
    refine lv_ishr hx hb dX2_missing_17 ?_
    refine lv_iconst (v := nI 1) hx hb dX2_missing_18 (by decide) ?_
    refine lv_iand hx hb dX2_missing_19 ?_
    refine lv_iconst (v := nI 1) hx hb dX2_missing_20 (by decide) ?_
    refine lv_icmp_ne (tgt := 45) hx hb dX2_missing_21 (by decide) (fun c_21 => ?_) (fun c_21 => ?_)
    · skip
      rw [show hg_sum (f_gives1 S a y) i = hg_sum (f_gives1 S a y) (i + 1) from hg_sum_keep (g := f_gives1 S a y) (n := i) (by unfold f_gives1; rw [if_neg c_21])] at hl
      have hl : lv_has ls 5 [(4, .int (nI i)), (3, .int (hg_sum (f_gives1 S a y) (i + 1))), (0, .ref (o 5)), (1, .int a), (2, .int (nI y))] := hl
      refine lv_iinc (v := nI (i + 1)) (lv' := [(4, .int (nI (i + 1))), (3, .int (hg_sum (f_gives1 S a y) (i + 1))), (0, .ref (o 5)), (1, .int a), (2, .int (nI y))]) hx hb dX2_missing_45 hl (k := 0) rfl (nI_1 _) (by decide) rfl (fun ls hl => ?_)
      refine lv_goto (tgt := 5) hx hb dX2_missing_48 (by decide) ?_
      exact ih ls (lv_sub hl [0, 1, 2, 3, 4] rfl)
    · skip
      refine lv_aload_n hx hb dX2_missing_24 rfl (lv_at hl 2 rfl) ?_
      refine va_get (C := RX2) (T := TX2) (N := 5) (v := .ref (o 23)) hx hb hts hi2 hown hK hP 5 rfl rfl 2 (by decide) (hts (.fieldLink RX2 15 "HotGround$Offers" "from" "[I") (by decide +kernel)) (fun _ h9 => h9) rfl dX2_missing_25 ?_
      refine lv_iload hx hb dX2_missing_28 (lv_at hl 0 rfl) ?_
      refine h_iald (f := hg_i S 14) hx hb hK hP 23 0 rfl rfl i (rfl) (by omega) (by decide) dX2_missing_30 ?_
      refine lv_iload_n hx hb dX2_missing_31 rfl (lv_at hl 4 rfl) ?_
      refine lv_icmp_gt (tgt := 45) hx hb dX2_missing_32 (by decide) (fun c_32 => ?_) (fun c_32 => ?_)
      · skip
        rw [show hg_sum (f_gives1 S a y) i = hg_sum (f_gives1 S a y) (i + 1) from hg_sum_keep (g := f_gives1 S a y) (n := i) (by unfold f_gives1; rw [if_pos c_21, if_pos c_32])] at hl
        have hl : lv_has ls 5 [(4, .int (nI i)), (3, .int (hg_sum (f_gives1 S a y) (i + 1))), (0, .ref (o 5)), (1, .int a), (2, .int (nI y))] := hl
        refine lv_iinc (v := nI (i + 1)) (lv' := [(4, .int (nI (i + 1))), (3, .int (hg_sum (f_gives1 S a y) (i + 1))), (0, .ref (o 5)), (1, .int a), (2, .int (nI y))]) hx hb dX2_missing_45 hl (k := 0) rfl (nI_1 _) (by decide) rfl (fun ls hl => ?_)
        refine lv_goto (tgt := 5) hx hb dX2_missing_48 (by decide) ?_
        exact ih ls (lv_sub hl [0, 1, 2, 3, 4] rfl)
      · skip
        refine lv_iload_n hx hb dX2_missing_35 rfl (lv_at hl 1 rfl) ?_
        refine lv_aload_n hx hb dX2_missing_36 rfl (lv_at hl 2 rfl) ?_
        refine va_get (C := RX2) (T := TX2) (N := 5) (v := .ref (o 24)) hx hb hts hi2 hown hK hP 5 rfl rfl 3 (by decide) (hts (.fieldLink RX2 18 "HotGround$Offers" "steam" "[I") (by decide +kernel)) (fun _ h9 => h9) rfl dX2_missing_37 ?_
        refine lv_iload hx hb dX2_missing_40 (lv_at hl 0 rfl) ?_
        refine h_iald (f := hg_i S 15) hx hb hK hP 24 0 rfl rfl i (rfl) (by omega) (by decide) dX2_missing_42 ?_
        refine lv_iadd hx hb dX2_missing_43 ?_
        refine h_topi (y := hg_sum (f_gives1 S a y) (i + 1)) (by show _ + _ = _ + f_gives1 S a y i; unfold f_gives1; rw [if_pos c_21, if_neg c_32]) ?_
        refine lv_istore_n (lv' := [(3, .int (hg_sum (f_gives1 S a y) (i + 1))), (4, .int (nI i)), (0, .ref (o 5)), (1, .int a), (2, .int (nI y))]) hx hb dX2_missing_44 rfl hl (by decide) rfl (fun ls hl => ?_)
        refine lv_iinc (v := nI (i + 1)) (lv' := [(4, .int (nI (i + 1))), (3, .int (hg_sum (f_gives1 S a y) (i + 1))), (0, .ref (o 5)), (1, .int a), (2, .int (nI y))]) hx hb dX2_missing_45 hl (k := 1) rfl (nI_1 _) (by decide) rfl (fun ls hl => ?_)
        refine lv_goto (tgt := 5) hx hb dX2_missing_48 (by decide) ?_
        exact ih ls (lv_sub hl [0, 1, 2, 3, 4] rfl)
  · intro ls hl
    have hl : lv_has ls 5 [(4, .int (nI (hg_n S 5))), (3, .int (hg_sum (f_gives1 S a y) (hg_n S 5))), (0, .ref (o 5)), (1, .int a), (2, .int (nI y))] := hl
    refine lv_iload hx hb dX2_missing_5 (lv_at hl 0 rfl) ?_
    refine lv_aload_n hx hb dX2_missing_7 rfl (lv_at hl 2 rfl) ?_
    refine va_get (C := RX2) (T := TX2) (N := 5) (v := .int (nI (hg_n S 5))) hx hb hts hi2 hown hK hP 5 rfl rfl 0 (by decide) (hts (.fieldLink RX2 24 "HotGround$Offers" "count" "I") (by decide +kernel)) (fun _ h9 => h9) rfl dX2_missing_8 ?_
    refine lv_icmp_ge (tgt := 51) hx hb dX2_missing_11 (by decide) (fun c_11 => ?_) (fun c_11 => absurd (nI_le (Nat.le_refl _) (by omega)) c_11)
    refine lv_aload_n hx hb dX2_missing_51 rfl (lv_at hl 2 rfl) ?_
    refine va_get (C := RX2) (T := TX2) (N := 5) (v := .ref (o 25)) hx hb hts hi2 hown hK hP 5 rfl rfl 4 (by decide) (hts (.fieldLink RX2 21 "HotGround$Offers" "promised" "[I") (by decide +kernel)) (fun _ h9 => h9) rfl dX2_missing_52 ?_
    refine lv_iload_n hx hb dX2_missing_55 rfl (lv_at hl 4 rfl) ?_
    refine h_iald (f := hg_i S 16) hx hb hK hP 25 0 rfl rfl y (rfl) (by omega) (by decide) dX2_missing_56 ?_
    refine lv_iload_n hx hb dX2_missing_57 rfl (lv_at hl 1 rfl) ?_
    refine lv_isub hx hb dX2_missing_58 ?_
    refine lv_iconst (v := nI 0) hx hb dX2_missing_59 (by decide) ?_
    refine va_mmax hx hb (by rw [hml]; exact hl.1.symm) hown (hts (.methodLink RX2 28 Lib.Math.max.name) (by decide +kernel)) (hts (.static Lib.Math.max.name) (by decide +kernel)) (hts (.initialized "java/lang/Math") (by decide +kernel)) (hts (.code Lib.Math.max.name Lib.Math.max.code 2 (some .int)) (by decide +kernel)) (Nat.le_of_ble_eq_true rfl) (Nat.le_of_ble_eq_true rfl) (Nat.zero_le _) (Nat.zero_le _) dX2_missing_60 ?_
    exact W.iret (v := if (hg_i S 16 y) - (hg_sum (f_gives1 S a y) (hg_n S 5)) < nI 0 then nI 0 else (hg_i S 16 y) - (hg_sum (f_gives1 S a y) (hg_n S 5))) hx hb hr (fun t ht hW => ⟨_, rfl, rfl, ht⟩) (fun _ h9 => nomatch h9) dX2_missing_63
set_option maxHeartbeats 4000000 in
set_option maxRecDepth 100000 in
/-- a set keeps the promises -/
theorem m_X2_keeps (l : Launch) (D : va_G) (o : Nat → Nat) (cI cJ cZ : ClassId) (S : hg_S) (h5 : hg_n S 5 ≤ 8) (a : Int32) : Met l yX2_keeps wsX2_keeps ({ frames := 2, cells := 0, slots := 0, locals := 37 }) (va_Pc [.ref (o 5), .int a] (hg_R D (xW o cI cJ cZ S) (hg_ty cI cJ cZ))) (vp_Si (fun r => r = if f_keeps S a then nI 1 else nI 0)) 0 0 (fun _ => False) := by
  refine h_start (cc := cX2_keeps) (maxL := 3) (ret := (some .boolean)) (by decide) rfl (Nat.le_of_ble_eq_true rfl) ?_
  intro pg ev s mi args below meth cd ls hx hb hr hts hown hlocks hml hnm hpic hl
  obtain ⟨hP, hK⟩ := hpic
  have hl : lv_has ls 3 [(0, .ref (o 5)), (1, .int a)] := hl
  refine lv_iconst (v := nI 0) hx hb dX2_keeps_0 (by decide) ?_
  refine lv_istore_n (lv' := [(2, .int (nI 0)), (0, .ref (o 5)), (1, .int a)]) hx hb dX2_keeps_1 rfl hl (by decide) rfl (fun ls hl => ?_)
  refine h_forI (nL := 3) (6) (fun i => [(2, .int (nI i)), (0, .ref (o 5)), (1, .int a)]) (fun i => ∀ y, y < i → ¬ 0 < f_lack S a y) ?_ ?_ (fun y h => absurd h (Nat.not_lt_zero _)) (lv_sub hl [0, 1, 2] rfl)
  · intro i ls hi hI hl ih
    have hl : lv_has ls 3 [(2, .int (nI i)), (0, .ref (o 5)), (1, .int a)] := hl
    refine lv_iload_n hx hb dX2_keeps_2 rfl (lv_at hl 0 rfl) ?_
    refine lv_bipush (v := nI 6) hx hb dX2_keeps_3 (by decide) ?_
    refine lv_icmp_ge (tgt := 25) hx hb dX2_keeps_5 (by decide) (fun c_5 => absurd c_5 (nI_ge hi (by omega))) (fun c_5 => ?_)
    refine lv_aload_n hx hb dX2_keeps_8 rfl (lv_at hl 1 rfl) ?_
    refine lv_iload_n hx hb dX2_keeps_9 rfl (lv_at hl 2 rfl) ?_
    refine lv_iload_n hx hb dX2_keeps_10 rfl (lv_at hl 0 rfl) ?_
    refine vp_callSi (va_Run.run (va_runV (As := [.int a, .int (nI i)]) (rest := []) ⟨hx, hb, hml, hown, hts⟩ (m_X2_missing l D o cI cJ cZ S h5 a i (by omega)) (cwV 2 hts gX2_keeps_X2_missing rfl rfl rfl (by decide +kernel) ⟨Nat.le_of_ble_eq_true rfl, Nat.le_of_ble_eq_true rfl⟩) (h_preR hK hP 5 rfl rfl rfl) rfl rfl hl.1 rfl (lv_room (Nat.le_of_ble_eq_true rfl)) dX2_keeps_11 ⟨Nat.le_of_ble_eq_true rfl, Nat.le_of_ble_eq_true rfl⟩)) (fun r_1 hr_1 => ?_)
    subst hr_1
    refine lv_if_le (tgt := 19) hx hb dX2_keeps_14 (by decide) (fun c_14 => ?_) (fun c_14 => ?_)
    · skip
      refine lv_iinc (v := nI (i + 1)) (lv' := [(2, .int (nI (i + 1))), (0, .ref (o 5)), (1, .int a)]) hx hb dX2_keeps_19 hl (k := 0) rfl (nI_1 _) (by decide) rfl (fun ls hl => ?_)
      refine lv_goto (tgt := 2) hx hb dX2_keeps_22 (by decide) ?_
      exact ih ls (fun y h => by rcases Nat.lt_succ_iff_lt_or_eq.mp h with q | q; exact hI y q; rw [q]; exact hg_nlt.mpr c_14) (lv_sub hl [0, 1, 2] rfl)
    · skip
      refine lv_iconst (v := nI 0) hx hb dX2_keeps_17 (by decide) ?_
      exact W.zret (v := nI 0) hx hb hr (by decide) (fun t ht hW => ⟨_, rfl, (if_neg (fun q => q i hi (hg_nle.mp c_14))).symm, ht⟩) (fun _ h9 => nomatch h9) dX2_keeps_18
  · intro ls hI hl
    have hl : lv_has ls 3 [(2, .int (nI 6)), (0, .ref (o 5)), (1, .int a)] := hl
    refine lv_iload_n hx hb dX2_keeps_2 rfl (lv_at hl 0 rfl) ?_
    refine lv_bipush (v := nI 6) hx hb dX2_keeps_3 (by decide) ?_
    refine lv_icmp_ge (tgt := 25) hx hb dX2_keeps_5 (by decide) (fun c_5 => ?_) (fun c_5 => absurd (nI_le (Nat.le_refl _) (by omega)) c_5)
    refine lv_iconst (v := nI 1) hx hb dX2_keeps_25 (by decide) ?_
    exact W.zret (v := nI 1) hx hb hr (by decide) (fun t ht hW => ⟨_, rfl, (if_pos hI).symm, ht⟩) (fun _ h9 => nomatch h9) dX2_keeps_26
set_option maxHeartbeats 4000000 in
set_option maxRecDepth 100000 in
/-- the plan -/
theorem m_X2_cheapest (l : Launch) (D : va_G) (o : Nat → Nat) (cI cJ cZ : ClassId) (S : hg_S) (h5 : hg_n S 5 ≤ 8)  : Met l yX2_cheapest wsX2_cheapest ({ frames := 3, cells := 0, slots := 0, locals := 59 }) (va_Pc [.ref (o 5)] (hg_R D (xW o cI cJ cZ S) (hg_ty cI cJ cZ))) (vp_Si (fun r => r = (f_best S (2 ^ hg_n S 5)).1)) 0 0 (fun _ => False) := by
  refine h_start (cc := cX2_cheapest) (maxL := 5) (ret := (some .int)) (by decide) rfl (Nat.le_of_ble_eq_true rfl) ?_
  intro pg ev s mi args below meth cd ls hx hb hr hts hown hlocks hml hnm hpic hl
  obtain ⟨hP, hK⟩ := hpic
  have hl : lv_has ls 5 [(0, .ref (o 5))] := hl
  refine lv_bipush (v := -9) hx hb dX2_cheapest_0 (by decide) ?_
  refine h_topi (y := (f_best S 0).1) (rfl) ?_
  refine lv_istore_n (lv' := [(1, .int ((f_best S 0).1)), (0, .ref (o 5))]) hx hb dX2_cheapest_2 rfl hl (by decide) rfl (fun ls hl => ?_)
  refine lv_iconst (v := nI 0) hx hb dX2_cheapest_3 (by decide) ?_
  refine h_topi (y := (f_best S 0).2) (nI_0) ?_
  refine lv_istore_n (lv' := [(2, .int ((f_best S 0).2)), (1, .int ((f_best S 0).1)), (0, .ref (o 5))]) hx hb dX2_cheapest_4 rfl hl (by decide) rfl (fun ls hl => ?_)
  refine lv_iconst (v := nI 0) hx hb dX2_cheapest_5 (by decide) ?_
  refine lv_istore_n (lv' := [(3, .int (nI 0)), (2, .int ((f_best S 0).2)), (1, .int ((f_best S 0).1)), (0, .ref (o 5))]) hx hb dX2_cheapest_6 rfl hl (by decide) rfl (fun ls hl => ?_)
  refine h_for (nL := 5) (2 ^ hg_n S 5) (fun i => [(3, .int (nI i)), (2, .int ((f_best S i).2)), (1, .int ((f_best S i).1)), (0, .ref (o 5))]) ?_ ?_ (lv_sub hl [0, 1, 2, 3] rfl)
  · intro i ls hi hl ih
    have hl : lv_has ls 5 [(3, .int (nI i)), (2, .int ((f_best S i).2)), (1, .int ((f_best S i).1)), (0, .ref (o 5))] := hl
    refine lv_iload_n hx hb dX2_cheapest_7 rfl (lv_at hl 0 rfl) ?_
    refine lv_aload_n hx hb dX2_cheapest_8 rfl (lv_at hl 3 rfl) ?_
    refine vp_callSi (va_Run.run (va_runV (As := []) (rest := [.int (nI i)]) ⟨hx, hb, hml, hown, hts⟩ (m_X2_sets l D o cI cJ cZ S h5) (cwV 0 hts gX2_cheapest_X2_sets rfl rfl rfl (by decide +kernel) ⟨Nat.le_of_ble_eq_true rfl, Nat.le_of_ble_eq_true rfl⟩) (h_preR hK hP 5 rfl rfl rfl) rfl rfl hl.1 rfl (lv_room (Nat.le_of_ble_eq_true rfl)) dX2_cheapest_9 ⟨Nat.le_of_ble_eq_true rfl, Nat.le_of_ble_eq_true rfl⟩)) (fun r_1 hr_1 => ?_)
    subst hr_1
    refine lv_icmp_ge (tgt := 53) hx hb dX2_cheapest_12 (by decide) (fun c_12 => absurd c_12 (nI_ge hi (hg_pow8 h5))) (fun c_12 => ?_)
    refine lv_aload_n hx hb dX2_cheapest_15 rfl (lv_at hl 3 rfl) ?_
    refine lv_iload_n hx hb dX2_cheapest_16 rfl (lv_at hl 0 rfl) ?_
    refine vp_callSi (va_Run.run (va_runV (As := [.int (nI i)]) (rest := []) ⟨hx, hb, hml, hown, hts⟩ (m_X2_price l D o cI cJ cZ S h5 (nI i)) (cwV 1 hts gX2_cheapest_X2_price rfl rfl rfl (by decide +kernel) ⟨Nat.le_of_ble_eq_true rfl, Nat.le_of_ble_eq_true rfl⟩) (h_preR hK hP 5 rfl rfl rfl) rfl rfl hl.1 rfl (lv_room (Nat.le_of_ble_eq_true rfl)) dX2_cheapest_17 ⟨Nat.le_of_ble_eq_true rfl, Nat.le_of_ble_eq_true rfl⟩)) (fun r_2 hr_2 => ?_)
    subst hr_2
    refine lv_istore (lv' := [(4, .int (f_cost S (nI i))), (3, .int (nI i)), (2, .int ((f_best S i).2)), (1, .int ((f_best S i).1)), (0, .ref (o 5))]) hx hb dX2_cheapest_20 hl (by decide) rfl (fun ls hl => ?_)
    refine lv_iload_n hx hb dX2_cheapest_22 rfl (lv_at hl 3 rfl) ?_
    refine lv_bipush (v := -9) hx hb dX2_cheapest_23 (by decide) ?_
    refine lv_icmp_eq (tgt := 34) hx hb dX2_cheapest_25 (by decide) (fun c_25 => ?_) (fun c_25 => ?_)
    · skip
      refine lv_aload_n hx hb dX2_cheapest_34 rfl (lv_at hl 4 rfl) ?_
      refine lv_iload_n hx hb dX2_cheapest_35 rfl (lv_at hl 1 rfl) ?_
      refine vp_callSi (va_Run.run (va_runV (As := [.int (nI i)]) (rest := []) ⟨hx, hb, hml, hown, hts⟩ (m_X2_keeps l D o cI cJ cZ S h5 (nI i)) (cwV 1 hts gX2_cheapest_X2_keeps rfl rfl rfl (by decide +kernel) ⟨Nat.le_of_ble_eq_true rfl, Nat.le_of_ble_eq_true rfl⟩) (h_preR hK hP 5 rfl rfl rfl) rfl rfl hl.1 rfl (lv_room (Nat.le_of_ble_eq_true rfl)) dX2_cheapest_36 ⟨Nat.le_of_ble_eq_true rfl, Nat.le_of_ble_eq_true rfl⟩)) (fun r_3 hr_3 => ?_)
      subst hr_3
      refine lv_if_eq (tgt := 47) hx hb dX2_cheapest_39 (by decide) (fun c_39 => ?_) (fun c_39 => ?_)
      · skip
        have k_39 : ¬ f_keeps S (nI i) := fun q => by rw [if_pos q] at c_39; exact absurd c_39 (by decide)
        have hb1 : f_best S (i + 1) = f_best S i := if_neg (fun q => k_39 q.2)
        rw [show (f_best S i).1 = (f_best S (i + 1)).1 from by rw [hb1]] at hl
        have hl : lv_has ls 5 [(4, .int (f_cost S (nI i))), (3, .int (nI i)), (2, .int ((f_best S i).2)), (1, .int ((f_best S (i + 1)).1)), (0, .ref (o 5))] := hl
        rw [show (f_best S i).2 = (f_best S (i + 1)).2 from by rw [hb1]] at hl
        have hl : lv_has ls 5 [(4, .int (f_cost S (nI i))), (3, .int (nI i)), (2, .int ((f_best S (i + 1)).2)), (1, .int ((f_best S (i + 1)).1)), (0, .ref (o 5))] := hl
        refine lv_iinc (v := nI (i + 1)) (lv' := [(3, .int (nI (i + 1))), (4, .int (f_cost S (nI i))), (2, .int ((f_best S (i + 1)).2)), (1, .int ((f_best S (i + 1)).1)), (0, .ref (o 5))]) hx hb dX2_cheapest_47 hl (k := 1) rfl (nI_1 _) (by decide) rfl (fun ls hl => ?_)
        refine lv_goto (tgt := 7) hx hb dX2_cheapest_50 (by decide) ?_
        exact ih ls (lv_sub hl [0, 2, 3, 4] rfl)
      · skip
        have k_39 : f_keeps S (nI i) := Classical.byContradiction (fun q => c_39 (by rw [if_neg q]; decide))
        have hb1 : f_best S (i + 1) = (nI i, f_cost S (nI i)) := if_pos ⟨Or.inl c_25, k_39⟩
        refine lv_iload_n hx hb dX2_cheapest_42 rfl (lv_at hl 1 rfl) ?_
        refine h_topi (y := (f_best S (i + 1)).1) (by rw [hb1]) ?_
        refine lv_istore_n (lv' := [(1, .int ((f_best S (i + 1)).1)), (4, .int (f_cost S (nI i))), (3, .int (nI i)), (2, .int ((f_best S i).2)), (0, .ref (o 5))]) hx hb dX2_cheapest_43 rfl hl (by decide) rfl (fun ls hl => ?_)
        refine lv_iload hx hb dX2_cheapest_44 (lv_at hl 1 rfl) ?_
        refine h_topi (y := (f_best S (i + 1)).2) (by rw [hb1]) ?_
        refine lv_istore_n (lv' := [(2, .int ((f_best S (i + 1)).2)), (1, .int ((f_best S (i + 1)).1)), (4, .int (f_cost S (nI i))), (3, .int (nI i)), (0, .ref (o 5))]) hx hb dX2_cheapest_46 rfl hl (by decide) rfl (fun ls hl => ?_)
        refine lv_iinc (v := nI (i + 1)) (lv' := [(3, .int (nI (i + 1))), (2, .int ((f_best S (i + 1)).2)), (1, .int ((f_best S (i + 1)).1)), (4, .int (f_cost S (nI i))), (0, .ref (o 5))]) hx hb dX2_cheapest_47 hl (k := 3) rfl (nI_1 _) (by decide) rfl (fun ls hl => ?_)
        refine lv_goto (tgt := 7) hx hb dX2_cheapest_50 (by decide) ?_
        exact ih ls (lv_sub hl [0, 1, 2, 4] rfl)
    · skip
      refine lv_iload hx hb dX2_cheapest_28 (lv_at hl 0 rfl) ?_
      refine lv_iload_n hx hb dX2_cheapest_30 rfl (lv_at hl 2 rfl) ?_
      refine lv_icmp_ge (tgt := 47) hx hb dX2_cheapest_31 (by decide) (fun c_31 => ?_) (fun c_31 => ?_)
      · skip
        have hb1 : f_best S (i + 1) = f_best S i := if_neg (fun q => q.1.elim c_25 (fun q => hg_nle.mpr q c_31))
        rw [show (f_best S i).1 = (f_best S (i + 1)).1 from by rw [hb1]] at hl
        have hl : lv_has ls 5 [(4, .int (f_cost S (nI i))), (3, .int (nI i)), (2, .int ((f_best S i).2)), (1, .int ((f_best S (i + 1)).1)), (0, .ref (o 5))] := hl
        rw [show (f_best S i).2 = (f_best S (i + 1)).2 from by rw [hb1]] at hl
        have hl : lv_has ls 5 [(4, .int (f_cost S (nI i))), (3, .int (nI i)), (2, .int ((f_best S (i + 1)).2)), (1, .int ((f_best S (i + 1)).1)), (0, .ref (o 5))] := hl
        refine lv_iinc (v := nI (i + 1)) (lv' := [(3, .int (nI (i + 1))), (4, .int (f_cost S (nI i))), (2, .int ((f_best S (i + 1)).2)), (1, .int ((f_best S (i + 1)).1)), (0, .ref (o 5))]) hx hb dX2_cheapest_47 hl (k := 1) rfl (nI_1 _) (by decide) rfl (fun ls hl => ?_)
        refine lv_goto (tgt := 7) hx hb dX2_cheapest_50 (by decide) ?_
        exact ih ls (lv_sub hl [0, 2, 3, 4] rfl)
      · skip
        refine lv_aload_n hx hb dX2_cheapest_34 rfl (lv_at hl 4 rfl) ?_
        refine lv_iload_n hx hb dX2_cheapest_35 rfl (lv_at hl 1 rfl) ?_
        refine vp_callSi (va_Run.run (va_runV (As := [.int (nI i)]) (rest := []) ⟨hx, hb, hml, hown, hts⟩ (m_X2_keeps l D o cI cJ cZ S h5 (nI i)) (cwV 1 hts gX2_cheapest_X2_keeps rfl rfl rfl (by decide +kernel) ⟨Nat.le_of_ble_eq_true rfl, Nat.le_of_ble_eq_true rfl⟩) (h_preR hK hP 5 rfl rfl rfl) rfl rfl hl.1 rfl (lv_room (Nat.le_of_ble_eq_true rfl)) dX2_cheapest_36 ⟨Nat.le_of_ble_eq_true rfl, Nat.le_of_ble_eq_true rfl⟩)) (fun r_4 hr_4 => ?_)
        subst hr_4
        refine lv_if_eq (tgt := 47) hx hb dX2_cheapest_39 (by decide) (fun c_39 => ?_) (fun c_39 => ?_)
        · skip
          have k_39 : ¬ f_keeps S (nI i) := fun q => by rw [if_pos q] at c_39; exact absurd c_39 (by decide)
          have hb1 : f_best S (i + 1) = f_best S i := if_neg (fun q => k_39 q.2)
          rw [show (f_best S i).1 = (f_best S (i + 1)).1 from by rw [hb1]] at hl
          have hl : lv_has ls 5 [(4, .int (f_cost S (nI i))), (3, .int (nI i)), (2, .int ((f_best S i).2)), (1, .int ((f_best S (i + 1)).1)), (0, .ref (o 5))] := hl
          rw [show (f_best S i).2 = (f_best S (i + 1)).2 from by rw [hb1]] at hl
          have hl : lv_has ls 5 [(4, .int (f_cost S (nI i))), (3, .int (nI i)), (2, .int ((f_best S (i + 1)).2)), (1, .int ((f_best S (i + 1)).1)), (0, .ref (o 5))] := hl
          refine lv_iinc (v := nI (i + 1)) (lv' := [(3, .int (nI (i + 1))), (4, .int (f_cost S (nI i))), (2, .int ((f_best S (i + 1)).2)), (1, .int ((f_best S (i + 1)).1)), (0, .ref (o 5))]) hx hb dX2_cheapest_47 hl (k := 1) rfl (nI_1 _) (by decide) rfl (fun ls hl => ?_)
          refine lv_goto (tgt := 7) hx hb dX2_cheapest_50 (by decide) ?_
          exact ih ls (lv_sub hl [0, 2, 3, 4] rfl)
        · skip
          have k_39 : f_keeps S (nI i) := Classical.byContradiction (fun q => c_39 (by rw [if_neg q]; decide))
          have hb1 : f_best S (i + 1) = (nI i, f_cost S (nI i)) := if_pos ⟨Or.inr (hg_nle.mp c_31), k_39⟩
          refine lv_iload_n hx hb dX2_cheapest_42 rfl (lv_at hl 1 rfl) ?_
          refine h_topi (y := (f_best S (i + 1)).1) (by rw [hb1]) ?_
          refine lv_istore_n (lv' := [(1, .int ((f_best S (i + 1)).1)), (4, .int (f_cost S (nI i))), (3, .int (nI i)), (2, .int ((f_best S i).2)), (0, .ref (o 5))]) hx hb dX2_cheapest_43 rfl hl (by decide) rfl (fun ls hl => ?_)
          refine lv_iload hx hb dX2_cheapest_44 (lv_at hl 1 rfl) ?_
          refine h_topi (y := (f_best S (i + 1)).2) (by rw [hb1]) ?_
          refine lv_istore_n (lv' := [(2, .int ((f_best S (i + 1)).2)), (1, .int ((f_best S (i + 1)).1)), (4, .int (f_cost S (nI i))), (3, .int (nI i)), (0, .ref (o 5))]) hx hb dX2_cheapest_46 rfl hl (by decide) rfl (fun ls hl => ?_)
          refine lv_iinc (v := nI (i + 1)) (lv' := [(3, .int (nI (i + 1))), (2, .int ((f_best S (i + 1)).2)), (1, .int ((f_best S (i + 1)).1)), (4, .int (f_cost S (nI i))), (0, .ref (o 5))]) hx hb dX2_cheapest_47 hl (k := 3) rfl (nI_1 _) (by decide) rfl (fun ls hl => ?_)
          refine lv_goto (tgt := 7) hx hb dX2_cheapest_50 (by decide) ?_
          exact ih ls (lv_sub hl [0, 1, 2, 4] rfl)
  · intro ls hl
    have hl : lv_has ls 5 [(3, .int (nI (2 ^ hg_n S 5))), (2, .int ((f_best S (2 ^ hg_n S 5)).2)), (1, .int ((f_best S (2 ^ hg_n S 5)).1)), (0, .ref (o 5))] := hl
    refine lv_iload_n hx hb dX2_cheapest_7 rfl (lv_at hl 0 rfl) ?_
    refine lv_aload_n hx hb dX2_cheapest_8 rfl (lv_at hl 3 rfl) ?_
    refine vp_callSi (va_Run.run (va_runV (As := []) (rest := [.int (nI (2 ^ hg_n S 5))]) ⟨hx, hb, hml, hown, hts⟩ (m_X2_sets l D o cI cJ cZ S h5) (cwV 0 hts gX2_cheapest_X2_sets rfl rfl rfl (by decide +kernel) ⟨Nat.le_of_ble_eq_true rfl, Nat.le_of_ble_eq_true rfl⟩) (h_preR hK hP 5 rfl rfl rfl) rfl rfl hl.1 rfl (lv_room (Nat.le_of_ble_eq_true rfl)) dX2_cheapest_9 ⟨Nat.le_of_ble_eq_true rfl, Nat.le_of_ble_eq_true rfl⟩)) (fun r_5 hr_5 => ?_)
    subst hr_5
    refine lv_icmp_ge (tgt := 53) hx hb dX2_cheapest_12 (by decide) (fun c_12 => ?_) (fun c_12 => absurd (nI_le (Nat.le_refl _) (hg_pow8 h5)) c_12)
    refine lv_iload_n hx hb dX2_cheapest_53 rfl (lv_at hl 2 rfl) ?_
    exact W.iret (v := (f_best S (2 ^ hg_n S 5)).1) hx hb hr (fun t ht hW => ⟨_, rfl, rfl, ht⟩) (fun _ h9 => nomatch h9) dX2_cheapest_54
end
section
set_option maxHeartbeats 4000000 in
set_option maxRecDepth 100000 in
/-- the heat that a part bears -/
theorem m_X0_heatOf (l : Launch) (D : va_G) (o : Nat → Nat) (cI cJ cZ : ClassId) (S : hg_S) (b : Nat) (hb4 : b < 4) (x : Int64) : Met l yX0_heatOf wsX0_heatOf ({ frames := 0, cells := 0, slots := 0, locals := 0 }) (va_Pc [.ref (o 3), .int (nI b), .long x] (hg_R D (xW o cI cJ cZ S) (hg_ty cI cJ cZ))) (vp_Sl (fun r => r = f_wm S b x)) 0 0 (fun _ => False) := by
  refine h_start (cc := cX0_heatOf) (maxL := 4) (ret := (some .long)) (by decide) rfl (Nat.le_of_ble_eq_true rfl) ?_
  intro pg ev s mi args below meth cd ls hx hb hr hts hown hlocks hml hnm hpic hl
  obtain ⟨hP, hK⟩ := hpic
  have hi0 : ∀ w ∈ u_ws RX0 TX0 7, w ∈ wsX0_heatOf := by decide +kernel
  have hl : lv_has ls 4 [(0, .ref (o 3)), (1, .int (nI b)), (2, .long x)] := hl
  refine lv_aload_n hx hb dX0_heatOf_0 rfl (lv_at hl 0 rfl) ?_
  refine va_get (C := RX0) (T := TX0) (N := 7) (v := .ref (o 15)) hx hb hts hi0 hown hK hP 3 rfl rfl 0 (by decide) (hts (.fieldLink RX0 9 "HotGround$Ground" "mass" "[J") (by decide +kernel)) (fun _ h9 => h9) rfl dX0_heatOf_1 ?_
  refine lv_iload_n hx hb dX0_heatOf_4 rfl (lv_at hl 1 rfl) ?_
  refine h_lald (f := hg_l S 0) hx hb hK hP 15 1 rfl rfl b (rfl) (by omega) (by decide) dX0_heatOf_5 ?_
  refine lv_lconst (v := 0) hx hb dX0_heatOf_6 (by decide) ?_
  refine W.lcmp hx hb dX0_heatOf_7 ?_
  refine lv_if_gt (tgt := 15) hx hb dX0_heatOf_8 (by decide) (fun c_8 => ?_) (fun c_8 => ?_)
  · skip
    have c8 := (lg_cmp_gt _ _).mp c_8
    refine lv_lload_n hx hb dX0_heatOf_15 rfl (lv_at hl 2 rfl) ?_
    refine lv_aload_n hx hb dX0_heatOf_16 rfl (lv_at hl 0 rfl) ?_
    refine va_get (C := RX0) (T := TX0) (N := 7) (v := .ref (o 16)) hx hb hts hi0 hown hK hP 3 rfl rfl 1 (by decide) (hts (.fieldLink RX0 13 "HotGround$Ground" "heat" "[J") (by decide +kernel)) (fun _ h9 => h9) rfl dX0_heatOf_17 ?_
    refine lv_iload_n hx hb dX0_heatOf_20 rfl (lv_at hl 1 rfl) ?_
    refine h_lald (f := hg_l S 1) hx hb hK hP 16 1 rfl rfl b (rfl) (by omega) (by decide) dX0_heatOf_21 ?_
    refine lv_lmul hx hb dX0_heatOf_22 ?_
    refine lv_aload_n hx hb dX0_heatOf_23 rfl (lv_at hl 0 rfl) ?_
    refine va_get (C := RX0) (T := TX0) (N := 7) (v := .ref (o 15)) hx hb hts hi0 hown hK hP 3 rfl rfl 0 (by decide) (hts (.fieldLink RX0 9 "HotGround$Ground" "mass" "[J") (by decide +kernel)) (fun _ h9 => h9) rfl dX0_heatOf_24 ?_
    refine lv_iload_n hx hb dX0_heatOf_27 rfl (lv_at hl 1 rfl) ?_
    refine h_lald (f := hg_l S 0) hx hb hK hP 15 1 rfl rfl b (rfl) (by omega) (by decide) dX0_heatOf_28 ?_
    refine lv_ldiv hx hb dX0_heatOf_29 (fun h => by rw [h] at c8; exact absurd c8 (by decide)) ?_
    exact W.lret (v := (x * (hg_l S 1 b)) / (hg_l S 0 b)) hx hb hr (fun t ht hW => ⟨_, rfl, by unfold f_wm f_warm; rw [if_pos c8], ht⟩) (fun _ h9 => nomatch h9) dX0_heatOf_30
  · skip
    have c8 : ¬ (0 : Int64) < hg_l S 0 b := fun h => c_8 ((lg_cmp_gt _ _).mpr h)
    refine lv_lconst (v := 0) hx hb dX0_heatOf_11 (by decide) ?_
    refine lv_goto (tgt := 30) hx hb dX0_heatOf_12 (by decide) ?_
    exact W.lret (v := 0) hx hb hr (fun t ht hW => ⟨_, rfl, by unfold f_wm f_warm; rw [if_neg c8], ht⟩) (fun _ h9 => nomatch h9) dX0_heatOf_30
set_option maxHeartbeats 4000000 in
set_option maxRecDepth 100000 in
/-- into a box -/
theorem m_X0_pour (l : Launch) (D : va_G) (o : Nat → Nat) (cI cJ cZ : ClassId) (S : hg_S) (sz : Nat) (b : Nat) (hb4 : b < 4) (m1 h1 : Int64) : Met l yX0_pour wsX0_pour ({ frames := 0, cells := 0, slots := 0, locals := 0 }) (va_Pc [.ref (o 3), .int (nI b), .long m1, .long h1] (hg_Wr D (xW o cI cJ cZ S) (hg_ty cI cJ cZ) sz)) (va_Qv (fun (_ : Unit) => True) (fun _ t => hg_At D (xW o cI cJ cZ (s_pour S b m1 h1)) (va_A (xW o cI cJ cZ S) sz) t) (va_A (xW o cI cJ cZ S) sz)) 0 0 (va_A (xW o cI cJ cZ S) sz) := by
  refine h_start (cc := cX0_pour) (maxL := 6) (ret := none) (by decide) rfl (Nat.le_of_ble_eq_true rfl) ?_
  intro pg ev s mi args below meth cd ls hx hb hr hts hown hlocks hml hnm hpic hl
  obtain ⟨hsz, hP, hK, hD0⟩ := hpic
  subst hsz
  have hD := hD0.self (sz := s.heap.size)
  generalize hAe : va_A (xW o cI cJ cZ S) s.heap.size = A at hD ⊢
  have hA : ∀ q : Nat, s.heap.size ≤ q → A q := fun q h => by rw [← hAe]; exact Or.inr h
  have hS : va_S A s.heap s.heap [] := va_S.rf
  have hi0 : ∀ w ∈ u_ws RX0 TX0 7, w ∈ wsX0_pour := by decide +kernel
  have hl : lv_has ls 6 [(0, .ref (o 3)), (1, .int (nI b)), (2, .long m1), (4, .long h1)] := hl
  refine lv_aload_n hx hb dX0_pour_0 rfl (lv_at hl 0 rfl) ?_
  refine va_get (C := RX0) (T := TX0) (N := 7) (v := .ref (o 15)) hx hb hts hi0 hown hK hP 3 rfl rfl 0 (by decide) (hts (.fieldLink RX0 9 "HotGround$Ground" "mass" "[J") (by decide +kernel)) (fun _ h9 => h9) rfl dX0_pour_1 ?_
  refine lv_iload_n hx hb dX0_pour_4 rfl (lv_at hl 1 rfl) ?_
  refine lv_dup2_11 hx hb dX0_pour_5 rfl rfl ?_
  refine h_lald (f := hg_l S 0) hx hb hK hP 15 1 rfl rfl b (rfl) (by omega) (by decide) dX0_pour_6 ?_
  refine lv_lload_n hx hb dX0_pour_7 rfl (lv_at hl 2 rfl) ?_
  refine lv_ladd hx hb dX0_pour_8 ?_
  refine lv_topl (fun z_1 ez_1 => ?_)
  refine h_last (f := hg_l S 0) (ws' := xW o cI cJ cZ (hg_sl S 0 (vp_updL (hg_l S 0) b z_1))) hx hb hK hP hD hS 15 1 rfl rfl b (rfl) (by omega) (by decide) rfl dX0_pour_9 (fun H locs hP hD hS => ?_)
  refine lv_aload_n hx hb dX0_pour_10 rfl (lv_at hl 0 rfl) ?_
  refine va_get (C := RX0) (T := TX0) (N := 7) (v := .ref (o 16)) hx hb hts hi0 hown hK hP 3 rfl rfl 1 (by decide) (hts (.fieldLink RX0 13 "HotGround$Ground" "heat" "[J") (by decide +kernel)) (fun _ h9 => h9) rfl dX0_pour_11 ?_
  refine lv_iload_n hx hb dX0_pour_14 rfl (lv_at hl 1 rfl) ?_
  refine lv_dup2_11 hx hb dX0_pour_15 rfl rfl ?_
  refine h_lald (f := hg_l S 1) hx hb hK hP 16 1 rfl rfl b (rfl) (by omega) (by decide) dX0_pour_16 ?_
  refine lv_lload hx hb dX0_pour_17 (lv_at hl 3 rfl) ?_
  refine lv_ladd hx hb dX0_pour_19 ?_
  refine lv_topl (fun z_2 ez_2 => ?_)
  refine h_last (f := hg_l S 1) (ws' := xW o cI cJ cZ (hg_sl (hg_sl S 0 (vp_updL (hg_l S 0) b z_1)) 1 (vp_updL (hg_l S 1) b z_2))) hx hb hK hP hD hS 16 1 rfl rfl b (rfl) (by omega) (by decide) rfl dX0_pour_20 (fun H locs hP hD hS => ?_)
  subst ez_2
  subst ez_1
  exact W.vret hx hb hr (fun t ht hW => ⟨⟨(), rfl, trivial, ⟨by rw [ht]; exact hP, hD⟩⟩, hS.F ht⟩) hS.2.2 dX0_pour_21
set_option maxHeartbeats 4000000 in
set_option maxRecDepth 100000 in
/-- into the sums -/
theorem m_X0_book (l : Launch) (D : va_G) (o : Nat → Nat) (cI cJ cZ : ClassId) (S : hg_S) (sz : Nat) (k : Nat) (hk8 : k < 8) (m1 h1 : Int64) : Met l yX0_book wsX0_book ({ frames := 0, cells := 0, slots := 0, locals := 0 }) (va_Pc [.ref (o 3), .int (nI k), .long m1, .long h1] (hg_Wr D (xW o cI cJ cZ S) (hg_ty cI cJ cZ) sz)) (va_Qv (fun (_ : Unit) => True) (fun _ t => hg_At D (xW o cI cJ cZ (s_book S k m1 h1)) (va_A (xW o cI cJ cZ S) sz) t) (va_A (xW o cI cJ cZ S) sz)) 0 0 (va_A (xW o cI cJ cZ S) sz) := by
  refine h_start (cc := cX0_book) (maxL := 6) (ret := none) (by decide) rfl (Nat.le_of_ble_eq_true rfl) ?_
  intro pg ev s mi args below meth cd ls hx hb hr hts hown hlocks hml hnm hpic hl
  obtain ⟨hsz, hP, hK, hD0⟩ := hpic
  subst hsz
  have hD := hD0.self (sz := s.heap.size)
  generalize hAe : va_A (xW o cI cJ cZ S) s.heap.size = A at hD ⊢
  have hA : ∀ q : Nat, s.heap.size ≤ q → A q := fun q h => by rw [← hAe]; exact Or.inr h
  have hS : va_S A s.heap s.heap [] := va_S.rf
  have hi0 : ∀ w ∈ u_ws RX0 TX0 7, w ∈ wsX0_book := by decide +kernel
  have hl : lv_has ls 6 [(0, .ref (o 3)), (1, .int (nI k)), (2, .long m1), (4, .long h1)] := hl
  refine lv_aload_n hx hb dX0_book_0 rfl (lv_at hl 0 rfl) ?_
  refine va_get (C := RX0) (T := TX0) (N := 7) (v := .ref (o 19)) hx hb hts hi0 hown hK hP 3 rfl rfl 6 (by decide) (hts (.fieldLink RX0 23 "HotGround$Ground" "sums" "[J") (by decide +kernel)) (fun _ h9 => h9) rfl dX0_book_1 ?_
  refine lv_iload_n hx hb dX0_book_4 rfl (lv_at hl 1 rfl) ?_
  refine lv_dup2_11 hx hb dX0_book_5 rfl rfl ?_
  refine h_lald (f := hg_l S 2) hx hb hK hP 19 1 rfl rfl k (rfl) (by omega) (by decide) dX0_book_6 ?_
  refine lv_lload_n hx hb dX0_book_7 rfl (lv_at hl 2 rfl) ?_
  refine lv_ladd hx hb dX0_book_8 ?_
  refine lv_topl (fun z_1 ez_1 => ?_)
  refine h_last (f := hg_l S 2) (ws' := xW o cI cJ cZ (hg_sl S 2 (vp_updL (hg_l S 2) k z_1))) hx hb hK hP hD hS 19 1 rfl rfl k (rfl) (by omega) (by decide) rfl dX0_book_9 (fun H locs hP hD hS => ?_)
  refine lv_aload_n hx hb dX0_book_10 rfl (lv_at hl 0 rfl) ?_
  refine va_get (C := RX0) (T := TX0) (N := 7) (v := .ref (o 19)) hx hb hts hi0 hown hK hP 3 rfl rfl 6 (by decide) (hts (.fieldLink RX0 23 "HotGround$Ground" "sums" "[J") (by decide +kernel)) (fun _ h9 => h9) rfl dX0_book_11 ?_
  refine lv_iload_n hx hb dX0_book_14 rfl (lv_at hl 1 rfl) ?_
  refine lv_iconst (v := nI 1) hx hb dX0_book_15 (by decide) ?_
  refine lv_iadd hx hb dX0_book_16 ?_
  refine h_topi (y := nI (k + 1)) (nI_add _ _) ?_
  refine lv_dup2_11 hx hb dX0_book_17 rfl rfl ?_
  refine h_lald (f := vp_updL (hg_l S 2) k z_1) hx hb hK hP 19 1 rfl rfl (k + 1) (rfl) (by omega) (by decide) dX0_book_18 ?_
  refine lv_lload hx hb dX0_book_19 (lv_at hl 3 rfl) ?_
  refine lv_ladd hx hb dX0_book_21 ?_
  refine lv_topl (fun z_2 ez_2 => ?_)
  refine h_last (f := vp_updL (hg_l S 2) k z_1) (ws' := xW o cI cJ cZ (hg_sl S 2 (vp_updL (vp_updL (hg_l S 2) k z_1) (k + 1) z_2))) hx hb hK hP hD hS 19 1 rfl rfl (k + 1) (rfl) (by omega) (by decide) rfl dX0_book_22 (fun H locs hP hD hS => ?_)
  subst ez_2
  subst ez_1
  exact W.vret hx hb hr (fun t ht hW => ⟨⟨(), rfl, trivial, ⟨by rw [ht]; exact hP, hD⟩⟩, hS.F ht⟩) hS.2.2 dX0_book_23
set_option maxHeartbeats 4000000 in
set_option maxRecDepth 100000 in
/-- a well takes -/
theorem m_X0_take (l : Launch) (D : va_G) (o : Nat → Nat) (cI cJ cZ : ClassId) (S : hg_S) (sz : Nat) (b : Nat) (hb4 : b < 4) (x : Int64) : Met l yX0_take wsX0_take ({ frames := 1, cells := 0, slots := 0, locals := 25 }) (va_Pc [.ref (o 3), .int (nI b), .long x] (hg_Wr D (xW o cI cJ cZ S) (hg_ty cI cJ cZ) sz)) (va_Ql (fun (r : Int64) (_ : Unit) => r = f_part S b x) (fun _ t => hg_At D (xW o cI cJ cZ (s_take S b x)) (va_A (xW o cI cJ cZ S) sz) t) (va_A (xW o cI cJ cZ S) sz)) 0 0 (va_A (xW o cI cJ cZ S) sz) := by
  refine h_start (cc := cX0_take) (maxL := 8) (ret := (some .long)) (by decide) rfl (Nat.le_of_ble_eq_true rfl) ?_
  intro pg ev s mi args below meth cd ls hx hb hr hts hown hlocks hml hnm hpic hl
  obtain ⟨hsz, hP, hK, hD0⟩ := hpic
  subst hsz
  have hD := hD0.self (sz := s.heap.size)
  generalize hAe : va_A (xW o cI cJ cZ S) s.heap.size = A at hD ⊢
  have hA : ∀ q : Nat, s.heap.size ≤ q → A q := fun q h => by rw [← hAe]; exact Or.inr h
  have hS : va_S A s.heap s.heap [] := va_S.rf
  have hi0 : ∀ w ∈ u_ws RX0 TX0 7, w ∈ wsX0_take := by decide +kernel
  have hl : lv_has ls 8 [(0, .ref (o 3)), (1, .int (nI b)), (2, .long x)] := hl
  refine lv_lload_n hx hb dX0_take_0 rfl (lv_at hl 2 rfl) ?_
  refine lv_aload_n hx hb dX0_take_1 rfl (lv_at hl 0 rfl) ?_
  refine va_get (C := RX0) (T := TX0) (N := 7) (v := .ref (o 15)) hx hb hts hi0 hown hK hP 3 rfl rfl 0 (by decide) (hts (.fieldLink RX0 9 "HotGround$Ground" "mass" "[J") (by decide +kernel)) (fun _ h9 => h9) rfl dX0_take_2 ?_
  refine lv_iload_n hx hb dX0_take_5 rfl (lv_at hl 1 rfl) ?_
  refine h_lald (f := hg_l S 0) hx hb hK hP 15 1 rfl rfl b (rfl) (by omega) (by decide) dX0_take_6 ?_
  refine va_mmin_long hx hb (by rw [hml]; exact hl.1.symm) hown (hts (.methodLink RX0 26 Lib.MathLoose.min_long.x) (by decide +kernel)) (hts (.static Lib.MathLoose.min_long.x) (by decide +kernel)) (hts (.initialized "java/lang/Math") (by decide +kernel)) (hts (.code Lib.MathLoose.min_long.x Lib.MathLoose.min_long.code 4 (some .long)) (by decide +kernel)) (Nat.le_of_ble_eq_true rfl) (Nat.le_of_ble_eq_true rfl) (Nat.zero_le _) (Nat.zero_le _) dX0_take_7 ?_
  refine h_topl (y := f_part S b x) (rfl) ?_
  refine lv_lstore (lv' := [(4, .long (f_part S b x)), (0, .ref (o 3)), (1, .int (nI b)), (2, .long x)]) hx hb dX0_take_10 hl (by decide) rfl (fun ls hl => ?_)
  refine lv_aload_n hx hb dX0_take_12 rfl (lv_at hl 1 rfl) ?_
  refine lv_iload_n hx hb dX0_take_13 rfl (lv_at hl 2 rfl) ?_
  refine lv_lload hx hb dX0_take_14 (lv_at hl 0 rfl) ?_
  refine vp_callSl (va_Run.run (va_runV (As := [.int (nI b), .long (f_part S b x)]) (rest := []) ⟨hx, hb, hml, hown, hts⟩ (m_X0_heatOf l D o cI cJ cZ S b (by omega) (f_part S b x)) (cwV 2 hts gX0_take_X0_heatOf rfl rfl rfl (by decide +kernel) ⟨Nat.le_of_ble_eq_true rfl, Nat.le_of_ble_eq_true rfl⟩) (h_preR hK hP 3 rfl rfl rfl) rfl rfl hl.1 rfl (lv_room (Nat.le_of_ble_eq_true rfl)) dX0_take_16 ⟨Nat.le_of_ble_eq_true rfl, Nat.le_of_ble_eq_true rfl⟩)) (fun r_1 hr_1 => ?_)
  subst hr_1
  refine lv_lstore (lv' := [(6, .long (f_wm S b (f_part S b x))), (4, .long (f_part S b x)), (0, .ref (o 3)), (1, .int (nI b)), (2, .long x)]) hx hb dX0_take_19 hl (by decide) rfl (fun ls hl => ?_)
  refine lv_aload_n hx hb dX0_take_21 rfl (lv_at hl 2 rfl) ?_
  refine va_get (C := RX0) (T := TX0) (N := 7) (v := .ref (o 15)) hx hb hts hi0 hown hK hP 3 rfl rfl 0 (by decide) (hts (.fieldLink RX0 9 "HotGround$Ground" "mass" "[J") (by decide +kernel)) (fun _ h9 => h9) rfl dX0_take_22 ?_
  refine lv_iload_n hx hb dX0_take_25 rfl (lv_at hl 3 rfl) ?_
  refine lv_dup2_11 hx hb dX0_take_26 rfl rfl ?_
  refine h_lald (f := hg_l S 0) hx hb hK hP 15 1 rfl rfl b (rfl) (by omega) (by decide) dX0_take_27 ?_
  refine lv_lload hx hb dX0_take_28 (lv_at hl 1 rfl) ?_
  refine lv_lsub hx hb dX0_take_30 ?_
  refine lv_topl (fun z_2 ez_2 => ?_)
  refine h_last (f := hg_l S 0) (ws' := xW o cI cJ cZ (hg_sl S 0 (vp_updL (hg_l S 0) b z_2))) hx hb hK hP hD hS 15 1 rfl rfl b (rfl) (by omega) (by decide) rfl dX0_take_31 (fun H locs hP hD hS => ?_)
  refine lv_aload_n hx hb dX0_take_32 rfl (lv_at hl 2 rfl) ?_
  refine va_get (C := RX0) (T := TX0) (N := 7) (v := .ref (o 16)) hx hb hts hi0 hown hK hP 3 rfl rfl 1 (by decide) (hts (.fieldLink RX0 13 "HotGround$Ground" "heat" "[J") (by decide +kernel)) (fun _ h9 => h9) rfl dX0_take_33 ?_
  refine lv_iload_n hx hb dX0_take_36 rfl (lv_at hl 3 rfl) ?_
  refine lv_dup2_11 hx hb dX0_take_37 rfl rfl ?_
  refine h_lald (f := hg_l S 1) hx hb hK hP 16 1 rfl rfl b (rfl) (by omega) (by decide) dX0_take_38 ?_
  refine lv_lload hx hb dX0_take_39 (lv_at hl 0 rfl) ?_
  refine lv_lsub hx hb dX0_take_41 ?_
  refine lv_topl (fun z_3 ez_3 => ?_)
  refine h_last (f := hg_l S 1) (ws' := xW o cI cJ cZ (hg_sl (hg_sl S 0 (vp_updL (hg_l S 0) b z_2)) 1 (vp_updL (hg_l S 1) b z_3))) hx hb hK hP hD hS 16 1 rfl rfl b (rfl) (by omega) (by decide) rfl dX0_take_42 (fun H locs hP hD hS => ?_)
  subst ez_3
  subst ez_2
  have hP : va_P D vwCl (xW o cI cJ cZ (s_drain S b (f_part S b x) (f_wm S b (f_part S b x)))) H := hP
  have hD : va_D A (xW o cI cJ cZ (s_drain S b (f_part S b x) (f_wm S b (f_part S b x)))) := hD
  refine lv_aload_n hx hb dX0_take_43 rfl (lv_at hl 2 rfl) ?_
  refine lv_iconst (v := nI 0) hx hb dX0_take_44 (by decide) ?_
  refine lv_lload hx hb dX0_take_45 (lv_at hl 1 rfl) ?_
  refine lv_lload hx hb dX0_take_47 (lv_at hl 0 rfl) ?_
  refine h_callv (w1 := xW o cI cJ cZ (s_book (s_drain S b (f_part S b x) (f_wm S b (f_part S b x))) 0 (f_part S b x) (f_wm S b (f_part S b x)))) (va_runV (As := [.int (nI 0), .long (f_part S b x), .long (f_wm S b (f_part S b x))]) (rest := []) ⟨hx, hb, hml, hown, hts⟩ (m_X0_book l D o cI cJ cZ (s_drain S b (f_part S b x) (f_wm S b (f_part S b x))) H.size 0 (by omega) (f_part S b x) (f_wm S b (f_part S b x))) (cwV 3 hts gX0_take_X0_book rfl rfl rfl (by decide +kernel) ⟨Nat.le_of_ble_eq_true rfl, Nat.le_of_ble_eq_true rfl⟩) (h_preW hK hP hD 3 rfl rfl rfl) rfl rfl hl.1 rfl (lv_room (Nat.le_of_ble_eq_true rfl)) dX0_take_49 ⟨Nat.le_of_ble_eq_true rfl, Nat.le_of_ble_eq_true rfl⟩) hS (h_all hD hS hA) (fun H locs hP hD hS => ?_)
  refine lv_lload hx hb dX0_take_52 (lv_at hl 1 rfl) ?_
  exact W.lret (v := f_part S b x) hx hb hr (fun t ht hW => ⟨⟨_, (), rfl, rfl, ⟨by rw [ht]; exact hP, hD⟩⟩, hS.F ht⟩) hS.2.2 dX0_take_54
set_option maxHeartbeats 4000000 in
set_option maxRecDepth 100000 in
/-- what is given back -/
theorem m_X0_giveBack (l : Launch) (D : va_G) (o : Nat → Nat) (cI cJ cZ : ClassId) (S : hg_S) (sz : Nat) (hg3 : hg_n S 3 < 4) (x : Int64) : Met l yX0_giveBack wsX0_giveBack ({ frames := 1, cells := 0, slots := 0, locals := 25 }) (va_Pc [.ref (o 3), .long x] (hg_Wr D (xW o cI cJ cZ S) (hg_ty cI cJ cZ) sz)) (va_Qv (fun (_ : Unit) => True) (fun _ t => hg_At D (xW o cI cJ cZ (s_give S x)) (va_A (xW o cI cJ cZ S) sz) t) (va_A (xW o cI cJ cZ S) sz)) 0 0 (va_A (xW o cI cJ cZ S) sz) := by
  refine h_start (cc := cX0_giveBack) (maxL := 5) (ret := none) (by decide) rfl (Nat.le_of_ble_eq_true rfl) ?_
  intro pg ev s mi args below meth cd ls hx hb hr hts hown hlocks hml hnm hpic hl
  obtain ⟨hsz, hP, hK, hD0⟩ := hpic
  subst hsz
  have hD := hD0.self (sz := s.heap.size)
  generalize hAe : va_A (xW o cI cJ cZ S) s.heap.size = A at hD ⊢
  have hA : ∀ q : Nat, s.heap.size ≤ q → A q := fun q h => by rw [← hAe]; exact Or.inr h
  have hS : va_S A s.heap s.heap [] := va_S.rf
  have hi0 : ∀ w ∈ u_ws RX0 TX0 7, w ∈ wsX0_giveBack := by decide +kernel
  have hl : lv_has ls 5 [(0, .ref (o 3)), (1, .long x)] := hl
  refine lv_lload_n hx hb dX0_giveBack_0 rfl (lv_at hl 1 rfl) ?_
  refine lv_aload_n hx hb dX0_giveBack_1 rfl (lv_at hl 0 rfl) ?_
  refine va_get (C := RX0) (T := TX0) (N := 7) (v := .int (nI (hg_n S 2))) hx hb hts hi0 hown hK hP 3 rfl rfl 4 (by decide) (hts (.fieldLink RX0 40 "HotGround$Ground" "givenShare" "I") (by decide +kernel)) (fun _ h9 => h9) rfl dX0_giveBack_2 ?_
  refine lv_i2l (v := Int32.toInt64 (nI (hg_n S 2))) hx hb dX0_giveBack_5 rfl ?_
  refine lv_lmul hx hb dX0_giveBack_6 ?_
  refine lv_ldc2 (v := 1000) hx hb hown (hts (.constantLong RX0 44 (1000)) (by decide +kernel)) dX0_giveBack_7 ?_
  refine lv_ldiv hx hb dX0_giveBack_10 (by decide) ?_
  refine h_topl (y := f_given S x) (rfl) ?_
  refine lv_lstore_n (lv' := [(3, .long (f_given S x)), (0, .ref (o 3)), (1, .long x)]) hx hb dX0_giveBack_11 rfl hl (by decide) rfl (fun ls hl => ?_)
  refine lv_aload_n hx hb dX0_giveBack_12 rfl (lv_at hl 1 rfl) ?_
  refine lv_aload_n hx hb dX0_giveBack_13 rfl (lv_at hl 1 rfl) ?_
  refine va_get (C := RX0) (T := TX0) (N := 7) (v := .int (nI (hg_n S 3))) hx hb hts hi0 hown hK hP 3 rfl rfl 5 (by decide) (hts (.fieldLink RX0 46 "HotGround$Ground" "givenBox" "I") (by decide +kernel)) (fun _ h9 => h9) rfl dX0_giveBack_14 ?_
  refine lv_lload_n hx hb dX0_giveBack_17 rfl (lv_at hl 0 rfl) ?_
  refine lv_lload_n hx hb dX0_giveBack_18 rfl (lv_at hl 0 rfl) ?_
  refine lv_ldc2 (v := 40) hx hb hown (hts (.constantLong RX0 49 (40)) (by decide +kernel)) dX0_giveBack_19 ?_
  refine lv_lmul hx hb dX0_giveBack_22 ?_
  refine h_callv (w1 := xW o cI cJ cZ (s_pour S (hg_n S 3) (f_given S x) ((f_given S x) * (40)))) (va_runV (As := [.int (nI (hg_n S 3)), .long (f_given S x), .long ((f_given S x) * (40))]) (rest := []) ⟨hx, hb, hml, hown, hts⟩ (m_X0_pour l D o cI cJ cZ S s.heap.size (hg_n S 3) (by omega) (f_given S x) ((f_given S x) * (40))) (cwV 3 hts gX0_giveBack_X0_pour rfl rfl rfl (by decide +kernel) ⟨Nat.le_of_ble_eq_true rfl, Nat.le_of_ble_eq_true rfl⟩) (h_preW hK hP hD 3 rfl rfl rfl) rfl rfl hl.1 rfl (lv_room (Nat.le_of_ble_eq_true rfl)) dX0_giveBack_23 ⟨Nat.le_of_ble_eq_true rfl, Nat.le_of_ble_eq_true rfl⟩) hS (h_all hD hS hA) (fun H locs hP hD hS => ?_)
  refine lv_aload_n hx hb dX0_giveBack_26 rfl (lv_at hl 1 rfl) ?_
  refine lv_iconst (v := nI 2) hx hb dX0_giveBack_27 (by decide) ?_
  refine lv_lload_n hx hb dX0_giveBack_28 rfl (lv_at hl 0 rfl) ?_
  refine lv_lload_n hx hb dX0_giveBack_29 rfl (lv_at hl 0 rfl) ?_
  refine lv_ldc2 (v := 40) hx hb hown (hts (.constantLong RX0 49 (40)) (by decide +kernel)) dX0_giveBack_30 ?_
  refine lv_lmul hx hb dX0_giveBack_33 ?_
  refine h_callv (w1 := xW o cI cJ cZ (s_book (s_pour S (hg_n S 3) (f_given S x) ((f_given S x) * (40))) 2 (f_given S x) ((f_given S x) * (40)))) (va_runV (As := [.int (nI 2), .long (f_given S x), .long ((f_given S x) * (40))]) (rest := []) ⟨hx, hb, hml, hown, hts⟩ (m_X0_book l D o cI cJ cZ (s_pour S (hg_n S 3) (f_given S x) ((f_given S x) * (40))) H.size 2 (by omega) (f_given S x) ((f_given S x) * (40))) (cwV 3 hts gX0_giveBack_X0_book rfl rfl rfl (by decide +kernel) ⟨Nat.le_of_ble_eq_true rfl, Nat.le_of_ble_eq_true rfl⟩) (h_preW hK hP hD 3 rfl rfl rfl) rfl rfl hl.1 rfl (lv_room (Nat.le_of_ble_eq_true rfl)) dX0_giveBack_34 ⟨Nat.le_of_ble_eq_true rfl, Nat.le_of_ble_eq_true rfl⟩) hS (h_all hD hS hA) (fun H locs hP hD hS => ?_)
  exact W.vret hx hb hr (fun t ht hW => ⟨⟨(), rfl, trivial, ⟨by rw [ht]; exact hP, hD⟩⟩, hS.F ht⟩) hS.2.2 dX0_giveBack_37
set_option maxHeartbeats 4000000 in
set_option maxRecDepth 100000 in
/-- the leaks -/
theorem m_X0_leakAll (l : Launch) (D : va_G) (o : Nat → Nat) (cI cJ cZ : ClassId) (S : hg_S) (sz : Nat) (hlk : ∀ i, i < 3 → ¬ Int32.toInt64 (hg_i S 9 i) = 0) : Met l yX0_leakAll wsX0_leakAll ({ frames := 1, cells := 0, slots := 0, locals := 25 }) (va_Pc [.ref (o 3)] (hg_Wr D (xW o cI cJ cZ S) (hg_ty cI cJ cZ) sz)) (va_Qv (fun (_ : Unit) => True) (fun _ t => hg_At D (xW o cI cJ cZ (s_leaks S 3)) (va_A (xW o cI cJ cZ S) sz) t) (va_A (xW o cI cJ cZ S) sz)) 0 0 (va_A (xW o cI cJ cZ S) sz) := by
  refine h_start (cc := cX0_leakAll) (maxL := 9) (ret := none) (by decide) rfl (Nat.le_of_ble_eq_true rfl) ?_
  intro pg ev s mi args below meth cd ls hx hb hr hts hown hlocks hml hnm hpic hl
  obtain ⟨hsz, hP, hK, hD0⟩ := hpic
  subst hsz
  have hD := hD0.self (sz := s.heap.size)
  generalize hAe : va_A (xW o cI cJ cZ S) s.heap.size = A at hD ⊢
  have hA : ∀ q : Nat, s.heap.size ≤ q → A q := fun q h => by rw [← hAe]; exact Or.inr h
  have hS : va_S A s.heap s.heap [] := va_S.rf
  have hi0 : ∀ w ∈ u_ws RX0 TX0 7, w ∈ wsX0_leakAll := by decide +kernel
  have hl : lv_has ls 9 [(0, .ref (o 3))] := hl
  refine lv_iconst (v := nI 0) hx hb dX0_leakAll_0 (by decide) ?_
  refine lv_istore_n (lv' := [(1, .int (nI 0)), (0, .ref (o 3))]) hx hb dX0_leakAll_1 rfl hl (by decide) rfl (fun ls hl => ?_)
  have hP : va_P D vwCl (xW o cI cJ cZ (s_leaks S 0)) s.heap := hP
  have hD : va_D A (xW o cI cJ cZ (s_leaks S 0)) := hD
  refine h_forW (nL := 9) (3) (fun i => [(1, .int (nI i)), (0, .ref (o 3))]) (fun i => xW o cI cJ cZ (s_leaks S i)) ?_ ?_ (lv_sub hl [0, 1] rfl) hP hD hS
  · intro i ls H locs hi hl hP hD hS ih
    have hl : lv_has ls 9 [(1, .int (nI i)), (0, .ref (o 3))] := hl
    refine lv_iload_n hx hb dX0_leakAll_2 rfl (lv_at hl 0 rfl) ?_
    refine lv_iconst (v := nI 3) hx hb dX0_leakAll_3 (by decide) ?_
    refine lv_icmp_ge (tgt := 116) hx hb dX0_leakAll_4 (by decide) (fun c_4 => absurd c_4 (nI_ge hi (by omega))) (fun c_4 => ?_)
    refine lv_aload_n hx hb dX0_leakAll_7 rfl (lv_at hl 1 rfl) ?_
    refine va_get (C := RX0) (T := TX0) (N := 7) (v := .ref (o 15)) hx hb hts hi0 hown hK hP 3 rfl rfl 0 (by decide) (hts (.fieldLink RX0 9 "HotGround$Ground" "mass" "[J") (by decide +kernel)) (fun _ h9 => h9) rfl dX0_leakAll_8 ?_
    refine lv_iload_n hx hb dX0_leakAll_11 rfl (lv_at hl 0 rfl) ?_
    refine h_lald (f := hg_l (s_leaks S i) 0) hx hb hK hP 15 1 rfl rfl i (rfl) (by omega) (by decide) dX0_leakAll_12 ?_
    refine lv_aload_n hx hb dX0_leakAll_13 rfl (lv_at hl 1 rfl) ?_
    refine va_get (C := RX0) (T := TX0) (N := 7) (v := .ref (o 15)) hx hb hts hi0 hown hK hP 3 rfl rfl 0 (by decide) (hts (.fieldLink RX0 9 "HotGround$Ground" "mass" "[J") (by decide +kernel)) (fun _ h9 => h9) rfl dX0_leakAll_14 ?_
    refine lv_iload_n hx hb dX0_leakAll_17 rfl (lv_at hl 0 rfl) ?_
    refine lv_iconst (v := nI 1) hx hb dX0_leakAll_18 (by decide) ?_
    refine lv_iadd hx hb dX0_leakAll_19 ?_
    refine h_topi (y := nI (i + 1)) (nI_add _ _) ?_
    refine h_lald (f := hg_l (s_leaks S i) 0) hx hb hK hP 15 1 rfl rfl (i + 1) (rfl) (by omega) (by decide) dX0_leakAll_20 ?_
    refine W.lcmp hx hb dX0_leakAll_21 ?_
    refine lv_if_lt (tgt := 29) hx hb dX0_leakAll_22 (by decide) (fun c_22 => ?_) (fun c_22 => ?_)
    · skip
      have c22 := (lg_cmp_lt _ _).mp c_22
      refine lv_iconst (v := nI 0) hx hb dX0_leakAll_29 (by decide) ?_
      refine lv_istore_n (lv' := [(2, .int (nI 0)), (1, .int (nI i)), (0, .ref (o 3))]) hx hb dX0_leakAll_30 rfl hl (by decide) rfl (fun ls hl => ?_)
      refine lv_iload_n hx hb dX0_leakAll_31 rfl (lv_at hl 0 rfl) ?_
      refine lv_if_eq (tgt := 39) hx hb dX0_leakAll_32 (by decide) (fun c_32 => ?_) (fun c_32 => absurd (by decide) c_32)
      refine lv_iload_n hx hb dX0_leakAll_39 rfl (lv_at hl 1 rfl) ?_
      refine lv_iconst (v := nI 1) hx hb dX0_leakAll_40 (by decide) ?_
      refine lv_iadd hx hb dX0_leakAll_41 ?_
      refine h_topi (y := nI (i + 1)) (nI_add _ _) ?_
      refine lv_istore_n (lv' := [(3, .int (nI (i + 1))), (2, .int (nI 0)), (1, .int (nI i)), (0, .ref (o 3))]) hx hb dX0_leakAll_42 rfl hl (by decide) rfl (fun ls hl => ?_)
      refine lv_iload_n hx hb dX0_leakAll_43 rfl (lv_at hl 1 rfl) ?_
      refine lv_if_eq (tgt := 53) hx hb dX0_leakAll_44 (by decide) (fun c_44 => ?_) (fun c_44 => absurd (by decide) c_44)
      refine lv_iload_n hx hb dX0_leakAll_53 rfl (lv_at hl 2 rfl) ?_
      refine lv_istore (lv' := [(4, .int (nI i)), (3, .int (nI (i + 1))), (2, .int (nI 0)), (1, .int (nI i)), (0, .ref (o 3))]) hx hb dX0_leakAll_54 hl (by decide) rfl (fun ls hl => ?_)
      refine lv_aload_n hx hb dX0_leakAll_56 rfl (lv_at hl 4 rfl) ?_
      refine va_get (C := RX0) (T := TX0) (N := 7) (v := .ref (o 15)) hx hb hts hi0 hown hK hP 3 rfl rfl 0 (by decide) (hts (.fieldLink RX0 9 "HotGround$Ground" "mass" "[J") (by decide +kernel)) (fun _ h9 => h9) rfl dX0_leakAll_57 ?_
      refine lv_iload_n hx hb dX0_leakAll_60 rfl (lv_at hl 1 rfl) ?_
      refine h_lald (f := hg_l (s_leaks S i) 0) hx hb hK hP 15 1 rfl rfl (i + 1) (rfl) (by omega) (by decide) dX0_leakAll_61 ?_
      refine lv_aload_n hx hb dX0_leakAll_62 rfl (lv_at hl 4 rfl) ?_
      refine va_get (C := RX0) (T := TX0) (N := 7) (v := .ref (o 15)) hx hb hts hi0 hown hK hP 3 rfl rfl 0 (by decide) (hts (.fieldLink RX0 9 "HotGround$Ground" "mass" "[J") (by decide +kernel)) (fun _ h9 => h9) rfl dX0_leakAll_63 ?_
      refine lv_iload hx hb dX0_leakAll_66 (lv_at hl 0 rfl) ?_
      refine h_lald (f := hg_l (s_leaks S i) 0) hx hb hK hP 15 1 rfl rfl i (rfl) (by omega) (by decide) dX0_leakAll_68 ?_
      refine lv_lsub hx hb dX0_leakAll_69 ?_
      refine lv_aload_n hx hb dX0_leakAll_70 rfl (lv_at hl 4 rfl) ?_
      refine va_get (C := RX0) (T := TX0) (N := 7) (v := .ref (o 18)) hx hb hts hi0 hown hK hP 3 rfl rfl 3 (by decide) (hts (.fieldLink RX0 20 "HotGround$Ground" "leak" "[I") (by decide +kernel)) (fun _ h9 => h9) rfl dX0_leakAll_71 ?_
      refine lv_iload_n hx hb dX0_leakAll_74 rfl (lv_at hl 3 rfl) ?_
      refine h_iald (f := hg_i (s_leaks S i) 9) hx hb hK hP 18 0 rfl rfl i (rfl) (by omega) (by decide) dX0_leakAll_75 ?_
      refine lv_i2l (v := Int32.toInt64 ((hg_i (s_leaks S i) 9) i)) hx hb dX0_leakAll_76 rfl ?_
      refine lv_ldiv hx hb dX0_leakAll_77 (by rw [s_leaks_i]; exact hlk i hi) ?_
      refine h_topl (y := f_leakP (s_leaks S i) i (i + 1) i) (rfl) ?_
      refine lv_lstore (lv' := [(5, .long (f_leakP (s_leaks S i) i (i + 1) i)), (4, .int (nI i)), (3, .int (nI (i + 1))), (2, .int (nI 0)), (1, .int (nI i)), (0, .ref (o 3))]) hx hb dX0_leakAll_78 hl (by decide) rfl (fun ls hl => ?_)
      refine lv_aload_n hx hb dX0_leakAll_80 rfl (lv_at hl 5 rfl) ?_
      refine lv_iload_n hx hb dX0_leakAll_81 rfl (lv_at hl 2 rfl) ?_
      refine lv_lload hx hb dX0_leakAll_82 (lv_at hl 0 rfl) ?_
      refine vp_callSl (va_Run.run (va_runV (As := [.int (nI (i + 1)), .long (f_leakP (s_leaks S i) i (i + 1) i)]) (rest := []) ⟨hx, hb, hml, hown, hts⟩ (m_X0_heatOf l D o cI cJ cZ (s_leaks S i) (i + 1) (by omega) (f_leakP (s_leaks S i) i (i + 1) i)) (cwV 2 hts gX0_leakAll_X0_heatOf rfl rfl rfl (by decide +kernel) ⟨Nat.le_of_ble_eq_true rfl, Nat.le_of_ble_eq_true rfl⟩) (h_preR hK hP 3 rfl rfl rfl) rfl rfl hl.1 rfl (lv_room (Nat.le_of_ble_eq_true rfl)) dX0_leakAll_84 ⟨Nat.le_of_ble_eq_true rfl, Nat.le_of_ble_eq_true rfl⟩)) (fun r_1 hr_1 => ?_)
      subst hr_1
      refine lv_lstore (lv' := [(7, .long (f_wm (s_leaks S i) (i + 1) (f_leakP (s_leaks S i) i (i + 1) i))), (5, .long (f_leakP (s_leaks S i) i (i + 1) i)), (4, .int (nI i)), (3, .int (nI (i + 1))), (2, .int (nI 0)), (1, .int (nI i)), (0, .ref (o 3))]) hx hb dX0_leakAll_87 hl (by decide) rfl (fun ls hl => ?_)
      refine lv_aload_n hx hb dX0_leakAll_89 rfl (lv_at hl 6 rfl) ?_
      refine lv_iload_n hx hb dX0_leakAll_90 rfl (lv_at hl 3 rfl) ?_
      refine lv_lload hx hb dX0_leakAll_91 (lv_at hl 1 rfl) ?_
      refine lv_lneg hx hb dX0_leakAll_93 ?_
      refine lv_lload hx hb dX0_leakAll_94 (lv_at hl 0 rfl) ?_
      refine lv_lneg hx hb dX0_leakAll_96 ?_
      refine h_callv (w1 := xW o cI cJ cZ (s_pour (s_leaks S i) (i + 1) (-(f_leakP (s_leaks S i) i (i + 1) i)) (-(f_wm (s_leaks S i) (i + 1) (f_leakP (s_leaks S i) i (i + 1) i))))) (va_runV (As := [.int (nI (i + 1)), .long (-(f_leakP (s_leaks S i) i (i + 1) i)), .long (-(f_wm (s_leaks S i) (i + 1) (f_leakP (s_leaks S i) i (i + 1) i)))]) (rest := []) ⟨hx, hb, hml, hown, hts⟩ (m_X0_pour l D o cI cJ cZ (s_leaks S i) H.size (i + 1) (by omega) (-(f_leakP (s_leaks S i) i (i + 1) i)) (-(f_wm (s_leaks S i) (i + 1) (f_leakP (s_leaks S i) i (i + 1) i)))) (cwV 3 hts gX0_leakAll_X0_pour rfl rfl rfl (by decide +kernel) ⟨Nat.le_of_ble_eq_true rfl, Nat.le_of_ble_eq_true rfl⟩) (h_preW hK hP hD 3 rfl rfl rfl) rfl rfl hl.1 rfl (lv_room (Nat.le_of_ble_eq_true rfl)) dX0_leakAll_97 ⟨Nat.le_of_ble_eq_true rfl, Nat.le_of_ble_eq_true rfl⟩) hS (h_all hD hS hA) (fun H locs hP hD hS => ?_)
      refine lv_aload_n hx hb dX0_leakAll_100 rfl (lv_at hl 6 rfl) ?_
      refine lv_iload hx hb dX0_leakAll_101 (lv_at hl 2 rfl) ?_
      refine lv_lload hx hb dX0_leakAll_103 (lv_at hl 1 rfl) ?_
      refine lv_lload hx hb dX0_leakAll_105 (lv_at hl 0 rfl) ?_
      refine h_callv (w1 := xW o cI cJ cZ (s_pour (s_pour (s_leaks S i) (i + 1) (-(f_leakP (s_leaks S i) i (i + 1) i)) (-(f_wm (s_leaks S i) (i + 1) (f_leakP (s_leaks S i) i (i + 1) i)))) i (f_leakP (s_leaks S i) i (i + 1) i) (f_wm (s_leaks S i) (i + 1) (f_leakP (s_leaks S i) i (i + 1) i)))) (va_runV (As := [.int (nI i), .long (f_leakP (s_leaks S i) i (i + 1) i), .long (f_wm (s_leaks S i) (i + 1) (f_leakP (s_leaks S i) i (i + 1) i))]) (rest := []) ⟨hx, hb, hml, hown, hts⟩ (m_X0_pour l D o cI cJ cZ (s_pour (s_leaks S i) (i + 1) (-(f_leakP (s_leaks S i) i (i + 1) i)) (-(f_wm (s_leaks S i) (i + 1) (f_leakP (s_leaks S i) i (i + 1) i)))) H.size i (by omega) (f_leakP (s_leaks S i) i (i + 1) i) (f_wm (s_leaks S i) (i + 1) (f_leakP (s_leaks S i) i (i + 1) i))) (cwV 3 hts gX0_leakAll_X0_pour rfl rfl rfl (by decide +kernel) ⟨Nat.le_of_ble_eq_true rfl, Nat.le_of_ble_eq_true rfl⟩) (h_preW hK hP hD 3 rfl rfl rfl) rfl rfl hl.1 rfl (lv_room (Nat.le_of_ble_eq_true rfl)) dX0_leakAll_107 ⟨Nat.le_of_ble_eq_true rfl, Nat.le_of_ble_eq_true rfl⟩) hS (h_all hD hS hA) (fun H locs hP hD hS => ?_)
      refine lv_iinc (v := nI (i + 1)) (lv' := [(1, .int (nI (i + 1))), (7, .long (f_wm (s_leaks S i) (i + 1) (f_leakP (s_leaks S i) i (i + 1) i))), (5, .long (f_leakP (s_leaks S i) i (i + 1) i)), (4, .int (nI i)), (3, .int (nI (i + 1))), (2, .int (nI 0)), (0, .ref (o 3))]) hx hb dX0_leakAll_110 hl (k := 5) rfl (nI_1 _) (by decide) rfl (fun ls hl => ?_)
      refine lv_goto (tgt := 2) hx hb dX0_leakAll_113 (by decide) ?_
      rw [show (s_pour (s_pour (s_leaks S i) (i + 1) (-(f_leakP (s_leaks S i) i (i + 1) i)) (-(f_wm (s_leaks S i) (i + 1) (f_leakP (s_leaks S i) i (i + 1) i)))) i (f_leakP (s_leaks S i) i (i + 1) i) (f_wm (s_leaks S i) (i + 1) (f_leakP (s_leaks S i) i (i + 1) i)) : hg_S) = s_leaks S (i + 1) from (show s_leak (s_leaks S i) i = _ from if_pos c22).symm] at hP hD
      exact ih ls H locs (lv_sub hl [0, 6] rfl) hP hD hS
    · skip
      have c22 := fun h => c_22 ((lg_cmp_lt (hg_l (s_leaks S i) 0 i) (hg_l (s_leaks S i) 0 (i + 1))).mpr h)
      refine lv_iconst (v := nI 1) hx hb dX0_leakAll_25 (by decide) ?_
      refine lv_goto (tgt := 30) hx hb dX0_leakAll_26 (by decide) ?_
      refine lv_istore_n (lv' := [(2, .int (nI 1)), (1, .int (nI i)), (0, .ref (o 3))]) hx hb dX0_leakAll_30 rfl hl (by decide) rfl (fun ls hl => ?_)
      refine lv_iload_n hx hb dX0_leakAll_31 rfl (lv_at hl 0 rfl) ?_
      refine lv_if_eq (tgt := 39) hx hb dX0_leakAll_32 (by decide) (fun c_32 => absurd c_32 (by decide)) (fun c_32 => ?_)
      refine lv_iload_n hx hb dX0_leakAll_35 rfl (lv_at hl 1 rfl) ?_
      refine lv_goto (tgt := 42) hx hb dX0_leakAll_36 (by decide) ?_
      refine lv_istore_n (lv' := [(3, .int (nI i)), (2, .int (nI 1)), (1, .int (nI i)), (0, .ref (o 3))]) hx hb dX0_leakAll_42 rfl hl (by decide) rfl (fun ls hl => ?_)
      refine lv_iload_n hx hb dX0_leakAll_43 rfl (lv_at hl 1 rfl) ?_
      refine lv_if_eq (tgt := 53) hx hb dX0_leakAll_44 (by decide) (fun c_44 => absurd c_44 (by decide)) (fun c_44 => ?_)
      refine lv_iload_n hx hb dX0_leakAll_47 rfl (lv_at hl 2 rfl) ?_
      refine lv_iconst (v := nI 1) hx hb dX0_leakAll_48 (by decide) ?_
      refine lv_iadd hx hb dX0_leakAll_49 ?_
      refine h_topi (y := nI (i + 1)) (nI_add _ _) ?_
      refine lv_goto (tgt := 54) hx hb dX0_leakAll_50 (by decide) ?_
      refine lv_istore (lv' := [(4, .int (nI (i + 1))), (3, .int (nI i)), (2, .int (nI 1)), (1, .int (nI i)), (0, .ref (o 3))]) hx hb dX0_leakAll_54 hl (by decide) rfl (fun ls hl => ?_)
      refine lv_aload_n hx hb dX0_leakAll_56 rfl (lv_at hl 4 rfl) ?_
      refine va_get (C := RX0) (T := TX0) (N := 7) (v := .ref (o 15)) hx hb hts hi0 hown hK hP 3 rfl rfl 0 (by decide) (hts (.fieldLink RX0 9 "HotGround$Ground" "mass" "[J") (by decide +kernel)) (fun _ h9 => h9) rfl dX0_leakAll_57 ?_
      refine lv_iload_n hx hb dX0_leakAll_60 rfl (lv_at hl 1 rfl) ?_
      refine h_lald (f := hg_l (s_leaks S i) 0) hx hb hK hP 15 1 rfl rfl i (rfl) (by omega) (by decide) dX0_leakAll_61 ?_
      refine lv_aload_n hx hb dX0_leakAll_62 rfl (lv_at hl 4 rfl) ?_
      refine va_get (C := RX0) (T := TX0) (N := 7) (v := .ref (o 15)) hx hb hts hi0 hown hK hP 3 rfl rfl 0 (by decide) (hts (.fieldLink RX0 9 "HotGround$Ground" "mass" "[J") (by decide +kernel)) (fun _ h9 => h9) rfl dX0_leakAll_63 ?_
      refine lv_iload hx hb dX0_leakAll_66 (lv_at hl 0 rfl) ?_
      refine h_lald (f := hg_l (s_leaks S i) 0) hx hb hK hP 15 1 rfl rfl (i + 1) (rfl) (by omega) (by decide) dX0_leakAll_68 ?_
      refine lv_lsub hx hb dX0_leakAll_69 ?_
      refine lv_aload_n hx hb dX0_leakAll_70 rfl (lv_at hl 4 rfl) ?_
      refine va_get (C := RX0) (T := TX0) (N := 7) (v := .ref (o 18)) hx hb hts hi0 hown hK hP 3 rfl rfl 3 (by decide) (hts (.fieldLink RX0 20 "HotGround$Ground" "leak" "[I") (by decide +kernel)) (fun _ h9 => h9) rfl dX0_leakAll_71 ?_
      refine lv_iload_n hx hb dX0_leakAll_74 rfl (lv_at hl 3 rfl) ?_
      refine h_iald (f := hg_i (s_leaks S i) 9) hx hb hK hP 18 0 rfl rfl i (rfl) (by omega) (by decide) dX0_leakAll_75 ?_
      refine lv_i2l (v := Int32.toInt64 ((hg_i (s_leaks S i) 9) i)) hx hb dX0_leakAll_76 rfl ?_
      refine lv_ldiv hx hb dX0_leakAll_77 (by rw [s_leaks_i]; exact hlk i hi) ?_
      refine h_topl (y := f_leakP (s_leaks S i) i i (i + 1)) (rfl) ?_
      refine lv_lstore (lv' := [(5, .long (f_leakP (s_leaks S i) i i (i + 1))), (4, .int (nI (i + 1))), (3, .int (nI i)), (2, .int (nI 1)), (1, .int (nI i)), (0, .ref (o 3))]) hx hb dX0_leakAll_78 hl (by decide) rfl (fun ls hl => ?_)
      refine lv_aload_n hx hb dX0_leakAll_80 rfl (lv_at hl 5 rfl) ?_
      refine lv_iload_n hx hb dX0_leakAll_81 rfl (lv_at hl 2 rfl) ?_
      refine lv_lload hx hb dX0_leakAll_82 (lv_at hl 0 rfl) ?_
      refine vp_callSl (va_Run.run (va_runV (As := [.int (nI i), .long (f_leakP (s_leaks S i) i i (i + 1))]) (rest := []) ⟨hx, hb, hml, hown, hts⟩ (m_X0_heatOf l D o cI cJ cZ (s_leaks S i) i (by omega) (f_leakP (s_leaks S i) i i (i + 1))) (cwV 2 hts gX0_leakAll_X0_heatOf rfl rfl rfl (by decide +kernel) ⟨Nat.le_of_ble_eq_true rfl, Nat.le_of_ble_eq_true rfl⟩) (h_preR hK hP 3 rfl rfl rfl) rfl rfl hl.1 rfl (lv_room (Nat.le_of_ble_eq_true rfl)) dX0_leakAll_84 ⟨Nat.le_of_ble_eq_true rfl, Nat.le_of_ble_eq_true rfl⟩)) (fun r_2 hr_2 => ?_)
      subst hr_2
      refine lv_lstore (lv' := [(7, .long (f_wm (s_leaks S i) i (f_leakP (s_leaks S i) i i (i + 1)))), (5, .long (f_leakP (s_leaks S i) i i (i + 1))), (4, .int (nI (i + 1))), (3, .int (nI i)), (2, .int (nI 1)), (1, .int (nI i)), (0, .ref (o 3))]) hx hb dX0_leakAll_87 hl (by decide) rfl (fun ls hl => ?_)
      refine lv_aload_n hx hb dX0_leakAll_89 rfl (lv_at hl 6 rfl) ?_
      refine lv_iload_n hx hb dX0_leakAll_90 rfl (lv_at hl 3 rfl) ?_
      refine lv_lload hx hb dX0_leakAll_91 (lv_at hl 1 rfl) ?_
      refine lv_lneg hx hb dX0_leakAll_93 ?_
      refine lv_lload hx hb dX0_leakAll_94 (lv_at hl 0 rfl) ?_
      refine lv_lneg hx hb dX0_leakAll_96 ?_
      refine h_callv (w1 := xW o cI cJ cZ (s_pour (s_leaks S i) i (-(f_leakP (s_leaks S i) i i (i + 1))) (-(f_wm (s_leaks S i) i (f_leakP (s_leaks S i) i i (i + 1)))))) (va_runV (As := [.int (nI i), .long (-(f_leakP (s_leaks S i) i i (i + 1))), .long (-(f_wm (s_leaks S i) i (f_leakP (s_leaks S i) i i (i + 1))))]) (rest := []) ⟨hx, hb, hml, hown, hts⟩ (m_X0_pour l D o cI cJ cZ (s_leaks S i) H.size i (by omega) (-(f_leakP (s_leaks S i) i i (i + 1))) (-(f_wm (s_leaks S i) i (f_leakP (s_leaks S i) i i (i + 1))))) (cwV 3 hts gX0_leakAll_X0_pour rfl rfl rfl (by decide +kernel) ⟨Nat.le_of_ble_eq_true rfl, Nat.le_of_ble_eq_true rfl⟩) (h_preW hK hP hD 3 rfl rfl rfl) rfl rfl hl.1 rfl (lv_room (Nat.le_of_ble_eq_true rfl)) dX0_leakAll_97 ⟨Nat.le_of_ble_eq_true rfl, Nat.le_of_ble_eq_true rfl⟩) hS (h_all hD hS hA) (fun H locs hP hD hS => ?_)
      refine lv_aload_n hx hb dX0_leakAll_100 rfl (lv_at hl 6 rfl) ?_
      refine lv_iload hx hb dX0_leakAll_101 (lv_at hl 2 rfl) ?_
      refine lv_lload hx hb dX0_leakAll_103 (lv_at hl 1 rfl) ?_
      refine lv_lload hx hb dX0_leakAll_105 (lv_at hl 0 rfl) ?_
      refine h_callv (w1 := xW o cI cJ cZ (s_pour (s_pour (s_leaks S i) i (-(f_leakP (s_leaks S i) i i (i + 1))) (-(f_wm (s_leaks S i) i (f_leakP (s_leaks S i) i i (i + 1))))) (i + 1) (f_leakP (s_leaks S i) i i (i + 1)) (f_wm (s_leaks S i) i (f_leakP (s_leaks S i) i i (i + 1))))) (va_runV (As := [.int (nI (i + 1)), .long (f_leakP (s_leaks S i) i i (i + 1)), .long (f_wm (s_leaks S i) i (f_leakP (s_leaks S i) i i (i + 1)))]) (rest := []) ⟨hx, hb, hml, hown, hts⟩ (m_X0_pour l D o cI cJ cZ (s_pour (s_leaks S i) i (-(f_leakP (s_leaks S i) i i (i + 1))) (-(f_wm (s_leaks S i) i (f_leakP (s_leaks S i) i i (i + 1))))) H.size (i + 1) (by omega) (f_leakP (s_leaks S i) i i (i + 1)) (f_wm (s_leaks S i) i (f_leakP (s_leaks S i) i i (i + 1)))) (cwV 3 hts gX0_leakAll_X0_pour rfl rfl rfl (by decide +kernel) ⟨Nat.le_of_ble_eq_true rfl, Nat.le_of_ble_eq_true rfl⟩) (h_preW hK hP hD 3 rfl rfl rfl) rfl rfl hl.1 rfl (lv_room (Nat.le_of_ble_eq_true rfl)) dX0_leakAll_107 ⟨Nat.le_of_ble_eq_true rfl, Nat.le_of_ble_eq_true rfl⟩) hS (h_all hD hS hA) (fun H locs hP hD hS => ?_)
      refine lv_iinc (v := nI (i + 1)) (lv' := [(1, .int (nI (i + 1))), (7, .long (f_wm (s_leaks S i) i (f_leakP (s_leaks S i) i i (i + 1)))), (5, .long (f_leakP (s_leaks S i) i i (i + 1))), (4, .int (nI (i + 1))), (3, .int (nI i)), (2, .int (nI 1)), (0, .ref (o 3))]) hx hb dX0_leakAll_110 hl (k := 5) rfl (nI_1 _) (by decide) rfl (fun ls hl => ?_)
      refine lv_goto (tgt := 2) hx hb dX0_leakAll_113 (by decide) ?_
      rw [show (s_pour (s_pour (s_leaks S i) i (-(f_leakP (s_leaks S i) i i (i + 1))) (-(f_wm (s_leaks S i) i (f_leakP (s_leaks S i) i i (i + 1))))) (i + 1) (f_leakP (s_leaks S i) i i (i + 1)) (f_wm (s_leaks S i) i (f_leakP (s_leaks S i) i i (i + 1))) : hg_S) = s_leaks S (i + 1) from (show s_leak (s_leaks S i) i = _ from if_neg c22).symm] at hP hD
      exact ih ls H locs (lv_sub hl [0, 6] rfl) hP hD hS
  · intro ls H locs hl hP hD hS
    have hl : lv_has ls 9 [(1, .int (nI 3)), (0, .ref (o 3))] := hl
    refine lv_iload_n hx hb dX0_leakAll_2 rfl (lv_at hl 0 rfl) ?_
    refine lv_iconst (v := nI 3) hx hb dX0_leakAll_3 (by decide) ?_
    refine lv_icmp_ge (tgt := 116) hx hb dX0_leakAll_4 (by decide) (fun c_4 => ?_) (fun c_4 => absurd (nI_le (Nat.le_refl _) (by omega)) c_4)
    exact W.vret hx hb hr (fun t ht hW => ⟨⟨(), rfl, trivial, ⟨by rw [ht]; exact hP, hD⟩⟩, hS.F ht⟩) hS.2.2 dX0_leakAll_116
set_option maxHeartbeats 4000000 in
set_option maxRecDepth 100000 in
/-- the feed -/
theorem m_X0_feedAll (l : Launch) (D : va_G) (o : Nat → Nat) (cI cJ cZ : ClassId) (S : hg_S) (sz : Nat)  : Met l yX0_feedAll wsX0_feedAll ({ frames := 1, cells := 0, slots := 0, locals := 25 }) (va_Pc [.ref (o 3)] (hg_Wr D (xW o cI cJ cZ S) (hg_ty cI cJ cZ) sz)) (va_Qv (fun (_ : Unit) => True) (fun _ t => hg_At D (xW o cI cJ cZ (s_feeds S 4)) (va_A (xW o cI cJ cZ S) sz) t) (va_A (xW o cI cJ cZ S) sz)) 0 0 (va_A (xW o cI cJ cZ S) sz) := by
  refine h_start (cc := cX0_feedAll) (maxL := 4) (ret := none) (by decide) rfl (Nat.le_of_ble_eq_true rfl) ?_
  intro pg ev s mi args below meth cd ls hx hb hr hts hown hlocks hml hnm hpic hl
  obtain ⟨hsz, hP, hK, hD0⟩ := hpic
  subst hsz
  have hD := hD0.self (sz := s.heap.size)
  generalize hAe : va_A (xW o cI cJ cZ S) s.heap.size = A at hD ⊢
  have hA : ∀ q : Nat, s.heap.size ≤ q → A q := fun q h => by rw [← hAe]; exact Or.inr h
  have hS : va_S A s.heap s.heap [] := va_S.rf
  have hi0 : ∀ w ∈ u_ws RX0 TX0 7, w ∈ wsX0_feedAll := by decide +kernel
  have hl : lv_has ls 4 [(0, .ref (o 3))] := hl
  refine lv_iconst (v := nI 0) hx hb dX0_feedAll_0 (by decide) ?_
  refine lv_istore_n (lv' := [(1, .int (nI 0)), (0, .ref (o 3))]) hx hb dX0_feedAll_1 rfl hl (by decide) rfl (fun ls hl => ?_)
  have hP : va_P D vwCl (xW o cI cJ cZ (s_feeds S 0)) s.heap := hP
  have hD : va_D A (xW o cI cJ cZ (s_feeds S 0)) := hD
  refine h_forW (nL := 4) (4) (fun i => [(1, .int (nI i)), (0, .ref (o 3))]) (fun i => xW o cI cJ cZ (s_feeds S i)) ?_ ?_ (lv_sub hl [0, 1] rfl) hP hD hS
  · intro i ls H locs hi hl hP hD hS ih
    have hl : lv_has ls 4 [(1, .int (nI i)), (0, .ref (o 3))] := hl
    refine lv_iload_n hx hb dX0_feedAll_2 rfl (lv_at hl 0 rfl) ?_
    refine lv_iconst (v := nI 4) hx hb dX0_feedAll_3 (by decide) ?_
    refine lv_icmp_ge (tgt := 43) hx hb dX0_feedAll_4 (by decide) (fun c_4 => absurd c_4 (nI_ge hi (by omega))) (fun c_4 => ?_)
    refine lv_aload_n hx hb dX0_feedAll_7 rfl (lv_at hl 1 rfl) ?_
    refine va_get (C := RX0) (T := TX0) (N := 7) (v := .ref (o 17)) hx hb hts hi0 hown hK hP 3 rfl rfl 2 (by decide) (hts (.fieldLink RX0 16 "HotGround$Ground" "feed" "[I") (by decide +kernel)) (fun _ h9 => h9) rfl dX0_feedAll_8 ?_
    refine lv_iload_n hx hb dX0_feedAll_11 rfl (lv_at hl 0 rfl) ?_
    refine h_iald (f := hg_i (s_feeds S i) 10) hx hb hK hP 17 0 rfl rfl i (rfl) (by omega) (by decide) dX0_feedAll_12 ?_
    refine lv_i2l (v := Int32.toInt64 ((hg_i (s_feeds S i) 10) i)) hx hb dX0_feedAll_13 rfl ?_
    refine h_topl (y := f_feedM (s_feeds S i) i) (rfl) ?_
    refine lv_lstore_n (lv' := [(2, .long (f_feedM (s_feeds S i) i)), (1, .int (nI i)), (0, .ref (o 3))]) hx hb dX0_feedAll_14 rfl hl (by decide) rfl (fun ls hl => ?_)
    refine lv_aload_n hx hb dX0_feedAll_15 rfl (lv_at hl 2 rfl) ?_
    refine lv_iload_n hx hb dX0_feedAll_16 rfl (lv_at hl 1 rfl) ?_
    refine lv_lload_n hx hb dX0_feedAll_17 rfl (lv_at hl 0 rfl) ?_
    refine lv_lload_n hx hb dX0_feedAll_18 rfl (lv_at hl 0 rfl) ?_
    refine lv_ldc2 (v := 10) hx hb hown (hts (.constantLong RX0 54 (10)) (by decide +kernel)) dX0_feedAll_19 ?_
    refine lv_lmul hx hb dX0_feedAll_22 ?_
    refine h_callv (w1 := xW o cI cJ cZ (s_pour (s_feeds S i) i (f_feedM (s_feeds S i) i) ((f_feedM (s_feeds S i) i) * (10)))) (va_runV (As := [.int (nI i), .long (f_feedM (s_feeds S i) i), .long ((f_feedM (s_feeds S i) i) * (10))]) (rest := []) ⟨hx, hb, hml, hown, hts⟩ (m_X0_pour l D o cI cJ cZ (s_feeds S i) H.size i (by omega) (f_feedM (s_feeds S i) i) ((f_feedM (s_feeds S i) i) * (10))) (cwV 3 hts gX0_feedAll_X0_pour rfl rfl rfl (by decide +kernel) ⟨Nat.le_of_ble_eq_true rfl, Nat.le_of_ble_eq_true rfl⟩) (h_preW hK hP hD 3 rfl rfl rfl) rfl rfl hl.1 rfl (lv_room (Nat.le_of_ble_eq_true rfl)) dX0_feedAll_23 ⟨Nat.le_of_ble_eq_true rfl, Nat.le_of_ble_eq_true rfl⟩) hS (h_all hD hS hA) (fun H locs hP hD hS => ?_)
    refine lv_aload_n hx hb dX0_feedAll_26 rfl (lv_at hl 2 rfl) ?_
    refine lv_iconst (v := nI 4) hx hb dX0_feedAll_27 (by decide) ?_
    refine lv_lload_n hx hb dX0_feedAll_28 rfl (lv_at hl 0 rfl) ?_
    refine lv_lload_n hx hb dX0_feedAll_29 rfl (lv_at hl 0 rfl) ?_
    refine lv_ldc2 (v := 10) hx hb hown (hts (.constantLong RX0 54 (10)) (by decide +kernel)) dX0_feedAll_30 ?_
    refine lv_lmul hx hb dX0_feedAll_33 ?_
    refine h_callv (w1 := xW o cI cJ cZ (s_book (s_pour (s_feeds S i) i (f_feedM (s_feeds S i) i) ((f_feedM (s_feeds S i) i) * (10))) 4 (f_feedM (s_feeds S i) i) ((f_feedM (s_feeds S i) i) * (10)))) (va_runV (As := [.int (nI 4), .long (f_feedM (s_feeds S i) i), .long ((f_feedM (s_feeds S i) i) * (10))]) (rest := []) ⟨hx, hb, hml, hown, hts⟩ (m_X0_book l D o cI cJ cZ (s_pour (s_feeds S i) i (f_feedM (s_feeds S i) i) ((f_feedM (s_feeds S i) i) * (10))) H.size 4 (by omega) (f_feedM (s_feeds S i) i) ((f_feedM (s_feeds S i) i) * (10))) (cwV 3 hts gX0_feedAll_X0_book rfl rfl rfl (by decide +kernel) ⟨Nat.le_of_ble_eq_true rfl, Nat.le_of_ble_eq_true rfl⟩) (h_preW hK hP hD 3 rfl rfl rfl) rfl rfl hl.1 rfl (lv_room (Nat.le_of_ble_eq_true rfl)) dX0_feedAll_34 ⟨Nat.le_of_ble_eq_true rfl, Nat.le_of_ble_eq_true rfl⟩) hS (h_all hD hS hA) (fun H locs hP hD hS => ?_)
    refine lv_iinc (v := nI (i + 1)) (lv' := [(1, .int (nI (i + 1))), (2, .long (f_feedM (s_feeds S i) i)), (0, .ref (o 3))]) hx hb dX0_feedAll_37 hl (k := 1) rfl (nI_1 _) (by decide) rfl (fun ls hl => ?_)
    refine lv_goto (tgt := 2) hx hb dX0_feedAll_40 (by decide) ?_
    have hP : va_P D vwCl (xW o cI cJ cZ (s_feeds S (i + 1))) H := hP
    have hD : va_D A (xW o cI cJ cZ (s_feeds S (i + 1))) := hD
    exact ih ls H locs (lv_sub hl [0, 2] rfl) hP hD hS
  · intro ls H locs hl hP hD hS
    have hl : lv_has ls 4 [(1, .int (nI 4)), (0, .ref (o 3))] := hl
    refine lv_iload_n hx hb dX0_feedAll_2 rfl (lv_at hl 0 rfl) ?_
    refine lv_iconst (v := nI 4) hx hb dX0_feedAll_3 (by decide) ?_
    refine lv_icmp_ge (tgt := 43) hx hb dX0_feedAll_4 (by decide) (fun c_4 => ?_) (fun c_4 => absurd (nI_le (Nat.le_refl _) (by omega)) c_4)
    exact W.vret hx hb hr (fun t ht hW => ⟨⟨(), rfl, trivial, ⟨by rw [ht]; exact hP, hD⟩⟩, hS.F ht⟩) hS.2.2 dX0_feedAll_43
end
section
set_option maxRecDepth 20000 in
theorem ggX5_init_X4_init : GoodIn wsX5_init wsX4_init := goodIn_r _ [26, 27, 2, 3, 28, 29, 30, 31, 32, 33, 34, 63, 64, 65, 66, 67, 68] (by decide +kernel) (by decide +kernel)
set_option maxRecDepth 20000 in
theorem gX5_init_X4_init_n9 : GoodIn wsX5_init (wsX4_init) := ggX5_init_X4_init
set_option maxRecDepth 20000 in
theorem ggX5_init_X3_init : GoodIn wsX5_init wsX3_init := goodIn_r _ [36, 37, 2, 3, 28, 38, 39, 40, 32, 41, 75, 76, 77, 78, 79] (by decide +kernel) (by decide +kernel)
set_option maxRecDepth 20000 in
theorem gX5_init_X3_init_n18 : GoodIn wsX5_init (wsX3_init) := ggX5_init_X3_init
set_option maxRecDepth 20000 in
theorem ggX5_init_X0_init : GoodIn wsX5_init wsX0_init := goodIn_r _ [43, 44, 2, 3, 45, 46, 47, 28, 48, 49, 50, 80, 81, 82, 83, 84, 85, 86] (by decide +kernel) (by decide +kernel)
set_option maxRecDepth 20000 in
theorem gX5_init_X0_init_n25 : GoodIn wsX5_init (wsX0_init) := ggX5_init_X0_init
set_option maxRecDepth 20000 in
theorem ggX5_init_X1_init : GoodIn wsX5_init wsX1_init := goodIn_r _ [52, 53, 2, 3, 28, 54, 55, 87, 88, 89] (by decide +kernel) (by decide +kernel)
set_option maxRecDepth 20000 in
theorem gX5_init_X1_init_n32 : GoodIn wsX5_init (wsX1_init) := ggX5_init_X1_init
set_option maxRecDepth 20000 in
theorem ggX5_init_X2_init : GoodIn wsX5_init wsX2_init := goodIn_r _ [57, 58, 2, 3, 28, 59, 60, 61, 62, 90, 91, 92, 93, 94] (by decide +kernel) (by decide +kernel)
set_option maxRecDepth 20000 in
theorem gX5_init_X2_init_n39 : GoodIn wsX5_init (wsX2_init) := ggX5_init_X2_init
theorem dX5_init_0 : decode cX5_init 0 = .ok (.aload_n 0, 1) := by decide +kernel
theorem dX5_init_1 : decode cX5_init 1 = .ok (.invokespecial 1, 3) := by decide +kernel
theorem dX5_init_4 : decode cX5_init 4 = .ok (.aload_n 0, 1) := by decide +kernel
theorem dX5_init_5 : decode cX5_init 5 = .ok (.new 7, 3) := by decide +kernel
theorem dX5_init_8 : decode cX5_init 8 = .ok (.dup, 1) := by decide +kernel
theorem dX5_init_9 : decode cX5_init 9 = .ok (.invokespecial 9, 3) := by decide +kernel
theorem dX5_init_12 : decode cX5_init 12 = .ok (.putfield 10, 3) := by decide +kernel
theorem dX5_init_15 : decode cX5_init 15 = .ok (.aload_n 0, 1) := by decide +kernel
theorem dX5_init_16 : decode cX5_init 16 = .ok (.new 16, 3) := by decide +kernel
theorem dX5_init_19 : decode cX5_init 19 = .ok (.dup, 1) := by decide +kernel
theorem dX5_init_20 : decode cX5_init 20 = .ok (.invokespecial 18, 3) := by decide +kernel
theorem dX5_init_23 : decode cX5_init 23 = .ok (.putfield 19, 3) := by decide +kernel
theorem dX5_init_26 : decode cX5_init 26 = .ok (.aload_n 0, 1) := by decide +kernel
theorem dX5_init_27 : decode cX5_init 27 = .ok (.new 23, 3) := by decide +kernel
theorem dX5_init_30 : decode cX5_init 30 = .ok (.dup, 1) := by decide +kernel
theorem dX5_init_31 : decode cX5_init 31 = .ok (.invokespecial 25, 3) := by decide +kernel
theorem dX5_init_34 : decode cX5_init 34 = .ok (.putfield 26, 3) := by decide +kernel
theorem dX5_init_37 : decode cX5_init 37 = .ok (.aload_n 0, 1) := by decide +kernel
theorem dX5_init_38 : decode cX5_init 38 = .ok (.new 30, 3) := by decide +kernel
theorem dX5_init_41 : decode cX5_init 41 = .ok (.dup, 1) := by decide +kernel
theorem dX5_init_42 : decode cX5_init 42 = .ok (.invokespecial 32, 3) := by decide +kernel
theorem dX5_init_45 : decode cX5_init 45 = .ok (.putfield 33, 3) := by decide +kernel
theorem dX5_init_48 : decode cX5_init 48 = .ok (.aload_n 0, 1) := by decide +kernel
theorem dX5_init_49 : decode cX5_init 49 = .ok (.new 37, 3) := by decide +kernel
theorem dX5_init_52 : decode cX5_init 52 = .ok (.dup, 1) := by decide +kernel
theorem dX5_init_53 : decode cX5_init 53 = .ok (.invokespecial 39, 3) := by decide +kernel
theorem dX5_init_56 : decode cX5_init 56 = .ok (.putfield 40, 3) := by decide +kernel
theorem dX5_init_59 : decode cX5_init 59 = .ok (.aload_n 0, 1) := by decide +kernel
theorem dX5_init_60 : decode cX5_init 60 = .ok (.lconst 0, 1) := by decide +kernel
theorem dX5_init_61 : decode cX5_init 61 = .ok (.putfield 44, 3) := by decide +kernel
theorem dX5_init_64 : decode cX5_init 64 = .ok (.return_, 1) := by decide +kernel
set_option maxRecDepth 20000 in
theorem ggX5_well_X5_within : GoodIn wsX5_well wsX5_within := goodIn_r _ [6] (by decide +kernel) (by decide +kernel)
set_option maxRecDepth 20000 in
theorem gX5_well_X5_within : GoodIn wsX5_well (va_wsS RX5 48 yX5_within wsX5_within) := goodIn_app (goodIn_of _ (by decide +kernel)) ggX5_well_X5_within
set_option maxRecDepth 20000 in
theorem ggX5_well_X4_add : GoodIn wsX5_well wsX4_add := goodIn_r _ [11, 12, 13, 14, 26, 27, 28, 29, 30, 31] (by decide +kernel) (by decide +kernel)
set_option maxRecDepth 20000 in
theorem gX5_well_X4_add : GoodIn wsX5_well (wsV RX5 56 RX4 yX4_add wsX4_add) := goodIn_app (goodIn_of _ (by decide +kernel)) ggX5_well_X4_add
set_option maxRecDepth 20000 in
theorem ggX5_well_X4_shape : GoodIn wsX5_well wsX4_shape := goodIn_r _ [18, 19, 26, 27, 28, 29, 30, 31] (by decide +kernel) (by decide +kernel)
set_option maxRecDepth 20000 in
theorem gX5_well_X4_shape : GoodIn wsX5_well (wsV RX5 60 RX4 yX4_shape wsX4_shape) := goodIn_app (goodIn_of _ (by decide +kernel)) ggX5_well_X4_shape
theorem dX5_well_0 : decode cX5_well 0 = .ok (.iload_n 1, 1) := by decide +kernel
theorem dX5_well_1 : decode cX5_well 1 = .ok (.iconst 0, 1) := by decide +kernel
theorem dX5_well_2 : decode cX5_well 2 = .ok (.iconst 2, 1) := by decide +kernel
theorem dX5_well_3 : decode cX5_well 3 = .ok (.invokestatic 48, 3) := by decide +kernel
theorem dX5_well_6 : decode cX5_well 6 = .ok (.ifCond .eq 12, 3) := by decide +kernel
theorem dX5_well_9 : decode cX5_well 9 = .ok (.iload_n 2, 1) := by decide +kernel
theorem dX5_well_10 : decode cX5_well 10 = .ok (.iconst 0, 1) := by decide +kernel
theorem dX5_well_11 : decode cX5_well 11 = .ok (.iconst 3, 1) := by decide +kernel
theorem dX5_well_12 : decode cX5_well 12 = .ok (.invokestatic 48, 3) := by decide +kernel
theorem dX5_well_15 : decode cX5_well 15 = .ok (.ifCond .ne 5, 3) := by decide +kernel
theorem dX5_well_18 : decode cX5_well 18 = .ok (.iconst (-1), 1) := by decide +kernel
theorem dX5_well_19 : decode cX5_well 19 = .ok (.ireturn, 1) := by decide +kernel
theorem dX5_well_20 : decode cX5_well 20 = .ok (.iload_n 3, 1) := by decide +kernel
theorem dX5_well_21 : decode cX5_well 21 = .ok (.iconst 0, 1) := by decide +kernel
theorem dX5_well_22 : decode cX5_well 22 = .ok (.sipush 200, 3) := by decide +kernel
theorem dX5_well_25 : decode cX5_well 25 = .ok (.invokestatic 48, 3) := by decide +kernel
theorem dX5_well_28 : decode cX5_well 28 = .ok (.ifCond .eq 46, 3) := by decide +kernel
theorem dX5_well_31 : decode cX5_well 31 = .ok (.iload 4, 2) := by decide +kernel
theorem dX5_well_33 : decode cX5_well 33 = .ok (.iconst 0, 1) := by decide +kernel
theorem dX5_well_34 : decode cX5_well 34 = .ok (.iload_n 3, 1) := by decide +kernel
theorem dX5_well_35 : decode cX5_well 35 = .ok (.invokestatic 48, 3) := by decide +kernel
theorem dX5_well_38 : decode cX5_well 38 = .ok (.ifCond .eq 36, 3) := by decide +kernel
theorem dX5_well_41 : decode cX5_well 41 = .ok (.iload 5, 2) := by decide +kernel
theorem dX5_well_43 : decode cX5_well 43 = .ok (.iconst 0, 1) := by decide +kernel
theorem dX5_well_44 : decode cX5_well 44 = .ok (.iload 4, 2) := by decide +kernel
theorem dX5_well_46 : decode cX5_well 46 = .ok (.invokestatic 48, 3) := by decide +kernel
theorem dX5_well_49 : decode cX5_well 49 = .ok (.ifCond .eq 25, 3) := by decide +kernel
theorem dX5_well_52 : decode cX5_well 52 = .ok (.iload 6, 2) := by decide +kernel
theorem dX5_well_54 : decode cX5_well 54 = .ok (.iconst 0, 1) := by decide +kernel
theorem dX5_well_55 : decode cX5_well 55 = .ok (.iload 5, 2) := by decide +kernel
theorem dX5_well_57 : decode cX5_well 57 = .ok (.invokestatic 48, 3) := by decide +kernel
theorem dX5_well_60 : decode cX5_well 60 = .ok (.ifCond .eq 14, 3) := by decide +kernel
theorem dX5_well_63 : decode cX5_well 63 = .ok (.iload 7, 2) := by decide +kernel
theorem dX5_well_65 : decode cX5_well 65 = .ok (.iconst 0, 1) := by decide +kernel
theorem dX5_well_66 : decode cX5_well 66 = .ok (.iload 6, 2) := by decide +kernel
theorem dX5_well_68 : decode cX5_well 68 = .ok (.invokestatic 48, 3) := by decide +kernel
theorem dX5_well_71 : decode cX5_well 71 = .ok (.ifCond .ne 5, 3) := by decide +kernel
theorem dX5_well_74 : decode cX5_well 74 = .ok (.iconst (-1), 1) := by decide +kernel
theorem dX5_well_75 : decode cX5_well 75 = .ok (.ireturn, 1) := by decide +kernel
theorem dX5_well_76 : decode cX5_well 76 = .ok (.aload_n 0, 1) := by decide +kernel
theorem dX5_well_77 : decode cX5_well 77 = .ok (.getfield 10, 3) := by decide +kernel
theorem dX5_well_80 : decode cX5_well 80 = .ok (.getfield 52, 3) := by decide +kernel
theorem dX5_well_83 : decode cX5_well 83 = .ok (.bipush 8, 2) := by decide +kernel
theorem dX5_well_85 : decode cX5_well 85 = .ok (.if_icmp .lt 6, 3) := by decide +kernel
theorem dX5_well_88 : decode cX5_well 88 = .ok (.bipush (-3), 2) := by decide +kernel
theorem dX5_well_90 : decode cX5_well 90 = .ok (.ireturn, 1) := by decide +kernel
theorem dX5_well_91 : decode cX5_well 91 = .ok (.aload_n 0, 1) := by decide +kernel
theorem dX5_well_92 : decode cX5_well 92 = .ok (.getfield 10, 3) := by decide +kernel
theorem dX5_well_95 : decode cX5_well 95 = .ok (.iload_n 1, 1) := by decide +kernel
theorem dX5_well_96 : decode cX5_well 96 = .ok (.iload_n 2, 1) := by decide +kernel
theorem dX5_well_97 : decode cX5_well 97 = .ok (.invokevirtual 56, 3) := by decide +kernel
theorem dX5_well_100 : decode cX5_well 100 = .ok (.istore 8, 2) := by decide +kernel
theorem dX5_well_102 : decode cX5_well 102 = .ok (.aload_n 0, 1) := by decide +kernel
theorem dX5_well_103 : decode cX5_well 103 = .ok (.getfield 10, 3) := by decide +kernel
theorem dX5_well_106 : decode cX5_well 106 = .ok (.iload 8, 2) := by decide +kernel
theorem dX5_well_108 : decode cX5_well 108 = .ok (.iload_n 3, 1) := by decide +kernel
theorem dX5_well_109 : decode cX5_well 109 = .ok (.iload 4, 2) := by decide +kernel
theorem dX5_well_111 : decode cX5_well 111 = .ok (.iload 5, 2) := by decide +kernel
theorem dX5_well_113 : decode cX5_well 113 = .ok (.iload 6, 2) := by decide +kernel
theorem dX5_well_115 : decode cX5_well 115 = .ok (.iload 7, 2) := by decide +kernel
theorem dX5_well_117 : decode cX5_well 117 = .ok (.invokevirtual 60, 3) := by decide +kernel
theorem dX5_well_120 : decode cX5_well 120 = .ok (.iload 8, 2) := by decide +kernel
theorem dX5_well_122 : decode cX5_well 122 = .ok (.ireturn, 1) := by decide +kernel
set_option maxRecDepth 20000 in
theorem ggX5_open_X5_isWell : GoodIn wsX5_open wsX5_isWell := goodIn_r _ [7, 1, 8, 9, 10, 6, 11, 12, 13, 14, 15, 16, 17, 18, 19, 20, 21, 22, 23] (by decide +kernel) (by decide +kernel)
set_option maxRecDepth 20000 in
theorem gX5_open_X5_isWell : GoodIn wsX5_open (wsV RX5 64 RX5 yX5_isWell wsX5_isWell) := goodIn_app (goodIn_of _ (by decide +kernel)) ggX5_open_X5_isWell
theorem dX5_open_0 : decode cX5_open 0 = .ok (.aload_n 0, 1) := by decide +kernel
theorem dX5_open_1 : decode cX5_open 1 = .ok (.iload_n 1, 1) := by decide +kernel
theorem dX5_open_2 : decode cX5_open 2 = .ok (.invokevirtual 64, 3) := by decide +kernel
theorem dX5_open_5 : decode cX5_open 5 = .ok (.ifCond .ne 5, 3) := by decide +kernel
theorem dX5_open_8 : decode cX5_open 8 = .ok (.iconst (-1), 1) := by decide +kernel
theorem dX5_open_9 : decode cX5_open 9 = .ok (.ireturn, 1) := by decide +kernel
theorem dX5_open_10 : decode cX5_open 10 = .ok (.aload_n 0, 1) := by decide +kernel
theorem dX5_open_11 : decode cX5_open 11 = .ok (.getfield 10, 3) := by decide +kernel
theorem dX5_open_14 : decode cX5_open 14 = .ok (.getfield 68, 3) := by decide +kernel
theorem dX5_open_17 : decode cX5_open 17 = .ok (.iload_n 1, 1) := by decide +kernel
theorem dX5_open_18 : decode cX5_open 18 = .ok (.baload, 1) := by decide +kernel
theorem dX5_open_19 : decode cX5_open 19 = .ok (.istore_n 3, 1) := by decide +kernel
theorem dX5_open_20 : decode cX5_open 20 = .ok (.aload_n 0, 1) := by decide +kernel
theorem dX5_open_21 : decode cX5_open 21 = .ok (.getfield 10, 3) := by decide +kernel
theorem dX5_open_24 : decode cX5_open 24 = .ok (.getfield 68, 3) := by decide +kernel
theorem dX5_open_27 : decode cX5_open 27 = .ok (.iload_n 1, 1) := by decide +kernel
theorem dX5_open_28 : decode cX5_open 28 = .ok (.iload_n 2, 1) := by decide +kernel
theorem dX5_open_29 : decode cX5_open 29 = .ok (.bastore, 1) := by decide +kernel
theorem dX5_open_30 : decode cX5_open 30 = .ok (.iload_n 3, 1) := by decide +kernel
theorem dX5_open_31 : decode cX5_open 31 = .ok (.ifCond .eq 7, 3) := by decide +kernel
theorem dX5_open_34 : decode cX5_open 34 = .ok (.iconst 1, 1) := by decide +kernel
theorem dX5_open_35 : decode cX5_open 35 = .ok (.goto 4, 3) := by decide +kernel
theorem dX5_open_38 : decode cX5_open 38 = .ok (.iconst 0, 1) := by decide +kernel
theorem dX5_open_39 : decode cX5_open 39 = .ok (.ireturn, 1) := by decide +kernel
set_option maxRecDepth 20000 in
theorem ggX5_clean_X5_isWell : GoodIn wsX5_clean wsX5_isWell := goodIn_r _ [7, 1, 8, 9, 10, 6, 11, 12, 13, 14, 15, 16, 17, 18, 19, 20, 21, 22, 23] (by decide +kernel) (by decide +kernel)
set_option maxRecDepth 20000 in
theorem gX5_clean_X5_isWell : GoodIn wsX5_clean (wsV RX5 64 RX5 yX5_isWell wsX5_isWell) := goodIn_app (goodIn_of _ (by decide +kernel)) ggX5_clean_X5_isWell
theorem dX5_clean_0 : decode cX5_clean 0 = .ok (.aload_n 0, 1) := by decide +kernel
theorem dX5_clean_1 : decode cX5_clean 1 = .ok (.iload_n 1, 1) := by decide +kernel
theorem dX5_clean_2 : decode cX5_clean 2 = .ok (.invokevirtual 64, 3) := by decide +kernel
theorem dX5_clean_5 : decode cX5_clean 5 = .ok (.ifCond .ne 5, 3) := by decide +kernel
theorem dX5_clean_8 : decode cX5_clean 8 = .ok (.iconst (-1), 1) := by decide +kernel
theorem dX5_clean_9 : decode cX5_clean 9 = .ok (.ireturn, 1) := by decide +kernel
theorem dX5_clean_10 : decode cX5_clean 10 = .ok (.aload_n 0, 1) := by decide +kernel
theorem dX5_clean_11 : decode cX5_clean 11 = .ok (.getfield 10, 3) := by decide +kernel
theorem dX5_clean_14 : decode cX5_clean 14 = .ok (.getfield 72, 3) := by decide +kernel
theorem dX5_clean_17 : decode cX5_clean 17 = .ok (.iload_n 1, 1) := by decide +kernel
theorem dX5_clean_18 : decode cX5_clean 18 = .ok (.iaload, 1) := by decide +kernel
theorem dX5_clean_19 : decode cX5_clean 19 = .ok (.istore_n 2, 1) := by decide +kernel
theorem dX5_clean_20 : decode cX5_clean 20 = .ok (.aload_n 0, 1) := by decide +kernel
theorem dX5_clean_21 : decode cX5_clean 21 = .ok (.getfield 10, 3) := by decide +kernel
theorem dX5_clean_24 : decode cX5_clean 24 = .ok (.getfield 72, 3) := by decide +kernel
theorem dX5_clean_27 : decode cX5_clean 27 = .ok (.iload_n 1, 1) := by decide +kernel
theorem dX5_clean_28 : decode cX5_clean 28 = .ok (.iconst 0, 1) := by decide +kernel
theorem dX5_clean_29 : decode cX5_clean 29 = .ok (.iastore, 1) := by decide +kernel
theorem dX5_clean_30 : decode cX5_clean 30 = .ok (.iload_n 2, 1) := by decide +kernel
theorem dX5_clean_31 : decode cX5_clean 31 = .ok (.ireturn, 1) := by decide +kernel
set_option maxRecDepth 20000 in
theorem ggX5_flow_X5_isWell : GoodIn wsX5_flow wsX5_isWell := goodIn_r _ [7, 2, 8, 9, 10, 6, 11, 41, 42, 43, 44, 45, 46, 47, 48, 49, 50, 51, 52] (by decide +kernel) (by decide +kernel)
set_option maxRecDepth 20000 in
theorem gX5_flow_X5_isWell : GoodIn wsX5_flow (wsV RX5 64 RX5 yX5_isWell wsX5_isWell) := goodIn_app (goodIn_of _ (by decide +kernel)) ggX5_flow_X5_isWell
set_option maxRecDepth 20000 in
theorem ggX5_flow_X5_isPressure : GoodIn wsX5_flow wsX5_isPressure := goodIn_r _ [14, 9, 10, 6, 11] (by decide +kernel) (by decide +kernel)
set_option maxRecDepth 20000 in
theorem gX5_flow_X5_isPressure : GoodIn wsX5_flow (va_wsS RX5 76 yX5_isPressure wsX5_isPressure) := goodIn_app (goodIn_of _ (by decide +kernel)) ggX5_flow_X5_isPressure
set_option maxRecDepth 20000 in
theorem ggX5_flow_X4_weight : GoodIn wsX5_flow wsX4_weight := goodIn_r _ [19, 20, 47, 48, 49, 50, 51, 52] (by decide +kernel) (by decide +kernel)
set_option maxRecDepth 20000 in
theorem gX5_flow_X4_weight : GoodIn wsX5_flow (wsV RX5 79 RX4 yX4_weight wsX4_weight) := goodIn_app (goodIn_of _ (by decide +kernel)) ggX5_flow_X4_weight
set_option maxRecDepth 20000 in
theorem ggX5_flow_X4_fifths : GoodIn wsX5_flow wsX4_fifths := goodIn_r _ [24, 20, 25, 26, 27, 28, 18, 29, 30, 31, 32, 33, 34, 35, 36, 37, 38, 39, 40, 47, 48, 49, 50, 51, 52] (by decide +kernel) (by decide +kernel)
set_option maxRecDepth 20000 in
theorem gX5_flow_X4_fifths : GoodIn wsX5_flow (wsV RX5 83 RX4 yX4_fifths wsX4_fifths) := goodIn_app (goodIn_of _ (by decide +kernel)) ggX5_flow_X4_fifths
theorem dX5_flow_0 : decode cX5_flow 0 = .ok (.aload_n 0, 1) := by decide +kernel
theorem dX5_flow_1 : decode cX5_flow 1 = .ok (.iload_n 1, 1) := by decide +kernel
theorem dX5_flow_2 : decode cX5_flow 2 = .ok (.invokevirtual 64, 3) := by decide +kernel
theorem dX5_flow_5 : decode cX5_flow 5 = .ok (.ifCond .eq 10, 3) := by decide +kernel
theorem dX5_flow_8 : decode cX5_flow 8 = .ok (.iload_n 2, 1) := by decide +kernel
theorem dX5_flow_9 : decode cX5_flow 9 = .ok (.invokestatic 76, 3) := by decide +kernel
theorem dX5_flow_12 : decode cX5_flow 12 = .ok (.ifCond .ne 5, 3) := by decide +kernel
theorem dX5_flow_15 : decode cX5_flow 15 = .ok (.iconst (-1), 1) := by decide +kernel
theorem dX5_flow_16 : decode cX5_flow 16 = .ok (.ireturn, 1) := by decide +kernel
theorem dX5_flow_17 : decode cX5_flow 17 = .ok (.aload_n 0, 1) := by decide +kernel
theorem dX5_flow_18 : decode cX5_flow 18 = .ok (.dup, 1) := by decide +kernel
theorem dX5_flow_19 : decode cX5_flow 19 = .ok (.getfield 44, 3) := by decide +kernel
theorem dX5_flow_22 : decode cX5_flow 22 = .ok (.aload_n 0, 1) := by decide +kernel
theorem dX5_flow_23 : decode cX5_flow 23 = .ok (.getfield 10, 3) := by decide +kernel
theorem dX5_flow_26 : decode cX5_flow 26 = .ok (.iload_n 1, 1) := by decide +kernel
theorem dX5_flow_27 : decode cX5_flow 27 = .ok (.invokevirtual 79, 3) := by decide +kernel
theorem dX5_flow_30 : decode cX5_flow 30 = .ok (.i2l, 1) := by decide +kernel
theorem dX5_flow_31 : decode cX5_flow 31 = .ok (.ladd, 1) := by decide +kernel
theorem dX5_flow_32 : decode cX5_flow 32 = .ok (.putfield 44, 3) := by decide +kernel
theorem dX5_flow_35 : decode cX5_flow 35 = .ok (.aload_n 0, 1) := by decide +kernel
theorem dX5_flow_36 : decode cX5_flow 36 = .ok (.getfield 10, 3) := by decide +kernel
theorem dX5_flow_39 : decode cX5_flow 39 = .ok (.iload_n 1, 1) := by decide +kernel
theorem dX5_flow_40 : decode cX5_flow 40 = .ok (.iload_n 2, 1) := by decide +kernel
theorem dX5_flow_41 : decode cX5_flow 41 = .ok (.invokevirtual 83, 3) := by decide +kernel
theorem dX5_flow_44 : decode cX5_flow 44 = .ok (.ireturn, 1) := by decide +kernel
set_option maxRecDepth 20000 in
theorem ggX5_about_X5_isWell : GoodIn wsX5_about wsX5_isWell := goodIn_r _ [11, 1, 12, 13, 14, 10, 15, 16, 17, 18, 19, 20, 21, 22, 23, 24, 25, 26, 27] (by decide +kernel) (by decide +kernel)
set_option maxRecDepth 20000 in
theorem gX5_about_X5_isWell : GoodIn wsX5_about (wsV RX5 64 RX5 yX5_isWell wsX5_isWell) := goodIn_app (goodIn_of _ (by decide +kernel)) ggX5_about_X5_isWell
set_option maxRecDepth 20000 in
theorem ggX5_about_X5_within : GoodIn wsX5_about wsX5_within := goodIn_r _ [15] (by decide +kernel) (by decide +kernel)
set_option maxRecDepth 20000 in
theorem gX5_about_X5_within : GoodIn wsX5_about (va_wsS RX5 48 yX5_within wsX5_within) := goodIn_app (goodIn_of _ (by decide +kernel)) ggX5_about_X5_within
theorem dX5_about_0 : decode cX5_about 0 = .ok (.aload_n 0, 1) := by decide +kernel
theorem dX5_about_1 : decode cX5_about 1 = .ok (.iload_n 1, 1) := by decide +kernel
theorem dX5_about_2 : decode cX5_about 2 = .ok (.invokevirtual 64, 3) := by decide +kernel
theorem dX5_about_5 : decode cX5_about 5 = .ok (.ifCond .eq 13, 3) := by decide +kernel
theorem dX5_about_8 : decode cX5_about 8 = .ok (.iload_n 2, 1) := by decide +kernel
theorem dX5_about_9 : decode cX5_about 9 = .ok (.iconst 0, 1) := by decide +kernel
theorem dX5_about_10 : decode cX5_about 10 = .ok (.bipush 8, 2) := by decide +kernel
theorem dX5_about_12 : decode cX5_about 12 = .ok (.invokestatic 48, 3) := by decide +kernel
theorem dX5_about_15 : decode cX5_about 15 = .ok (.ifCond .ne 5, 3) := by decide +kernel
theorem dX5_about_18 : decode cX5_about 18 = .ok (.iconst (-1), 1) := by decide +kernel
theorem dX5_about_19 : decode cX5_about 19 = .ok (.ireturn, 1) := by decide +kernel
theorem dX5_about_20 : decode cX5_about 20 = .ok (.iload_n 2, 1) := by decide +kernel
theorem dX5_about_21 : decode cX5_about 21 = .ok (.tableswitch 79 0 3 #[31, 41, 51, 61], 31) := by decide +kernel
theorem dX5_about_52 : decode cX5_about 52 = .ok (.aload_n 0, 1) := by decide +kernel
theorem dX5_about_53 : decode cX5_about 53 = .ok (.getfield 10, 3) := by decide +kernel
theorem dX5_about_56 : decode cX5_about 56 = .ok (.getfield 86, 3) := by decide +kernel
theorem dX5_about_59 : decode cX5_about 59 = .ok (.iload_n 1, 1) := by decide +kernel
theorem dX5_about_60 : decode cX5_about 60 = .ok (.iaload, 1) := by decide +kernel
theorem dX5_about_61 : decode cX5_about 61 = .ok (.ireturn, 1) := by decide +kernel
theorem dX5_about_62 : decode cX5_about 62 = .ok (.aload_n 0, 1) := by decide +kernel
theorem dX5_about_63 : decode cX5_about 63 = .ok (.getfield 10, 3) := by decide +kernel
theorem dX5_about_66 : decode cX5_about 66 = .ok (.getfield 89, 3) := by decide +kernel
theorem dX5_about_69 : decode cX5_about 69 = .ok (.iload_n 1, 1) := by decide +kernel
theorem dX5_about_70 : decode cX5_about 70 = .ok (.iaload, 1) := by decide +kernel
theorem dX5_about_71 : decode cX5_about 71 = .ok (.ireturn, 1) := by decide +kernel
theorem dX5_about_72 : decode cX5_about 72 = .ok (.aload_n 0, 1) := by decide +kernel
theorem dX5_about_73 : decode cX5_about 73 = .ok (.getfield 10, 3) := by decide +kernel
theorem dX5_about_76 : decode cX5_about 76 = .ok (.getfield 72, 3) := by decide +kernel
theorem dX5_about_79 : decode cX5_about 79 = .ok (.iload_n 1, 1) := by decide +kernel
theorem dX5_about_80 : decode cX5_about 80 = .ok (.iaload, 1) := by decide +kernel
theorem dX5_about_81 : decode cX5_about 81 = .ok (.ireturn, 1) := by decide +kernel
theorem dX5_about_82 : decode cX5_about 82 = .ok (.aload_n 0, 1) := by decide +kernel
theorem dX5_about_83 : decode cX5_about 83 = .ok (.getfield 10, 3) := by decide +kernel
theorem dX5_about_86 : decode cX5_about 86 = .ok (.getfield 68, 3) := by decide +kernel
theorem dX5_about_89 : decode cX5_about 89 = .ok (.iload_n 1, 1) := by decide +kernel
theorem dX5_about_90 : decode cX5_about 90 = .ok (.baload, 1) := by decide +kernel
theorem dX5_about_91 : decode cX5_about 91 = .ok (.ifCond .eq 7, 3) := by decide +kernel
theorem dX5_about_94 : decode cX5_about 94 = .ok (.iconst 1, 1) := by decide +kernel
theorem dX5_about_95 : decode cX5_about 95 = .ok (.goto 4, 3) := by decide +kernel
theorem dX5_about_98 : decode cX5_about 98 = .ok (.iconst 0, 1) := by decide +kernel
theorem dX5_about_99 : decode cX5_about 99 = .ok (.ireturn, 1) := by decide +kernel
theorem dX5_about_100 : decode cX5_about 100 = .ok (.aload_n 0, 1) := by decide +kernel
theorem dX5_about_101 : decode cX5_about 101 = .ok (.getfield 10, 3) := by decide +kernel
theorem dX5_about_104 : decode cX5_about 104 = .ok (.getfield 92, 3) := by decide +kernel
theorem dX5_about_107 : decode cX5_about 107 = .ok (.iload_n 1, 1) := by decide +kernel
theorem dX5_about_108 : decode cX5_about 108 = .ok (.iconst 5, 1) := by decide +kernel
theorem dX5_about_109 : decode cX5_about 109 = .ok (.imul, 1) := by decide +kernel
theorem dX5_about_110 : decode cX5_about 110 = .ok (.iload_n 2, 1) := by decide +kernel
theorem dX5_about_111 : decode cX5_about 111 = .ok (.iadd, 1) := by decide +kernel
theorem dX5_about_112 : decode cX5_about 112 = .ok (.iconst 4, 1) := by decide +kernel
theorem dX5_about_113 : decode cX5_about 113 = .ok (.isub, 1) := by decide +kernel
theorem dX5_about_114 : decode cX5_about 114 = .ok (.iaload, 1) := by decide +kernel
theorem dX5_about_115 : decode cX5_about 115 = .ok (.ireturn, 1) := by decide +kernel
set_option maxRecDepth 20000 in
theorem ggX5_turbine_X5_isPressure : GoodIn wsX5_turbine wsX5_isPressure := goodIn_r _ [6, 7, 8, 5, 9] (by decide +kernel) (by decide +kernel)
set_option maxRecDepth 20000 in
theorem gX5_turbine_X5_isPressure : GoodIn wsX5_turbine (va_wsS RX5 76 yX5_isPressure wsX5_isPressure) := goodIn_app (goodIn_of _ (by decide +kernel)) ggX5_turbine_X5_isPressure
set_option maxRecDepth 20000 in
theorem ggX5_turbine_X5_within : GoodIn wsX5_turbine wsX5_within := goodIn_r _ [9] (by decide +kernel) (by decide +kernel)
set_option maxRecDepth 20000 in
theorem gX5_turbine_X5_within : GoodIn wsX5_turbine (va_wsS RX5 48 yX5_within wsX5_within) := goodIn_app (goodIn_of _ (by decide +kernel)) ggX5_turbine_X5_within
set_option maxRecDepth 20000 in
theorem ggX5_turbine_X3_add : GoodIn wsX5_turbine wsX3_add := goodIn_r _ [14, 15, 16, 17, 18, 19, 26, 27, 28, 29, 30] (by decide +kernel) (by decide +kernel)
set_option maxRecDepth 20000 in
theorem gX5_turbine_X3_add : GoodIn wsX5_turbine (wsV RX5 96 RX3 yX3_add wsX3_add) := goodIn_app (goodIn_of _ (by decide +kernel)) ggX5_turbine_X3_add
theorem dX5_turbine_0 : decode cX5_turbine 0 = .ok (.iload_n 1, 1) := by decide +kernel
theorem dX5_turbine_1 : decode cX5_turbine 1 = .ok (.invokestatic 76, 3) := by decide +kernel
theorem dX5_turbine_4 : decode cX5_turbine 4 = .ok (.ifCond .eq 24, 3) := by decide +kernel
theorem dX5_turbine_7 : decode cX5_turbine 7 = .ok (.iload_n 2, 1) := by decide +kernel
theorem dX5_turbine_8 : decode cX5_turbine 8 = .ok (.iconst 1, 1) := by decide +kernel
theorem dX5_turbine_9 : decode cX5_turbine 9 = .ok (.bipush 40, 2) := by decide +kernel
theorem dX5_turbine_11 : decode cX5_turbine 11 = .ok (.invokestatic 48, 3) := by decide +kernel
theorem dX5_turbine_14 : decode cX5_turbine 14 = .ok (.ifCond .eq 14, 3) := by decide +kernel
theorem dX5_turbine_17 : decode cX5_turbine 17 = .ok (.iload_n 3, 1) := by decide +kernel
theorem dX5_turbine_18 : decode cX5_turbine 18 = .ok (.iconst 1, 1) := by decide +kernel
theorem dX5_turbine_19 : decode cX5_turbine 19 = .ok (.sipush 2000, 3) := by decide +kernel
theorem dX5_turbine_22 : decode cX5_turbine 22 = .ok (.invokestatic 48, 3) := by decide +kernel
theorem dX5_turbine_25 : decode cX5_turbine 25 = .ok (.ifCond .ne 5, 3) := by decide +kernel
theorem dX5_turbine_28 : decode cX5_turbine 28 = .ok (.iconst (-1), 1) := by decide +kernel
theorem dX5_turbine_29 : decode cX5_turbine 29 = .ok (.ireturn, 1) := by decide +kernel
theorem dX5_turbine_30 : decode cX5_turbine 30 = .ok (.aload_n 0, 1) := by decide +kernel
theorem dX5_turbine_31 : decode cX5_turbine 31 = .ok (.getfield 19, 3) := by decide +kernel
theorem dX5_turbine_34 : decode cX5_turbine 34 = .ok (.getfield 95, 3) := by decide +kernel
theorem dX5_turbine_37 : decode cX5_turbine 37 = .ok (.iconst 4, 1) := by decide +kernel
theorem dX5_turbine_38 : decode cX5_turbine 38 = .ok (.if_icmp .lt 6, 3) := by decide +kernel
theorem dX5_turbine_41 : decode cX5_turbine 41 = .ok (.bipush (-3), 2) := by decide +kernel
theorem dX5_turbine_43 : decode cX5_turbine 43 = .ok (.ireturn, 1) := by decide +kernel
theorem dX5_turbine_44 : decode cX5_turbine 44 = .ok (.aload_n 0, 1) := by decide +kernel
theorem dX5_turbine_45 : decode cX5_turbine 45 = .ok (.getfield 19, 3) := by decide +kernel
theorem dX5_turbine_48 : decode cX5_turbine 48 = .ok (.iload_n 1, 1) := by decide +kernel
theorem dX5_turbine_49 : decode cX5_turbine 49 = .ok (.iload_n 2, 1) := by decide +kernel
theorem dX5_turbine_50 : decode cX5_turbine 50 = .ok (.iload_n 3, 1) := by decide +kernel
theorem dX5_turbine_51 : decode cX5_turbine 51 = .ok (.invokevirtual 96, 3) := by decide +kernel
theorem dX5_turbine_54 : decode cX5_turbine 54 = .ok (.ireturn, 1) := by decide +kernel
set_option maxRecDepth 20000 in
theorem ggX5_on_X5_within : GoodIn wsX5_on wsX5_within := goodIn_r _ [7] (by decide +kernel) (by decide +kernel)
set_option maxRecDepth 20000 in
theorem gX5_on_X5_within : GoodIn wsX5_on (va_wsS RX5 48 yX5_within wsX5_within) := goodIn_app (goodIn_of _ (by decide +kernel)) ggX5_on_X5_within
theorem dX5_on_0 : decode cX5_on 0 = .ok (.iload_n 1, 1) := by decide +kernel
theorem dX5_on_1 : decode cX5_on 1 = .ok (.iconst 0, 1) := by decide +kernel
theorem dX5_on_2 : decode cX5_on 2 = .ok (.aload_n 0, 1) := by decide +kernel
theorem dX5_on_3 : decode cX5_on 3 = .ok (.getfield 19, 3) := by decide +kernel
theorem dX5_on_6 : decode cX5_on 6 = .ok (.getfield 95, 3) := by decide +kernel
theorem dX5_on_9 : decode cX5_on 9 = .ok (.iconst 1, 1) := by decide +kernel
theorem dX5_on_10 : decode cX5_on 10 = .ok (.isub, 1) := by decide +kernel
theorem dX5_on_11 : decode cX5_on 11 = .ok (.invokestatic 48, 3) := by decide +kernel
theorem dX5_on_14 : decode cX5_on 14 = .ok (.ifCond .ne 5, 3) := by decide +kernel
theorem dX5_on_17 : decode cX5_on 17 = .ok (.iconst (-1), 1) := by decide +kernel
theorem dX5_on_18 : decode cX5_on 18 = .ok (.ireturn, 1) := by decide +kernel
theorem dX5_on_19 : decode cX5_on 19 = .ok (.aload_n 0, 1) := by decide +kernel
theorem dX5_on_20 : decode cX5_on 20 = .ok (.getfield 19, 3) := by decide +kernel
theorem dX5_on_23 : decode cX5_on 23 = .ok (.getfield 99, 3) := by decide +kernel
theorem dX5_on_26 : decode cX5_on 26 = .ok (.iload_n 1, 1) := by decide +kernel
theorem dX5_on_27 : decode cX5_on 27 = .ok (.baload, 1) := by decide +kernel
theorem dX5_on_28 : decode cX5_on 28 = .ok (.istore_n 3, 1) := by decide +kernel
theorem dX5_on_29 : decode cX5_on 29 = .ok (.aload_n 0, 1) := by decide +kernel
theorem dX5_on_30 : decode cX5_on 30 = .ok (.getfield 19, 3) := by decide +kernel
theorem dX5_on_33 : decode cX5_on 33 = .ok (.getfield 99, 3) := by decide +kernel
theorem dX5_on_36 : decode cX5_on 36 = .ok (.iload_n 1, 1) := by decide +kernel
theorem dX5_on_37 : decode cX5_on 37 = .ok (.iload_n 2, 1) := by decide +kernel
theorem dX5_on_38 : decode cX5_on 38 = .ok (.bastore, 1) := by decide +kernel
theorem dX5_on_39 : decode cX5_on 39 = .ok (.iload_n 3, 1) := by decide +kernel
theorem dX5_on_40 : decode cX5_on 40 = .ok (.ifCond .eq 7, 3) := by decide +kernel
theorem dX5_on_43 : decode cX5_on 43 = .ok (.iconst 1, 1) := by decide +kernel
theorem dX5_on_44 : decode cX5_on 44 = .ok (.goto 4, 3) := by decide +kernel
theorem dX5_on_47 : decode cX5_on 47 = .ok (.iconst 0, 1) := by decide +kernel
theorem dX5_on_48 : decode cX5_on 48 = .ok (.ireturn, 1) := by decide +kernel
set_option maxRecDepth 20000 in
theorem ggX5_at_X5_within : GoodIn wsX5_at wsX5_within := goodIn_r _ [6] (by decide +kernel) (by decide +kernel)
set_option maxRecDepth 20000 in
theorem gX5_at_X5_within : GoodIn wsX5_at (va_wsS RX5 48 yX5_within wsX5_within) := goodIn_app (goodIn_of _ (by decide +kernel)) ggX5_at_X5_within
set_option maxRecDepth 20000 in
theorem ggX5_at_X5_isPressure : GoodIn wsX5_at wsX5_isPressure := goodIn_r _ [9, 3, 4, 5, 6] (by decide +kernel) (by decide +kernel)
set_option maxRecDepth 20000 in
theorem gX5_at_X5_isPressure : GoodIn wsX5_at (va_wsS RX5 76 yX5_isPressure wsX5_isPressure) := goodIn_app (goodIn_of _ (by decide +kernel)) ggX5_at_X5_isPressure
set_option maxRecDepth 20000 in
theorem ggX5_at_X4_supply : GoodIn wsX5_at wsX4_supply := goodIn_r _ [14, 15, 16, 17, 18, 19, 13, 20, 21, 22, 23, 24, 25, 26, 27, 28, 29, 30, 31, 32, 33, 34, 35, 36, 37, 38, 39, 40, 62, 63, 64, 65, 66, 67] (by decide +kernel) (by decide +kernel)
set_option maxRecDepth 20000 in
theorem gX5_at_X4_supply : GoodIn wsX5_at (wsV RX5 102 RX4 yX4_supply wsX4_supply) := goodIn_app (goodIn_of _ (by decide +kernel)) ggX5_at_X4_supply
set_option maxRecDepth 20000 in
theorem ggX5_at_X3_draw : GoodIn wsX5_at wsX3_draw := goodIn_r _ [45, 46, 47, 48, 49, 50, 51, 35, 36, 37, 68, 69, 70, 71, 72] (by decide +kernel) (by decide +kernel)
set_option maxRecDepth 20000 in
theorem gX5_at_X3_draw : GoodIn wsX5_at (wsV RX5 105 RX3 yX3_draw wsX3_draw) := goodIn_app (goodIn_of _ (by decide +kernel)) ggX5_at_X3_draw
set_option maxRecDepth 20000 in
theorem ggX5_at_X4_water : GoodIn wsX5_at wsX4_water := goodIn_r _ [55, 15, 16, 17, 18, 19, 13, 20, 21, 22, 23, 24, 25, 26, 27, 28, 29, 30, 31, 32, 33, 34, 35, 36, 37, 38, 39, 40, 62, 63, 64, 65, 66, 67] (by decide +kernel) (by decide +kernel)
set_option maxRecDepth 20000 in
theorem gX5_at_X4_water : GoodIn wsX5_at (wsV RX5 108 RX4 yX4_water wsX4_water) := goodIn_app (goodIn_of _ (by decide +kernel)) ggX5_at_X4_water
theorem dX5_at_0 : decode cX5_at 0 = .ok (.iload_n 1, 1) := by decide +kernel
theorem dX5_at_1 : decode cX5_at 1 = .ok (.iconst 0, 1) := by decide +kernel
theorem dX5_at_2 : decode cX5_at 2 = .ok (.iconst 2, 1) := by decide +kernel
theorem dX5_at_3 : decode cX5_at 3 = .ok (.invokestatic 48, 3) := by decide +kernel
theorem dX5_at_6 : decode cX5_at 6 = .ok (.ifCond .eq 10, 3) := by decide +kernel
theorem dX5_at_9 : decode cX5_at 9 = .ok (.iload_n 2, 1) := by decide +kernel
theorem dX5_at_10 : decode cX5_at 10 = .ok (.invokestatic 76, 3) := by decide +kernel
theorem dX5_at_13 : decode cX5_at 13 = .ok (.ifCond .ne 5, 3) := by decide +kernel
theorem dX5_at_16 : decode cX5_at 16 = .ok (.iconst (-1), 1) := by decide +kernel
theorem dX5_at_17 : decode cX5_at 17 = .ok (.ireturn, 1) := by decide +kernel
theorem dX5_at_18 : decode cX5_at 18 = .ok (.iload_n 1, 1) := by decide +kernel
theorem dX5_at_19 : decode cX5_at 19 = .ok (.lookupswitch 43 #[(0, 25), (1, 34)], 25) := by decide +kernel
theorem dX5_at_44 : decode cX5_at 44 = .ok (.aload_n 0, 1) := by decide +kernel
theorem dX5_at_45 : decode cX5_at 45 = .ok (.getfield 10, 3) := by decide +kernel
theorem dX5_at_48 : decode cX5_at 48 = .ok (.iload_n 2, 1) := by decide +kernel
theorem dX5_at_49 : decode cX5_at 49 = .ok (.invokevirtual 102, 3) := by decide +kernel
theorem dX5_at_52 : decode cX5_at 52 = .ok (.ireturn, 1) := by decide +kernel
theorem dX5_at_53 : decode cX5_at 53 = .ok (.aload_n 0, 1) := by decide +kernel
theorem dX5_at_54 : decode cX5_at 54 = .ok (.getfield 19, 3) := by decide +kernel
theorem dX5_at_57 : decode cX5_at 57 = .ok (.iload_n 2, 1) := by decide +kernel
theorem dX5_at_58 : decode cX5_at 58 = .ok (.invokevirtual 105, 3) := by decide +kernel
theorem dX5_at_61 : decode cX5_at 61 = .ok (.ireturn, 1) := by decide +kernel
theorem dX5_at_62 : decode cX5_at 62 = .ok (.aload_n 0, 1) := by decide +kernel
theorem dX5_at_63 : decode cX5_at 63 = .ok (.getfield 10, 3) := by decide +kernel
theorem dX5_at_66 : decode cX5_at 66 = .ok (.iload_n 2, 1) := by decide +kernel
theorem dX5_at_67 : decode cX5_at 67 = .ok (.invokevirtual 108, 3) := by decide +kernel
theorem dX5_at_70 : decode cX5_at 70 = .ok (.ireturn, 1) := by decide +kernel
set_option maxRecDepth 20000 in
theorem ggX5_point_X5_meeting : GoodIn wsX5_point wsX5_meeting := goodIn_r _ [5, 6, 7, 8, 9, 10, 11, 12, 13, 14, 15, 16, 17, 18, 19, 20, 21, 22, 23, 24, 25, 26, 27, 28, 29, 30, 31, 32, 33, 34, 35, 36, 37, 38, 39, 40, 41, 42, 43, 44, 45, 46, 47, 48, 49, 50, 51, 52, 53, 54, 55, 56, 57, 58, 59, 60, 61, 62, 63, 64, 65, 66] (by decide +kernel) (by decide +kernel)
set_option maxRecDepth 20000 in
theorem gX5_point_X5_meeting : GoodIn wsX5_point (wsV RX5 111 RX5 yX5_meeting wsX5_meeting) := goodIn_app (goodIn_of _ (by decide +kernel)) ggX5_point_X5_meeting
theorem dX5_point_0 : decode cX5_point 0 = .ok (.aload_n 0, 1) := by decide +kernel
theorem dX5_point_1 : decode cX5_point 1 = .ok (.invokevirtual 111, 3) := by decide +kernel
theorem dX5_point_4 : decode cX5_point 4 = .ok (.ireturn, 1) := by decide +kernel
set_option maxRecDepth 20000 in
theorem ggX5_fill_X5_isBox : GoodIn wsX5_fill wsX5_isBox := goodIn_r _ [8, 9, 10, 7, 11] (by decide +kernel) (by decide +kernel)
set_option maxRecDepth 20000 in
theorem gX5_fill_X5_isBox : GoodIn wsX5_fill (va_wsS RX5 115 yX5_isBox wsX5_isBox) := goodIn_app (goodIn_of _ (by decide +kernel)) ggX5_fill_X5_isBox
set_option maxRecDepth 20000 in
theorem ggX5_fill_X5_within : GoodIn wsX5_fill wsX5_within := goodIn_r _ [11] (by decide +kernel) (by decide +kernel)
set_option maxRecDepth 20000 in
theorem gX5_fill_X5_within : GoodIn wsX5_fill (va_wsS RX5 48 yX5_within wsX5_within) := goodIn_app (goodIn_of _ (by decide +kernel)) ggX5_fill_X5_within
theorem dX5_fill_0 : decode cX5_fill 0 = .ok (.iload_n 1, 1) := by decide +kernel
theorem dX5_fill_1 : decode cX5_fill 1 = .ok (.invokestatic 115, 3) := by decide +kernel
theorem dX5_fill_4 : decode cX5_fill 4 = .ok (.ifCond .eq 23, 3) := by decide +kernel
theorem dX5_fill_7 : decode cX5_fill 7 = .ok (.iload_n 2, 1) := by decide +kernel
theorem dX5_fill_8 : decode cX5_fill 8 = .ok (.iconst 0, 1) := by decide +kernel
theorem dX5_fill_9 : decode cX5_fill 9 = .ok (.ldc 118, 2) := by decide +kernel
theorem dX5_fill_11 : decode cX5_fill 11 = .ok (.invokestatic 48, 3) := by decide +kernel
theorem dX5_fill_14 : decode cX5_fill 14 = .ok (.ifCond .eq 13, 3) := by decide +kernel
theorem dX5_fill_17 : decode cX5_fill 17 = .ok (.iload_n 3, 1) := by decide +kernel
theorem dX5_fill_18 : decode cX5_fill 18 = .ok (.iconst 0, 1) := by decide +kernel
theorem dX5_fill_19 : decode cX5_fill 19 = .ok (.ldc 118, 2) := by decide +kernel
theorem dX5_fill_21 : decode cX5_fill 21 = .ok (.invokestatic 48, 3) := by decide +kernel
theorem dX5_fill_24 : decode cX5_fill 24 = .ok (.ifCond .ne 5, 3) := by decide +kernel
theorem dX5_fill_27 : decode cX5_fill 27 = .ok (.iconst (-1), 1) := by decide +kernel
theorem dX5_fill_28 : decode cX5_fill 28 = .ok (.ireturn, 1) := by decide +kernel
theorem dX5_fill_29 : decode cX5_fill 29 = .ok (.aload_n 0, 1) := by decide +kernel
theorem dX5_fill_30 : decode cX5_fill 30 = .ok (.getfield 26, 3) := by decide +kernel
theorem dX5_fill_33 : decode cX5_fill 33 = .ok (.getfield 119, 3) := by decide +kernel
theorem dX5_fill_36 : decode cX5_fill 36 = .ok (.iload_n 1, 1) := by decide +kernel
theorem dX5_fill_37 : decode cX5_fill 37 = .ok (.iload_n 2, 1) := by decide +kernel
theorem dX5_fill_38 : decode cX5_fill 38 = .ok (.i2l, 1) := by decide +kernel
theorem dX5_fill_39 : decode cX5_fill 39 = .ok (.lastore, 1) := by decide +kernel
theorem dX5_fill_40 : decode cX5_fill 40 = .ok (.aload_n 0, 1) := by decide +kernel
theorem dX5_fill_41 : decode cX5_fill 41 = .ok (.getfield 26, 3) := by decide +kernel
theorem dX5_fill_44 : decode cX5_fill 44 = .ok (.getfield 123, 3) := by decide +kernel
theorem dX5_fill_47 : decode cX5_fill 47 = .ok (.iload_n 1, 1) := by decide +kernel
theorem dX5_fill_48 : decode cX5_fill 48 = .ok (.iload_n 3, 1) := by decide +kernel
theorem dX5_fill_49 : decode cX5_fill 49 = .ok (.i2l, 1) := by decide +kernel
theorem dX5_fill_50 : decode cX5_fill 50 = .ok (.lastore, 1) := by decide +kernel
theorem dX5_fill_51 : decode cX5_fill 51 = .ok (.iconst 1, 1) := by decide +kernel
theorem dX5_fill_52 : decode cX5_fill 52 = .ok (.ireturn, 1) := by decide +kernel
set_option maxRecDepth 20000 in
theorem ggX5_set_X5_setLeak : GoodIn wsX5_set wsX5_setLeak := goodIn_r _ [5, 6, 7, 8, 9, 4, 10, 29, 30, 31, 32, 33, 34, 35, 36, 37, 38, 39, 40, 41] (by decide +kernel) (by decide +kernel)
set_option maxRecDepth 20000 in
theorem gX5_set_X5_setLeak : GoodIn wsX5_set (wsV RX5 126 RX5 yX5_setLeak wsX5_setLeak) := goodIn_app (goodIn_of _ (by decide +kernel)) ggX5_set_X5_setLeak
set_option maxRecDepth 20000 in
theorem ggX5_set_X5_setFeed : GoodIn wsX5_set wsX5_setFeed := goodIn_r _ [14, 6, 15, 16, 17, 4, 18, 8, 9, 10, 29, 30, 31, 32, 33, 34, 35, 36, 37, 38, 39, 40, 41] (by decide +kernel) (by decide +kernel)
set_option maxRecDepth 20000 in
theorem gX5_set_X5_setFeed : GoodIn wsX5_set (wsV RX5 129 RX5 yX5_setFeed wsX5_setFeed) := goodIn_app (goodIn_of _ (by decide +kernel)) ggX5_set_X5_setFeed
set_option maxRecDepth 20000 in
theorem ggX5_set_X5_setGivenShare : GoodIn wsX5_set wsX5_setGivenShare := goodIn_r _ [22, 6, 23, 8, 9, 4, 10, 29, 30, 31, 32, 33, 34, 35, 36, 37, 38, 39, 40, 41] (by decide +kernel) (by decide +kernel)
set_option maxRecDepth 20000 in
theorem gX5_set_X5_setGivenShare : GoodIn wsX5_set (wsV RX5 132 RX5 yX5_setGivenShare wsX5_setGivenShare) := goodIn_app (goodIn_of _ (by decide +kernel)) ggX5_set_X5_setGivenShare
set_option maxRecDepth 20000 in
theorem ggX5_set_X5_setGivenBox : GoodIn wsX5_set wsX5_setGivenBox := goodIn_r _ [27, 6, 28, 16, 17, 4, 18, 8, 9, 10, 29, 30, 31, 32, 33, 34, 35, 36, 37, 38, 39, 40, 41] (by decide +kernel) (by decide +kernel)
set_option maxRecDepth 20000 in
theorem gX5_set_X5_setGivenBox : GoodIn wsX5_set (wsV RX5 135 RX5 yX5_setGivenBox wsX5_setGivenBox) := goodIn_app (goodIn_of _ (by decide +kernel)) ggX5_set_X5_setGivenBox
theorem dX5_set_0 : decode cX5_set 0 = .ok (.iload_n 1, 1) := by decide +kernel
theorem dX5_set_1 : decode cX5_set 1 = .ok (.tableswitch 68 0 2 #[27, 34, 41], 27) := by decide +kernel
theorem dX5_set_28 : decode cX5_set 28 = .ok (.aload_n 0, 1) := by decide +kernel
theorem dX5_set_29 : decode cX5_set 29 = .ok (.iload_n 2, 1) := by decide +kernel
theorem dX5_set_30 : decode cX5_set 30 = .ok (.iload_n 3, 1) := by decide +kernel
theorem dX5_set_31 : decode cX5_set 31 = .ok (.invokevirtual 126, 3) := by decide +kernel
theorem dX5_set_34 : decode cX5_set 34 = .ok (.ireturn, 1) := by decide +kernel
theorem dX5_set_35 : decode cX5_set 35 = .ok (.aload_n 0, 1) := by decide +kernel
theorem dX5_set_36 : decode cX5_set 36 = .ok (.iload_n 2, 1) := by decide +kernel
theorem dX5_set_37 : decode cX5_set 37 = .ok (.iload_n 3, 1) := by decide +kernel
theorem dX5_set_38 : decode cX5_set 38 = .ok (.invokevirtual 129, 3) := by decide +kernel
theorem dX5_set_41 : decode cX5_set 41 = .ok (.ireturn, 1) := by decide +kernel
theorem dX5_set_42 : decode cX5_set 42 = .ok (.iload_n 2, 1) := by decide +kernel
theorem dX5_set_43 : decode cX5_set 43 = .ok (.ifCond .ne 11, 3) := by decide +kernel
theorem dX5_set_46 : decode cX5_set 46 = .ok (.aload_n 0, 1) := by decide +kernel
theorem dX5_set_47 : decode cX5_set 47 = .ok (.iload_n 3, 1) := by decide +kernel
theorem dX5_set_48 : decode cX5_set 48 = .ok (.invokevirtual 132, 3) := by decide +kernel
theorem dX5_set_51 : decode cX5_set 51 = .ok (.goto 17, 3) := by decide +kernel
theorem dX5_set_54 : decode cX5_set 54 = .ok (.iload_n 2, 1) := by decide +kernel
theorem dX5_set_55 : decode cX5_set 55 = .ok (.iconst 1, 1) := by decide +kernel
theorem dX5_set_56 : decode cX5_set 56 = .ok (.if_icmp .ne 11, 3) := by decide +kernel
theorem dX5_set_59 : decode cX5_set 59 = .ok (.aload_n 0, 1) := by decide +kernel
theorem dX5_set_60 : decode cX5_set 60 = .ok (.iload_n 3, 1) := by decide +kernel
theorem dX5_set_61 : decode cX5_set 61 = .ok (.invokevirtual 135, 3) := by decide +kernel
theorem dX5_set_64 : decode cX5_set 64 = .ok (.goto 4, 3) := by decide +kernel
theorem dX5_set_67 : decode cX5_set 67 = .ok (.iconst (-1), 1) := by decide +kernel
theorem dX5_set_68 : decode cX5_set 68 = .ok (.ireturn, 1) := by decide +kernel
theorem dX5_set_69 : decode cX5_set 69 = .ok (.iconst (-1), 1) := by decide +kernel
theorem dX5_set_70 : decode cX5_set 70 = .ok (.ireturn, 1) := by decide +kernel
set_option maxRecDepth 20000 in
theorem ggX5_year_X5_within : GoodIn wsX5_year wsX5_within := goodIn_r _ [6] (by decide +kernel) (by decide +kernel)
set_option maxRecDepth 20000 in
theorem gX5_year_X5_within : GoodIn wsX5_year (va_wsS RX5 48 yX5_within wsX5_within) := goodIn_app (goodIn_of _ (by decide +kernel)) ggX5_year_X5_within
set_option maxRecDepth 20000 in
theorem ggX5_year_X5_passYear : GoodIn wsX5_year wsX5_passYear := goodIn_r _ [10, 1, 2, 11, 12, 13, 14, 15, 5, 16, 17, 18, 19, 20, 21, 22, 23, 24, 25, 26, 27, 28, 29, 30, 31, 32, 33, 34, 35, 36, 37, 38, 39, 40, 41, 42, 43, 44, 45, 46, 47, 48, 49, 50, 51, 52, 53, 54, 55, 56, 57, 58, 59, 60, 61, 62, 63, 64, 65, 66, 67, 68, 69, 70, 71, 72, 73, 74, 75, 76, 77, 78, 79, 80, 81, 82, 83, 84, 85, 86, 87, 88, 89, 90, 91, 92, 93, 94, 95, 96, 97, 98, 99, 100, 101, 102, 103, 104, 105, 106, 107, 108, 109, 110, 111, 112, 113, 114, 115, 116, 117, 118, 119, 120, 121, 122, 123, 124, 125, 126, 127, 128, 129, 130, 131, 132, 133, 134, 135, 136] (by decide +kernel) (by decide +kernel)
set_option maxRecDepth 20000 in
theorem gX5_year_X5_passYear : GoodIn wsX5_year (wsV RX5 138 RX5 yX5_passYear wsX5_passYear) := goodIn_app (goodIn_of _ (by decide +kernel)) ggX5_year_X5_passYear
theorem dX5_year_0 : decode cX5_year 0 = .ok (.iload_n 1, 1) := by decide +kernel
theorem dX5_year_1 : decode cX5_year 1 = .ok (.iconst 1, 1) := by decide +kernel
theorem dX5_year_2 : decode cX5_year 2 = .ok (.bipush 20, 2) := by decide +kernel
theorem dX5_year_4 : decode cX5_year 4 = .ok (.invokestatic 48, 3) := by decide +kernel
theorem dX5_year_7 : decode cX5_year 7 = .ok (.ifCond .ne 5, 3) := by decide +kernel
theorem dX5_year_10 : decode cX5_year 10 = .ok (.iconst (-1), 1) := by decide +kernel
theorem dX5_year_11 : decode cX5_year 11 = .ok (.ireturn, 1) := by decide +kernel
theorem dX5_year_12 : decode cX5_year 12 = .ok (.iconst 0, 1) := by decide +kernel
theorem dX5_year_13 : decode cX5_year 13 = .ok (.istore_n 2, 1) := by decide +kernel
theorem dX5_year_14 : decode cX5_year 14 = .ok (.iload_n 2, 1) := by decide +kernel
theorem dX5_year_15 : decode cX5_year 15 = .ok (.iload_n 1, 1) := by decide +kernel
theorem dX5_year_16 : decode cX5_year 16 = .ok (.if_icmp .ge 13, 3) := by decide +kernel
theorem dX5_year_19 : decode cX5_year 19 = .ok (.aload_n 0, 1) := by decide +kernel
theorem dX5_year_20 : decode cX5_year 20 = .ok (.invokevirtual 138, 3) := by decide +kernel
theorem dX5_year_23 : decode cX5_year 23 = .ok (.iinc 2 1, 3) := by decide +kernel
theorem dX5_year_26 : decode cX5_year 26 = .ok (.goto (-12), 3) := by decide +kernel
theorem dX5_year_29 : decode cX5_year 29 = .ok (.aload_n 0, 1) := by decide +kernel
theorem dX5_year_30 : decode cX5_year 30 = .ok (.getfield 26, 3) := by decide +kernel
theorem dX5_year_33 : decode cX5_year 33 = .ok (.getfield 141, 3) := by decide +kernel
theorem dX5_year_36 : decode cX5_year 36 = .ok (.bipush 7, 2) := by decide +kernel
theorem dX5_year_38 : decode cX5_year 38 = .ok (.laload, 1) := by decide +kernel
theorem dX5_year_39 : decode cX5_year 39 = .ok (.l2i, 1) := by decide +kernel
theorem dX5_year_40 : decode cX5_year 40 = .ok (.ireturn, 1) := by decide +kernel
set_option maxRecDepth 20000 in
theorem ggX5_box_X5_isBox : GoodIn wsX5_box wsX5_isBox := goodIn_r _ [8, 9, 10, 7, 11] (by decide +kernel) (by decide +kernel)
set_option maxRecDepth 20000 in
theorem gX5_box_X5_isBox : GoodIn wsX5_box (va_wsS RX5 115 yX5_isBox wsX5_isBox) := goodIn_app (goodIn_of _ (by decide +kernel)) ggX5_box_X5_isBox
set_option maxRecDepth 20000 in
theorem ggX5_box_X5_within : GoodIn wsX5_box wsX5_within := goodIn_r _ [11] (by decide +kernel) (by decide +kernel)
set_option maxRecDepth 20000 in
theorem gX5_box_X5_within : GoodIn wsX5_box (va_wsS RX5 48 yX5_within wsX5_within) := goodIn_app (goodIn_of _ (by decide +kernel)) ggX5_box_X5_within
theorem dX5_box_0 : decode cX5_box 0 = .ok (.iload_n 1, 1) := by decide +kernel
theorem dX5_box_1 : decode cX5_box 1 = .ok (.invokestatic 115, 3) := by decide +kernel
theorem dX5_box_4 : decode cX5_box 4 = .ok (.ifCond .eq 12, 3) := by decide +kernel
theorem dX5_box_7 : decode cX5_box 7 = .ok (.iload_n 2, 1) := by decide +kernel
theorem dX5_box_8 : decode cX5_box 8 = .ok (.iconst 0, 1) := by decide +kernel
theorem dX5_box_9 : decode cX5_box 9 = .ok (.iconst 1, 1) := by decide +kernel
theorem dX5_box_10 : decode cX5_box 10 = .ok (.invokestatic 48, 3) := by decide +kernel
theorem dX5_box_13 : decode cX5_box 13 = .ok (.ifCond .ne 7, 3) := by decide +kernel
theorem dX5_box_16 : decode cX5_box 16 = .ok (.ldc2_w 144, 3) := by decide +kernel
theorem dX5_box_19 : decode cX5_box 19 = .ok (.lreturn, 1) := by decide +kernel
theorem dX5_box_20 : decode cX5_box 20 = .ok (.iload_n 2, 1) := by decide +kernel
theorem dX5_box_21 : decode cX5_box 21 = .ok (.ifCond .ne 15, 3) := by decide +kernel
theorem dX5_box_24 : decode cX5_box 24 = .ok (.aload_n 0, 1) := by decide +kernel
theorem dX5_box_25 : decode cX5_box 25 = .ok (.getfield 26, 3) := by decide +kernel
theorem dX5_box_28 : decode cX5_box 28 = .ok (.getfield 119, 3) := by decide +kernel
theorem dX5_box_31 : decode cX5_box 31 = .ok (.iload_n 1, 1) := by decide +kernel
theorem dX5_box_32 : decode cX5_box 32 = .ok (.laload, 1) := by decide +kernel
theorem dX5_box_33 : decode cX5_box 33 = .ok (.goto 12, 3) := by decide +kernel
theorem dX5_box_36 : decode cX5_box 36 = .ok (.aload_n 0, 1) := by decide +kernel
theorem dX5_box_37 : decode cX5_box 37 = .ok (.getfield 26, 3) := by decide +kernel
theorem dX5_box_40 : decode cX5_box 40 = .ok (.getfield 123, 3) := by decide +kernel
theorem dX5_box_43 : decode cX5_box 43 = .ok (.iload_n 1, 1) := by decide +kernel
theorem dX5_box_44 : decode cX5_box 44 = .ok (.laload, 1) := by decide +kernel
theorem dX5_box_45 : decode cX5_box 45 = .ok (.lreturn, 1) := by decide +kernel
set_option maxRecDepth 20000 in
theorem ggX5_sum_X5_within : GoodIn wsX5_sum wsX5_within := goodIn_r _ [7] (by decide +kernel) (by decide +kernel)
set_option maxRecDepth 20000 in
theorem gX5_sum_X5_within : GoodIn wsX5_sum (va_wsS RX5 48 yX5_within wsX5_within) := goodIn_app (goodIn_of _ (by decide +kernel)) ggX5_sum_X5_within
theorem dX5_sum_0 : decode cX5_sum 0 = .ok (.iload_n 1, 1) := by decide +kernel
theorem dX5_sum_1 : decode cX5_sum 1 = .ok (.iconst 0, 1) := by decide +kernel
theorem dX5_sum_2 : decode cX5_sum 2 = .ok (.bipush 8, 2) := by decide +kernel
theorem dX5_sum_4 : decode cX5_sum 4 = .ok (.invokestatic 48, 3) := by decide +kernel
theorem dX5_sum_7 : decode cX5_sum 7 = .ok (.ifCond .ne 7, 3) := by decide +kernel
theorem dX5_sum_10 : decode cX5_sum 10 = .ok (.ldc2_w 144, 3) := by decide +kernel
theorem dX5_sum_13 : decode cX5_sum 13 = .ok (.lreturn, 1) := by decide +kernel
theorem dX5_sum_14 : decode cX5_sum 14 = .ok (.aload_n 0, 1) := by decide +kernel
theorem dX5_sum_15 : decode cX5_sum 15 = .ok (.getfield 26, 3) := by decide +kernel
theorem dX5_sum_18 : decode cX5_sum 18 = .ok (.getfield 141, 3) := by decide +kernel
theorem dX5_sum_21 : decode cX5_sum 21 = .ok (.iload_n 1, 1) := by decide +kernel
theorem dX5_sum_22 : decode cX5_sum 22 = .ok (.laload, 1) := by decide +kernel
theorem dX5_sum_23 : decode cX5_sum 23 = .ok (.lreturn, 1) := by decide +kernel
set_option maxRecDepth 20000 in
theorem ggX5_share_X5_within : GoodIn wsX5_share wsX5_within := goodIn_r _ [6] (by decide +kernel) (by decide +kernel)
set_option maxRecDepth 20000 in
theorem gX5_share_X5_within : GoodIn wsX5_share (va_wsS RX5 48 yX5_within wsX5_within) := goodIn_app (goodIn_of _ (by decide +kernel)) ggX5_share_X5_within
set_option maxRecDepth 20000 in
theorem ggX5_share_X1_together : GoodIn wsX5_share wsX1_together := goodIn_r _ [11, 12, 19, 20, 21] (by decide +kernel) (by decide +kernel)
set_option maxRecDepth 20000 in
theorem gX5_share_X1_together : GoodIn wsX5_share (wsV RX5 149 RX1 yX1_together wsX1_together) := goodIn_app (goodIn_of _ (by decide +kernel)) ggX5_share_X1_together
theorem dX5_share_0 : decode cX5_share 0 = .ok (.iload_n 1, 1) := by decide +kernel
theorem dX5_share_1 : decode cX5_share 1 = .ok (.iconst 0, 1) := by decide +kernel
theorem dX5_share_2 : decode cX5_share 2 = .ok (.iconst 5, 1) := by decide +kernel
theorem dX5_share_3 : decode cX5_share 3 = .ok (.invokestatic 48, 3) := by decide +kernel
theorem dX5_share_6 : decode cX5_share 6 = .ok (.ifCond .eq 14, 3) := by decide +kernel
theorem dX5_share_9 : decode cX5_share 9 = .ok (.iload_n 2, 1) := by decide +kernel
theorem dX5_share_10 : decode cX5_share 10 = .ok (.iconst 0, 1) := by decide +kernel
theorem dX5_share_11 : decode cX5_share 11 = .ok (.sipush 1000, 3) := by decide +kernel
theorem dX5_share_14 : decode cX5_share 14 = .ok (.invokestatic 48, 3) := by decide +kernel
theorem dX5_share_17 : decode cX5_share 17 = .ok (.ifCond .ne 5, 3) := by decide +kernel
theorem dX5_share_20 : decode cX5_share 20 = .ok (.iconst (-1), 1) := by decide +kernel
theorem dX5_share_21 : decode cX5_share 21 = .ok (.ireturn, 1) := by decide +kernel
theorem dX5_share_22 : decode cX5_share 22 = .ok (.aload_n 0, 1) := by decide +kernel
theorem dX5_share_23 : decode cX5_share 23 = .ok (.getfield 33, 3) := by decide +kernel
theorem dX5_share_26 : decode cX5_share 26 = .ok (.getfield 146, 3) := by decide +kernel
theorem dX5_share_29 : decode cX5_share 29 = .ok (.iload_n 1, 1) := by decide +kernel
theorem dX5_share_30 : decode cX5_share 30 = .ok (.iaload, 1) := by decide +kernel
theorem dX5_share_31 : decode cX5_share 31 = .ok (.istore_n 3, 1) := by decide +kernel
theorem dX5_share_32 : decode cX5_share 32 = .ok (.aload_n 0, 1) := by decide +kernel
theorem dX5_share_33 : decode cX5_share 33 = .ok (.getfield 33, 3) := by decide +kernel
theorem dX5_share_36 : decode cX5_share 36 = .ok (.invokevirtual 149, 3) := by decide +kernel
theorem dX5_share_39 : decode cX5_share 39 = .ok (.iload_n 3, 1) := by decide +kernel
theorem dX5_share_40 : decode cX5_share 40 = .ok (.isub, 1) := by decide +kernel
theorem dX5_share_41 : decode cX5_share 41 = .ok (.iload_n 2, 1) := by decide +kernel
theorem dX5_share_42 : decode cX5_share 42 = .ok (.iadd, 1) := by decide +kernel
theorem dX5_share_43 : decode cX5_share 43 = .ok (.sipush 1000, 3) := by decide +kernel
theorem dX5_share_46 : decode cX5_share 46 = .ok (.if_icmp .le 5, 3) := by decide +kernel
theorem dX5_share_49 : decode cX5_share 49 = .ok (.iconst (-1), 1) := by decide +kernel
theorem dX5_share_50 : decode cX5_share 50 = .ok (.ireturn, 1) := by decide +kernel
theorem dX5_share_51 : decode cX5_share 51 = .ok (.aload_n 0, 1) := by decide +kernel
theorem dX5_share_52 : decode cX5_share 52 = .ok (.getfield 33, 3) := by decide +kernel
theorem dX5_share_55 : decode cX5_share 55 = .ok (.getfield 146, 3) := by decide +kernel
theorem dX5_share_58 : decode cX5_share 58 = .ok (.iload_n 1, 1) := by decide +kernel
theorem dX5_share_59 : decode cX5_share 59 = .ok (.iload_n 2, 1) := by decide +kernel
theorem dX5_share_60 : decode cX5_share 60 = .ok (.iastore, 1) := by decide +kernel
theorem dX5_share_61 : decode cX5_share 61 = .ok (.iload_n 3, 1) := by decide +kernel
theorem dX5_share_62 : decode cX5_share 62 = .ok (.ireturn, 1) := by decide +kernel
set_option maxRecDepth 20000 in
theorem ggX5_put_X5_within : GoodIn wsX5_put wsX5_within := goodIn_r _ [8] (by decide +kernel) (by decide +kernel)
set_option maxRecDepth 20000 in
theorem gX5_put_X5_within : GoodIn wsX5_put (va_wsS RX5 48 yX5_within wsX5_within) := goodIn_app (goodIn_of _ (by decide +kernel)) ggX5_put_X5_within
theorem dX5_put_0 : decode cX5_put 0 = .ok (.iload_n 1, 1) := by decide +kernel
theorem dX5_put_1 : decode cX5_put 1 = .ok (.iconst 0, 1) := by decide +kernel
theorem dX5_put_2 : decode cX5_put 2 = .ok (.ldc 152, 2) := by decide +kernel
theorem dX5_put_4 : decode cX5_put 4 = .ok (.invokestatic 48, 3) := by decide +kernel
theorem dX5_put_7 : decode cX5_put 7 = .ok (.ifCond .ne 5, 3) := by decide +kernel
theorem dX5_put_10 : decode cX5_put 10 = .ok (.iconst (-1), 1) := by decide +kernel
theorem dX5_put_11 : decode cX5_put 11 = .ok (.ireturn, 1) := by decide +kernel
theorem dX5_put_12 : decode cX5_put 12 = .ok (.aload_n 0, 1) := by decide +kernel
theorem dX5_put_13 : decode cX5_put 13 = .ok (.getfield 33, 3) := by decide +kernel
theorem dX5_put_16 : decode cX5_put 16 = .ok (.getfield 153, 3) := by decide +kernel
theorem dX5_put_19 : decode cX5_put 19 = .ok (.bipush 12, 2) := by decide +kernel
theorem dX5_put_21 : decode cX5_put 21 = .ok (.if_icmp .lt 6, 3) := by decide +kernel
theorem dX5_put_24 : decode cX5_put 24 = .ok (.bipush (-3), 2) := by decide +kernel
theorem dX5_put_26 : decode cX5_put 26 = .ok (.ireturn, 1) := by decide +kernel
theorem dX5_put_27 : decode cX5_put 27 = .ok (.aload_n 0, 1) := by decide +kernel
theorem dX5_put_28 : decode cX5_put 28 = .ok (.getfield 33, 3) := by decide +kernel
theorem dX5_put_31 : decode cX5_put 31 = .ok (.getfield 154, 3) := by decide +kernel
theorem dX5_put_34 : decode cX5_put 34 = .ok (.aload_n 0, 1) := by decide +kernel
theorem dX5_put_35 : decode cX5_put 35 = .ok (.getfield 33, 3) := by decide +kernel
theorem dX5_put_38 : decode cX5_put 38 = .ok (.getfield 153, 3) := by decide +kernel
theorem dX5_put_41 : decode cX5_put 41 = .ok (.iload_n 1, 1) := by decide +kernel
theorem dX5_put_42 : decode cX5_put 42 = .ok (.iastore, 1) := by decide +kernel
theorem dX5_put_43 : decode cX5_put 43 = .ok (.aload_n 0, 1) := by decide +kernel
theorem dX5_put_44 : decode cX5_put 44 = .ok (.getfield 33, 3) := by decide +kernel
theorem dX5_put_47 : decode cX5_put 47 = .ok (.dup, 1) := by decide +kernel
theorem dX5_put_48 : decode cX5_put 48 = .ok (.getfield 153, 3) := by decide +kernel
theorem dX5_put_51 : decode cX5_put 51 = .ok (.iconst 1, 1) := by decide +kernel
theorem dX5_put_52 : decode cX5_put 52 = .ok (.iadd, 1) := by decide +kernel
theorem dX5_put_53 : decode cX5_put 53 = .ok (.putfield 153, 3) := by decide +kernel
theorem dX5_put_56 : decode cX5_put 56 = .ok (.aload_n 0, 1) := by decide +kernel
theorem dX5_put_57 : decode cX5_put 57 = .ok (.getfield 33, 3) := by decide +kernel
theorem dX5_put_60 : decode cX5_put 60 = .ok (.getfield 153, 3) := by decide +kernel
theorem dX5_put_63 : decode cX5_put 63 = .ok (.ireturn, 1) := by decide +kernel
set_option maxRecDepth 20000 in
theorem ggX5_back_X5_within : GoodIn wsX5_back wsX5_within := goodIn_r _ [5] (by decide +kernel) (by decide +kernel)
set_option maxRecDepth 20000 in
theorem gX5_back_X5_within : GoodIn wsX5_back (va_wsS RX5 48 yX5_within wsX5_within) := goodIn_app (goodIn_of _ (by decide +kernel)) ggX5_back_X5_within
set_option maxRecDepth 20000 in
theorem ggX5_back_X1_comes : GoodIn wsX5_back wsX1_comes := goodIn_r _ [10, 11, 12, 13, 20, 21, 22] (by decide +kernel) (by decide +kernel)
set_option maxRecDepth 20000 in
theorem gX5_back_X1_comes : GoodIn wsX5_back (wsV RX5 157 RX1 yX1_comes wsX1_comes) := goodIn_app (goodIn_of _ (by decide +kernel)) ggX5_back_X1_comes
theorem dX5_back_0 : decode cX5_back 0 = .ok (.iload_n 1, 1) := by decide +kernel
theorem dX5_back_1 : decode cX5_back 1 = .ok (.iconst 0, 1) := by decide +kernel
theorem dX5_back_2 : decode cX5_back 2 = .ok (.bipush 16, 2) := by decide +kernel
theorem dX5_back_4 : decode cX5_back 4 = .ok (.invokestatic 48, 3) := by decide +kernel
theorem dX5_back_7 : decode cX5_back 7 = .ok (.ifCond .ne 5, 3) := by decide +kernel
theorem dX5_back_10 : decode cX5_back 10 = .ok (.iconst (-1), 1) := by decide +kernel
theorem dX5_back_11 : decode cX5_back 11 = .ok (.ireturn, 1) := by decide +kernel
theorem dX5_back_12 : decode cX5_back 12 = .ok (.aload_n 0, 1) := by decide +kernel
theorem dX5_back_13 : decode cX5_back 13 = .ok (.getfield 33, 3) := by decide +kernel
theorem dX5_back_16 : decode cX5_back 16 = .ok (.iload_n 1, 1) := by decide +kernel
theorem dX5_back_17 : decode cX5_back 17 = .ok (.invokevirtual 157, 3) := by decide +kernel
theorem dX5_back_20 : decode cX5_back 20 = .ok (.ireturn, 1) := by decide +kernel
theorem dX5_cut_0 : decode cX5_cut 0 = .ok (.aload_n 0, 1) := by decide +kernel
theorem dX5_cut_1 : decode cX5_cut 1 = .ok (.getfield 33, 3) := by decide +kernel
theorem dX5_cut_4 : decode cX5_cut 4 = .ok (.getfield 153, 3) := by decide +kernel
theorem dX5_cut_7 : decode cX5_cut 7 = .ok (.ifCond .gt 6, 3) := by decide +kernel
theorem dX5_cut_10 : decode cX5_cut 10 = .ok (.bipush (-2), 2) := by decide +kernel
theorem dX5_cut_12 : decode cX5_cut 12 = .ok (.ireturn, 1) := by decide +kernel
theorem dX5_cut_13 : decode cX5_cut 13 = .ok (.aload_n 0, 1) := by decide +kernel
theorem dX5_cut_14 : decode cX5_cut 14 = .ok (.getfield 33, 3) := by decide +kernel
theorem dX5_cut_17 : decode cX5_cut 17 = .ok (.dup, 1) := by decide +kernel
theorem dX5_cut_18 : decode cX5_cut 18 = .ok (.getfield 153, 3) := by decide +kernel
theorem dX5_cut_21 : decode cX5_cut 21 = .ok (.iconst 1, 1) := by decide +kernel
theorem dX5_cut_22 : decode cX5_cut 22 = .ok (.isub, 1) := by decide +kernel
theorem dX5_cut_23 : decode cX5_cut 23 = .ok (.putfield 153, 3) := by decide +kernel
theorem dX5_cut_26 : decode cX5_cut 26 = .ok (.aload_n 0, 1) := by decide +kernel
theorem dX5_cut_27 : decode cX5_cut 27 = .ok (.getfield 33, 3) := by decide +kernel
theorem dX5_cut_30 : decode cX5_cut 30 = .ok (.getfield 153, 3) := by decide +kernel
theorem dX5_cut_33 : decode cX5_cut 33 = .ok (.ireturn, 1) := by decide +kernel
set_option maxRecDepth 20000 in
theorem ggX5_candidate_X5_within : GoodIn wsX5_candidate wsX5_within := goodIn_r _ [6] (by decide +kernel) (by decide +kernel)
set_option maxRecDepth 20000 in
theorem gX5_candidate_X5_within : GoodIn wsX5_candidate (va_wsS RX5 48 yX5_within wsX5_within) := goodIn_app (goodIn_of _ (by decide +kernel)) ggX5_candidate_X5_within
set_option maxRecDepth 20000 in
theorem ggX5_candidate_X5_isPlanYear : GoodIn wsX5_candidate wsX5_isPlanYear := goodIn_r _ [9, 3, 4, 5, 6] (by decide +kernel) (by decide +kernel)
set_option maxRecDepth 20000 in
theorem gX5_candidate_X5_isPlanYear : GoodIn wsX5_candidate (va_wsS RX5 160 yX5_isPlanYear wsX5_isPlanYear) := goodIn_app (goodIn_of _ (by decide +kernel)) ggX5_candidate_X5_isPlanYear
set_option maxRecDepth 20000 in
theorem ggX5_candidate_X2_add : GoodIn wsX5_candidate wsX2_add := goodIn_r _ [14, 15, 16, 17, 18, 25, 26, 27, 28, 29] (by decide +kernel) (by decide +kernel)
set_option maxRecDepth 20000 in
theorem gX5_candidate_X2_add : GoodIn wsX5_candidate (wsV RX5 164 RX2 yX2_add wsX2_add) := goodIn_app (goodIn_of _ (by decide +kernel)) ggX5_candidate_X2_add
theorem dX5_candidate_0 : decode cX5_candidate 0 = .ok (.iload_n 1, 1) := by decide +kernel
theorem dX5_candidate_1 : decode cX5_candidate 1 = .ok (.iconst 1, 1) := by decide +kernel
theorem dX5_candidate_2 : decode cX5_candidate 2 = .ok (.sipush 1000, 3) := by decide +kernel
theorem dX5_candidate_5 : decode cX5_candidate 5 = .ok (.invokestatic 48, 3) := by decide +kernel
theorem dX5_candidate_8 : decode cX5_candidate 8 = .ok (.ifCond .eq 21, 3) := by decide +kernel
theorem dX5_candidate_11 : decode cX5_candidate 11 = .ok (.iload_n 2, 1) := by decide +kernel
theorem dX5_candidate_12 : decode cX5_candidate 12 = .ok (.invokestatic 160, 3) := by decide +kernel
theorem dX5_candidate_15 : decode cX5_candidate 15 = .ok (.ifCond .eq 14, 3) := by decide +kernel
theorem dX5_candidate_18 : decode cX5_candidate 18 = .ok (.iload_n 3, 1) := by decide +kernel
theorem dX5_candidate_19 : decode cX5_candidate 19 = .ok (.iconst 1, 1) := by decide +kernel
theorem dX5_candidate_20 : decode cX5_candidate 20 = .ok (.sipush 500, 3) := by decide +kernel
theorem dX5_candidate_23 : decode cX5_candidate 23 = .ok (.invokestatic 48, 3) := by decide +kernel
theorem dX5_candidate_26 : decode cX5_candidate 26 = .ok (.ifCond .ne 5, 3) := by decide +kernel
theorem dX5_candidate_29 : decode cX5_candidate 29 = .ok (.iconst (-1), 1) := by decide +kernel
theorem dX5_candidate_30 : decode cX5_candidate 30 = .ok (.ireturn, 1) := by decide +kernel
theorem dX5_candidate_31 : decode cX5_candidate 31 = .ok (.aload_n 0, 1) := by decide +kernel
theorem dX5_candidate_32 : decode cX5_candidate 32 = .ok (.getfield 40, 3) := by decide +kernel
theorem dX5_candidate_35 : decode cX5_candidate 35 = .ok (.getfield 163, 3) := by decide +kernel
theorem dX5_candidate_38 : decode cX5_candidate 38 = .ok (.bipush 8, 2) := by decide +kernel
theorem dX5_candidate_40 : decode cX5_candidate 40 = .ok (.if_icmp .lt 6, 3) := by decide +kernel
theorem dX5_candidate_43 : decode cX5_candidate 43 = .ok (.bipush (-3), 2) := by decide +kernel
theorem dX5_candidate_45 : decode cX5_candidate 45 = .ok (.ireturn, 1) := by decide +kernel
theorem dX5_candidate_46 : decode cX5_candidate 46 = .ok (.aload_n 0, 1) := by decide +kernel
theorem dX5_candidate_47 : decode cX5_candidate 47 = .ok (.getfield 40, 3) := by decide +kernel
theorem dX5_candidate_50 : decode cX5_candidate 50 = .ok (.iload_n 1, 1) := by decide +kernel
theorem dX5_candidate_51 : decode cX5_candidate 51 = .ok (.iload_n 2, 1) := by decide +kernel
theorem dX5_candidate_52 : decode cX5_candidate 52 = .ok (.iload_n 3, 1) := by decide +kernel
theorem dX5_candidate_53 : decode cX5_candidate 53 = .ok (.invokevirtual 164, 3) := by decide +kernel
theorem dX5_candidate_56 : decode cX5_candidate 56 = .ok (.ireturn, 1) := by decide +kernel
set_option maxRecDepth 20000 in
theorem ggX5_promise_X5_isPlanYear : GoodIn wsX5_promise wsX5_isPlanYear := goodIn_r _ [6, 7, 8, 5, 9] (by decide +kernel) (by decide +kernel)
set_option maxRecDepth 20000 in
theorem gX5_promise_X5_isPlanYear : GoodIn wsX5_promise (va_wsS RX5 160 yX5_isPlanYear wsX5_isPlanYear) := goodIn_app (goodIn_of _ (by decide +kernel)) ggX5_promise_X5_isPlanYear
set_option maxRecDepth 20000 in
theorem ggX5_promise_X5_within : GoodIn wsX5_promise wsX5_within := goodIn_r _ [9] (by decide +kernel) (by decide +kernel)
set_option maxRecDepth 20000 in
theorem gX5_promise_X5_within : GoodIn wsX5_promise (va_wsS RX5 48 yX5_within wsX5_within) := goodIn_app (goodIn_of _ (by decide +kernel)) ggX5_promise_X5_within
theorem dX5_promise_0 : decode cX5_promise 0 = .ok (.iload_n 1, 1) := by decide +kernel
theorem dX5_promise_1 : decode cX5_promise 1 = .ok (.invokestatic 160, 3) := by decide +kernel
theorem dX5_promise_4 : decode cX5_promise 4 = .ok (.ifCond .eq 14, 3) := by decide +kernel
theorem dX5_promise_7 : decode cX5_promise 7 = .ok (.iload_n 2, 1) := by decide +kernel
theorem dX5_promise_8 : decode cX5_promise 8 = .ok (.iconst 0, 1) := by decide +kernel
theorem dX5_promise_9 : decode cX5_promise 9 = .ok (.sipush 3000, 3) := by decide +kernel
theorem dX5_promise_12 : decode cX5_promise 12 = .ok (.invokestatic 48, 3) := by decide +kernel
theorem dX5_promise_15 : decode cX5_promise 15 = .ok (.ifCond .ne 5, 3) := by decide +kernel
theorem dX5_promise_18 : decode cX5_promise 18 = .ok (.iconst (-1), 1) := by decide +kernel
theorem dX5_promise_19 : decode cX5_promise 19 = .ok (.ireturn, 1) := by decide +kernel
theorem dX5_promise_20 : decode cX5_promise 20 = .ok (.aload_n 0, 1) := by decide +kernel
theorem dX5_promise_21 : decode cX5_promise 21 = .ok (.getfield 40, 3) := by decide +kernel
theorem dX5_promise_24 : decode cX5_promise 24 = .ok (.getfield 165, 3) := by decide +kernel
theorem dX5_promise_27 : decode cX5_promise 27 = .ok (.iload_n 1, 1) := by decide +kernel
theorem dX5_promise_28 : decode cX5_promise 28 = .ok (.iaload, 1) := by decide +kernel
theorem dX5_promise_29 : decode cX5_promise 29 = .ok (.istore_n 3, 1) := by decide +kernel
theorem dX5_promise_30 : decode cX5_promise 30 = .ok (.aload_n 0, 1) := by decide +kernel
theorem dX5_promise_31 : decode cX5_promise 31 = .ok (.getfield 40, 3) := by decide +kernel
theorem dX5_promise_34 : decode cX5_promise 34 = .ok (.getfield 165, 3) := by decide +kernel
theorem dX5_promise_37 : decode cX5_promise 37 = .ok (.iload_n 1, 1) := by decide +kernel
theorem dX5_promise_38 : decode cX5_promise 38 = .ok (.iload_n 2, 1) := by decide +kernel
theorem dX5_promise_39 : decode cX5_promise 39 = .ok (.iastore, 1) := by decide +kernel
theorem dX5_promise_40 : decode cX5_promise 40 = .ok (.iload_n 3, 1) := by decide +kernel
theorem dX5_promise_41 : decode cX5_promise 41 = .ok (.ireturn, 1) := by decide +kernel
set_option maxRecDepth 20000 in
theorem ggX5_plan_X5_within : GoodIn wsX5_plan wsX5_within := goodIn_r _ [5] (by decide +kernel) (by decide +kernel)
set_option maxRecDepth 20000 in
theorem gX5_plan_X5_within : GoodIn wsX5_plan (va_wsS RX5 48 yX5_within wsX5_within) := goodIn_app (goodIn_of _ (by decide +kernel)) ggX5_plan_X5_within
set_option maxRecDepth 20000 in
theorem ggX5_plan_X2_cheapest : GoodIn wsX5_plan wsX2_cheapest := goodIn_r _ [10, 11, 12, 13, 9, 14, 15, 16, 17, 18, 19, 20, 21, 22, 23, 24, 25, 26, 27, 28, 29, 30, 31, 32, 33, 34, 35, 43, 44, 45, 46, 47] (by decide +kernel) (by decide +kernel)
set_option maxRecDepth 20000 in
theorem gX5_plan_X2_cheapest : GoodIn wsX5_plan (wsV RX5 168 RX2 yX2_cheapest wsX2_cheapest) := goodIn_app (goodIn_of _ (by decide +kernel)) ggX5_plan_X2_cheapest
set_option maxRecDepth 20000 in
theorem ggX5_plan_X2_price : GoodIn wsX5_plan wsX2_price := goodIn_r _ [19, 15, 20, 43, 44, 45, 46, 47] (by decide +kernel) (by decide +kernel)
set_option maxRecDepth 20000 in
theorem gX5_plan_X2_price : GoodIn wsX5_plan (wsV RX5 171 RX2 yX2_price wsX2_price) := goodIn_app (goodIn_of _ (by decide +kernel)) ggX5_plan_X2_price
theorem dX5_plan_0 : decode cX5_plan 0 = .ok (.iload_n 1, 1) := by decide +kernel
theorem dX5_plan_1 : decode cX5_plan 1 = .ok (.iconst 0, 1) := by decide +kernel
theorem dX5_plan_2 : decode cX5_plan 2 = .ok (.iconst 1, 1) := by decide +kernel
theorem dX5_plan_3 : decode cX5_plan 3 = .ok (.invokestatic 48, 3) := by decide +kernel
theorem dX5_plan_6 : decode cX5_plan 6 = .ok (.ifCond .ne 5, 3) := by decide +kernel
theorem dX5_plan_9 : decode cX5_plan 9 = .ok (.iconst (-1), 1) := by decide +kernel
theorem dX5_plan_10 : decode cX5_plan 10 = .ok (.ireturn, 1) := by decide +kernel
theorem dX5_plan_11 : decode cX5_plan 11 = .ok (.aload_n 0, 1) := by decide +kernel
theorem dX5_plan_12 : decode cX5_plan 12 = .ok (.getfield 40, 3) := by decide +kernel
theorem dX5_plan_15 : decode cX5_plan 15 = .ok (.invokevirtual 168, 3) := by decide +kernel
theorem dX5_plan_18 : decode cX5_plan 18 = .ok (.istore_n 2, 1) := by decide +kernel
theorem dX5_plan_19 : decode cX5_plan 19 = .ok (.iload_n 2, 1) := by decide +kernel
theorem dX5_plan_20 : decode cX5_plan 20 = .ok (.bipush (-9), 2) := by decide +kernel
theorem dX5_plan_22 : decode cX5_plan 22 = .ok (.if_icmp .ne 6, 3) := by decide +kernel
theorem dX5_plan_25 : decode cX5_plan 25 = .ok (.bipush (-9), 2) := by decide +kernel
theorem dX5_plan_27 : decode cX5_plan 27 = .ok (.ireturn, 1) := by decide +kernel
theorem dX5_plan_28 : decode cX5_plan 28 = .ok (.iload_n 1, 1) := by decide +kernel
theorem dX5_plan_29 : decode cX5_plan 29 = .ok (.ifCond .ne 7, 3) := by decide +kernel
theorem dX5_plan_32 : decode cX5_plan 32 = .ok (.iload_n 2, 1) := by decide +kernel
theorem dX5_plan_33 : decode cX5_plan 33 = .ok (.goto 11, 3) := by decide +kernel
theorem dX5_plan_36 : decode cX5_plan 36 = .ok (.aload_n 0, 1) := by decide +kernel
theorem dX5_plan_37 : decode cX5_plan 37 = .ok (.getfield 40, 3) := by decide +kernel
theorem dX5_plan_40 : decode cX5_plan 40 = .ok (.iload_n 2, 1) := by decide +kernel
theorem dX5_plan_41 : decode cX5_plan 41 = .ok (.invokevirtual 171, 3) := by decide +kernel
theorem dX5_plan_44 : decode cX5_plan 44 = .ok (.ireturn, 1) := by decide +kernel
set_option maxRecDepth 20000 in
theorem ggX5_lacks_X2_sets : GoodIn wsX5_lacks wsX2_sets := goodIn_r _ [6, 7, 32, 33, 34, 35, 36] (by decide +kernel) (by decide +kernel)
set_option maxRecDepth 20000 in
theorem gX5_lacks_X2_sets : GoodIn wsX5_lacks (wsV RX5 174 RX2 yX2_sets wsX2_sets) := goodIn_app (goodIn_of _ (by decide +kernel)) ggX5_lacks_X2_sets
set_option maxRecDepth 20000 in
theorem ggX5_lacks_X5_within : GoodIn wsX5_lacks wsX5_within := goodIn_r _ [11] (by decide +kernel) (by decide +kernel)
set_option maxRecDepth 20000 in
theorem gX5_lacks_X5_within : GoodIn wsX5_lacks (va_wsS RX5 48 yX5_within wsX5_within) := goodIn_app (goodIn_of _ (by decide +kernel)) ggX5_lacks_X5_within
set_option maxRecDepth 20000 in
theorem ggX5_lacks_X5_isPlanYear : GoodIn wsX5_lacks wsX5_isPlanYear := goodIn_r _ [14, 8, 9, 10, 11] (by decide +kernel) (by decide +kernel)
set_option maxRecDepth 20000 in
theorem gX5_lacks_X5_isPlanYear : GoodIn wsX5_lacks (va_wsS RX5 160 yX5_isPlanYear wsX5_isPlanYear) := goodIn_app (goodIn_of _ (by decide +kernel)) ggX5_lacks_X5_isPlanYear
set_option maxRecDepth 20000 in
theorem ggX5_lacks_X2_missing : GoodIn wsX5_lacks wsX2_missing := goodIn_r _ [18, 7, 19, 20, 21, 22, 23, 24, 25, 32, 33, 34, 35, 36] (by decide +kernel) (by decide +kernel)
set_option maxRecDepth 20000 in
theorem gX5_lacks_X2_missing : GoodIn wsX5_lacks (wsV RX5 177 RX2 yX2_missing wsX2_missing) := goodIn_app (goodIn_of _ (by decide +kernel)) ggX5_lacks_X2_missing
theorem dX5_lacks_0 : decode cX5_lacks 0 = .ok (.iload_n 1, 1) := by decide +kernel
theorem dX5_lacks_1 : decode cX5_lacks 1 = .ok (.iconst 0, 1) := by decide +kernel
theorem dX5_lacks_2 : decode cX5_lacks 2 = .ok (.aload_n 0, 1) := by decide +kernel
theorem dX5_lacks_3 : decode cX5_lacks 3 = .ok (.getfield 40, 3) := by decide +kernel
theorem dX5_lacks_6 : decode cX5_lacks 6 = .ok (.invokevirtual 174, 3) := by decide +kernel
theorem dX5_lacks_9 : decode cX5_lacks 9 = .ok (.iconst 1, 1) := by decide +kernel
theorem dX5_lacks_10 : decode cX5_lacks 10 = .ok (.isub, 1) := by decide +kernel
theorem dX5_lacks_11 : decode cX5_lacks 11 = .ok (.invokestatic 48, 3) := by decide +kernel
theorem dX5_lacks_14 : decode cX5_lacks 14 = .ok (.ifCond .eq 10, 3) := by decide +kernel
theorem dX5_lacks_17 : decode cX5_lacks 17 = .ok (.iload_n 2, 1) := by decide +kernel
theorem dX5_lacks_18 : decode cX5_lacks 18 = .ok (.invokestatic 160, 3) := by decide +kernel
theorem dX5_lacks_21 : decode cX5_lacks 21 = .ok (.ifCond .ne 5, 3) := by decide +kernel
theorem dX5_lacks_24 : decode cX5_lacks 24 = .ok (.iconst (-1), 1) := by decide +kernel
theorem dX5_lacks_25 : decode cX5_lacks 25 = .ok (.ireturn, 1) := by decide +kernel
theorem dX5_lacks_26 : decode cX5_lacks 26 = .ok (.aload_n 0, 1) := by decide +kernel
theorem dX5_lacks_27 : decode cX5_lacks 27 = .ok (.getfield 40, 3) := by decide +kernel
theorem dX5_lacks_30 : decode cX5_lacks 30 = .ok (.iload_n 1, 1) := by decide +kernel
theorem dX5_lacks_31 : decode cX5_lacks 31 = .ok (.iload_n 2, 1) := by decide +kernel
theorem dX5_lacks_32 : decode cX5_lacks 32 = .ok (.invokevirtual 177, 3) := by decide +kernel
theorem dX5_lacks_35 : decode cX5_lacks 35 = .ok (.ireturn, 1) := by decide +kernel
set_option maxRecDepth 20000 in
theorem ggX5_count_X5_trues : GoodIn wsX5_count wsX5_trues := goodIn_r _ [14] (by decide +kernel) (by decide +kernel)
set_option maxRecDepth 20000 in
theorem gX5_count_X5_trues : GoodIn wsX5_count (va_wsS RX5 180 yX5_trues wsX5_trues) := goodIn_app (goodIn_of _ (by decide +kernel)) ggX5_count_X5_trues
theorem dX5_count_0 : decode cX5_count 0 = .ok (.iload_n 1, 1) := by decide +kernel
theorem dX5_count_1 : decode cX5_count 1 = .ok (.tableswitch 107 0 5 #[39, 47, 55, 63, 71, 89], 39) := by decide +kernel
theorem dX5_count_40 : decode cX5_count 40 = .ok (.aload_n 0, 1) := by decide +kernel
theorem dX5_count_41 : decode cX5_count 41 = .ok (.getfield 10, 3) := by decide +kernel
theorem dX5_count_44 : decode cX5_count 44 = .ok (.getfield 52, 3) := by decide +kernel
theorem dX5_count_47 : decode cX5_count 47 = .ok (.ireturn, 1) := by decide +kernel
theorem dX5_count_48 : decode cX5_count 48 = .ok (.aload_n 0, 1) := by decide +kernel
theorem dX5_count_49 : decode cX5_count 49 = .ok (.getfield 19, 3) := by decide +kernel
theorem dX5_count_52 : decode cX5_count 52 = .ok (.getfield 95, 3) := by decide +kernel
theorem dX5_count_55 : decode cX5_count 55 = .ok (.ireturn, 1) := by decide +kernel
theorem dX5_count_56 : decode cX5_count 56 = .ok (.aload_n 0, 1) := by decide +kernel
theorem dX5_count_57 : decode cX5_count 57 = .ok (.getfield 40, 3) := by decide +kernel
theorem dX5_count_60 : decode cX5_count 60 = .ok (.getfield 163, 3) := by decide +kernel
theorem dX5_count_63 : decode cX5_count 63 = .ok (.ireturn, 1) := by decide +kernel
theorem dX5_count_64 : decode cX5_count 64 = .ok (.aload_n 0, 1) := by decide +kernel
theorem dX5_count_65 : decode cX5_count 65 = .ok (.getfield 33, 3) := by decide +kernel
theorem dX5_count_68 : decode cX5_count 68 = .ok (.getfield 153, 3) := by decide +kernel
theorem dX5_count_71 : decode cX5_count 71 = .ok (.ireturn, 1) := by decide +kernel
theorem dX5_count_72 : decode cX5_count 72 = .ok (.aload_n 0, 1) := by decide +kernel
theorem dX5_count_73 : decode cX5_count 73 = .ok (.getfield 10, 3) := by decide +kernel
theorem dX5_count_76 : decode cX5_count 76 = .ok (.getfield 68, 3) := by decide +kernel
theorem dX5_count_79 : decode cX5_count 79 = .ok (.aload_n 0, 1) := by decide +kernel
theorem dX5_count_80 : decode cX5_count 80 = .ok (.getfield 10, 3) := by decide +kernel
theorem dX5_count_83 : decode cX5_count 83 = .ok (.getfield 52, 3) := by decide +kernel
theorem dX5_count_86 : decode cX5_count 86 = .ok (.invokestatic 180, 3) := by decide +kernel
theorem dX5_count_89 : decode cX5_count 89 = .ok (.ireturn, 1) := by decide +kernel
theorem dX5_count_90 : decode cX5_count 90 = .ok (.aload_n 0, 1) := by decide +kernel
theorem dX5_count_91 : decode cX5_count 91 = .ok (.getfield 19, 3) := by decide +kernel
theorem dX5_count_94 : decode cX5_count 94 = .ok (.getfield 99, 3) := by decide +kernel
theorem dX5_count_97 : decode cX5_count 97 = .ok (.aload_n 0, 1) := by decide +kernel
theorem dX5_count_98 : decode cX5_count 98 = .ok (.getfield 19, 3) := by decide +kernel
theorem dX5_count_101 : decode cX5_count 101 = .ok (.getfield 95, 3) := by decide +kernel
theorem dX5_count_104 : decode cX5_count 104 = .ok (.invokestatic 180, 3) := by decide +kernel
theorem dX5_count_107 : decode cX5_count 107 = .ok (.ireturn, 1) := by decide +kernel
theorem dX5_count_108 : decode cX5_count 108 = .ok (.iconst (-1), 1) := by decide +kernel
theorem dX5_count_109 : decode cX5_count 109 = .ok (.ireturn, 1) := by decide +kernel
theorem dX5_trace_0 : decode cX5_trace 0 = .ok (.aload_n 0, 1) := by decide +kernel
theorem dX5_trace_1 : decode cX5_trace 1 = .ok (.getfield 44, 3) := by decide +kernel
theorem dX5_trace_4 : decode cX5_trace 4 = .ok (.lreturn, 1) := by decide +kernel
theorem dX5_within_0 : decode cX5_within 0 = .ok (.iload_n 0, 1) := by decide +kernel
theorem dX5_within_1 : decode cX5_within 1 = .ok (.iload_n 1, 1) := by decide +kernel
theorem dX5_within_2 : decode cX5_within 2 = .ok (.if_icmp .lt 12, 3) := by decide +kernel
theorem dX5_within_5 : decode cX5_within 5 = .ok (.iload_n 0, 1) := by decide +kernel
theorem dX5_within_6 : decode cX5_within 6 = .ok (.iload_n 2, 1) := by decide +kernel
theorem dX5_within_7 : decode cX5_within 7 = .ok (.if_icmp .gt 7, 3) := by decide +kernel
theorem dX5_within_10 : decode cX5_within 10 = .ok (.iconst 1, 1) := by decide +kernel
theorem dX5_within_11 : decode cX5_within 11 = .ok (.goto 4, 3) := by decide +kernel
theorem dX5_within_14 : decode cX5_within 14 = .ok (.iconst 0, 1) := by decide +kernel
theorem dX5_within_15 : decode cX5_within 15 = .ok (.ireturn, 1) := by decide +kernel
set_option maxRecDepth 20000 in
theorem ggX5_isPressure_X5_within : GoodIn wsX5_isPressure wsX5_within := goodIn_r _ [4] (by decide +kernel) (by decide +kernel)
set_option maxRecDepth 20000 in
theorem gX5_isPressure_X5_within : GoodIn wsX5_isPressure (va_wsS RX5 48 yX5_within wsX5_within) := goodIn_app (goodIn_of _ (by decide +kernel)) ggX5_isPressure_X5_within
theorem dX5_isPressure_0 : decode cX5_isPressure 0 = .ok (.iload_n 0, 1) := by decide +kernel
theorem dX5_isPressure_1 : decode cX5_isPressure 1 = .ok (.iconst 0, 1) := by decide +kernel
theorem dX5_isPressure_2 : decode cX5_isPressure 2 = .ok (.bipush 20, 2) := by decide +kernel
theorem dX5_isPressure_4 : decode cX5_isPressure 4 = .ok (.invokestatic 48, 3) := by decide +kernel
theorem dX5_isPressure_7 : decode cX5_isPressure 7 = .ok (.ireturn, 1) := by decide +kernel
set_option maxRecDepth 20000 in
theorem ggX5_isBox_X5_within : GoodIn wsX5_isBox wsX5_within := goodIn_r _ [4] (by decide +kernel) (by decide +kernel)
set_option maxRecDepth 20000 in
theorem gX5_isBox_X5_within : GoodIn wsX5_isBox (va_wsS RX5 48 yX5_within wsX5_within) := goodIn_app (goodIn_of _ (by decide +kernel)) ggX5_isBox_X5_within
theorem dX5_isBox_0 : decode cX5_isBox 0 = .ok (.iload_n 0, 1) := by decide +kernel
theorem dX5_isBox_1 : decode cX5_isBox 1 = .ok (.iconst 0, 1) := by decide +kernel
theorem dX5_isBox_2 : decode cX5_isBox 2 = .ok (.iconst 3, 1) := by decide +kernel
theorem dX5_isBox_3 : decode cX5_isBox 3 = .ok (.invokestatic 48, 3) := by decide +kernel
theorem dX5_isBox_6 : decode cX5_isBox 6 = .ok (.ireturn, 1) := by decide +kernel
set_option maxRecDepth 20000 in
theorem ggX5_isPlanYear_X5_within : GoodIn wsX5_isPlanYear wsX5_within := goodIn_r _ [4] (by decide +kernel) (by decide +kernel)
set_option maxRecDepth 20000 in
theorem gX5_isPlanYear_X5_within : GoodIn wsX5_isPlanYear (va_wsS RX5 48 yX5_within wsX5_within) := goodIn_app (goodIn_of _ (by decide +kernel)) ggX5_isPlanYear_X5_within
theorem dX5_isPlanYear_0 : decode cX5_isPlanYear 0 = .ok (.iload_n 0, 1) := by decide +kernel
theorem dX5_isPlanYear_1 : decode cX5_isPlanYear 1 = .ok (.iconst 0, 1) := by decide +kernel
theorem dX5_isPlanYear_2 : decode cX5_isPlanYear 2 = .ok (.iconst 5, 1) := by decide +kernel
theorem dX5_isPlanYear_3 : decode cX5_isPlanYear 3 = .ok (.invokestatic 48, 3) := by decide +kernel
theorem dX5_isPlanYear_6 : decode cX5_isPlanYear 6 = .ok (.ireturn, 1) := by decide +kernel
set_option maxRecDepth 20000 in
theorem ggX5_isWell_X5_within : GoodIn wsX5_isWell wsX5_within := goodIn_r _ [6] (by decide +kernel) (by decide +kernel)
set_option maxRecDepth 20000 in
theorem gX5_isWell_X5_within : GoodIn wsX5_isWell (va_wsS RX5 48 yX5_within wsX5_within) := goodIn_app (goodIn_of _ (by decide +kernel)) ggX5_isWell_X5_within
theorem dX5_isWell_0 : decode cX5_isWell 0 = .ok (.iload_n 1, 1) := by decide +kernel
theorem dX5_isWell_1 : decode cX5_isWell 1 = .ok (.iconst 0, 1) := by decide +kernel
theorem dX5_isWell_2 : decode cX5_isWell 2 = .ok (.aload_n 0, 1) := by decide +kernel
theorem dX5_isWell_3 : decode cX5_isWell 3 = .ok (.getfield 10, 3) := by decide +kernel
theorem dX5_isWell_6 : decode cX5_isWell 6 = .ok (.getfield 52, 3) := by decide +kernel
theorem dX5_isWell_9 : decode cX5_isWell 9 = .ok (.iconst 1, 1) := by decide +kernel
theorem dX5_isWell_10 : decode cX5_isWell 10 = .ok (.isub, 1) := by decide +kernel
theorem dX5_isWell_11 : decode cX5_isWell 11 = .ok (.invokestatic 48, 3) := by decide +kernel
theorem dX5_isWell_14 : decode cX5_isWell 14 = .ok (.ireturn, 1) := by decide +kernel
theorem dX5_trues_0 : decode cX5_trues 0 = .ok (.iconst 0, 1) := by decide +kernel
theorem dX5_trues_1 : decode cX5_trues 1 = .ok (.istore_n 2, 1) := by decide +kernel
theorem dX5_trues_2 : decode cX5_trues 2 = .ok (.iconst 0, 1) := by decide +kernel
theorem dX5_trues_3 : decode cX5_trues 3 = .ok (.istore_n 3, 1) := by decide +kernel
theorem dX5_trues_4 : decode cX5_trues 4 = .ok (.iload_n 3, 1) := by decide +kernel
theorem dX5_trues_5 : decode cX5_trues 5 = .ok (.iload_n 1, 1) := by decide +kernel
theorem dX5_trues_6 : decode cX5_trues 6 = .ok (.if_icmp .ge 18, 3) := by decide +kernel
theorem dX5_trues_9 : decode cX5_trues 9 = .ok (.aload_n 0, 1) := by decide +kernel
theorem dX5_trues_10 : decode cX5_trues 10 = .ok (.iload_n 3, 1) := by decide +kernel
theorem dX5_trues_11 : decode cX5_trues 11 = .ok (.baload, 1) := by decide +kernel
theorem dX5_trues_12 : decode cX5_trues 12 = .ok (.ifCond .eq 6, 3) := by decide +kernel
theorem dX5_trues_15 : decode cX5_trues 15 = .ok (.iinc 2 1, 3) := by decide +kernel
theorem dX5_trues_18 : decode cX5_trues 18 = .ok (.iinc 3 1, 3) := by decide +kernel
theorem dX5_trues_21 : decode cX5_trues 21 = .ok (.goto (-17), 3) := by decide +kernel
theorem dX5_trues_24 : decode cX5_trues 24 = .ok (.iload_n 2, 1) := by decide +kernel
theorem dX5_trues_25 : decode cX5_trues 25 = .ok (.ireturn, 1) := by decide +kernel
set_option maxRecDepth 20000 in
theorem ggX5_setLeak_X5_within : GoodIn wsX5_setLeak wsX5_within := goodIn_r _ [6] (by decide +kernel) (by decide +kernel)
set_option maxRecDepth 20000 in
theorem gX5_setLeak_X5_within : GoodIn wsX5_setLeak (va_wsS RX5 48 yX5_within wsX5_within) := goodIn_app (goodIn_of _ (by decide +kernel)) ggX5_setLeak_X5_within
theorem dX5_setLeak_0 : decode cX5_setLeak 0 = .ok (.iload_n 1, 1) := by decide +kernel
theorem dX5_setLeak_1 : decode cX5_setLeak 1 = .ok (.iconst 0, 1) := by decide +kernel
theorem dX5_setLeak_2 : decode cX5_setLeak 2 = .ok (.iconst 2, 1) := by decide +kernel
theorem dX5_setLeak_3 : decode cX5_setLeak 3 = .ok (.invokestatic 48, 3) := by decide +kernel
theorem dX5_setLeak_6 : decode cX5_setLeak 6 = .ok (.ifCond .eq 14, 3) := by decide +kernel
theorem dX5_setLeak_9 : decode cX5_setLeak 9 = .ok (.iload_n 2, 1) := by decide +kernel
theorem dX5_setLeak_10 : decode cX5_setLeak 10 = .ok (.iconst 2, 1) := by decide +kernel
theorem dX5_setLeak_11 : decode cX5_setLeak 11 = .ok (.sipush 1000, 3) := by decide +kernel
theorem dX5_setLeak_14 : decode cX5_setLeak 14 = .ok (.invokestatic 48, 3) := by decide +kernel
theorem dX5_setLeak_17 : decode cX5_setLeak 17 = .ok (.ifCond .ne 5, 3) := by decide +kernel
theorem dX5_setLeak_20 : decode cX5_setLeak 20 = .ok (.iconst (-1), 1) := by decide +kernel
theorem dX5_setLeak_21 : decode cX5_setLeak 21 = .ok (.ireturn, 1) := by decide +kernel
theorem dX5_setLeak_22 : decode cX5_setLeak 22 = .ok (.aload_n 0, 1) := by decide +kernel
theorem dX5_setLeak_23 : decode cX5_setLeak 23 = .ok (.getfield 26, 3) := by decide +kernel
theorem dX5_setLeak_26 : decode cX5_setLeak 26 = .ok (.getfield 184, 3) := by decide +kernel
theorem dX5_setLeak_29 : decode cX5_setLeak 29 = .ok (.iload_n 1, 1) := by decide +kernel
theorem dX5_setLeak_30 : decode cX5_setLeak 30 = .ok (.iaload, 1) := by decide +kernel
theorem dX5_setLeak_31 : decode cX5_setLeak 31 = .ok (.istore_n 3, 1) := by decide +kernel
theorem dX5_setLeak_32 : decode cX5_setLeak 32 = .ok (.aload_n 0, 1) := by decide +kernel
theorem dX5_setLeak_33 : decode cX5_setLeak 33 = .ok (.getfield 26, 3) := by decide +kernel
theorem dX5_setLeak_36 : decode cX5_setLeak 36 = .ok (.getfield 184, 3) := by decide +kernel
theorem dX5_setLeak_39 : decode cX5_setLeak 39 = .ok (.iload_n 1, 1) := by decide +kernel
theorem dX5_setLeak_40 : decode cX5_setLeak 40 = .ok (.iload_n 2, 1) := by decide +kernel
theorem dX5_setLeak_41 : decode cX5_setLeak 41 = .ok (.iastore, 1) := by decide +kernel
theorem dX5_setLeak_42 : decode cX5_setLeak 42 = .ok (.iload_n 3, 1) := by decide +kernel
theorem dX5_setLeak_43 : decode cX5_setLeak 43 = .ok (.ireturn, 1) := by decide +kernel
set_option maxRecDepth 20000 in
theorem ggX5_setFeed_X5_isBox : GoodIn wsX5_setFeed wsX5_isBox := goodIn_r _ [6, 7, 8, 5, 9] (by decide +kernel) (by decide +kernel)
set_option maxRecDepth 20000 in
theorem gX5_setFeed_X5_isBox : GoodIn wsX5_setFeed (va_wsS RX5 115 yX5_isBox wsX5_isBox) := goodIn_app (goodIn_of _ (by decide +kernel)) ggX5_setFeed_X5_isBox
set_option maxRecDepth 20000 in
theorem ggX5_setFeed_X5_within : GoodIn wsX5_setFeed wsX5_within := goodIn_r _ [9] (by decide +kernel) (by decide +kernel)
set_option maxRecDepth 20000 in
theorem gX5_setFeed_X5_within : GoodIn wsX5_setFeed (va_wsS RX5 48 yX5_within wsX5_within) := goodIn_app (goodIn_of _ (by decide +kernel)) ggX5_setFeed_X5_within
theorem dX5_setFeed_0 : decode cX5_setFeed 0 = .ok (.iload_n 1, 1) := by decide +kernel
theorem dX5_setFeed_1 : decode cX5_setFeed 1 = .ok (.invokestatic 115, 3) := by decide +kernel
theorem dX5_setFeed_4 : decode cX5_setFeed 4 = .ok (.ifCond .eq 14, 3) := by decide +kernel
theorem dX5_setFeed_7 : decode cX5_setFeed 7 = .ok (.iload_n 2, 1) := by decide +kernel
theorem dX5_setFeed_8 : decode cX5_setFeed 8 = .ok (.iconst 0, 1) := by decide +kernel
theorem dX5_setFeed_9 : decode cX5_setFeed 9 = .ok (.sipush 1000, 3) := by decide +kernel
theorem dX5_setFeed_12 : decode cX5_setFeed 12 = .ok (.invokestatic 48, 3) := by decide +kernel
theorem dX5_setFeed_15 : decode cX5_setFeed 15 = .ok (.ifCond .ne 5, 3) := by decide +kernel
theorem dX5_setFeed_18 : decode cX5_setFeed 18 = .ok (.iconst (-1), 1) := by decide +kernel
theorem dX5_setFeed_19 : decode cX5_setFeed 19 = .ok (.ireturn, 1) := by decide +kernel
theorem dX5_setFeed_20 : decode cX5_setFeed 20 = .ok (.aload_n 0, 1) := by decide +kernel
theorem dX5_setFeed_21 : decode cX5_setFeed 21 = .ok (.getfield 26, 3) := by decide +kernel
theorem dX5_setFeed_24 : decode cX5_setFeed 24 = .ok (.getfield 187, 3) := by decide +kernel
theorem dX5_setFeed_27 : decode cX5_setFeed 27 = .ok (.iload_n 1, 1) := by decide +kernel
theorem dX5_setFeed_28 : decode cX5_setFeed 28 = .ok (.iaload, 1) := by decide +kernel
theorem dX5_setFeed_29 : decode cX5_setFeed 29 = .ok (.istore_n 3, 1) := by decide +kernel
theorem dX5_setFeed_30 : decode cX5_setFeed 30 = .ok (.aload_n 0, 1) := by decide +kernel
theorem dX5_setFeed_31 : decode cX5_setFeed 31 = .ok (.getfield 26, 3) := by decide +kernel
theorem dX5_setFeed_34 : decode cX5_setFeed 34 = .ok (.getfield 187, 3) := by decide +kernel
theorem dX5_setFeed_37 : decode cX5_setFeed 37 = .ok (.iload_n 1, 1) := by decide +kernel
theorem dX5_setFeed_38 : decode cX5_setFeed 38 = .ok (.iload_n 2, 1) := by decide +kernel
theorem dX5_setFeed_39 : decode cX5_setFeed 39 = .ok (.iastore, 1) := by decide +kernel
theorem dX5_setFeed_40 : decode cX5_setFeed 40 = .ok (.iload_n 3, 1) := by decide +kernel
theorem dX5_setFeed_41 : decode cX5_setFeed 41 = .ok (.ireturn, 1) := by decide +kernel
set_option maxRecDepth 20000 in
theorem ggX5_setGivenShare_X5_within : GoodIn wsX5_setGivenShare wsX5_within := goodIn_r _ [6] (by decide +kernel) (by decide +kernel)
set_option maxRecDepth 20000 in
theorem gX5_setGivenShare_X5_within : GoodIn wsX5_setGivenShare (va_wsS RX5 48 yX5_within wsX5_within) := goodIn_app (goodIn_of _ (by decide +kernel)) ggX5_setGivenShare_X5_within
theorem dX5_setGivenShare_0 : decode cX5_setGivenShare 0 = .ok (.iload_n 1, 1) := by decide +kernel
theorem dX5_setGivenShare_1 : decode cX5_setGivenShare 1 = .ok (.iconst 0, 1) := by decide +kernel
theorem dX5_setGivenShare_2 : decode cX5_setGivenShare 2 = .ok (.sipush 1000, 3) := by decide +kernel
theorem dX5_setGivenShare_5 : decode cX5_setGivenShare 5 = .ok (.invokestatic 48, 3) := by decide +kernel
theorem dX5_setGivenShare_8 : decode cX5_setGivenShare 8 = .ok (.ifCond .ne 5, 3) := by decide +kernel
theorem dX5_setGivenShare_11 : decode cX5_setGivenShare 11 = .ok (.iconst (-1), 1) := by decide +kernel
theorem dX5_setGivenShare_12 : decode cX5_setGivenShare 12 = .ok (.ireturn, 1) := by decide +kernel
theorem dX5_setGivenShare_13 : decode cX5_setGivenShare 13 = .ok (.aload_n 0, 1) := by decide +kernel
theorem dX5_setGivenShare_14 : decode cX5_setGivenShare 14 = .ok (.getfield 26, 3) := by decide +kernel
theorem dX5_setGivenShare_17 : decode cX5_setGivenShare 17 = .ok (.getfield 190, 3) := by decide +kernel
theorem dX5_setGivenShare_20 : decode cX5_setGivenShare 20 = .ok (.istore_n 2, 1) := by decide +kernel
theorem dX5_setGivenShare_21 : decode cX5_setGivenShare 21 = .ok (.aload_n 0, 1) := by decide +kernel
theorem dX5_setGivenShare_22 : decode cX5_setGivenShare 22 = .ok (.getfield 26, 3) := by decide +kernel
theorem dX5_setGivenShare_25 : decode cX5_setGivenShare 25 = .ok (.iload_n 1, 1) := by decide +kernel
theorem dX5_setGivenShare_26 : decode cX5_setGivenShare 26 = .ok (.putfield 190, 3) := by decide +kernel
theorem dX5_setGivenShare_29 : decode cX5_setGivenShare 29 = .ok (.iload_n 2, 1) := by decide +kernel
theorem dX5_setGivenShare_30 : decode cX5_setGivenShare 30 = .ok (.ireturn, 1) := by decide +kernel
set_option maxRecDepth 20000 in
theorem ggX5_setGivenBox_X5_isBox : GoodIn wsX5_setGivenBox wsX5_isBox := goodIn_r _ [6, 7, 8, 5, 9] (by decide +kernel) (by decide +kernel)
set_option maxRecDepth 20000 in
theorem gX5_setGivenBox_X5_isBox : GoodIn wsX5_setGivenBox (va_wsS RX5 115 yX5_isBox wsX5_isBox) := goodIn_app (goodIn_of _ (by decide +kernel)) ggX5_setGivenBox_X5_isBox
theorem dX5_setGivenBox_0 : decode cX5_setGivenBox 0 = .ok (.iload_n 1, 1) := by decide +kernel
theorem dX5_setGivenBox_1 : decode cX5_setGivenBox 1 = .ok (.invokestatic 115, 3) := by decide +kernel
theorem dX5_setGivenBox_4 : decode cX5_setGivenBox 4 = .ok (.ifCond .ne 5, 3) := by decide +kernel
theorem dX5_setGivenBox_7 : decode cX5_setGivenBox 7 = .ok (.iconst (-1), 1) := by decide +kernel
theorem dX5_setGivenBox_8 : decode cX5_setGivenBox 8 = .ok (.ireturn, 1) := by decide +kernel
theorem dX5_setGivenBox_9 : decode cX5_setGivenBox 9 = .ok (.aload_n 0, 1) := by decide +kernel
theorem dX5_setGivenBox_10 : decode cX5_setGivenBox 10 = .ok (.getfield 26, 3) := by decide +kernel
theorem dX5_setGivenBox_13 : decode cX5_setGivenBox 13 = .ok (.getfield 193, 3) := by decide +kernel
theorem dX5_setGivenBox_16 : decode cX5_setGivenBox 16 = .ok (.istore_n 2, 1) := by decide +kernel
theorem dX5_setGivenBox_17 : decode cX5_setGivenBox 17 = .ok (.aload_n 0, 1) := by decide +kernel
theorem dX5_setGivenBox_18 : decode cX5_setGivenBox 18 = .ok (.getfield 26, 3) := by decide +kernel
theorem dX5_setGivenBox_21 : decode cX5_setGivenBox 21 = .ok (.iload_n 1, 1) := by decide +kernel
theorem dX5_setGivenBox_22 : decode cX5_setGivenBox 22 = .ok (.putfield 193, 3) := by decide +kernel
theorem dX5_setGivenBox_25 : decode cX5_setGivenBox 25 = .ok (.iload_n 2, 1) := by decide +kernel
theorem dX5_setGivenBox_26 : decode cX5_setGivenBox 26 = .ok (.ireturn, 1) := by decide +kernel
set_option maxRecDepth 20000 in
theorem ggX5_meeting_X4_supply : GoodIn wsX5_meeting wsX4_supply := goodIn_r _ [7, 8, 9, 10, 11, 12, 6, 13, 14, 15, 16, 17, 18, 19, 20, 21, 22, 23, 24, 25, 26, 27, 28, 29, 30, 31, 32, 33, 51, 52, 53, 54, 55, 56] (by decide +kernel) (by decide +kernel)
set_option maxRecDepth 20000 in
theorem gX5_meeting_X4_supply : GoodIn wsX5_meeting (wsV RX5 102 RX4 yX4_supply wsX4_supply) := goodIn_app (goodIn_of _ (by decide +kernel)) ggX5_meeting_X4_supply
set_option maxRecDepth 20000 in
theorem ggX5_meeting_X3_draw : GoodIn wsX5_meeting wsX3_draw := goodIn_r _ [38, 39, 40, 41, 42, 43, 44, 28, 29, 30, 57, 58, 59, 60, 61] (by decide +kernel) (by decide +kernel)
set_option maxRecDepth 20000 in
theorem gX5_meeting_X3_draw : GoodIn wsX5_meeting (wsV RX5 105 RX3 yX3_draw wsX3_draw) := goodIn_app (goodIn_of _ (by decide +kernel)) ggX5_meeting_X3_draw
theorem dX5_meeting_0 : decode cX5_meeting 0 = .ok (.bipush 20, 2) := by decide +kernel
theorem dX5_meeting_2 : decode cX5_meeting 2 = .ok (.istore_n 1, 1) := by decide +kernel
theorem dX5_meeting_3 : decode cX5_meeting 3 = .ok (.iload_n 1, 1) := by decide +kernel
theorem dX5_meeting_4 : decode cX5_meeting 4 = .ok (.ifCond .lt 30, 3) := by decide +kernel
theorem dX5_meeting_7 : decode cX5_meeting 7 = .ok (.aload_n 0, 1) := by decide +kernel
theorem dX5_meeting_8 : decode cX5_meeting 8 = .ok (.getfield 10, 3) := by decide +kernel
theorem dX5_meeting_11 : decode cX5_meeting 11 = .ok (.iload_n 1, 1) := by decide +kernel
theorem dX5_meeting_12 : decode cX5_meeting 12 = .ok (.invokevirtual 102, 3) := by decide +kernel
theorem dX5_meeting_15 : decode cX5_meeting 15 = .ok (.aload_n 0, 1) := by decide +kernel
theorem dX5_meeting_16 : decode cX5_meeting 16 = .ok (.getfield 19, 3) := by decide +kernel
theorem dX5_meeting_19 : decode cX5_meeting 19 = .ok (.iload_n 1, 1) := by decide +kernel
theorem dX5_meeting_20 : decode cX5_meeting 20 = .ok (.invokevirtual 105, 3) := by decide +kernel
theorem dX5_meeting_23 : decode cX5_meeting 23 = .ok (.if_icmp .lt 5, 3) := by decide +kernel
theorem dX5_meeting_26 : decode cX5_meeting 26 = .ok (.iload_n 1, 1) := by decide +kernel
theorem dX5_meeting_27 : decode cX5_meeting 27 = .ok (.ireturn, 1) := by decide +kernel
theorem dX5_meeting_28 : decode cX5_meeting 28 = .ok (.iinc 1 (-1), 3) := by decide +kernel
theorem dX5_meeting_31 : decode cX5_meeting 31 = .ok (.goto (-28), 3) := by decide +kernel
theorem dX5_meeting_34 : decode cX5_meeting 34 = .ok (.bipush (-9), 2) := by decide +kernel
theorem dX5_meeting_36 : decode cX5_meeting 36 = .ok (.ireturn, 1) := by decide +kernel
set_option maxRecDepth 20000 in
theorem ggX5_passYear_X5_meeting : GoodIn wsX5_passYear wsX5_meeting := goodIn_r _ [9, 4, 3, 10, 11, 12, 13, 14, 15, 16, 17, 18, 19, 20, 21, 22, 23, 24, 25, 26, 27, 28, 29, 30, 31, 32, 33, 34, 35, 36, 37, 38, 39, 40, 41, 42, 43, 44, 45, 46, 47, 48, 49, 50, 51, 106, 107, 108, 109, 110, 111, 119, 120, 121, 122, 123, 124, 125, 126, 127, 128, 129] (by decide +kernel) (by decide +kernel)
set_option maxRecDepth 20000 in
theorem gX5_passYear_X5_meeting : GoodIn wsX5_passYear (wsV RX5 111 RX5 yX5_meeting wsX5_meeting) := goodIn_app (goodIn_of _ (by decide +kernel)) ggX5_passYear_X5_meeting
set_option maxRecDepth 20000 in
theorem ggX5_passYear_X3_draw : GoodIn wsX5_passYear wsX3_draw := goodIn_r _ [45, 46, 47, 48, 49, 50, 51, 35, 36, 37, 125, 126, 127, 128, 129] (by decide +kernel) (by decide +kernel)
set_option maxRecDepth 20000 in
theorem gX5_passYear_X3_draw : GoodIn wsX5_passYear (wsV RX5 105 RX3 yX3_draw wsX3_draw) := goodIn_app (goodIn_of _ (by decide +kernel)) ggX5_passYear_X3_draw
set_option maxRecDepth 20000 in
theorem ggX5_passYear_X5_takeAll : GoodIn wsX5_passYear wsX5_takeAll := goodIn_r _ [55, 4, 56, 57, 1, 58, 59, 18, 19, 13, 20, 21, 22, 23, 24, 25, 26, 27, 28, 29, 30, 31, 32, 33, 34, 35, 36, 37, 60, 61, 62, 63, 64, 65, 66, 67, 68, 69, 70, 71, 72, 73, 74, 75, 76, 77, 78, 106, 107, 108, 109, 110, 111, 119, 120, 121, 122, 123, 124, 112, 113, 114, 115, 116, 117, 118] (by decide +kernel) (by decide +kernel)
set_option maxRecDepth 20000 in
theorem gX5_passYear_X5_takeAll : GoodIn wsX5_passYear (wsV RX5 196 RX5 yX5_takeAll wsX5_takeAll) := goodIn_app (goodIn_of _ (by decide +kernel)) ggX5_passYear_X5_takeAll
set_option maxRecDepth 20000 in
theorem ggX5_passYear_X0_giveBack : GoodIn wsX5_passYear wsX0_giveBack := goodIn_r _ [82, 83, 84, 85, 86, 87, 88, 89, 63, 90, 65, 69, 74, 75, 76, 77, 78, 112, 113, 114, 115, 116, 117, 118] (by decide +kernel) (by decide +kernel)
set_option maxRecDepth 20000 in
theorem gX5_passYear_X0_giveBack : GoodIn wsX5_passYear (wsV RX5 200 RX0 yX0_giveBack wsX0_giveBack) := goodIn_app (goodIn_of _ (by decide +kernel)) ggX5_passYear_X0_giveBack
set_option maxRecDepth 20000 in
theorem ggX5_passYear_X0_leakAll : GoodIn wsX5_passYear wsX0_leakAll := goodIn_r _ [94, 65, 95, 70, 71, 72, 63, 73, 69, 87, 88, 89, 90, 112, 113, 114, 115, 116, 117, 118] (by decide +kernel) (by decide +kernel)
set_option maxRecDepth 20000 in
theorem gX5_passYear_X0_leakAll : GoodIn wsX5_passYear (wsV RX5 204 RX0 yX0_leakAll wsX0_leakAll) := goodIn_app (goodIn_of _ (by decide +kernel)) ggX5_passYear_X0_leakAll
set_option maxRecDepth 20000 in
theorem ggX5_passYear_X0_feedAll : GoodIn wsX5_passYear wsX0_feedAll := goodIn_r _ [99, 100, 101, 87, 88, 89, 63, 90, 65, 69, 74, 75, 76, 77, 78, 112, 113, 114, 115, 116, 117, 118] (by decide +kernel) (by decide +kernel)
set_option maxRecDepth 20000 in
theorem gX5_passYear_X0_feedAll : GoodIn wsX5_passYear (wsV RX5 207 RX0 yX0_feedAll wsX0_feedAll) := goodIn_app (goodIn_of _ (by decide +kernel)) ggX5_passYear_X0_feedAll
set_option maxRecDepth 20000 in
theorem ggX5_passYear_X4_grow : GoodIn wsX5_passYear wsX4_grow := goodIn_r _ [105, 15, 16, 22, 119, 120, 121, 122, 123, 124] (by decide +kernel) (by decide +kernel)
set_option maxRecDepth 20000 in
theorem gX5_passYear_X4_grow : GoodIn wsX5_passYear (wsV RX5 210 RX4 yX4_grow wsX4_grow) := goodIn_app (goodIn_of _ (by decide +kernel)) ggX5_passYear_X4_grow
theorem dX5_passYear_0 : decode cX5_passYear 0 = .ok (.aload_n 0, 1) := by decide +kernel
theorem dX5_passYear_1 : decode cX5_passYear 1 = .ok (.invokevirtual 111, 3) := by decide +kernel
theorem dX5_passYear_4 : decode cX5_passYear 4 = .ok (.istore_n 1, 1) := by decide +kernel
theorem dX5_passYear_5 : decode cX5_passYear 5 = .ok (.iload_n 1, 1) := by decide +kernel
theorem dX5_passYear_6 : decode cX5_passYear 6 = .ok (.bipush (-9), 2) := by decide +kernel
theorem dX5_passYear_8 : decode cX5_passYear 8 = .ok (.if_icmp .ne 20, 3) := by decide +kernel
theorem dX5_passYear_11 : decode cX5_passYear 11 = .ok (.aload_n 0, 1) := by decide +kernel
theorem dX5_passYear_12 : decode cX5_passYear 12 = .ok (.getfield 26, 3) := by decide +kernel
theorem dX5_passYear_15 : decode cX5_passYear 15 = .ok (.getfield 141, 3) := by decide +kernel
theorem dX5_passYear_18 : decode cX5_passYear 18 = .ok (.bipush 8, 2) := by decide +kernel
theorem dX5_passYear_20 : decode cX5_passYear 20 = .ok (.dup2, 1) := by decide +kernel
theorem dX5_passYear_21 : decode cX5_passYear 21 = .ok (.laload, 1) := by decide +kernel
theorem dX5_passYear_22 : decode cX5_passYear 22 = .ok (.lconst 1, 1) := by decide +kernel
theorem dX5_passYear_23 : decode cX5_passYear 23 = .ok (.ladd, 1) := by decide +kernel
theorem dX5_passYear_24 : decode cX5_passYear 24 = .ok (.lastore, 1) := by decide +kernel
theorem dX5_passYear_25 : decode cX5_passYear 25 = .ok (.goto 37, 3) := by decide +kernel
theorem dX5_passYear_28 : decode cX5_passYear 28 = .ok (.aload_n 0, 1) := by decide +kernel
theorem dX5_passYear_29 : decode cX5_passYear 29 = .ok (.getfield 26, 3) := by decide +kernel
theorem dX5_passYear_32 : decode cX5_passYear 32 = .ok (.getfield 141, 3) := by decide +kernel
theorem dX5_passYear_35 : decode cX5_passYear 35 = .ok (.bipush 6, 2) := by decide +kernel
theorem dX5_passYear_37 : decode cX5_passYear 37 = .ok (.dup2, 1) := by decide +kernel
theorem dX5_passYear_38 : decode cX5_passYear 38 = .ok (.laload, 1) := by decide +kernel
theorem dX5_passYear_39 : decode cX5_passYear 39 = .ok (.aload_n 0, 1) := by decide +kernel
theorem dX5_passYear_40 : decode cX5_passYear 40 = .ok (.getfield 19, 3) := by decide +kernel
theorem dX5_passYear_43 : decode cX5_passYear 43 = .ok (.iload_n 1, 1) := by decide +kernel
theorem dX5_passYear_44 : decode cX5_passYear 44 = .ok (.invokevirtual 105, 3) := by decide +kernel
theorem dX5_passYear_47 : decode cX5_passYear 47 = .ok (.i2l, 1) := by decide +kernel
theorem dX5_passYear_48 : decode cX5_passYear 48 = .ok (.ladd, 1) := by decide +kernel
theorem dX5_passYear_49 : decode cX5_passYear 49 = .ok (.lastore, 1) := by decide +kernel
theorem dX5_passYear_50 : decode cX5_passYear 50 = .ok (.aload_n 0, 1) := by decide +kernel
theorem dX5_passYear_51 : decode cX5_passYear 51 = .ok (.getfield 26, 3) := by decide +kernel
theorem dX5_passYear_54 : decode cX5_passYear 54 = .ok (.aload_n 0, 1) := by decide +kernel
theorem dX5_passYear_55 : decode cX5_passYear 55 = .ok (.iload_n 1, 1) := by decide +kernel
theorem dX5_passYear_56 : decode cX5_passYear 56 = .ok (.invokevirtual 196, 3) := by decide +kernel
theorem dX5_passYear_59 : decode cX5_passYear 59 = .ok (.invokevirtual 200, 3) := by decide +kernel
theorem dX5_passYear_62 : decode cX5_passYear 62 = .ok (.aload_n 0, 1) := by decide +kernel
theorem dX5_passYear_63 : decode cX5_passYear 63 = .ok (.getfield 26, 3) := by decide +kernel
theorem dX5_passYear_66 : decode cX5_passYear 66 = .ok (.invokevirtual 204, 3) := by decide +kernel
theorem dX5_passYear_69 : decode cX5_passYear 69 = .ok (.aload_n 0, 1) := by decide +kernel
theorem dX5_passYear_70 : decode cX5_passYear 70 = .ok (.getfield 26, 3) := by decide +kernel
theorem dX5_passYear_73 : decode cX5_passYear 73 = .ok (.invokevirtual 207, 3) := by decide +kernel
theorem dX5_passYear_76 : decode cX5_passYear 76 = .ok (.aload_n 0, 1) := by decide +kernel
theorem dX5_passYear_77 : decode cX5_passYear 77 = .ok (.getfield 10, 3) := by decide +kernel
theorem dX5_passYear_80 : decode cX5_passYear 80 = .ok (.invokevirtual 210, 3) := by decide +kernel
theorem dX5_passYear_83 : decode cX5_passYear 83 = .ok (.aload_n 0, 1) := by decide +kernel
theorem dX5_passYear_84 : decode cX5_passYear 84 = .ok (.getfield 26, 3) := by decide +kernel
theorem dX5_passYear_87 : decode cX5_passYear 87 = .ok (.getfield 141, 3) := by decide +kernel
theorem dX5_passYear_90 : decode cX5_passYear 90 = .ok (.bipush 7, 2) := by decide +kernel
theorem dX5_passYear_92 : decode cX5_passYear 92 = .ok (.dup2, 1) := by decide +kernel
theorem dX5_passYear_93 : decode cX5_passYear 93 = .ok (.laload, 1) := by decide +kernel
theorem dX5_passYear_94 : decode cX5_passYear 94 = .ok (.lconst 1, 1) := by decide +kernel
theorem dX5_passYear_95 : decode cX5_passYear 95 = .ok (.ladd, 1) := by decide +kernel
theorem dX5_passYear_96 : decode cX5_passYear 96 = .ok (.lastore, 1) := by decide +kernel
theorem dX5_passYear_97 : decode cX5_passYear 97 = .ok (.return_, 1) := by decide +kernel
set_option maxRecDepth 20000 in
theorem ggX5_takeAll_X4_fifths : GoodIn wsX5_takeAll wsX4_fifths := goodIn_r _ [10, 11, 12, 13, 14, 15, 9, 16, 17, 18, 19, 20, 21, 22, 23, 24, 25, 26, 27, 53, 54, 55, 56, 57, 58] (by decide +kernel) (by decide +kernel)
set_option maxRecDepth 20000 in
theorem gX5_takeAll_X4_fifths : GoodIn wsX5_takeAll (wsV RX5 83 RX4 yX4_fifths wsX4_fifths) := goodIn_app (goodIn_of _ (by decide +kernel)) ggX5_takeAll_X4_fifths
set_option maxRecDepth 20000 in
theorem ggX5_takeAll_X0_take : GoodIn wsX5_takeAll wsX0_take := goodIn_r _ [32, 33, 34, 35, 26, 36, 37, 38, 39, 40, 31, 41, 42, 43, 44, 45, 46, 59, 60, 61, 62, 63, 64, 65] (by decide +kernel) (by decide +kernel)
set_option maxRecDepth 20000 in
theorem gX5_takeAll_X0_take : GoodIn wsX5_takeAll (wsV RX5 213 RX0 yX0_take wsX0_take) := goodIn_app (goodIn_of _ (by decide +kernel)) ggX5_takeAll_X0_take
theorem dX5_takeAll_0 : decode cX5_takeAll 0 = .ok (.lconst 0, 1) := by decide +kernel
theorem dX5_takeAll_1 : decode cX5_takeAll 1 = .ok (.lstore_n 2, 1) := by decide +kernel
theorem dX5_takeAll_2 : decode cX5_takeAll 2 = .ok (.iconst 0, 1) := by decide +kernel
theorem dX5_takeAll_3 : decode cX5_takeAll 3 = .ok (.istore 4, 2) := by decide +kernel
theorem dX5_takeAll_5 : decode cX5_takeAll 5 = .ok (.iload 4, 2) := by decide +kernel
theorem dX5_takeAll_7 : decode cX5_takeAll 7 = .ok (.aload_n 0, 1) := by decide +kernel
theorem dX5_takeAll_8 : decode cX5_takeAll 8 = .ok (.getfield 10, 3) := by decide +kernel
theorem dX5_takeAll_11 : decode cX5_takeAll 11 = .ok (.getfield 52, 3) := by decide +kernel
theorem dX5_takeAll_14 : decode cX5_takeAll 14 = .ok (.if_icmp .ge 53, 3) := by decide +kernel
theorem dX5_takeAll_17 : decode cX5_takeAll 17 = .ok (.aload_n 0, 1) := by decide +kernel
theorem dX5_takeAll_18 : decode cX5_takeAll 18 = .ok (.getfield 10, 3) := by decide +kernel
theorem dX5_takeAll_21 : decode cX5_takeAll 21 = .ok (.getfield 68, 3) := by decide +kernel
theorem dX5_takeAll_24 : decode cX5_takeAll 24 = .ok (.iload 4, 2) := by decide +kernel
theorem dX5_takeAll_26 : decode cX5_takeAll 26 = .ok (.baload, 1) := by decide +kernel
theorem dX5_takeAll_27 : decode cX5_takeAll 27 = .ok (.ifCond .eq 34, 3) := by decide +kernel
theorem dX5_takeAll_30 : decode cX5_takeAll 30 = .ok (.lload_n 2, 1) := by decide +kernel
theorem dX5_takeAll_31 : decode cX5_takeAll 31 = .ok (.aload_n 0, 1) := by decide +kernel
theorem dX5_takeAll_32 : decode cX5_takeAll 32 = .ok (.getfield 26, 3) := by decide +kernel
theorem dX5_takeAll_35 : decode cX5_takeAll 35 = .ok (.aload_n 0, 1) := by decide +kernel
theorem dX5_takeAll_36 : decode cX5_takeAll 36 = .ok (.getfield 10, 3) := by decide +kernel
theorem dX5_takeAll_39 : decode cX5_takeAll 39 = .ok (.getfield 89, 3) := by decide +kernel
theorem dX5_takeAll_42 : decode cX5_takeAll 42 = .ok (.iload 4, 2) := by decide +kernel
theorem dX5_takeAll_44 : decode cX5_takeAll 44 = .ok (.iaload, 1) := by decide +kernel
theorem dX5_takeAll_45 : decode cX5_takeAll 45 = .ok (.aload_n 0, 1) := by decide +kernel
theorem dX5_takeAll_46 : decode cX5_takeAll 46 = .ok (.getfield 10, 3) := by decide +kernel
theorem dX5_takeAll_49 : decode cX5_takeAll 49 = .ok (.iload 4, 2) := by decide +kernel
theorem dX5_takeAll_51 : decode cX5_takeAll 51 = .ok (.iload_n 1, 1) := by decide +kernel
theorem dX5_takeAll_52 : decode cX5_takeAll 52 = .ok (.invokevirtual 83, 3) := by decide +kernel
theorem dX5_takeAll_55 : decode cX5_takeAll 55 = .ok (.i2l, 1) := by decide +kernel
theorem dX5_takeAll_56 : decode cX5_takeAll 56 = .ok (.invokevirtual 213, 3) := by decide +kernel
theorem dX5_takeAll_59 : decode cX5_takeAll 59 = .ok (.ladd, 1) := by decide +kernel
theorem dX5_takeAll_60 : decode cX5_takeAll 60 = .ok (.lstore_n 2, 1) := by decide +kernel
theorem dX5_takeAll_61 : decode cX5_takeAll 61 = .ok (.iinc 4 1, 3) := by decide +kernel
theorem dX5_takeAll_64 : decode cX5_takeAll 64 = .ok (.goto (-59), 3) := by decide +kernel
theorem dX5_takeAll_67 : decode cX5_takeAll 67 = .ok (.lload_n 2, 1) := by decide +kernel
theorem dX5_takeAll_68 : decode cX5_takeAll 68 = .ok (.lreturn, 1) := by decide +kernel
end
section
/-! What each call answers, and the state behind it. -/
theorem hg_in_t {v lo hi : Int32} (h : ¬ hg_in v lo hi = 0) : lo ≤ v ∧ v ≤ hi := Classical.byContradiction (fun q => h (hg_in_0 q))
theorem hg_in_f {v lo hi : Int32} (h : hg_in v lo hi = 0) : ¬ (lo ≤ v ∧ v ≤ hi) := fun q => by rw [hg_in_1 q] at h; exact absurd h (by decide)
theorem hg_rng {v : Int32} {lo hi : Nat} (hl : lo < 2 ^ 31) (hh : hi < 2 ^ 31) (h : nI lo ≤ v ∧ v ≤ nI hi) : ∃ k, lo ≤ k ∧ k ≤ hi ∧ v = nI k := by
  have h1 := hg_le.mp h.1
  have h2 := hg_le.mp h.2
  rw [nI_toInt hl] at h1
  rw [nI_toInt hh] at h2
  obtain ⟨j, hj, rfl⟩ := nI_of (x := v) (by rw [hg_nlt, hg_le, i_z]; omega)
  rw [nI_toInt hj] at h1 h2
  exact ⟨j, by omega, by omega, rfl⟩
theorem hg_wel {v : Int32} {n : Nat} (hn : n < 2 ^ 30) (h : nI 0 ≤ v ∧ v ≤ nI n - nI 1) : ∃ k, k < n ∧ v = nI k := by
  have h1 := hg_le.mp h.1
  have h2 := hg_le.mp h.2
  rw [i_0] at h1
  rw [pk_sub_toInt hn (by omega)] at h2
  obtain ⟨j, hj, rfl⟩ := nI_of (x := v) (by rw [hg_nlt, hg_le, i_z]; omega)
  rw [nI_toInt hj] at h1 h2
  exact ⟨j, by omega, rfl⟩
abbrev ok_in (v : Int32) (lo hi : Nat) : Prop := nI lo ≤ v ∧ v ≤ nI hi
abbrev ok_of (v : Int32) (n : Nat) : Prop := nI 0 ≤ v ∧ v ≤ nI n - nI 1
abbrev ok_well (k b a1 b1 c1 d1 e1 : Int32) : Prop := ok_in k 0 2 ∧ ok_in b 0 3 ∧ ok_in a1 0 200 ∧ (nI 0 ≤ b1 ∧ b1 ≤ a1) ∧ (nI 0 ≤ c1 ∧ c1 ≤ b1) ∧ (nI 0 ≤ d1 ∧ d1 ≤ c1) ∧ (nI 0 ≤ e1 ∧ e1 ≤ d1)
def s_well (S : hg_S) (k b a1 b1 c1 d1 e1 : Int32) : hg_S := hg_si (hg_sn (hg_si (hg_si S 0 (upd (hg_i S 0) (hg_n S 0) k)) 1 (upd (hg_i S 1) (hg_n S 0) b)) 0 (hg_n S 0 + 1)) 4 (upd (upd (upd (upd (upd (hg_i S 4) (hg_n S 0 * 5) a1) (hg_n S 0 * 5 + 1) b1) (hg_n S 0 * 5 + 2) c1) (hg_n S 0 * 5 + 3) d1) (hg_n S 0 * 5 + 4) e1)
def r_well (S : hg_S) (k b a1 b1 c1 d1 e1 : Int32) : Int32 × hg_S := if ok_well k b a1 b1 c1 d1 e1 then (if hg_n S 0 < 8 then (nI (hg_n S 0), s_well S k b a1 b1 c1 d1 e1) else (-3, S)) else (-1, S)
def f_01 (v : Int32) : Int32 := if v = 0 then nI 0 else nI 1
def r_open (S : hg_S) (w x : Int32) : Int32 × hg_S := if ok_of w (hg_n S 0) then (f_01 (hg_i S 3 w.toNatClampNeg), hg_si S 3 (upd (hg_i S 3) w.toNatClampNeg x)) else (-1, S)
def r_clean (S : hg_S) (w : Int32) : Int32 × hg_S := if ok_of w (hg_n S 0) then (hg_i S 2 w.toNatClampNeg, hg_si S 2 (upd (hg_i S 2) w.toNatClampNeg (nI 0))) else (-1, S)
def r_flow (S : hg_S) (w p : Int32) : Int32 × hg_S := if ok_of w (hg_n S 0) ∧ ok_in p 0 20 then (f_flow S w.toNatClampNeg p.toNatClampNeg, hg_st S (hg_t S + Int32.toInt64 (f_weight S w.toNatClampNeg))) else (-1, S)
def a_about (S : hg_S) (w q : Int32) : Int32 := if ok_of w (hg_n S 0) ∧ ok_in q 0 8 then (if q = nI 0 then hg_i S 0 w.toNatClampNeg else if q = nI 1 then hg_i S 1 w.toNatClampNeg else if q = nI 2 then hg_i S 2 w.toNatClampNeg else if q = nI 3 then f_01 (hg_i S 3 w.toNatClampNeg) else hg_i S 4 (w.toNatClampNeg * 5 + q.toNatClampNeg - 4)) else -1
def s_turb (S : hg_S) (a b d : Int32) : hg_S := hg_sn (hg_si (hg_si (hg_si (hg_si S 5 (upd (hg_i S 5) (hg_n S 1) a)) 6 (upd (hg_i S 6) (hg_n S 1) b)) 7 (upd (hg_i S 7) (hg_n S 1) d)) 8 (upd (hg_i S 8) (hg_n S 1) (nI 1))) 1 (hg_n S 1 + 1)
def r_turb (S : hg_S) (a b d : Int32) : Int32 × hg_S := if ok_in a 0 20 ∧ ok_in b 1 40 ∧ ok_in d 1 2000 then (if hg_n S 1 < 4 then (nI (hg_n S 1), s_turb S a b d) else (-3, S)) else (-1, S)
def r_on (S : hg_S) (w x : Int32) : Int32 × hg_S := if ok_of w (hg_n S 1) then (f_01 (hg_i S 8 w.toNatClampNeg), hg_si S 8 (upd (hg_i S 8) w.toNatClampNeg x)) else (-1, S)
def a_at (S : hg_S) (q p : Int32) : Int32 := if ok_in q 0 2 ∧ ok_in p 0 20 then (if q = nI 0 then f_supply S p.toNatClampNeg else if q = nI 1 then f_draw S p.toNatClampNeg else f_water S p.toNatClampNeg) else -1
def r_fill (S : hg_S) (b a d : Int32) : Int32 × hg_S := if ok_in b 0 3 ∧ ok_in a 0 10000000 ∧ ok_in d 0 10000000 then (nI 1, hg_sl (hg_sl S 0 (vp_updL (hg_l S 0) b.toNatClampNeg (Int32.toInt64 a))) 1 (vp_updL (hg_l S 1) b.toNatClampNeg (Int32.toInt64 d))) else (-1, S)
def r_leak (S : hg_S) (w v : Int32) : Int32 × hg_S := if ok_in w 0 2 ∧ ok_in v 2 1000 then (hg_i S 9 w.toNatClampNeg, hg_si S 9 (upd (hg_i S 9) w.toNatClampNeg v)) else (-1, S)
def r_feed (S : hg_S) (w v : Int32) : Int32 × hg_S := if ok_in w 0 3 ∧ ok_in v 0 1000 then (hg_i S 10 w.toNatClampNeg, hg_si S 10 (upd (hg_i S 10) w.toNatClampNeg v)) else (-1, S)
def r_gsh (S : hg_S) (v : Int32) : Int32 × hg_S := if ok_in v 0 1000 then (nI (hg_n S 2), hg_sn S 2 v.toNatClampNeg) else (-1, S)
def r_gbx (S : hg_S) (v : Int32) : Int32 × hg_S := if ok_in v 0 3 then (nI (hg_n S 3), hg_sn S 3 v.toNatClampNeg) else (-1, S)
def r_set (S : hg_S) (q w v : Int32) : Int32 × hg_S := if q = nI 0 then r_leak S w v else if q = nI 1 then r_feed S w v else if q = nI 2 then (if w = nI 0 then r_gsh S v else if w = nI 1 then r_gbx S v else (-1, S)) else (-1, S)
def a_box (S : hg_S) (b q : Int32) : Int64 := if ok_in b 0 3 ∧ ok_in q 0 1 then (if q = nI 0 then hg_l S 0 b.toNatClampNeg else hg_l S 1 b.toNatClampNeg) else -1
def a_sum (S : hg_S) (q : Int32) : Int64 := if ok_in q 0 8 then hg_l S 2 q.toNatClampNeg else -1
def f_shr (S : hg_S) (k : Nat) (v : Int32) : Int32 := hg_sum (hg_i S 11) 6 - hg_i S 11 k + v
def r_share (S : hg_S) (k v : Int32) : Int32 × hg_S := if ok_in k 0 5 ∧ ok_in v 0 1000 ∧ f_shr S k.toNatClampNeg v ≤ nI 1000 then (hg_i S 11 k.toNatClampNeg, hg_si S 11 (upd (hg_i S 11) k.toNatClampNeg v)) else (-1, S)
def r_put (S : hg_S) (v : Int32) : Int32 × hg_S := if ok_in v 0 1000000 then (if hg_n S 4 < 12 then (nI (hg_n S 4 + 1), hg_sn (hg_si S 12 (upd (hg_i S 12) (hg_n S 4) v)) 4 (hg_n S 4 + 1)) else (-3, S)) else (-1, S)
def a_back (S : hg_S) (y : Int32) : Int32 := if ok_in y 0 16 then f_comes S y.toNatClampNeg else -1
def r_cut (S : hg_S) : Int32 × hg_S := if hg_n S 4 = 0 then (-2, S) else (nI (hg_n S 4 - 1), hg_sn S 4 (hg_n S 4 - 1))
def s_cand (S : hg_S) (a b d : Int32) : hg_S := hg_sn (hg_si (hg_si (hg_si S 13 (upd (hg_i S 13) (hg_n S 5) a)) 14 (upd (hg_i S 14) (hg_n S 5) b)) 15 (upd (hg_i S 15) (hg_n S 5) d)) 5 (hg_n S 5 + 1)
def r_cand (S : hg_S) (a b d : Int32) : Int32 × hg_S := if ok_in a 1 1000 ∧ ok_in b 0 5 ∧ ok_in d 1 500 then (if hg_n S 5 < 8 then (nI (hg_n S 5), s_cand S a b d) else (-3, S)) else (-1, S)
def r_prom (S : hg_S) (y v : Int32) : Int32 × hg_S := if ok_in y 0 5 ∧ ok_in v 0 3000 then (hg_i S 16 y.toNatClampNeg, hg_si S 16 (upd (hg_i S 16) y.toNatClampNeg v)) else (-1, S)
def f_bst (S : hg_S) : Int32 := (f_best S (2 ^ hg_n S 5)).1
def a_plan (S : hg_S) (q : Int32) : Int32 := if ok_in q 0 1 then (if f_bst S = -9 then -9 else if q = nI 0 then f_bst S else f_cost S (f_bst S)) else -1
def a_lacks (S : hg_S) (a y : Int32) : Int32 := if ok_of a (2 ^ hg_n S 5) ∧ ok_in y 0 5 then f_lack S a y.toNatClampNeg else -1
def f_tr (f : Nat → Int32) (n : Nat) : Int32 := hg_sum (fun i => f_01 (f i)) n
def a_count (S : hg_S) (q : Int32) : Int32 := if q = nI 0 then nI (hg_n S 0) else if q = nI 1 then nI (hg_n S 1) else if q = nI 2 then nI (hg_n S 5) else if q = nI 3 then nI (hg_n S 4) else if q = nI 4 then f_tr (hg_i S 3) (hg_n S 0) else if q = nI 5 then f_tr (hg_i S 8) (hg_n S 1) else -1
/-! years -/
def s_add (S : hg_S) (k : Nat) (v : Int64) : hg_S := hg_sl S 2 (vp_updL (hg_l S 2) k (hg_l S 2 k + v))
def f_bx (S : hg_S) (w : Nat) : Nat := (hg_i S 1 w).toNatClampNeg
def f_fl (S : hg_S) (w p : Nat) : Int64 := Int32.toInt64 (f_flow S w p)
/-- wells take: what was taken, the state -/
def s_takes (S : hg_S) (p : Nat) : Nat → Int64 × hg_S
  | 0 => (0, S)
  | i + 1 => if hg_i (s_takes S p i).2 3 i = 0 then s_takes S p i else ((s_takes S p i).1 + f_part (s_takes S p i).2 (f_bx (s_takes S p i).2 i) (f_fl (s_takes S p i).2 i p), s_take (s_takes S p i).2 (f_bx (s_takes S p i).2 i) (f_fl (s_takes S p i).2 i p))
def f_tk (S : hg_S) (p i : Nat) : Int64 := (s_takes S p i).1
def s_tk (S : hg_S) (p i : Nat) : hg_S := (s_takes S p i).2
def s_sold (S : hg_S) (p : Nat) : hg_S := s_add S 6 (Int32.toInt64 (f_draw S p))
def s_prod (S : hg_S) (p : Nat) : hg_S := s_give (s_tk (s_sold S p) p (hg_n S 0)) (f_tk (s_sold S p) p (hg_n S 0))
def s_first (S : hg_S) : hg_S := if f_point S = -9 then s_add S 8 1 else s_prod S (f_point S).toNatClampNeg
def s_grow (S : hg_S) : hg_S := hg_si S 2 (f_ages S (hg_n S 0))
def s_year (S : hg_S) : hg_S := s_add (s_grow (s_feeds (s_leaks (s_first S) 3) 4)) 7 1
def s_years (S : hg_S) : Nat → hg_S
  | 0 => S
  | i + 1 => s_year (s_years S i)
def r_year (S : hg_S) (n : Int32) : Int32 × hg_S := if ok_in n 1 20 then (Int64.toInt32 (hg_l (s_years S n.toNatClampNeg) 2 7), s_years S n.toNatClampNeg) else (-1, S)
theorem f_meet_nat (S : hg_S) : ∀ k, k ≤ 21 → f_meet S k = -9 ∨ ∃ j, j < k ∧ f_meet S k = nI j
  | 0, _ => Or.inl rfl
  | k + 1, h => by
    unfold f_meet
    split
    · exact Or.inr ⟨k, Nat.lt_succ_self k, rfl⟩
    · rcases f_meet_nat S k (by omega) with q | ⟨j, h1, h2⟩
      · exact Or.inl q
      · exact Or.inr ⟨j, by omega, h2⟩
theorem f_point_nat {S : hg_S} (h : ¬ f_point S = -9) : ∃ j, j ≤ 20 ∧ f_point S = nI j := by
  rcases f_meet_nat S 21 (by omega) with q | ⟨j, h1, h2⟩
  · exact absurd q h
  · exact ⟨j, by omega, h2⟩
theorem hg_out {x : Int32} {n : Nat} (hn : n < 2 ^ 31) (h : ∀ j, j ≤ n → ¬ x = nI j) : x.toInt < 0 ∨ (n : Int) < x.toInt := by
  rcases Classical.em (x < 0) with q | q
  · exact Or.inl (by have := hg_lt.mp q; rw [i_z] at this; exact this)
  · obtain ⟨j, hj, rfl⟩ := nI_of q
    refine Or.inr ?_
    rw [nI_toInt hj]
    have : ¬ j ≤ n := fun q => h j q rfl
    omega
theorem s_take_i (S : hg_S) (b : Nat) (x : Int64) (k : Nat) : hg_i (s_take S b x) k = hg_i S k := rfl
theorem s_tk_i (S : hg_S) (p i k : Nat) : hg_i (s_tk S p i) k = hg_i S k := by
  induction i with
  | zero => rfl
  | succ i ih =>
    show hg_i (s_takes S p (i + 1)).2 k = _
    unfold s_takes
    split
    · exact ih
    · exact ih
theorem s_tk_n (S : hg_S) (p i k : Nat) : hg_n (s_tk S p i) k = hg_n S k := by
  induction i with
  | zero => rfl
  | succ i ih =>
    show hg_n (s_takes S p (i + 1)).2 k = _
    unfold s_takes
    split
    · exact ih
    · exact ih
theorem s_leak_n (S : hg_S) (i k : Nat) : hg_n (s_leak S i) k = hg_n S k := by unfold s_leak; split <;> rfl
theorem s_leaks_n (S : hg_S) (i k : Nat) : hg_n (s_leaks S i) k = hg_n S k := by
  induction i with
  | zero => rfl
  | succ i ih => exact (s_leak_n _ _ _).trans ih
theorem s_feeds_n (S : hg_S) (i k : Nat) : hg_n (s_feeds S i) k = hg_n S k := by
  induction i with
  | zero => rfl
  | succ i ih => exact ih
theorem s_prod_i (S : hg_S) (p k : Nat) : hg_i (s_prod S p) k = hg_i S k := by
  show hg_i (s_tk (s_sold S p) p (hg_n S 0)) k = _
  rw [s_tk_i]
  rfl
theorem s_prod_n (S : hg_S) (p k : Nat) : hg_n (s_prod S p) k = hg_n S k := by
  show hg_n (s_tk (s_sold S p) p (hg_n S 0)) k = _
  rw [s_tk_n]
  rfl
theorem s_first_i (S : hg_S) (k : Nat) : hg_i (s_first S) k = hg_i S k := by
  unfold s_first
  split
  · rfl
  · exact s_prod_i _ _ _
theorem s_first_n (S : hg_S) (k : Nat) : hg_n (s_first S) k = hg_n S k := by
  unfold s_first
  split
  · rfl
  · exact s_prod_n _ _ _
theorem s_add_n (S : hg_S) (j : Nat) (v : Int64) (k : Nat) : hg_n (s_add S j v) k = hg_n S k := rfl
theorem s_add_i (S : hg_S) (j : Nat) (v : Int64) (k : Nat) : hg_i (s_add S j v) k = hg_i S k := rfl
theorem s_grow_n (S : hg_S) (k : Nat) : hg_n (s_grow S) k = hg_n S k := rfl
theorem s_grow_i (S : hg_S) {k : Nat} (h : k ≠ 2) : hg_i (s_grow S) k = hg_i S k := if_neg h
theorem s_year_n (S : hg_S) (k : Nat) : hg_n (s_year S) k = hg_n S k := by
  unfold s_year
  rw [s_add_n, s_grow_n, s_feeds_n, s_leaks_n, s_first_n]
theorem s_year_i (S : hg_S) {k : Nat} (h : k ≠ 2) : hg_i (s_year S) k = hg_i S k := by
  unfold s_year
  rw [s_add_i, s_grow_i _ h, s_feeds_i, s_leaks_i, s_first_i]
theorem s_years_n (S : hg_S) (i k : Nat) : hg_n (s_years S i) k = hg_n S k := by
  induction i with
  | zero => rfl
  | succ i ih => exact (s_year_n _ _).trans ih
theorem s_years_i (S : hg_S) (i : Nat) {k : Nat} (h : k ≠ 2) : hg_i (s_years S i) k = hg_i S k := by
  induction i with
  | zero => rfl
  | succ i ih => exact (s_year_i _ h).trans ih
def ok_bx (S : hg_S) : Prop := ∀ w, w < 8 → ∃ b, b < 4 ∧ hg_i S 1 w = nI b
def ok_lk (S : hg_S) : Prop := ∀ i, i < 3 → ¬ Int32.toInt64 (hg_i S 9 i) = 0
theorem ok_bx.eq {S : hg_S} (h : ok_bx S) {w : Nat} (hw : w < 8) : hg_i S 1 w = nI (f_bx S w) := by
  obtain ⟨b, hb, e⟩ := h w hw
  unfold f_bx
  rw [e, nI_clamp (by omega)]
theorem ok_bx.lt {S : hg_S} (h : ok_bx S) {w : Nat} (hw : w < 8) : f_bx S w < 4 := by
  obtain ⟨b, hb, e⟩ := h w hw
  unfold f_bx
  rw [e, nI_clamp (by omega)]
  exact hb
theorem ok_bx.tk {S : hg_S} (h : ok_bx S) (p i : Nat) : ok_bx (s_tk S p i) := fun w hw => by rw [s_tk_i]; exact h w hw
theorem ok_lk.first {S : hg_S} (h : ok_lk S) : ok_lk (s_first S) := fun w hw => by rw [s_first_i]; exact h w hw
theorem ok_bx.years {S : hg_S} (h : ok_bx S) (i : Nat) : ok_bx (s_years S i) := fun w hw => by rw [s_years_i S i (by decide)]; exact h w hw
theorem ok_lk.years {S : hg_S} (h : ok_lk S) (i : Nat) : ok_lk (s_years S i) := fun w hw => by rw [s_years_i S i (by decide)]; exact h w hw
theorem hg_dec20 {i : Nat} (h : i < 21) : nI (20 - i) + Int32.ofInt (-1) = nI 20 - nI (i + 1) := by
  have key : ∀ j : Fin 21, nI (20 - j.val) + Int32.ofInt (-1) = nI 20 - nI (j.val + 1) := by decide +kernel
  exact key ⟨i, h⟩
end
section
set_option maxHeartbeats 4000000 in
set_option maxRecDepth 100000 in
/-- within -/
theorem m_X5_within (l : Launch) (v a b : Int32) : Met l yX5_within wsX5_within ({ frames := 0, cells := 0, slots := 0, locals := 0 }) (va_Pc [.int v, .int a, .int b] (fun _ => True)) (vp_Si (fun r => r = hg_in v a b)) 0 0 (fun _ => False) := by
  refine h_start (cc := cX5_within) (maxL := 3) (ret := (some .boolean)) (by decide) rfl (Nat.le_of_ble_eq_true rfl) ?_
  intro pg ev s mi args below meth cd ls hx hb hr hts hown hlocks hml hnm hpic hl
  have hl : lv_has ls 3 [(0, .int v), (1, .int a), (2, .int b)] := hl
  refine lv_iload_n hx hb dX5_within_0 rfl (lv_at hl 0 rfl) ?_
  refine lv_iload_n hx hb dX5_within_1 rfl (lv_at hl 1 rfl) ?_
  refine lv_icmp_lt (tgt := 14) hx hb dX5_within_2 (by decide) (fun c_2 => ?_) (fun c_2 => ?_)
  · skip
    refine lv_iconst (v := nI 0) hx hb dX5_within_14 (by decide) ?_
    exact W.zret (v := nI 0) hx hb hr (by decide) (fun t ht hW => ⟨_, rfl, by rw [hg_in_0 (fun q => by first | exact hg_nlt.mpr q.1 c_2 | exact hg_nlt.mpr q.2 c_7)]; decide, ht⟩) (fun _ h9 => nomatch h9) dX5_within_15
  · skip
    refine lv_iload_n hx hb dX5_within_5 rfl (lv_at hl 0 rfl) ?_
    refine lv_iload_n hx hb dX5_within_6 rfl (lv_at hl 2 rfl) ?_
    refine lv_icmp_gt (tgt := 14) hx hb dX5_within_7 (by decide) (fun c_7 => ?_) (fun c_7 => ?_)
    · skip
      refine lv_iconst (v := nI 0) hx hb dX5_within_14 (by decide) ?_
      exact W.zret (v := nI 0) hx hb hr (by decide) (fun t ht hW => ⟨_, rfl, by rw [hg_in_0 (fun q => by first | exact hg_nlt.mpr q.1 c_2 | exact hg_nlt.mpr q.2 c_7)]; decide, ht⟩) (fun _ h9 => nomatch h9) dX5_within_15
    · skip
      refine lv_iconst (v := nI 1) hx hb dX5_within_10 (by decide) ?_
      refine lv_goto (tgt := 15) hx hb dX5_within_11 (by decide) ?_
      exact W.zret (v := nI 1) hx hb hr (by decide) (fun t ht hW => ⟨_, rfl, by rw [hg_in_1 ⟨hg_nlt.mp c_2, hg_nlt.mp c_7⟩]; decide, ht⟩) (fun _ h9 => nomatch h9) dX5_within_15
set_option maxHeartbeats 4000000 in
set_option maxRecDepth 100000 in
/-- isPressure -/
theorem m_X5_isPressure (l : Launch) (v : Int32) : Met l yX5_isPressure wsX5_isPressure ({ frames := 1, cells := 0, slots := 0, locals := 22 }) (va_Pc [.int v] (fun _ => True)) (vp_Si (fun r => r = hg_in v (nI 0) (nI 20))) 0 0 (fun _ => False) := by
  refine h_start (cc := cX5_isPressure) (maxL := 1) (ret := (some .boolean)) (by decide) rfl (Nat.le_of_ble_eq_true rfl) ?_
  intro pg ev s mi args below meth cd ls hx hb hr hts hown hlocks hml hnm hpic hl
  have hl : lv_has ls 1 [(0, .int v)] := hl
  refine lv_iload_n hx hb dX5_isPressure_0 rfl (lv_at hl 0 rfl) ?_
  refine lv_iconst (v := nI 0) hx hb dX5_isPressure_1 (by decide) ?_
  refine lv_bipush (v := nI 20) hx hb dX5_isPressure_2 (by decide) ?_
  refine vp_callSi (va_Run.run (va_runS (As := [.int v, .int (nI 0), .int (nI 20)]) (rest := []) ⟨hx, hb, hml, hown, hts⟩ (m_X5_within l v (nI 0) (nI 20)) (va_cwS 3 hts gX5_isPressure_X5_within rfl rfl rfl (by decide +kernel) ⟨Nat.le_of_ble_eq_true rfl, Nat.le_of_ble_eq_true rfl⟩) (h_preS0) rfl rfl hl.1 rfl (lv_room (Nat.le_of_ble_eq_true rfl)) dX5_isPressure_4 ⟨Nat.le_of_ble_eq_true rfl, Nat.le_of_ble_eq_true rfl⟩)) (fun r_1 hr_1 => ?_)
  subst hr_1
  exact W.zret (v := hg_in v (nI 0) (nI 20)) hx hb hr (hg_in_nar _ _ _) (fun t ht hW => ⟨_, rfl, rfl, ht⟩) (fun _ h9 => nomatch h9) dX5_isPressure_7
set_option maxHeartbeats 4000000 in
set_option maxRecDepth 100000 in
/-- isBox -/
theorem m_X5_isBox (l : Launch) (v : Int32) : Met l yX5_isBox wsX5_isBox ({ frames := 1, cells := 0, slots := 0, locals := 22 }) (va_Pc [.int v] (fun _ => True)) (vp_Si (fun r => r = hg_in v (nI 0) (nI 3))) 0 0 (fun _ => False) := by
  refine h_start (cc := cX5_isBox) (maxL := 1) (ret := (some .boolean)) (by decide) rfl (Nat.le_of_ble_eq_true rfl) ?_
  intro pg ev s mi args below meth cd ls hx hb hr hts hown hlocks hml hnm hpic hl
  have hl : lv_has ls 1 [(0, .int v)] := hl
  refine lv_iload_n hx hb dX5_isBox_0 rfl (lv_at hl 0 rfl) ?_
  refine lv_iconst (v := nI 0) hx hb dX5_isBox_1 (by decide) ?_
  refine lv_iconst (v := nI 3) hx hb dX5_isBox_2 (by decide) ?_
  refine vp_callSi (va_Run.run (va_runS (As := [.int v, .int (nI 0), .int (nI 3)]) (rest := []) ⟨hx, hb, hml, hown, hts⟩ (m_X5_within l v (nI 0) (nI 3)) (va_cwS 3 hts gX5_isBox_X5_within rfl rfl rfl (by decide +kernel) ⟨Nat.le_of_ble_eq_true rfl, Nat.le_of_ble_eq_true rfl⟩) (h_preS0) rfl rfl hl.1 rfl (lv_room (Nat.le_of_ble_eq_true rfl)) dX5_isBox_3 ⟨Nat.le_of_ble_eq_true rfl, Nat.le_of_ble_eq_true rfl⟩)) (fun r_1 hr_1 => ?_)
  subst hr_1
  exact W.zret (v := hg_in v (nI 0) (nI 3)) hx hb hr (hg_in_nar _ _ _) (fun t ht hW => ⟨_, rfl, rfl, ht⟩) (fun _ h9 => nomatch h9) dX5_isBox_6
set_option maxHeartbeats 4000000 in
set_option maxRecDepth 100000 in
/-- isPlanYear -/
theorem m_X5_isPlanYear (l : Launch) (v : Int32) : Met l yX5_isPlanYear wsX5_isPlanYear ({ frames := 1, cells := 0, slots := 0, locals := 22 }) (va_Pc [.int v] (fun _ => True)) (vp_Si (fun r => r = hg_in v (nI 0) (nI 5))) 0 0 (fun _ => False) := by
  refine h_start (cc := cX5_isPlanYear) (maxL := 1) (ret := (some .boolean)) (by decide) rfl (Nat.le_of_ble_eq_true rfl) ?_
  intro pg ev s mi args below meth cd ls hx hb hr hts hown hlocks hml hnm hpic hl
  have hl : lv_has ls 1 [(0, .int v)] := hl
  refine lv_iload_n hx hb dX5_isPlanYear_0 rfl (lv_at hl 0 rfl) ?_
  refine lv_iconst (v := nI 0) hx hb dX5_isPlanYear_1 (by decide) ?_
  refine lv_iconst (v := nI 5) hx hb dX5_isPlanYear_2 (by decide) ?_
  refine vp_callSi (va_Run.run (va_runS (As := [.int v, .int (nI 0), .int (nI 5)]) (rest := []) ⟨hx, hb, hml, hown, hts⟩ (m_X5_within l v (nI 0) (nI 5)) (va_cwS 3 hts gX5_isPlanYear_X5_within rfl rfl rfl (by decide +kernel) ⟨Nat.le_of_ble_eq_true rfl, Nat.le_of_ble_eq_true rfl⟩) (h_preS0) rfl rfl hl.1 rfl (lv_room (Nat.le_of_ble_eq_true rfl)) dX5_isPlanYear_3 ⟨Nat.le_of_ble_eq_true rfl, Nat.le_of_ble_eq_true rfl⟩)) (fun r_1 hr_1 => ?_)
  subst hr_1
  exact W.zret (v := hg_in v (nI 0) (nI 5)) hx hb hr (hg_in_nar _ _ _) (fun t ht hW => ⟨_, rfl, rfl, ht⟩) (fun _ h9 => nomatch h9) dX5_isPlanYear_6
set_option maxHeartbeats 4000000 in
set_option maxRecDepth 100000 in
/-- is there such a well -/
theorem m_X5_isWell (l : Launch) (D : va_G) (o : Nat → Nat) (cI cJ cZ : ClassId) (S : hg_S) (v : Int32) : Met l yX5_isWell wsX5_isWell ({ frames := 1, cells := 0, slots := 0, locals := 22 }) (va_Pc [.ref (o 0), .int v] (hg_R D (xW o cI cJ cZ S) (hg_ty cI cJ cZ))) (vp_Si (fun r => r = hg_in v (nI 0) (nI (hg_n S 0) - nI 1))) 0 0 (fun _ => False) := by
  refine h_start (cc := cX5_isWell) (maxL := 2) (ret := (some .boolean)) (by decide) rfl (Nat.le_of_ble_eq_true rfl) ?_
  intro pg ev s mi args below meth cd ls hx hb hr hts hown hlocks hml hnm hpic hl
  obtain ⟨hP, hK⟩ := hpic
  have hi4 : ∀ w ∈ u_ws RX4 TX4 6, w ∈ wsX5_isWell := by decide +kernel
  have hi5 : ∀ w ∈ u_ws RX5 TX5 6, w ∈ wsX5_isWell := by decide +kernel
  have hl : lv_has ls 2 [(0, .ref (o 0)), (1, .int v)] := hl
  refine lv_iload_n hx hb dX5_isWell_0 rfl (lv_at hl 1 rfl) ?_
  refine lv_iconst (v := nI 0) hx hb dX5_isWell_1 (by decide) ?_
  refine lv_aload_n hx hb dX5_isWell_2 rfl (lv_at hl 0 rfl) ?_
  refine va_get (C := RX5) (T := TX5) (N := 6) (v := .ref (o 1)) hx hb hts hi5 hown hK hP 0 rfl rfl 0 (by decide) (hts (.fieldLink RX5 10 "HotGround" "wells" "LHotGround$Wells;") (by decide +kernel)) (fun _ h9 => h9) rfl dX5_isWell_3 ?_
  refine va_get (C := RX4) (T := TX4) (N := 6) (v := .int (nI (hg_n S 0))) hx hb hts hi4 hown hK hP 1 rfl rfl 0 (by decide) (hts (.fieldLink RX5 52 "HotGround$Wells" "count" "I") (by decide +kernel)) (fun _ h9 => h9) rfl dX5_isWell_6 ?_
  refine lv_iconst (v := nI 1) hx hb dX5_isWell_9 (by decide) ?_
  refine lv_isub hx hb dX5_isWell_10 ?_
  refine vp_callSi (va_Run.run (va_runS (As := [.int v, .int (nI 0), .int ((nI (hg_n S 0)) - (nI 1))]) (rest := []) ⟨hx, hb, hml, hown, hts⟩ (m_X5_within l v (nI 0) ((nI (hg_n S 0)) - (nI 1))) (va_cwS 3 hts gX5_isWell_X5_within rfl rfl rfl (by decide +kernel) ⟨Nat.le_of_ble_eq_true rfl, Nat.le_of_ble_eq_true rfl⟩) (h_preS0) rfl rfl hl.1 rfl (lv_room (Nat.le_of_ble_eq_true rfl)) dX5_isWell_11 ⟨Nat.le_of_ble_eq_true rfl, Nat.le_of_ble_eq_true rfl⟩)) (fun r_1 hr_1 => ?_)
  subst hr_1
  exact W.zret (v := hg_in v (nI 0) ((nI (hg_n S 0)) - (nI 1))) hx hb hr (hg_in_nar _ _ _) (fun t ht hW => ⟨_, rfl, rfl, ht⟩) (fun _ h9 => nomatch h9) dX5_isWell_14
set_option maxHeartbeats 4000000 in
set_option maxRecDepth 100000 in
/-- how many are -/
theorem m_X5_trues3 (l : Launch) (D : va_G) (o : Nat → Nat) (cI cJ cZ : ClassId) (S : hg_S) (n : Nat) (hn : n ≤ 8) : Met l yX5_trues wsX5_trues ({ frames := 0, cells := 0, slots := 0, locals := 0 }) (va_Pc [.ref (o 9), .int (nI n)] (hg_R D (xW o cI cJ cZ S) (hg_ty cI cJ cZ))) (vp_Si (fun r => r = f_tr (hg_i S 3) n)) 0 0 (fun _ => False) := by
  refine h_start (cc := cX5_trues) (maxL := 4) (ret := (some .int)) (by decide) rfl (Nat.le_of_ble_eq_true rfl) ?_
  intro pg ev s mi args below meth cd ls hx hb hr hts hown hlocks hml hnm hpic hl
  obtain ⟨hP, hK⟩ := hpic
  have hl : lv_has ls 4 [(0, .ref (o 9)), (1, .int (nI n))] := hl
  refine lv_iconst (v := nI 0) hx hb dX5_trues_0 (by decide) ?_
  refine h_topi (y := hg_sum (fun i => f_01 (hg_i S 3 i)) 0) (hg_sum_0) ?_
  refine lv_istore_n (lv' := [(2, .int (hg_sum (fun i => f_01 (hg_i S 3 i)) 0)), (0, .ref (o 9)), (1, .int (nI n))]) hx hb dX5_trues_1 rfl hl (by decide) rfl (fun ls hl => ?_)
  refine lv_iconst (v := nI 0) hx hb dX5_trues_2 (by decide) ?_
  refine lv_istore_n (lv' := [(3, .int (nI 0)), (2, .int (hg_sum (fun i => f_01 (hg_i S 3 i)) 0)), (0, .ref (o 9)), (1, .int (nI n))]) hx hb dX5_trues_3 rfl hl (by decide) rfl (fun ls hl => ?_)
  refine h_for (nL := 4) (n) (fun i => [(3, .int (nI i)), (2, .int (hg_sum (fun i => f_01 (hg_i S 3 i)) i)), (0, .ref (o 9)), (1, .int (nI n))]) ?_ ?_ (lv_sub hl [0, 1, 2, 3] rfl)
  · intro i ls hi hl ih
    have hl : lv_has ls 4 [(3, .int (nI i)), (2, .int (hg_sum (fun i => f_01 (hg_i S 3 i)) i)), (0, .ref (o 9)), (1, .int (nI n))] := hl
    refine lv_iload_n hx hb dX5_trues_4 rfl (lv_at hl 0 rfl) ?_
    refine lv_iload_n hx hb dX5_trues_5 rfl (lv_at hl 3 rfl) ?_
    refine lv_icmp_ge (tgt := 24) hx hb dX5_trues_6 (by decide) (fun c_6 => absurd c_6 (nI_ge hi (by omega))) (fun c_6 => ?_)
    refine lv_aload_n hx hb dX5_trues_9 rfl (lv_at hl 2 rfl) ?_
    refine lv_iload_n hx hb dX5_trues_10 rfl (lv_at hl 0 rfl) ?_
    refine h_zald (f := hg_i S 3) hx hb hK hP 9 2 rfl rfl i (rfl) (by omega) (by decide) dX5_trues_11 ?_
    refine lv_if_eq (tgt := 18) hx hb dX5_trues_12 (by decide) (fun c_12 => ?_) (fun c_12 => ?_)
    · skip
      rw [show hg_sum (fun i => f_01 (hg_i S 3 i)) i = hg_sum (fun i => f_01 (hg_i S 3 i)) (i + 1) from hg_sum_keep (g := fun i => f_01 (hg_i S 3 i)) (n := i) (by show f_01 _ = 0; unfold f_01; rw [if_pos c_12, nI_0])] at hl
      have hl : lv_has ls 4 [(3, .int (nI i)), (2, .int (hg_sum (fun i => f_01 (hg_i S 3 i)) (i + 1))), (0, .ref (o 9)), (1, .int (nI n))] := hl
      refine lv_iinc (v := nI (i + 1)) (lv' := [(3, .int (nI (i + 1))), (2, .int (hg_sum (fun i => f_01 (hg_i S 3 i)) (i + 1))), (0, .ref (o 9)), (1, .int (nI n))]) hx hb dX5_trues_18 hl (k := 0) rfl (nI_1 _) (by decide) rfl (fun ls hl => ?_)
      refine lv_goto (tgt := 4) hx hb dX5_trues_21 (by decide) ?_
      exact ih ls (lv_sub hl [0, 1, 2, 3] rfl)
    · skip
      refine lv_iinc (v := hg_sum (fun i => f_01 (hg_i S 3 i)) (i + 1)) (lv' := [(2, .int (hg_sum (fun i => f_01 (hg_i S 3 i)) (i + 1))), (3, .int (nI i)), (0, .ref (o 9)), (1, .int (nI n))]) hx hb dX5_trues_15 hl (k := 1) rfl (by show _ + _ = _ + f_01 _; unfold f_01; rw [if_neg c_12]; rfl) (by decide) rfl (fun ls hl => ?_)
      refine lv_iinc (v := nI (i + 1)) (lv' := [(3, .int (nI (i + 1))), (2, .int (hg_sum (fun i => f_01 (hg_i S 3 i)) (i + 1))), (0, .ref (o 9)), (1, .int (nI n))]) hx hb dX5_trues_18 hl (k := 1) rfl (nI_1 _) (by decide) rfl (fun ls hl => ?_)
      refine lv_goto (tgt := 4) hx hb dX5_trues_21 (by decide) ?_
      exact ih ls (lv_sub hl [0, 1, 2, 3] rfl)
  · intro ls hl
    have hl : lv_has ls 4 [(3, .int (nI n)), (2, .int (hg_sum (fun i => f_01 (hg_i S 3 i)) n)), (0, .ref (o 9)), (1, .int (nI n))] := hl
    refine lv_iload_n hx hb dX5_trues_4 rfl (lv_at hl 0 rfl) ?_
    refine lv_iload_n hx hb dX5_trues_5 rfl (lv_at hl 3 rfl) ?_
    refine lv_icmp_ge (tgt := 24) hx hb dX5_trues_6 (by decide) (fun c_6 => ?_) (fun c_6 => absurd (nI_le (Nat.le_refl _) (by omega)) c_6)
    refine lv_iload_n hx hb dX5_trues_24 rfl (lv_at hl 1 rfl) ?_
    exact W.iret (v := hg_sum (fun i => f_01 (hg_i S 3 i)) n) hx hb hr (fun t ht hW => ⟨_, rfl, rfl, ht⟩) (fun _ h9 => nomatch h9) dX5_trues_25
set_option maxHeartbeats 4000000 in
set_option maxRecDepth 100000 in
/-- how many are -/
theorem m_X5_trues8 (l : Launch) (D : va_G) (o : Nat → Nat) (cI cJ cZ : ClassId) (S : hg_S) (n : Nat) (hn : n ≤ 4) : Met l yX5_trues wsX5_trues ({ frames := 0, cells := 0, slots := 0, locals := 0 }) (va_Pc [.ref (o 14), .int (nI n)] (hg_R D (xW o cI cJ cZ S) (hg_ty cI cJ cZ))) (vp_Si (fun r => r = f_tr (hg_i S 8) n)) 0 0 (fun _ => False) := by
  refine h_start (cc := cX5_trues) (maxL := 4) (ret := (some .int)) (by decide) rfl (Nat.le_of_ble_eq_true rfl) ?_
  intro pg ev s mi args below meth cd ls hx hb hr hts hown hlocks hml hnm hpic hl
  obtain ⟨hP, hK⟩ := hpic
  have hl : lv_has ls 4 [(0, .ref (o 14)), (1, .int (nI n))] := hl
  refine lv_iconst (v := nI 0) hx hb dX5_trues_0 (by decide) ?_
  refine h_topi (y := hg_sum (fun i => f_01 (hg_i S 8 i)) 0) (hg_sum_0) ?_
  refine lv_istore_n (lv' := [(2, .int (hg_sum (fun i => f_01 (hg_i S 8 i)) 0)), (0, .ref (o 14)), (1, .int (nI n))]) hx hb dX5_trues_1 rfl hl (by decide) rfl (fun ls hl => ?_)
  refine lv_iconst (v := nI 0) hx hb dX5_trues_2 (by decide) ?_
  refine lv_istore_n (lv' := [(3, .int (nI 0)), (2, .int (hg_sum (fun i => f_01 (hg_i S 8 i)) 0)), (0, .ref (o 14)), (1, .int (nI n))]) hx hb dX5_trues_3 rfl hl (by decide) rfl (fun ls hl => ?_)
  refine h_for (nL := 4) (n) (fun i => [(3, .int (nI i)), (2, .int (hg_sum (fun i => f_01 (hg_i S 8 i)) i)), (0, .ref (o 14)), (1, .int (nI n))]) ?_ ?_ (lv_sub hl [0, 1, 2, 3] rfl)
  · intro i ls hi hl ih
    have hl : lv_has ls 4 [(3, .int (nI i)), (2, .int (hg_sum (fun i => f_01 (hg_i S 8 i)) i)), (0, .ref (o 14)), (1, .int (nI n))] := hl
    refine lv_iload_n hx hb dX5_trues_4 rfl (lv_at hl 0 rfl) ?_
    refine lv_iload_n hx hb dX5_trues_5 rfl (lv_at hl 3 rfl) ?_
    refine lv_icmp_ge (tgt := 24) hx hb dX5_trues_6 (by decide) (fun c_6 => absurd c_6 (nI_ge hi (by omega))) (fun c_6 => ?_)
    refine lv_aload_n hx hb dX5_trues_9 rfl (lv_at hl 2 rfl) ?_
    refine lv_iload_n hx hb dX5_trues_10 rfl (lv_at hl 0 rfl) ?_
    refine h_zald (f := hg_i S 8) hx hb hK hP 14 2 rfl rfl i (rfl) (by omega) (by decide) dX5_trues_11 ?_
    refine lv_if_eq (tgt := 18) hx hb dX5_trues_12 (by decide) (fun c_12 => ?_) (fun c_12 => ?_)
    · skip
      rw [show hg_sum (fun i => f_01 (hg_i S 8 i)) i = hg_sum (fun i => f_01 (hg_i S 8 i)) (i + 1) from hg_sum_keep (g := fun i => f_01 (hg_i S 8 i)) (n := i) (by show f_01 _ = 0; unfold f_01; rw [if_pos c_12, nI_0])] at hl
      have hl : lv_has ls 4 [(3, .int (nI i)), (2, .int (hg_sum (fun i => f_01 (hg_i S 8 i)) (i + 1))), (0, .ref (o 14)), (1, .int (nI n))] := hl
      refine lv_iinc (v := nI (i + 1)) (lv' := [(3, .int (nI (i + 1))), (2, .int (hg_sum (fun i => f_01 (hg_i S 8 i)) (i + 1))), (0, .ref (o 14)), (1, .int (nI n))]) hx hb dX5_trues_18 hl (k := 0) rfl (nI_1 _) (by decide) rfl (fun ls hl => ?_)
      refine lv_goto (tgt := 4) hx hb dX5_trues_21 (by decide) ?_
      exact ih ls (lv_sub hl [0, 1, 2, 3] rfl)
    · skip
      refine lv_iinc (v := hg_sum (fun i => f_01 (hg_i S 8 i)) (i + 1)) (lv' := [(2, .int (hg_sum (fun i => f_01 (hg_i S 8 i)) (i + 1))), (3, .int (nI i)), (0, .ref (o 14)), (1, .int (nI n))]) hx hb dX5_trues_15 hl (k := 1) rfl (by show _ + _ = _ + f_01 _; unfold f_01; rw [if_neg c_12]; rfl) (by decide) rfl (fun ls hl => ?_)
      refine lv_iinc (v := nI (i + 1)) (lv' := [(3, .int (nI (i + 1))), (2, .int (hg_sum (fun i => f_01 (hg_i S 8 i)) (i + 1))), (0, .ref (o 14)), (1, .int (nI n))]) hx hb dX5_trues_18 hl (k := 1) rfl (nI_1 _) (by decide) rfl (fun ls hl => ?_)
      refine lv_goto (tgt := 4) hx hb dX5_trues_21 (by decide) ?_
      exact ih ls (lv_sub hl [0, 1, 2, 3] rfl)
  · intro ls hl
    have hl : lv_has ls 4 [(3, .int (nI n)), (2, .int (hg_sum (fun i => f_01 (hg_i S 8 i)) n)), (0, .ref (o 14)), (1, .int (nI n))] := hl
    refine lv_iload_n hx hb dX5_trues_4 rfl (lv_at hl 0 rfl) ?_
    refine lv_iload_n hx hb dX5_trues_5 rfl (lv_at hl 3 rfl) ?_
    refine lv_icmp_ge (tgt := 24) hx hb dX5_trues_6 (by decide) (fun c_6 => ?_) (fun c_6 => absurd (nI_le (Nat.le_refl _) (by omega)) c_6)
    refine lv_iload_n hx hb dX5_trues_24 rfl (lv_at hl 1 rfl) ?_
    exact W.iret (v := hg_sum (fun i => f_01 (hg_i S 8 i)) n) hx hb hr (fun t ht hW => ⟨_, rfl, rfl, ht⟩) (fun _ h9 => nomatch h9) dX5_trues_25
set_option maxHeartbeats 4000000 in
set_option maxRecDepth 100000 in
/-- well -/
theorem m_X5_well (l : Launch) (D : va_G) (o : Nat → Nat) (cI cJ cZ : ClassId) (S : hg_S) (sz : Nat) (h0 : hg_n S 0 ≤ 8) (k b a1 b1 c1 d1 e1 : Int32) : Met l yX5_well wsX5_well ({ frames := 1, cells := 0, slots := 0, locals := 27 }) (va_Pc [.ref (o 0), .int k, .int b, .int a1, .int b1, .int c1, .int d1, .int e1] (hg_Wr D (xW o cI cJ cZ S) (hg_ty cI cJ cZ) sz)) (va_Qi (fun (r : Int32) (_ : Unit) => r = (r_well S k b a1 b1 c1 d1 e1).1) (fun _ t => hg_At D (xW o cI cJ cZ ((r_well S k b a1 b1 c1 d1 e1).2)) (va_A (xW o cI cJ cZ S) sz) t) (va_A (xW o cI cJ cZ S) sz)) 0 0 (va_A (xW o cI cJ cZ S) sz) := by
  refine h_start (cc := cX5_well) (maxL := 9) (ret := (some .int)) (by decide) rfl (Nat.le_of_ble_eq_true rfl) ?_
  intro pg ev s mi args below meth cd ls hx hb hr hts hown hlocks hml hnm hpic hl
  obtain ⟨hsz, hP, hK, hD0⟩ := hpic
  subst hsz
  have hD := hD0.self (sz := s.heap.size)
  generalize hAe : va_A (xW o cI cJ cZ S) s.heap.size = A at hD ⊢
  have hA : ∀ q : Nat, s.heap.size ≤ q → A q := fun q h => by rw [← hAe]; exact Or.inr h
  have hS : va_S A s.heap s.heap [] := va_S.rf
  have hi4 : ∀ w ∈ u_ws RX4 TX4 6, w ∈ wsX5_well := by decide +kernel
  have hi5 : ∀ w ∈ u_ws RX5 TX5 6, w ∈ wsX5_well := by decide +kernel
  have hl : lv_has ls 9 [(0, .ref (o 0)), (1, .int k), (2, .int b), (3, .int a1), (4, .int b1), (5, .int c1), (6, .int d1), (7, .int e1)] := hl
  refine lv_iload_n hx hb dX5_well_0 rfl (lv_at hl 1 rfl) ?_
  refine lv_iconst (v := nI 0) hx hb dX5_well_1 (by decide) ?_
  refine lv_iconst (v := nI 2) hx hb dX5_well_2 (by decide) ?_
  refine vp_callSi (va_Run.run (va_runS (As := [.int k, .int (nI 0), .int (nI 2)]) (rest := []) ⟨hx, hb, hml, hown, hts⟩ (m_X5_within l k (nI 0) (nI 2)) (va_cwS 3 hts gX5_well_X5_within rfl rfl rfl (by decide +kernel) ⟨Nat.le_of_ble_eq_true rfl, Nat.le_of_ble_eq_true rfl⟩) (h_preS0) rfl rfl hl.1 rfl (lv_room (Nat.le_of_ble_eq_true rfl)) dX5_well_3 ⟨Nat.le_of_ble_eq_true rfl, Nat.le_of_ble_eq_true rfl⟩)) (fun r_1 hr_1 => ?_)
  subst hr_1
  refine lv_if_eq (tgt := 18) hx hb dX5_well_6 (by decide) (fun c_6 => ?_) (fun c_6 => ?_)
  · skip
    have v_6 : ¬ ((nI 0) ≤ k ∧ k ≤ (nI 2)) := hg_in_f c_6
    refine lv_iconst (v := -1) hx hb dX5_well_18 (by decide) ?_
    have hq : r_well S k b a1 b1 c1 d1 e1 = ((-1), S) := by unfold r_well; rw [if_neg (fun q => v_6 q.1)]
    rw [show (S : hg_S) = (r_well S k b a1 b1 c1 d1 e1).2 from by rw [hq]] at hP hD
    exact W.iret (v := (-1)) hx hb hr (fun t ht hW => ⟨⟨_, (), rfl, by rw [hq], ⟨by rw [ht]; exact hP, hD⟩⟩, hS.F ht⟩) hS.2.2 dX5_well_19
  · skip
    have v_6 : ((nI 0) ≤ k ∧ k ≤ (nI 2)) := hg_in_t c_6
    refine lv_iload_n hx hb dX5_well_9 rfl (lv_at hl 2 rfl) ?_
    refine lv_iconst (v := nI 0) hx hb dX5_well_10 (by decide) ?_
    refine lv_iconst (v := nI 3) hx hb dX5_well_11 (by decide) ?_
    refine vp_callSi (va_Run.run (va_runS (As := [.int b, .int (nI 0), .int (nI 3)]) (rest := []) ⟨hx, hb, hml, hown, hts⟩ (m_X5_within l b (nI 0) (nI 3)) (va_cwS 3 hts gX5_well_X5_within rfl rfl rfl (by decide +kernel) ⟨Nat.le_of_ble_eq_true rfl, Nat.le_of_ble_eq_true rfl⟩) (h_preS0) rfl rfl hl.1 rfl (lv_room (Nat.le_of_ble_eq_true rfl)) dX5_well_12 ⟨Nat.le_of_ble_eq_true rfl, Nat.le_of_ble_eq_true rfl⟩)) (fun r_2 hr_2 => ?_)
    subst hr_2
    refine lv_if_ne (tgt := 20) hx hb dX5_well_15 (by decide) (fun c_15 => ?_) (fun c_15 => ?_)
    · skip
      have v_15 : ((nI 0) ≤ b ∧ b ≤ (nI 3)) := hg_in_t c_15
      refine lv_iload_n hx hb dX5_well_20 rfl (lv_at hl 3 rfl) ?_
      refine lv_iconst (v := nI 0) hx hb dX5_well_21 (by decide) ?_
      refine lv_sipush (v := nI 200) hx hb dX5_well_22 (by decide) ?_
      refine vp_callSi (va_Run.run (va_runS (As := [.int a1, .int (nI 0), .int (nI 200)]) (rest := []) ⟨hx, hb, hml, hown, hts⟩ (m_X5_within l a1 (nI 0) (nI 200)) (va_cwS 3 hts gX5_well_X5_within rfl rfl rfl (by decide +kernel) ⟨Nat.le_of_ble_eq_true rfl, Nat.le_of_ble_eq_true rfl⟩) (h_preS0) rfl rfl hl.1 rfl (lv_room (Nat.le_of_ble_eq_true rfl)) dX5_well_25 ⟨Nat.le_of_ble_eq_true rfl, Nat.le_of_ble_eq_true rfl⟩)) (fun r_3 hr_3 => ?_)
      subst hr_3
      refine lv_if_eq (tgt := 74) hx hb dX5_well_28 (by decide) (fun c_28 => ?_) (fun c_28 => ?_)
      · skip
        have v_28 : ¬ ((nI 0) ≤ a1 ∧ a1 ≤ (nI 200)) := hg_in_f c_28
        refine lv_iconst (v := -1) hx hb dX5_well_74 (by decide) ?_
        have hq : r_well S k b a1 b1 c1 d1 e1 = ((-1), S) := by unfold r_well; rw [if_neg (fun q => v_28 q.2.2.1)]
        rw [show (S : hg_S) = (r_well S k b a1 b1 c1 d1 e1).2 from by rw [hq]] at hP hD
        exact W.iret (v := (-1)) hx hb hr (fun t ht hW => ⟨⟨_, (), rfl, by rw [hq], ⟨by rw [ht]; exact hP, hD⟩⟩, hS.F ht⟩) hS.2.2 dX5_well_75
      · skip
        have v_28 : ((nI 0) ≤ a1 ∧ a1 ≤ (nI 200)) := hg_in_t c_28
        refine lv_iload hx hb dX5_well_31 (lv_at hl 4 rfl) ?_
        refine lv_iconst (v := nI 0) hx hb dX5_well_33 (by decide) ?_
        refine lv_iload_n hx hb dX5_well_34 rfl (lv_at hl 3 rfl) ?_
        refine vp_callSi (va_Run.run (va_runS (As := [.int b1, .int (nI 0), .int a1]) (rest := []) ⟨hx, hb, hml, hown, hts⟩ (m_X5_within l b1 (nI 0) a1) (va_cwS 3 hts gX5_well_X5_within rfl rfl rfl (by decide +kernel) ⟨Nat.le_of_ble_eq_true rfl, Nat.le_of_ble_eq_true rfl⟩) (h_preS0) rfl rfl hl.1 rfl (lv_room (Nat.le_of_ble_eq_true rfl)) dX5_well_35 ⟨Nat.le_of_ble_eq_true rfl, Nat.le_of_ble_eq_true rfl⟩)) (fun r_4 hr_4 => ?_)
        subst hr_4
        refine lv_if_eq (tgt := 74) hx hb dX5_well_38 (by decide) (fun c_38 => ?_) (fun c_38 => ?_)
        · skip
          have v_38 : ¬ ((nI 0) ≤ b1 ∧ b1 ≤ a1) := hg_in_f c_38
          refine lv_iconst (v := -1) hx hb dX5_well_74 (by decide) ?_
          have hq : r_well S k b a1 b1 c1 d1 e1 = ((-1), S) := by unfold r_well; rw [if_neg (fun q => v_38 q.2.2.2.1)]
          rw [show (S : hg_S) = (r_well S k b a1 b1 c1 d1 e1).2 from by rw [hq]] at hP hD
          exact W.iret (v := (-1)) hx hb hr (fun t ht hW => ⟨⟨_, (), rfl, by rw [hq], ⟨by rw [ht]; exact hP, hD⟩⟩, hS.F ht⟩) hS.2.2 dX5_well_75
        · skip
          have v_38 : ((nI 0) ≤ b1 ∧ b1 ≤ a1) := hg_in_t c_38
          refine lv_iload hx hb dX5_well_41 (lv_at hl 5 rfl) ?_
          refine lv_iconst (v := nI 0) hx hb dX5_well_43 (by decide) ?_
          refine lv_iload hx hb dX5_well_44 (lv_at hl 4 rfl) ?_
          refine vp_callSi (va_Run.run (va_runS (As := [.int c1, .int (nI 0), .int b1]) (rest := []) ⟨hx, hb, hml, hown, hts⟩ (m_X5_within l c1 (nI 0) b1) (va_cwS 3 hts gX5_well_X5_within rfl rfl rfl (by decide +kernel) ⟨Nat.le_of_ble_eq_true rfl, Nat.le_of_ble_eq_true rfl⟩) (h_preS0) rfl rfl hl.1 rfl (lv_room (Nat.le_of_ble_eq_true rfl)) dX5_well_46 ⟨Nat.le_of_ble_eq_true rfl, Nat.le_of_ble_eq_true rfl⟩)) (fun r_5 hr_5 => ?_)
          subst hr_5
          refine lv_if_eq (tgt := 74) hx hb dX5_well_49 (by decide) (fun c_49 => ?_) (fun c_49 => ?_)
          · skip
            have v_49 : ¬ ((nI 0) ≤ c1 ∧ c1 ≤ b1) := hg_in_f c_49
            refine lv_iconst (v := -1) hx hb dX5_well_74 (by decide) ?_
            have hq : r_well S k b a1 b1 c1 d1 e1 = ((-1), S) := by unfold r_well; rw [if_neg (fun q => v_49 q.2.2.2.2.1)]
            rw [show (S : hg_S) = (r_well S k b a1 b1 c1 d1 e1).2 from by rw [hq]] at hP hD
            exact W.iret (v := (-1)) hx hb hr (fun t ht hW => ⟨⟨_, (), rfl, by rw [hq], ⟨by rw [ht]; exact hP, hD⟩⟩, hS.F ht⟩) hS.2.2 dX5_well_75
          · skip
            have v_49 : ((nI 0) ≤ c1 ∧ c1 ≤ b1) := hg_in_t c_49
            refine lv_iload hx hb dX5_well_52 (lv_at hl 6 rfl) ?_
            refine lv_iconst (v := nI 0) hx hb dX5_well_54 (by decide) ?_
            refine lv_iload hx hb dX5_well_55 (lv_at hl 5 rfl) ?_
            refine vp_callSi (va_Run.run (va_runS (As := [.int d1, .int (nI 0), .int c1]) (rest := []) ⟨hx, hb, hml, hown, hts⟩ (m_X5_within l d1 (nI 0) c1) (va_cwS 3 hts gX5_well_X5_within rfl rfl rfl (by decide +kernel) ⟨Nat.le_of_ble_eq_true rfl, Nat.le_of_ble_eq_true rfl⟩) (h_preS0) rfl rfl hl.1 rfl (lv_room (Nat.le_of_ble_eq_true rfl)) dX5_well_57 ⟨Nat.le_of_ble_eq_true rfl, Nat.le_of_ble_eq_true rfl⟩)) (fun r_6 hr_6 => ?_)
            subst hr_6
            refine lv_if_eq (tgt := 74) hx hb dX5_well_60 (by decide) (fun c_60 => ?_) (fun c_60 => ?_)
            · skip
              have v_60 : ¬ ((nI 0) ≤ d1 ∧ d1 ≤ c1) := hg_in_f c_60
              refine lv_iconst (v := -1) hx hb dX5_well_74 (by decide) ?_
              have hq : r_well S k b a1 b1 c1 d1 e1 = ((-1), S) := by unfold r_well; rw [if_neg (fun q => v_60 q.2.2.2.2.2.1)]
              rw [show (S : hg_S) = (r_well S k b a1 b1 c1 d1 e1).2 from by rw [hq]] at hP hD
              exact W.iret (v := (-1)) hx hb hr (fun t ht hW => ⟨⟨_, (), rfl, by rw [hq], ⟨by rw [ht]; exact hP, hD⟩⟩, hS.F ht⟩) hS.2.2 dX5_well_75
            · skip
              have v_60 : ((nI 0) ≤ d1 ∧ d1 ≤ c1) := hg_in_t c_60
              refine lv_iload hx hb dX5_well_63 (lv_at hl 7 rfl) ?_
              refine lv_iconst (v := nI 0) hx hb dX5_well_65 (by decide) ?_
              refine lv_iload hx hb dX5_well_66 (lv_at hl 6 rfl) ?_
              refine vp_callSi (va_Run.run (va_runS (As := [.int e1, .int (nI 0), .int d1]) (rest := []) ⟨hx, hb, hml, hown, hts⟩ (m_X5_within l e1 (nI 0) d1) (va_cwS 3 hts gX5_well_X5_within rfl rfl rfl (by decide +kernel) ⟨Nat.le_of_ble_eq_true rfl, Nat.le_of_ble_eq_true rfl⟩) (h_preS0) rfl rfl hl.1 rfl (lv_room (Nat.le_of_ble_eq_true rfl)) dX5_well_68 ⟨Nat.le_of_ble_eq_true rfl, Nat.le_of_ble_eq_true rfl⟩)) (fun r_7 hr_7 => ?_)
              subst hr_7
              refine lv_if_ne (tgt := 76) hx hb dX5_well_71 (by decide) (fun c_71 => ?_) (fun c_71 => ?_)
              · skip
                have v_71 : ((nI 0) ≤ e1 ∧ e1 ≤ d1) := hg_in_t c_71
                refine lv_aload_n hx hb dX5_well_76 rfl (lv_at hl 0 rfl) ?_
                refine va_get (C := RX5) (T := TX5) (N := 6) (v := .ref (o 1)) hx hb hts hi5 hown hK hP 0 rfl rfl 0 (by decide) (hts (.fieldLink RX5 10 "HotGround" "wells" "LHotGround$Wells;") (by decide +kernel)) (fun _ h9 => h9) rfl dX5_well_77 ?_
                refine va_get (C := RX4) (T := TX4) (N := 6) (v := .int (nI (hg_n S 0))) hx hb hts hi4 hown hK hP 1 rfl rfl 0 (by decide) (hts (.fieldLink RX5 52 "HotGround$Wells" "count" "I") (by decide +kernel)) (fun _ h9 => h9) rfl dX5_well_80 ?_
                refine lv_bipush (v := nI 8) hx hb dX5_well_83 (by decide) ?_
                refine lv_icmp_lt (tgt := 91) hx hb dX5_well_85 (by decide) (fun c_85 => ?_) (fun c_85 => ?_)
                · skip
                  have hc : hg_n S 0 < 8 := (nI_ltI (by omega) (by omega)).mp c_85
                  refine lv_aload_n hx hb dX5_well_91 rfl (lv_at hl 0 rfl) ?_
                  refine va_get (C := RX5) (T := TX5) (N := 6) (v := .ref (o 1)) hx hb hts hi5 hown hK hP 0 rfl rfl 0 (by decide) (hts (.fieldLink RX5 10 "HotGround" "wells" "LHotGround$Wells;") (by decide +kernel)) (fun _ h9 => h9) rfl dX5_well_92 ?_
                  refine lv_iload_n hx hb dX5_well_95 rfl (lv_at hl 1 rfl) ?_
                  refine lv_iload_n hx hb dX5_well_96 rfl (lv_at hl 2 rfl) ?_
                  refine h_calli (w1 := xW o cI cJ cZ (hg_sn (hg_si (hg_si S 0 (upd (hg_i S 0) (hg_n S 0) k)) 1 (upd (hg_i S 1) (hg_n S 0) b)) 0 (hg_n S 0 + 1))) (va_runV (As := [.int k, .int b]) (rest := []) ⟨hx, hb, hml, hown, hts⟩ (m_X4_add l D o cI cJ cZ S s.heap.size hc k b) (cwV 2 hts gX5_well_X4_add rfl rfl rfl (by decide +kernel) ⟨Nat.le_of_ble_eq_true rfl, Nat.le_of_ble_eq_true rfl⟩) (h_preW hK hP hD 1 rfl rfl rfl) rfl rfl hl.1 rfl (lv_room (Nat.le_of_ble_eq_true rfl)) dX5_well_97 ⟨Nat.le_of_ble_eq_true rfl, Nat.le_of_ble_eq_true rfl⟩) hS (h_all hD hS hA) (fun r_8 H locs hr_8 hP hD hS => ?_)
                  subst hr_8
                  refine lv_istore (lv' := [(8, .int (nI (hg_n S 0))), (0, .ref (o 0)), (1, .int k), (2, .int b), (3, .int a1), (4, .int b1), (5, .int c1), (6, .int d1), (7, .int e1)]) hx hb dX5_well_100 hl (by decide) rfl (fun ls hl => ?_)
                  refine lv_aload_n hx hb dX5_well_102 rfl (lv_at hl 1 rfl) ?_
                  refine va_get (C := RX5) (T := TX5) (N := 6) (v := .ref (o 1)) hx hb hts hi5 hown hK hP 0 rfl rfl 0 (by decide) (hts (.fieldLink RX5 10 "HotGround" "wells" "LHotGround$Wells;") (by decide +kernel)) (fun _ h9 => h9) rfl dX5_well_103 ?_
                  refine lv_iload hx hb dX5_well_106 (lv_at hl 0 rfl) ?_
                  refine lv_iload_n hx hb dX5_well_108 rfl (lv_at hl 4 rfl) ?_
                  refine lv_iload hx hb dX5_well_109 (lv_at hl 5 rfl) ?_
                  refine lv_iload hx hb dX5_well_111 (lv_at hl 6 rfl) ?_
                  refine lv_iload hx hb dX5_well_113 (lv_at hl 7 rfl) ?_
                  refine lv_iload hx hb dX5_well_115 (lv_at hl 8 rfl) ?_
                  refine h_callv (w1 := xW o cI cJ cZ (hg_si (hg_sn (hg_si (hg_si S 0 (upd (hg_i S 0) (hg_n S 0) k)) 1 (upd (hg_i S 1) (hg_n S 0) b)) 0 (hg_n S 0 + 1)) 4 (upd (upd (upd (upd (upd (hg_i (hg_sn (hg_si (hg_si S 0 (upd (hg_i S 0) (hg_n S 0) k)) 1 (upd (hg_i S 1) (hg_n S 0) b)) 0 (hg_n S 0 + 1)) 4) ((hg_n S 0) * 5) a1) ((hg_n S 0) * 5 + 1) b1) ((hg_n S 0) * 5 + 2) c1) ((hg_n S 0) * 5 + 3) d1) ((hg_n S 0) * 5 + 4) e1))) (va_runV (As := [.int (nI (hg_n S 0)), .int a1, .int b1, .int c1, .int d1, .int e1]) (rest := []) ⟨hx, hb, hml, hown, hts⟩ (m_X4_shape l D o cI cJ cZ (hg_sn (hg_si (hg_si S 0 (upd (hg_i S 0) (hg_n S 0) k)) 1 (upd (hg_i S 1) (hg_n S 0) b)) 0 (hg_n S 0 + 1)) H.size (hg_n S 0) (by omega) a1 b1 c1 d1 e1) (cwV 6 hts gX5_well_X4_shape rfl rfl rfl (by decide +kernel) ⟨Nat.le_of_ble_eq_true rfl, Nat.le_of_ble_eq_true rfl⟩) (h_preW hK hP hD 1 rfl rfl rfl) rfl rfl hl.1 rfl (lv_room (Nat.le_of_ble_eq_true rfl)) dX5_well_117 ⟨Nat.le_of_ble_eq_true rfl, Nat.le_of_ble_eq_true rfl⟩) hS (h_all hD hS hA) (fun H locs hP hD hS => ?_)
                  refine lv_iload hx hb dX5_well_120 (lv_at hl 0 rfl) ?_
                  have hq : r_well S k b a1 b1 c1 d1 e1 = (nI (hg_n S 0), hg_si (hg_sn (hg_si (hg_si S 0 (upd (hg_i S 0) (hg_n S 0) k)) 1 (upd (hg_i S 1) (hg_n S 0) b)) 0 (hg_n S 0 + 1)) 4 (upd (upd (upd (upd (upd (hg_i (hg_sn (hg_si (hg_si S 0 (upd (hg_i S 0) (hg_n S 0) k)) 1 (upd (hg_i S 1) (hg_n S 0) b)) 0 (hg_n S 0 + 1)) 4) ((hg_n S 0) * 5) a1) ((hg_n S 0) * 5 + 1) b1) ((hg_n S 0) * 5 + 2) c1) ((hg_n S 0) * 5 + 3) d1) ((hg_n S 0) * 5 + 4) e1)) := by unfold r_well; rw [if_pos (⟨v_6, v_15, v_28, v_38, v_49, v_60, v_71⟩)]; rw [if_pos (by omega)]; rfl
                  rw [show (hg_si (hg_sn (hg_si (hg_si S 0 (upd (hg_i S 0) (hg_n S 0) k)) 1 (upd (hg_i S 1) (hg_n S 0) b)) 0 (hg_n S 0 + 1)) 4 (upd (upd (upd (upd (upd (hg_i (hg_sn (hg_si (hg_si S 0 (upd (hg_i S 0) (hg_n S 0) k)) 1 (upd (hg_i S 1) (hg_n S 0) b)) 0 (hg_n S 0 + 1)) 4) ((hg_n S 0) * 5) a1) ((hg_n S 0) * 5 + 1) b1) ((hg_n S 0) * 5 + 2) c1) ((hg_n S 0) * 5 + 3) d1) ((hg_n S 0) * 5 + 4) e1) : hg_S) = (r_well S k b a1 b1 c1 d1 e1).2 from by rw [hq]] at hP hD
                  exact W.iret (v := nI (hg_n S 0)) hx hb hr (fun t ht hW => ⟨⟨_, (), rfl, by rw [hq], ⟨by rw [ht]; exact hP, hD⟩⟩, hS.F ht⟩) hS.2.2 dX5_well_122
                · skip
                  have hc : ¬ hg_n S 0 < 8 := fun h => c_85 ((nI_ltI (by omega) (by omega)).mpr h)
                  refine lv_bipush (v := -3) hx hb dX5_well_88 (by decide) ?_
                  have hq : r_well S k b a1 b1 c1 d1 e1 = ((-3), S) := by unfold r_well; rw [if_pos (⟨v_6, v_15, v_28, v_38, v_49, v_60, v_71⟩)]; rw [if_neg (by omega)]
                  rw [show (S : hg_S) = (r_well S k b a1 b1 c1 d1 e1).2 from by rw [hq]] at hP hD
                  exact W.iret (v := (-3)) hx hb hr (fun t ht hW => ⟨⟨_, (), rfl, by rw [hq], ⟨by rw [ht]; exact hP, hD⟩⟩, hS.F ht⟩) hS.2.2 dX5_well_90
              · skip
                have v_71 : ¬ ((nI 0) ≤ e1 ∧ e1 ≤ d1) := hg_in_f c_71
                refine lv_iconst (v := -1) hx hb dX5_well_74 (by decide) ?_
                have hq : r_well S k b a1 b1 c1 d1 e1 = ((-1), S) := by unfold r_well; rw [if_neg (fun q => v_71 q.2.2.2.2.2.2)]
                rw [show (S : hg_S) = (r_well S k b a1 b1 c1 d1 e1).2 from by rw [hq]] at hP hD
                exact W.iret (v := (-1)) hx hb hr (fun t ht hW => ⟨⟨_, (), rfl, by rw [hq], ⟨by rw [ht]; exact hP, hD⟩⟩, hS.F ht⟩) hS.2.2 dX5_well_75
    · skip
      have v_15 : ¬ ((nI 0) ≤ b ∧ b ≤ (nI 3)) := hg_in_f c_15
      refine lv_iconst (v := -1) hx hb dX5_well_18 (by decide) ?_
      have hq : r_well S k b a1 b1 c1 d1 e1 = ((-1), S) := by unfold r_well; rw [if_neg (fun q => v_15 q.2.1)]
      rw [show (S : hg_S) = (r_well S k b a1 b1 c1 d1 e1).2 from by rw [hq]] at hP hD
      exact W.iret (v := (-1)) hx hb hr (fun t ht hW => ⟨⟨_, (), rfl, by rw [hq], ⟨by rw [ht]; exact hP, hD⟩⟩, hS.F ht⟩) hS.2.2 dX5_well_19
set_option maxHeartbeats 4000000 in
set_option maxRecDepth 100000 in
/-- open -/
theorem m_X5_open (l : Launch) (D : va_G) (o : Nat → Nat) (cI cJ cZ : ClassId) (S : hg_S) (sz : Nat) (h0 : hg_n S 0 ≤ 8) (w x : Int32) (hx01 : vp_nar .boolean x = x)  : Met l yX5_open wsX5_open ({ frames := 2, cells := 0, slots := 0, locals := 43 }) (va_Pc [.ref (o 0), .int w, .int x] (hg_Wr D (xW o cI cJ cZ S) (hg_ty cI cJ cZ) sz)) (va_Qi (fun (r : Int32) (_ : Unit) => r = (r_open S w x).1) (fun _ t => hg_At D (xW o cI cJ cZ ((r_open S w x).2)) (va_A (xW o cI cJ cZ S) sz) t) (va_A (xW o cI cJ cZ S) sz)) 0 0 (va_A (xW o cI cJ cZ S) sz) := by
  refine h_start (cc := cX5_open) (maxL := 4) (ret := (some .int)) (by decide) rfl (Nat.le_of_ble_eq_true rfl) ?_
  intro pg ev s mi args below meth cd ls hx hb hr hts hown hlocks hml hnm hpic hl
  obtain ⟨hsz, hP, hK, hD0⟩ := hpic
  subst hsz
  have hD := hD0.self (sz := s.heap.size)
  generalize hAe : va_A (xW o cI cJ cZ S) s.heap.size = A at hD ⊢
  have hA : ∀ q : Nat, s.heap.size ≤ q → A q := fun q h => by rw [← hAe]; exact Or.inr h
  have hS : va_S A s.heap s.heap [] := va_S.rf
  have hi4 : ∀ w ∈ u_ws RX4 TX4 6, w ∈ wsX5_open := by decide +kernel
  have hi5 : ∀ w ∈ u_ws RX5 TX5 6, w ∈ wsX5_open := by decide +kernel
  have hl : lv_has ls 4 [(0, .ref (o 0)), (1, .int w), (2, .int x)] := hl
  refine lv_aload_n hx hb dX5_open_0 rfl (lv_at hl 0 rfl) ?_
  refine lv_iload_n hx hb dX5_open_1 rfl (lv_at hl 1 rfl) ?_
  refine vp_callSi (va_Run.run (va_runV (As := [.int w]) (rest := []) ⟨hx, hb, hml, hown, hts⟩ (m_X5_isWell l D o cI cJ cZ S w) (cwV 1 hts gX5_open_X5_isWell rfl rfl rfl (by decide +kernel) ⟨Nat.le_of_ble_eq_true rfl, Nat.le_of_ble_eq_true rfl⟩) (h_preR hK hP 0 rfl rfl rfl) rfl rfl hl.1 rfl (lv_room (Nat.le_of_ble_eq_true rfl)) dX5_open_2 ⟨Nat.le_of_ble_eq_true rfl, Nat.le_of_ble_eq_true rfl⟩)) (fun r_1 hr_1 => ?_)
  subst hr_1
  refine lv_if_ne (tgt := 10) hx hb dX5_open_5 (by decide) (fun c_5 => ?_) (fun c_5 => ?_)
  · skip
    have v_5 : ((nI 0) ≤ w ∧ w ≤ (nI (hg_n S 0) - nI 1)) := hg_in_t c_5
    obtain ⟨kw, kwh, rfl⟩ := hg_wel (by omega) v_5
    refine lv_aload_n hx hb dX5_open_10 rfl (lv_at hl 0 rfl) ?_
    refine va_get (C := RX5) (T := TX5) (N := 6) (v := .ref (o 1)) hx hb hts hi5 hown hK hP 0 rfl rfl 0 (by decide) (hts (.fieldLink RX5 10 "HotGround" "wells" "LHotGround$Wells;") (by decide +kernel)) (fun _ h9 => h9) rfl dX5_open_11 ?_
    refine va_get (C := RX4) (T := TX4) (N := 6) (v := .ref (o 9)) hx hb hts hi4 hown hK hP 1 rfl rfl 4 (by decide) (hts (.fieldLink RX5 68 "HotGround$Wells" "open" "[Z") (by decide +kernel)) (fun _ h9 => h9) rfl dX5_open_14 ?_
    refine lv_iload_n hx hb dX5_open_17 rfl (lv_at hl 1 rfl) ?_
    refine h_zald (f := hg_i S 3) hx hb hK hP 9 2 rfl rfl kw (rfl) (by omega) (by decide) dX5_open_18 ?_
    refine lv_istore_n (lv' := [(3, .int (hg_i S 3 kw)), (0, .ref (o 0)), (1, .int (nI kw)), (2, .int x)]) hx hb dX5_open_19 rfl hl (by decide) rfl (fun ls hl => ?_)
    refine lv_aload_n hx hb dX5_open_20 rfl (lv_at hl 1 rfl) ?_
    refine va_get (C := RX5) (T := TX5) (N := 6) (v := .ref (o 1)) hx hb hts hi5 hown hK hP 0 rfl rfl 0 (by decide) (hts (.fieldLink RX5 10 "HotGround" "wells" "LHotGround$Wells;") (by decide +kernel)) (fun _ h9 => h9) rfl dX5_open_21 ?_
    refine va_get (C := RX4) (T := TX4) (N := 6) (v := .ref (o 9)) hx hb hts hi4 hown hK hP 1 rfl rfl 4 (by decide) (hts (.fieldLink RX5 68 "HotGround$Wells" "open" "[Z") (by decide +kernel)) (fun _ h9 => h9) rfl dX5_open_24 ?_
    refine lv_iload_n hx hb dX5_open_27 rfl (lv_at hl 2 rfl) ?_
    refine lv_iload_n hx hb dX5_open_28 rfl (lv_at hl 3 rfl) ?_
    refine h_zast (f := hg_i S 3) (ws' := xW o cI cJ cZ (hg_si S 3 (upd (hg_i S 3) kw x))) hx hb hK hP hD hS 9 2 rfl rfl kw (rfl) (by omega) (by decide) (hx01) rfl dX5_open_29 (fun H locs hP hD hS => ?_)
    refine lv_iload_n hx hb dX5_open_30 rfl (lv_at hl 0 rfl) ?_
    refine lv_if_eq (tgt := 38) hx hb dX5_open_31 (by decide) (fun c_31 => ?_) (fun c_31 => ?_)
    · skip
      refine lv_iconst (v := nI 0) hx hb dX5_open_38 (by decide) ?_
      have hq : r_open S (nI kw) x = (nI 0, hg_si S 3 (upd (hg_i S 3) kw x)) := by unfold r_open; rw [if_pos v_5]; (try rw [nI_clamp (show kw < 2 ^ 31 by omega)]); unfold f_01; rw [if_pos c_31]
      rw [show (hg_si S 3 (upd (hg_i S 3) kw x) : hg_S) = (r_open S (nI kw) x).2 from by rw [hq]] at hP hD
      exact W.iret (v := nI 0) hx hb hr (fun t ht hW => ⟨⟨_, (), rfl, by rw [hq], ⟨by rw [ht]; exact hP, hD⟩⟩, hS.F ht⟩) hS.2.2 dX5_open_39
    · skip
      refine lv_iconst (v := nI 1) hx hb dX5_open_34 (by decide) ?_
      refine lv_goto (tgt := 39) hx hb dX5_open_35 (by decide) ?_
      have hq : r_open S (nI kw) x = (nI 1, hg_si S 3 (upd (hg_i S 3) kw x)) := by unfold r_open; rw [if_pos v_5]; (try rw [nI_clamp (show kw < 2 ^ 31 by omega)]); unfold f_01; rw [if_neg c_31]
      rw [show (hg_si S 3 (upd (hg_i S 3) kw x) : hg_S) = (r_open S (nI kw) x).2 from by rw [hq]] at hP hD
      exact W.iret (v := nI 1) hx hb hr (fun t ht hW => ⟨⟨_, (), rfl, by rw [hq], ⟨by rw [ht]; exact hP, hD⟩⟩, hS.F ht⟩) hS.2.2 dX5_open_39
  · skip
    have v_5 : ¬ ((nI 0) ≤ w ∧ w ≤ (nI (hg_n S 0) - nI 1)) := hg_in_f c_5
    refine lv_iconst (v := -1) hx hb dX5_open_8 (by decide) ?_
    have hq : r_open S w x = ((-1), S) := by unfold r_open; rw [if_neg (fun q => v_5 q)]
    rw [show (S : hg_S) = (r_open S w x).2 from by rw [hq]] at hP hD
    exact W.iret (v := (-1)) hx hb hr (fun t ht hW => ⟨⟨_, (), rfl, by rw [hq], ⟨by rw [ht]; exact hP, hD⟩⟩, hS.F ht⟩) hS.2.2 dX5_open_9
set_option maxHeartbeats 4000000 in
set_option maxRecDepth 100000 in
/-- clean -/
theorem m_X5_clean (l : Launch) (D : va_G) (o : Nat → Nat) (cI cJ cZ : ClassId) (S : hg_S) (sz : Nat) (h0 : hg_n S 0 ≤ 8) (w : Int32) : Met l yX5_clean wsX5_clean ({ frames := 2, cells := 0, slots := 0, locals := 43 }) (va_Pc [.ref (o 0), .int w] (hg_Wr D (xW o cI cJ cZ S) (hg_ty cI cJ cZ) sz)) (va_Qi (fun (r : Int32) (_ : Unit) => r = (r_clean S w).1) (fun _ t => hg_At D (xW o cI cJ cZ ((r_clean S w).2)) (va_A (xW o cI cJ cZ S) sz) t) (va_A (xW o cI cJ cZ S) sz)) 0 0 (va_A (xW o cI cJ cZ S) sz) := by
  refine h_start (cc := cX5_clean) (maxL := 3) (ret := (some .int)) (by decide) rfl (Nat.le_of_ble_eq_true rfl) ?_
  intro pg ev s mi args below meth cd ls hx hb hr hts hown hlocks hml hnm hpic hl
  obtain ⟨hsz, hP, hK, hD0⟩ := hpic
  subst hsz
  have hD := hD0.self (sz := s.heap.size)
  generalize hAe : va_A (xW o cI cJ cZ S) s.heap.size = A at hD ⊢
  have hA : ∀ q : Nat, s.heap.size ≤ q → A q := fun q h => by rw [← hAe]; exact Or.inr h
  have hS : va_S A s.heap s.heap [] := va_S.rf
  have hi4 : ∀ w ∈ u_ws RX4 TX4 6, w ∈ wsX5_clean := by decide +kernel
  have hi5 : ∀ w ∈ u_ws RX5 TX5 6, w ∈ wsX5_clean := by decide +kernel
  have hl : lv_has ls 3 [(0, .ref (o 0)), (1, .int w)] := hl
  refine lv_aload_n hx hb dX5_clean_0 rfl (lv_at hl 0 rfl) ?_
  refine lv_iload_n hx hb dX5_clean_1 rfl (lv_at hl 1 rfl) ?_
  refine vp_callSi (va_Run.run (va_runV (As := [.int w]) (rest := []) ⟨hx, hb, hml, hown, hts⟩ (m_X5_isWell l D o cI cJ cZ S w) (cwV 1 hts gX5_clean_X5_isWell rfl rfl rfl (by decide +kernel) ⟨Nat.le_of_ble_eq_true rfl, Nat.le_of_ble_eq_true rfl⟩) (h_preR hK hP 0 rfl rfl rfl) rfl rfl hl.1 rfl (lv_room (Nat.le_of_ble_eq_true rfl)) dX5_clean_2 ⟨Nat.le_of_ble_eq_true rfl, Nat.le_of_ble_eq_true rfl⟩)) (fun r_1 hr_1 => ?_)
  subst hr_1
  refine lv_if_ne (tgt := 10) hx hb dX5_clean_5 (by decide) (fun c_5 => ?_) (fun c_5 => ?_)
  · skip
    have v_5 : ((nI 0) ≤ w ∧ w ≤ (nI (hg_n S 0) - nI 1)) := hg_in_t c_5
    obtain ⟨kw, kwh, rfl⟩ := hg_wel (by omega) v_5
    refine lv_aload_n hx hb dX5_clean_10 rfl (lv_at hl 0 rfl) ?_
    refine va_get (C := RX5) (T := TX5) (N := 6) (v := .ref (o 1)) hx hb hts hi5 hown hK hP 0 rfl rfl 0 (by decide) (hts (.fieldLink RX5 10 "HotGround" "wells" "LHotGround$Wells;") (by decide +kernel)) (fun _ h9 => h9) rfl dX5_clean_11 ?_
    refine va_get (C := RX4) (T := TX4) (N := 6) (v := .ref (o 8)) hx hb hts hi4 hown hK hP 1 rfl rfl 3 (by decide) (hts (.fieldLink RX5 72 "HotGround$Wells" "age" "[I") (by decide +kernel)) (fun _ h9 => h9) rfl dX5_clean_14 ?_
    refine lv_iload_n hx hb dX5_clean_17 rfl (lv_at hl 1 rfl) ?_
    refine h_iald (f := hg_i S 2) hx hb hK hP 8 0 rfl rfl kw (rfl) (by omega) (by decide) dX5_clean_18 ?_
    refine lv_istore_n (lv' := [(2, .int (hg_i S 2 kw)), (0, .ref (o 0)), (1, .int (nI kw))]) hx hb dX5_clean_19 rfl hl (by decide) rfl (fun ls hl => ?_)
    refine lv_aload_n hx hb dX5_clean_20 rfl (lv_at hl 1 rfl) ?_
    refine va_get (C := RX5) (T := TX5) (N := 6) (v := .ref (o 1)) hx hb hts hi5 hown hK hP 0 rfl rfl 0 (by decide) (hts (.fieldLink RX5 10 "HotGround" "wells" "LHotGround$Wells;") (by decide +kernel)) (fun _ h9 => h9) rfl dX5_clean_21 ?_
    refine va_get (C := RX4) (T := TX4) (N := 6) (v := .ref (o 8)) hx hb hts hi4 hown hK hP 1 rfl rfl 3 (by decide) (hts (.fieldLink RX5 72 "HotGround$Wells" "age" "[I") (by decide +kernel)) (fun _ h9 => h9) rfl dX5_clean_24 ?_
    refine lv_iload_n hx hb dX5_clean_27 rfl (lv_at hl 2 rfl) ?_
    refine lv_iconst (v := nI 0) hx hb dX5_clean_28 (by decide) ?_
    refine h_iast (f := hg_i S 2) (ws' := xW o cI cJ cZ (hg_si S 2 (upd (hg_i S 2) kw (nI 0)))) hx hb hK hP hD hS 8 0 rfl rfl kw (rfl) (by omega) (by decide) rfl dX5_clean_29 (fun H locs hP hD hS => ?_)
    refine lv_iload_n hx hb dX5_clean_30 rfl (lv_at hl 0 rfl) ?_
    have hq : r_clean S (nI kw) = (hg_i S 2 kw, hg_si S 2 (upd (hg_i S 2) kw (nI 0))) := by unfold r_clean; rw [if_pos v_5]; (try rw [nI_clamp (show kw < 2 ^ 31 by omega)])
    rw [show (hg_si S 2 (upd (hg_i S 2) kw (nI 0)) : hg_S) = (r_clean S (nI kw)).2 from by rw [hq]] at hP hD
    exact W.iret (v := hg_i S 2 kw) hx hb hr (fun t ht hW => ⟨⟨_, (), rfl, by rw [hq], ⟨by rw [ht]; exact hP, hD⟩⟩, hS.F ht⟩) hS.2.2 dX5_clean_31
  · skip
    have v_5 : ¬ ((nI 0) ≤ w ∧ w ≤ (nI (hg_n S 0) - nI 1)) := hg_in_f c_5
    refine lv_iconst (v := -1) hx hb dX5_clean_8 (by decide) ?_
    have hq : r_clean S w = ((-1), S) := by unfold r_clean; rw [if_neg (fun q => v_5 q)]
    rw [show (S : hg_S) = (r_clean S w).2 from by rw [hq]] at hP hD
    exact W.iret (v := (-1)) hx hb hr (fun t ht hW => ⟨⟨_, (), rfl, by rw [hq], ⟨by rw [ht]; exact hP, hD⟩⟩, hS.F ht⟩) hS.2.2 dX5_clean_9
set_option maxHeartbeats 4000000 in
set_option maxRecDepth 100000 in
/-- flow -/
theorem m_X5_flow (l : Launch) (D : va_G) (o : Nat → Nat) (cI cJ cZ : ClassId) (S : hg_S) (sz : Nat) (h0 : hg_n S 0 ≤ 8) (w q : Int32) : Met l yX5_flow wsX5_flow ({ frames := 3, cells := 0, slots := 0, locals := 56 }) (va_Pc [.ref (o 0), .int w, .int q] (hg_Wr D (xW o cI cJ cZ S) (hg_ty cI cJ cZ) sz)) (va_Qi (fun (r : Int32) (_ : Unit) => r = (r_flow S w q).1) (fun _ t => hg_At D (xW o cI cJ cZ ((r_flow S w q).2)) (va_A (xW o cI cJ cZ S) sz) t) (va_A (xW o cI cJ cZ S) sz)) 0 0 (va_A (xW o cI cJ cZ S) sz) := by
  refine h_start (cc := cX5_flow) (maxL := 3) (ret := (some .int)) (by decide) rfl (Nat.le_of_ble_eq_true rfl) ?_
  intro pg ev s mi args below meth cd ls hx hb hr hts hown hlocks hml hnm hpic hl
  obtain ⟨hsz, hP, hK, hD0⟩ := hpic
  subst hsz
  have hD := hD0.self (sz := s.heap.size)
  generalize hAe : va_A (xW o cI cJ cZ S) s.heap.size = A at hD ⊢
  have hA : ∀ q : Nat, s.heap.size ≤ q → A q := fun q h => by rw [← hAe]; exact Or.inr h
  have hS : va_S A s.heap s.heap [] := va_S.rf
  have hi5 : ∀ w ∈ u_ws RX5 TX5 6, w ∈ wsX5_flow := by decide +kernel
  have hl : lv_has ls 3 [(0, .ref (o 0)), (1, .int w), (2, .int q)] := hl
  refine lv_aload_n hx hb dX5_flow_0 rfl (lv_at hl 0 rfl) ?_
  refine lv_iload_n hx hb dX5_flow_1 rfl (lv_at hl 1 rfl) ?_
  refine vp_callSi (va_Run.run (va_runV (As := [.int w]) (rest := []) ⟨hx, hb, hml, hown, hts⟩ (m_X5_isWell l D o cI cJ cZ S w) (cwV 1 hts gX5_flow_X5_isWell rfl rfl rfl (by decide +kernel) ⟨Nat.le_of_ble_eq_true rfl, Nat.le_of_ble_eq_true rfl⟩) (h_preR hK hP 0 rfl rfl rfl) rfl rfl hl.1 rfl (lv_room (Nat.le_of_ble_eq_true rfl)) dX5_flow_2 ⟨Nat.le_of_ble_eq_true rfl, Nat.le_of_ble_eq_true rfl⟩)) (fun r_1 hr_1 => ?_)
  subst hr_1
  refine lv_if_eq (tgt := 15) hx hb dX5_flow_5 (by decide) (fun c_5 => ?_) (fun c_5 => ?_)
  · skip
    have v_5 : ¬ ((nI 0) ≤ w ∧ w ≤ (nI (hg_n S 0) - nI 1)) := hg_in_f c_5
    refine lv_iconst (v := -1) hx hb dX5_flow_15 (by decide) ?_
    have hq : r_flow S w q = ((-1), S) := by unfold r_flow; rw [if_neg (fun q => v_5 q.1)]
    rw [show (S : hg_S) = (r_flow S w q).2 from by rw [hq]] at hP hD
    exact W.iret (v := (-1)) hx hb hr (fun t ht hW => ⟨⟨_, (), rfl, by rw [hq], ⟨by rw [ht]; exact hP, hD⟩⟩, hS.F ht⟩) hS.2.2 dX5_flow_16
  · skip
    have v_5 : ((nI 0) ≤ w ∧ w ≤ (nI (hg_n S 0) - nI 1)) := hg_in_t c_5
    refine lv_iload_n hx hb dX5_flow_8 rfl (lv_at hl 2 rfl) ?_
    refine vp_callSi (va_Run.run (va_runS (As := [.int q]) (rest := []) ⟨hx, hb, hml, hown, hts⟩ (m_X5_isPressure l q) (va_cwS 1 hts gX5_flow_X5_isPressure rfl rfl rfl (by decide +kernel) ⟨Nat.le_of_ble_eq_true rfl, Nat.le_of_ble_eq_true rfl⟩) (h_preS0) rfl rfl hl.1 rfl (lv_room (Nat.le_of_ble_eq_true rfl)) dX5_flow_9 ⟨Nat.le_of_ble_eq_true rfl, Nat.le_of_ble_eq_true rfl⟩)) (fun r_2 hr_2 => ?_)
    subst hr_2
    refine lv_if_ne (tgt := 17) hx hb dX5_flow_12 (by decide) (fun c_12 => ?_) (fun c_12 => ?_)
    · skip
      have v_12 : ((nI 0) ≤ q ∧ q ≤ (nI 20)) := hg_in_t c_12
      obtain ⟨kw, kwh, rfl⟩ := hg_wel (by omega) v_5
      obtain ⟨kq, kql, kqh, rfl⟩ := hg_rng (by decide) (by decide) v_12
      refine lv_aload_n hx hb dX5_flow_17 rfl (lv_at hl 0 rfl) ?_
      refine lv_dup hx hb dX5_flow_18 rfl ?_
      refine va_get (C := RX5) (T := TX5) (N := 6) (v := .long (hg_t S)) hx hb hts hi5 hown hK hP 0 rfl rfl 5 (by decide) (hts (.fieldLink RX5 44 "HotGround" "trace" "J") (by decide +kernel)) (fun _ h9 => h9) rfl dX5_flow_19 ?_
      refine lv_aload_n hx hb dX5_flow_22 rfl (lv_at hl 0 rfl) ?_
      refine va_get (C := RX5) (T := TX5) (N := 6) (v := .ref (o 1)) hx hb hts hi5 hown hK hP 0 rfl rfl 0 (by decide) (hts (.fieldLink RX5 10 "HotGround" "wells" "LHotGround$Wells;") (by decide +kernel)) (fun _ h9 => h9) rfl dX5_flow_23 ?_
      refine lv_iload_n hx hb dX5_flow_26 rfl (lv_at hl 1 rfl) ?_
      refine vp_callSi (va_Run.run (va_runV (As := [.int (nI kw)]) (rest := [.long (hg_t S), .ref (o 0)]) ⟨hx, hb, hml, hown, hts⟩ (m_X4_weight l D o cI cJ cZ S kw (by omega)) (cwV 1 hts gX5_flow_X4_weight rfl rfl rfl (by decide +kernel) ⟨Nat.le_of_ble_eq_true rfl, Nat.le_of_ble_eq_true rfl⟩) (h_preR hK hP 1 rfl rfl rfl) rfl rfl hl.1 rfl (lv_room (Nat.le_of_ble_eq_true rfl)) dX5_flow_27 ⟨Nat.le_of_ble_eq_true rfl, Nat.le_of_ble_eq_true rfl⟩)) (fun r_3 hr_3 => ?_)
      subst hr_3
      refine lv_i2l (v := Int32.toInt64 (f_weight S kw)) hx hb dX5_flow_30 rfl ?_
      refine lv_ladd hx hb dX5_flow_31 ?_
      refine h_put (C := RX5) (T := TX5) (N := 6) (v := .long ((hg_t S) + (Int32.toInt64 (f_weight S kw)))) (ty := .long) (ws' := xW o cI cJ cZ (hg_st S ((hg_t S) + (Int32.toInt64 (f_weight S kw))))) hx hb hts hi5 tyX5 tyX5_ok nmX5 hown hK hP hD hS 0 rfl rfl 5 (by decide) (hts (.fieldLink RX5 44 "HotGround" "trace" "J") (by decide +kernel)) (fun _ h9 => h9) rfl (by decide +kernel) rfl rfl (Nat.le_of_ble_eq_true rfl) rfl dX5_flow_32 (fun H locs hP hD hS => ?_)
      refine lv_aload_n hx hb dX5_flow_35 rfl (lv_at hl 0 rfl) ?_
      refine va_get (C := RX5) (T := TX5) (N := 6) (v := .ref (o 1)) hx hb hts hi5 hown hK hP 0 rfl rfl 0 (by decide) (hts (.fieldLink RX5 10 "HotGround" "wells" "LHotGround$Wells;") (by decide +kernel)) (fun _ h9 => h9) rfl dX5_flow_36 ?_
      refine lv_iload_n hx hb dX5_flow_39 rfl (lv_at hl 1 rfl) ?_
      refine lv_iload_n hx hb dX5_flow_40 rfl (lv_at hl 2 rfl) ?_
      refine vp_callSi (va_Run.run (va_runV (As := [.int (nI kw), .int (nI kq)]) (rest := []) ⟨hx, hb, hml, hown, hts⟩ (m_X4_fifths l D o cI cJ cZ (hg_st S ((hg_t S) + (Int32.toInt64 (f_weight S kw)))) kw kq (by omega) (by omega)) (cwV 2 hts gX5_flow_X4_fifths rfl rfl rfl (by decide +kernel) ⟨Nat.le_of_ble_eq_true rfl, Nat.le_of_ble_eq_true rfl⟩) (h_preR hK hP 1 rfl rfl rfl) rfl rfl hl.1 rfl (lv_room (Nat.le_of_ble_eq_true rfl)) dX5_flow_41 ⟨Nat.le_of_ble_eq_true rfl, Nat.le_of_ble_eq_true rfl⟩)) (fun r_4 hr_4 => ?_)
      subst hr_4
      have hq : r_flow S (nI kw) (nI kq) = (f_flow (hg_st S ((hg_t S) + (Int32.toInt64 (f_weight S kw)))) kw kq, hg_st S ((hg_t S) + (Int32.toInt64 (f_weight S kw)))) := by unfold r_flow; rw [if_pos (⟨v_5, v_12⟩)]; (try rw [nI_clamp (show kw < 2 ^ 31 by omega)]); (try rw [nI_clamp (show kq < 2 ^ 31 by omega)]); rfl
      rw [show (hg_st S ((hg_t S) + (Int32.toInt64 (f_weight S kw))) : hg_S) = (r_flow S (nI kw) (nI kq)).2 from by rw [hq]] at hP hD
      exact W.iret (v := f_flow (hg_st S ((hg_t S) + (Int32.toInt64 (f_weight S kw)))) kw kq) hx hb hr (fun t ht hW => ⟨⟨_, (), rfl, by rw [hq], ⟨by rw [ht]; exact hP, hD⟩⟩, hS.F ht⟩) hS.2.2 dX5_flow_44
    · skip
      have v_12 : ¬ ((nI 0) ≤ q ∧ q ≤ (nI 20)) := hg_in_f c_12
      refine lv_iconst (v := -1) hx hb dX5_flow_15 (by decide) ?_
      have hq : r_flow S w q = ((-1), S) := by unfold r_flow; rw [if_neg (fun q => v_12 q.2)]
      rw [show (S : hg_S) = (r_flow S w q).2 from by rw [hq]] at hP hD
      exact W.iret (v := (-1)) hx hb hr (fun t ht hW => ⟨⟨_, (), rfl, by rw [hq], ⟨by rw [ht]; exact hP, hD⟩⟩, hS.F ht⟩) hS.2.2 dX5_flow_16
set_option maxHeartbeats 4000000 in
set_option maxRecDepth 100000 in
/-- about -/
theorem m_X5_about (l : Launch) (D : va_G) (o : Nat → Nat) (cI cJ cZ : ClassId) (S : hg_S) (h0 : hg_n S 0 ≤ 8) (w q : Int32) : Met l yX5_about wsX5_about ({ frames := 2, cells := 0, slots := 0, locals := 43 }) (va_Pc [.ref (o 0), .int w, .int q] (hg_R D (xW o cI cJ cZ S) (hg_ty cI cJ cZ))) (vp_Si (fun r => r = a_about S w q)) 0 0 (fun _ => False) := by
  refine h_start (cc := cX5_about) (maxL := 3) (ret := (some .int)) (by decide) rfl (Nat.le_of_ble_eq_true rfl) ?_
  intro pg ev s mi args below meth cd ls hx hb hr hts hown hlocks hml hnm hpic hl
  obtain ⟨hP, hK⟩ := hpic
  have hi4 : ∀ w ∈ u_ws RX4 TX4 6, w ∈ wsX5_about := by decide +kernel
  have hi5 : ∀ w ∈ u_ws RX5 TX5 6, w ∈ wsX5_about := by decide +kernel
  have hl : lv_has ls 3 [(0, .ref (o 0)), (1, .int w), (2, .int q)] := hl
  refine lv_aload_n hx hb dX5_about_0 rfl (lv_at hl 0 rfl) ?_
  refine lv_iload_n hx hb dX5_about_1 rfl (lv_at hl 1 rfl) ?_
  refine vp_callSi (va_Run.run (va_runV (As := [.int w]) (rest := []) ⟨hx, hb, hml, hown, hts⟩ (m_X5_isWell l D o cI cJ cZ S w) (cwV 1 hts gX5_about_X5_isWell rfl rfl rfl (by decide +kernel) ⟨Nat.le_of_ble_eq_true rfl, Nat.le_of_ble_eq_true rfl⟩) (h_preR hK hP 0 rfl rfl rfl) rfl rfl hl.1 rfl (lv_room (Nat.le_of_ble_eq_true rfl)) dX5_about_2 ⟨Nat.le_of_ble_eq_true rfl, Nat.le_of_ble_eq_true rfl⟩)) (fun r_1 hr_1 => ?_)
  subst hr_1
  refine lv_if_eq (tgt := 18) hx hb dX5_about_5 (by decide) (fun c_5 => ?_) (fun c_5 => ?_)
  · skip
    have v_5 : ¬ ((nI 0) ≤ w ∧ w ≤ (nI (hg_n S 0) - nI 1)) := hg_in_f c_5
    refine lv_iconst (v := -1) hx hb dX5_about_18 (by decide) ?_
    exact W.iret (v := (-1)) hx hb hr (fun t ht hW => ⟨_, rfl, by show (-1) = a_about S w q; unfold a_about; rw [if_neg (fun q => v_5 q.1)], ht⟩) (fun _ h9 => nomatch h9) dX5_about_19
  · skip
    have v_5 : ((nI 0) ≤ w ∧ w ≤ (nI (hg_n S 0) - nI 1)) := hg_in_t c_5
    refine lv_iload_n hx hb dX5_about_8 rfl (lv_at hl 2 rfl) ?_
    refine lv_iconst (v := nI 0) hx hb dX5_about_9 (by decide) ?_
    refine lv_bipush (v := nI 8) hx hb dX5_about_10 (by decide) ?_
    refine vp_callSi (va_Run.run (va_runS (As := [.int q, .int (nI 0), .int (nI 8)]) (rest := []) ⟨hx, hb, hml, hown, hts⟩ (m_X5_within l q (nI 0) (nI 8)) (va_cwS 3 hts gX5_about_X5_within rfl rfl rfl (by decide +kernel) ⟨Nat.le_of_ble_eq_true rfl, Nat.le_of_ble_eq_true rfl⟩) (h_preS0) rfl rfl hl.1 rfl (lv_room (Nat.le_of_ble_eq_true rfl)) dX5_about_12 ⟨Nat.le_of_ble_eq_true rfl, Nat.le_of_ble_eq_true rfl⟩)) (fun r_2 hr_2 => ?_)
    subst hr_2
    refine lv_if_ne (tgt := 20) hx hb dX5_about_15 (by decide) (fun c_15 => ?_) (fun c_15 => ?_)
    · skip
      have v_15 : ((nI 0) ≤ q ∧ q ≤ (nI 8)) := hg_in_t c_15
      refine lv_iload_n hx hb dX5_about_20 rfl (lv_at hl 2 rfl) ?_
      obtain ⟨kw, kwh, rfl⟩ := hg_wel (by omega) v_5
      obtain ⟨kq, kql, kqh, rfl⟩ := hg_rng (by decide) (by decide) v_15
      rcases Nat.eq_or_lt_of_le (show 0 ≤ kq by omega) with rfl | kq0
      · skip
        refine lv_tableIn (off := 31) (tgt := 52) hx hb dX5_about_21 (by decide) (by decide) (by decide) (by decide) ?_
        refine lv_aload_n hx hb dX5_about_52 rfl (lv_at hl 0 rfl) ?_
        refine va_get (C := RX5) (T := TX5) (N := 6) (v := .ref (o 1)) hx hb hts hi5 hown hK hP 0 rfl rfl 0 (by decide) (hts (.fieldLink RX5 10 "HotGround" "wells" "LHotGround$Wells;") (by decide +kernel)) (fun _ h9 => h9) rfl dX5_about_53 ?_
        refine va_get (C := RX4) (T := TX4) (N := 6) (v := .ref (o 6)) hx hb hts hi4 hown hK hP 1 rfl rfl 1 (by decide) (hts (.fieldLink RX5 86 "HotGround$Wells" "kind" "[I") (by decide +kernel)) (fun _ h9 => h9) rfl dX5_about_56 ?_
        refine lv_iload_n hx hb dX5_about_59 rfl (lv_at hl 1 rfl) ?_
        refine h_iald (f := hg_i S 0) hx hb hK hP 6 0 rfl rfl kw (rfl) (by omega) (by decide) dX5_about_60 ?_
        exact W.iret (v := hg_i S 0 kw) hx hb hr (fun t ht hW => ⟨_, rfl, by show hg_i S 0 kw = a_about S (nI kw) (nI 0); unfold a_about; rw [if_pos (⟨v_5, v_15⟩)]; (try rw [nI_clamp (show kw < 2 ^ 31 by omega)]); rw [if_pos rfl], ht⟩) (fun _ h9 => nomatch h9) dX5_about_61
      · skip
        rcases Nat.eq_or_lt_of_le (show 1 ≤ kq by omega) with rfl | kq1
        · skip
          refine lv_tableIn (off := 41) (tgt := 62) hx hb dX5_about_21 (by decide) (by decide) (by decide) (by decide) ?_
          refine lv_aload_n hx hb dX5_about_62 rfl (lv_at hl 0 rfl) ?_
          refine va_get (C := RX5) (T := TX5) (N := 6) (v := .ref (o 1)) hx hb hts hi5 hown hK hP 0 rfl rfl 0 (by decide) (hts (.fieldLink RX5 10 "HotGround" "wells" "LHotGround$Wells;") (by decide +kernel)) (fun _ h9 => h9) rfl dX5_about_63 ?_
          refine va_get (C := RX4) (T := TX4) (N := 6) (v := .ref (o 7)) hx hb hts hi4 hown hK hP 1 rfl rfl 2 (by decide) (hts (.fieldLink RX5 89 "HotGround$Wells" "box" "[I") (by decide +kernel)) (fun _ h9 => h9) rfl dX5_about_66 ?_
          refine lv_iload_n hx hb dX5_about_69 rfl (lv_at hl 1 rfl) ?_
          refine h_iald (f := hg_i S 1) hx hb hK hP 7 0 rfl rfl kw (rfl) (by omega) (by decide) dX5_about_70 ?_
          exact W.iret (v := hg_i S 1 kw) hx hb hr (fun t ht hW => ⟨_, rfl, by show hg_i S 1 kw = a_about S (nI kw) (nI 1); unfold a_about; rw [if_pos (⟨v_5, v_15⟩)]; (try rw [nI_clamp (show kw < 2 ^ 31 by omega)]); rw [if_neg (by decide)]; rw [if_pos rfl], ht⟩) (fun _ h9 => nomatch h9) dX5_about_71
        · skip
          rcases Nat.eq_or_lt_of_le (show 2 ≤ kq by omega) with rfl | kq2
          · skip
            refine lv_tableIn (off := 51) (tgt := 72) hx hb dX5_about_21 (by decide) (by decide) (by decide) (by decide) ?_
            refine lv_aload_n hx hb dX5_about_72 rfl (lv_at hl 0 rfl) ?_
            refine va_get (C := RX5) (T := TX5) (N := 6) (v := .ref (o 1)) hx hb hts hi5 hown hK hP 0 rfl rfl 0 (by decide) (hts (.fieldLink RX5 10 "HotGround" "wells" "LHotGround$Wells;") (by decide +kernel)) (fun _ h9 => h9) rfl dX5_about_73 ?_
            refine va_get (C := RX4) (T := TX4) (N := 6) (v := .ref (o 8)) hx hb hts hi4 hown hK hP 1 rfl rfl 3 (by decide) (hts (.fieldLink RX5 72 "HotGround$Wells" "age" "[I") (by decide +kernel)) (fun _ h9 => h9) rfl dX5_about_76 ?_
            refine lv_iload_n hx hb dX5_about_79 rfl (lv_at hl 1 rfl) ?_
            refine h_iald (f := hg_i S 2) hx hb hK hP 8 0 rfl rfl kw (rfl) (by omega) (by decide) dX5_about_80 ?_
            exact W.iret (v := hg_i S 2 kw) hx hb hr (fun t ht hW => ⟨_, rfl, by show hg_i S 2 kw = a_about S (nI kw) (nI 2); unfold a_about; rw [if_pos (⟨v_5, v_15⟩)]; (try rw [nI_clamp (show kw < 2 ^ 31 by omega)]); rw [if_neg (by decide)]; rw [if_neg (by decide)]; rw [if_pos rfl], ht⟩) (fun _ h9 => nomatch h9) dX5_about_81
          · skip
            rcases Nat.eq_or_lt_of_le (show 3 ≤ kq by omega) with rfl | kq3
            · skip
              refine lv_tableIn (off := 61) (tgt := 82) hx hb dX5_about_21 (by decide) (by decide) (by decide) (by decide) ?_
              refine lv_aload_n hx hb dX5_about_82 rfl (lv_at hl 0 rfl) ?_
              refine va_get (C := RX5) (T := TX5) (N := 6) (v := .ref (o 1)) hx hb hts hi5 hown hK hP 0 rfl rfl 0 (by decide) (hts (.fieldLink RX5 10 "HotGround" "wells" "LHotGround$Wells;") (by decide +kernel)) (fun _ h9 => h9) rfl dX5_about_83 ?_
              refine va_get (C := RX4) (T := TX4) (N := 6) (v := .ref (o 9)) hx hb hts hi4 hown hK hP 1 rfl rfl 4 (by decide) (hts (.fieldLink RX5 68 "HotGround$Wells" "open" "[Z") (by decide +kernel)) (fun _ h9 => h9) rfl dX5_about_86 ?_
              refine lv_iload_n hx hb dX5_about_89 rfl (lv_at hl 1 rfl) ?_
              refine h_zald (f := hg_i S 3) hx hb hK hP 9 2 rfl rfl kw (rfl) (by omega) (by decide) dX5_about_90 ?_
              refine lv_if_eq (tgt := 98) hx hb dX5_about_91 (by decide) (fun c_91 => ?_) (fun c_91 => ?_)
              · skip
                refine lv_iconst (v := nI 0) hx hb dX5_about_98 (by decide) ?_
                exact W.iret (v := nI 0) hx hb hr (fun t ht hW => ⟨_, rfl, by show nI 0 = a_about S (nI kw) (nI 3); unfold a_about; rw [if_pos (⟨v_5, v_15⟩)]; (try rw [nI_clamp (show kw < 2 ^ 31 by omega)]); rw [if_neg (by decide)]; rw [if_neg (by decide)]; rw [if_neg (by decide)]; rw [if_pos rfl]; unfold f_01; rw [if_pos c_91], ht⟩) (fun _ h9 => nomatch h9) dX5_about_99
              · skip
                refine lv_iconst (v := nI 1) hx hb dX5_about_94 (by decide) ?_
                refine lv_goto (tgt := 99) hx hb dX5_about_95 (by decide) ?_
                exact W.iret (v := nI 1) hx hb hr (fun t ht hW => ⟨_, rfl, by show nI 1 = a_about S (nI kw) (nI 3); unfold a_about; rw [if_pos (⟨v_5, v_15⟩)]; (try rw [nI_clamp (show kw < 2 ^ 31 by omega)]); rw [if_neg (by decide)]; rw [if_neg (by decide)]; rw [if_neg (by decide)]; rw [if_pos rfl]; unfold f_01; rw [if_neg c_91], ht⟩) (fun _ h9 => nomatch h9) dX5_about_99
            · skip
              refine lv_tableOut (tgt := 100) hx hb dX5_about_21 (Or.inr (by rw [nI_toInt (by omega)]; omega)) (by decide) ?_
              refine lv_aload_n hx hb dX5_about_100 rfl (lv_at hl 0 rfl) ?_
              refine va_get (C := RX5) (T := TX5) (N := 6) (v := .ref (o 1)) hx hb hts hi5 hown hK hP 0 rfl rfl 0 (by decide) (hts (.fieldLink RX5 10 "HotGround" "wells" "LHotGround$Wells;") (by decide +kernel)) (fun _ h9 => h9) rfl dX5_about_101 ?_
              refine va_get (C := RX4) (T := TX4) (N := 6) (v := .ref (o 10)) hx hb hts hi4 hown hK hP 1 rfl rfl 5 (by decide) (hts (.fieldLink RX5 92 "HotGround$Wells" "corners" "[I") (by decide +kernel)) (fun _ h9 => h9) rfl dX5_about_104 ?_
              refine lv_iload_n hx hb dX5_about_107 rfl (lv_at hl 1 rfl) ?_
              refine lv_iconst (v := nI 5) hx hb dX5_about_108 (by decide) ?_
              refine lv_imul hx hb dX5_about_109 ?_
              refine h_topi (y := nI (kw * 5)) (pk_mul _ _) ?_
              refine lv_iload_n hx hb dX5_about_110 rfl (lv_at hl 2 rfl) ?_
              refine lv_iadd hx hb dX5_about_111 ?_
              refine h_topi (y := nI ((kw * 5) + kq)) (nI_add _ _) ?_
              refine lv_iconst (v := nI 4) hx hb dX5_about_112 (by decide) ?_
              refine lv_isub hx hb dX5_about_113 ?_
              refine h_topi (y := nI (((kw * 5) + kq) - 4)) (pk_sub (by omega)) ?_
              refine h_iald (f := hg_i S 4) hx hb hK hP 10 0 rfl rfl (((kw * 5) + kq) - 4) (rfl) (by omega) (by decide) dX5_about_114 ?_
              exact W.iret (v := hg_i S 4 (((kw * 5) + kq) - 4)) hx hb hr (fun t ht hW => ⟨_, rfl, by show hg_i S 4 (((kw * 5) + kq) - 4) = a_about S (nI kw) (nI kq); unfold a_about; rw [if_pos (⟨v_5, v_15⟩)]; (try rw [nI_clamp (show kw < 2 ^ 31 by omega)]); (try rw [nI_clamp (show kq < 2 ^ 31 by omega)]); rw [if_neg (fun h => by have := (nI_eq (by omega) (by decide)).mp h; omega)]; rw [if_neg (fun h => by have := (nI_eq (by omega) (by decide)).mp h; omega)]; rw [if_neg (fun h => by have := (nI_eq (by omega) (by decide)).mp h; omega)]; rw [if_neg (fun h => by have := (nI_eq (by omega) (by decide)).mp h; omega)], ht⟩) (fun _ h9 => nomatch h9) dX5_about_115
    · skip
      have v_15 : ¬ ((nI 0) ≤ q ∧ q ≤ (nI 8)) := hg_in_f c_15
      refine lv_iconst (v := -1) hx hb dX5_about_18 (by decide) ?_
      exact W.iret (v := (-1)) hx hb hr (fun t ht hW => ⟨_, rfl, by show (-1) = a_about S w q; unfold a_about; rw [if_neg (fun q => v_15 q.2)], ht⟩) (fun _ h9 => nomatch h9) dX5_about_19
set_option maxHeartbeats 4000000 in
set_option maxRecDepth 100000 in
/-- turbine -/
theorem m_X5_turbine (l : Launch) (D : va_G) (o : Nat → Nat) (cI cJ cZ : ClassId) (S : hg_S) (sz : Nat) (h1 : hg_n S 1 ≤ 4) (a b d : Int32) : Met l yX5_turbine wsX5_turbine ({ frames := 2, cells := 0, slots := 0, locals := 42 }) (va_Pc [.ref (o 0), .int a, .int b, .int d] (hg_Wr D (xW o cI cJ cZ S) (hg_ty cI cJ cZ) sz)) (va_Qi (fun (r : Int32) (_ : Unit) => r = (r_turb S a b d).1) (fun _ t => hg_At D (xW o cI cJ cZ ((r_turb S a b d).2)) (va_A (xW o cI cJ cZ S) sz) t) (va_A (xW o cI cJ cZ S) sz)) 0 0 (va_A (xW o cI cJ cZ S) sz) := by
  refine h_start (cc := cX5_turbine) (maxL := 4) (ret := (some .int)) (by decide) rfl (Nat.le_of_ble_eq_true rfl) ?_
  intro pg ev s mi args below meth cd ls hx hb hr hts hown hlocks hml hnm hpic hl
  obtain ⟨hsz, hP, hK, hD0⟩ := hpic
  subst hsz
  have hD := hD0.self (sz := s.heap.size)
  generalize hAe : va_A (xW o cI cJ cZ S) s.heap.size = A at hD ⊢
  have hA : ∀ q : Nat, s.heap.size ≤ q → A q := fun q h => by rw [← hAe]; exact Or.inr h
  have hS : va_S A s.heap s.heap [] := va_S.rf
  have hi3 : ∀ w ∈ u_ws RX3 TX3 5, w ∈ wsX5_turbine := by decide +kernel
  have hi5 : ∀ w ∈ u_ws RX5 TX5 6, w ∈ wsX5_turbine := by decide +kernel
  have hl : lv_has ls 4 [(0, .ref (o 0)), (1, .int a), (2, .int b), (3, .int d)] := hl
  refine lv_iload_n hx hb dX5_turbine_0 rfl (lv_at hl 1 rfl) ?_
  refine vp_callSi (va_Run.run (va_runS (As := [.int a]) (rest := []) ⟨hx, hb, hml, hown, hts⟩ (m_X5_isPressure l a) (va_cwS 1 hts gX5_turbine_X5_isPressure rfl rfl rfl (by decide +kernel) ⟨Nat.le_of_ble_eq_true rfl, Nat.le_of_ble_eq_true rfl⟩) (h_preS0) rfl rfl hl.1 rfl (lv_room (Nat.le_of_ble_eq_true rfl)) dX5_turbine_1 ⟨Nat.le_of_ble_eq_true rfl, Nat.le_of_ble_eq_true rfl⟩)) (fun r_1 hr_1 => ?_)
  subst hr_1
  refine lv_if_eq (tgt := 28) hx hb dX5_turbine_4 (by decide) (fun c_4 => ?_) (fun c_4 => ?_)
  · skip
    have v_4 : ¬ ((nI 0) ≤ a ∧ a ≤ (nI 20)) := hg_in_f c_4
    refine lv_iconst (v := -1) hx hb dX5_turbine_28 (by decide) ?_
    have hq : r_turb S a b d = ((-1), S) := by unfold r_turb; rw [if_neg (fun q => v_4 q.1)]
    rw [show (S : hg_S) = (r_turb S a b d).2 from by rw [hq]] at hP hD
    exact W.iret (v := (-1)) hx hb hr (fun t ht hW => ⟨⟨_, (), rfl, by rw [hq], ⟨by rw [ht]; exact hP, hD⟩⟩, hS.F ht⟩) hS.2.2 dX5_turbine_29
  · skip
    have v_4 : ((nI 0) ≤ a ∧ a ≤ (nI 20)) := hg_in_t c_4
    refine lv_iload_n hx hb dX5_turbine_7 rfl (lv_at hl 2 rfl) ?_
    refine lv_iconst (v := nI 1) hx hb dX5_turbine_8 (by decide) ?_
    refine lv_bipush (v := nI 40) hx hb dX5_turbine_9 (by decide) ?_
    refine vp_callSi (va_Run.run (va_runS (As := [.int b, .int (nI 1), .int (nI 40)]) (rest := []) ⟨hx, hb, hml, hown, hts⟩ (m_X5_within l b (nI 1) (nI 40)) (va_cwS 3 hts gX5_turbine_X5_within rfl rfl rfl (by decide +kernel) ⟨Nat.le_of_ble_eq_true rfl, Nat.le_of_ble_eq_true rfl⟩) (h_preS0) rfl rfl hl.1 rfl (lv_room (Nat.le_of_ble_eq_true rfl)) dX5_turbine_11 ⟨Nat.le_of_ble_eq_true rfl, Nat.le_of_ble_eq_true rfl⟩)) (fun r_2 hr_2 => ?_)
    subst hr_2
    refine lv_if_eq (tgt := 28) hx hb dX5_turbine_14 (by decide) (fun c_14 => ?_) (fun c_14 => ?_)
    · skip
      have v_14 : ¬ ((nI 1) ≤ b ∧ b ≤ (nI 40)) := hg_in_f c_14
      refine lv_iconst (v := -1) hx hb dX5_turbine_28 (by decide) ?_
      have hq : r_turb S a b d = ((-1), S) := by unfold r_turb; rw [if_neg (fun q => v_14 q.2.1)]
      rw [show (S : hg_S) = (r_turb S a b d).2 from by rw [hq]] at hP hD
      exact W.iret (v := (-1)) hx hb hr (fun t ht hW => ⟨⟨_, (), rfl, by rw [hq], ⟨by rw [ht]; exact hP, hD⟩⟩, hS.F ht⟩) hS.2.2 dX5_turbine_29
    · skip
      have v_14 : ((nI 1) ≤ b ∧ b ≤ (nI 40)) := hg_in_t c_14
      refine lv_iload_n hx hb dX5_turbine_17 rfl (lv_at hl 3 rfl) ?_
      refine lv_iconst (v := nI 1) hx hb dX5_turbine_18 (by decide) ?_
      refine lv_sipush (v := nI 2000) hx hb dX5_turbine_19 (by decide) ?_
      refine vp_callSi (va_Run.run (va_runS (As := [.int d, .int (nI 1), .int (nI 2000)]) (rest := []) ⟨hx, hb, hml, hown, hts⟩ (m_X5_within l d (nI 1) (nI 2000)) (va_cwS 3 hts gX5_turbine_X5_within rfl rfl rfl (by decide +kernel) ⟨Nat.le_of_ble_eq_true rfl, Nat.le_of_ble_eq_true rfl⟩) (h_preS0) rfl rfl hl.1 rfl (lv_room (Nat.le_of_ble_eq_true rfl)) dX5_turbine_22 ⟨Nat.le_of_ble_eq_true rfl, Nat.le_of_ble_eq_true rfl⟩)) (fun r_3 hr_3 => ?_)
      subst hr_3
      refine lv_if_ne (tgt := 30) hx hb dX5_turbine_25 (by decide) (fun c_25 => ?_) (fun c_25 => ?_)
      · skip
        have v_25 : ((nI 1) ≤ d ∧ d ≤ (nI 2000)) := hg_in_t c_25
        refine lv_aload_n hx hb dX5_turbine_30 rfl (lv_at hl 0 rfl) ?_
        refine va_get (C := RX5) (T := TX5) (N := 6) (v := .ref (o 2)) hx hb hts hi5 hown hK hP 0 rfl rfl 1 (by decide) (hts (.fieldLink RX5 19 "HotGround" "plant" "LHotGround$Plant;") (by decide +kernel)) (fun _ h9 => h9) rfl dX5_turbine_31 ?_
        refine va_get (C := RX3) (T := TX3) (N := 5) (v := .int (nI (hg_n S 1))) hx hb hts hi3 hown hK hP 2 rfl rfl 0 (by decide) (hts (.fieldLink RX5 95 "HotGround$Plant" "count" "I") (by decide +kernel)) (fun _ h9 => h9) rfl dX5_turbine_34 ?_
        refine lv_iconst (v := nI 4) hx hb dX5_turbine_37 (by decide) ?_
        refine lv_icmp_lt (tgt := 44) hx hb dX5_turbine_38 (by decide) (fun c_38 => ?_) (fun c_38 => ?_)
        · skip
          have hc : hg_n S 1 < 4 := (nI_ltI (by omega) (by omega)).mp c_38
          refine lv_aload_n hx hb dX5_turbine_44 rfl (lv_at hl 0 rfl) ?_
          refine va_get (C := RX5) (T := TX5) (N := 6) (v := .ref (o 2)) hx hb hts hi5 hown hK hP 0 rfl rfl 1 (by decide) (hts (.fieldLink RX5 19 "HotGround" "plant" "LHotGround$Plant;") (by decide +kernel)) (fun _ h9 => h9) rfl dX5_turbine_45 ?_
          refine lv_iload_n hx hb dX5_turbine_48 rfl (lv_at hl 1 rfl) ?_
          refine lv_iload_n hx hb dX5_turbine_49 rfl (lv_at hl 2 rfl) ?_
          refine lv_iload_n hx hb dX5_turbine_50 rfl (lv_at hl 3 rfl) ?_
          refine h_calli (w1 := xW o cI cJ cZ (s_turb S a b d)) (va_runV (As := [.int a, .int b, .int d]) (rest := []) ⟨hx, hb, hml, hown, hts⟩ (m_X3_add l D o cI cJ cZ S s.heap.size hc a b d) (cwV 3 hts gX5_turbine_X3_add rfl rfl rfl (by decide +kernel) ⟨Nat.le_of_ble_eq_true rfl, Nat.le_of_ble_eq_true rfl⟩) (h_preW hK hP hD 2 rfl rfl rfl) rfl rfl hl.1 rfl (lv_room (Nat.le_of_ble_eq_true rfl)) dX5_turbine_51 ⟨Nat.le_of_ble_eq_true rfl, Nat.le_of_ble_eq_true rfl⟩) hS (h_all hD hS hA) (fun r_4 H locs hr_4 hP hD hS => ?_)
          subst hr_4
          have hq : r_turb S a b d = (nI (hg_n S 1), s_turb S a b d) := by unfold r_turb; rw [if_pos (⟨v_4, v_14, v_25⟩)]; rw [if_pos (by omega)]
          rw [show (s_turb S a b d : hg_S) = (r_turb S a b d).2 from by rw [hq]] at hP hD
          exact W.iret (v := nI (hg_n S 1)) hx hb hr (fun t ht hW => ⟨⟨_, (), rfl, by rw [hq], ⟨by rw [ht]; exact hP, hD⟩⟩, hS.F ht⟩) hS.2.2 dX5_turbine_54
        · skip
          have hc : ¬ hg_n S 1 < 4 := fun h => c_38 ((nI_ltI (by omega) (by omega)).mpr h)
          refine lv_bipush (v := -3) hx hb dX5_turbine_41 (by decide) ?_
          have hq : r_turb S a b d = ((-3), S) := by unfold r_turb; rw [if_pos (⟨v_4, v_14, v_25⟩)]; rw [if_neg (by omega)]
          rw [show (S : hg_S) = (r_turb S a b d).2 from by rw [hq]] at hP hD
          exact W.iret (v := (-3)) hx hb hr (fun t ht hW => ⟨⟨_, (), rfl, by rw [hq], ⟨by rw [ht]; exact hP, hD⟩⟩, hS.F ht⟩) hS.2.2 dX5_turbine_43
      · skip
        have v_25 : ¬ ((nI 1) ≤ d ∧ d ≤ (nI 2000)) := hg_in_f c_25
        refine lv_iconst (v := -1) hx hb dX5_turbine_28 (by decide) ?_
        have hq : r_turb S a b d = ((-1), S) := by unfold r_turb; rw [if_neg (fun q => v_25 q.2.2)]
        rw [show (S : hg_S) = (r_turb S a b d).2 from by rw [hq]] at hP hD
        exact W.iret (v := (-1)) hx hb hr (fun t ht hW => ⟨⟨_, (), rfl, by rw [hq], ⟨by rw [ht]; exact hP, hD⟩⟩, hS.F ht⟩) hS.2.2 dX5_turbine_29
set_option maxHeartbeats 4000000 in
set_option maxRecDepth 100000 in
/-- on -/
theorem m_X5_on (l : Launch) (D : va_G) (o : Nat → Nat) (cI cJ cZ : ClassId) (S : hg_S) (sz : Nat) (h1 : hg_n S 1 ≤ 4) (w x : Int32) (hx01 : vp_nar .boolean x = x)  : Met l yX5_on wsX5_on ({ frames := 1, cells := 0, slots := 0, locals := 22 }) (va_Pc [.ref (o 0), .int w, .int x] (hg_Wr D (xW o cI cJ cZ S) (hg_ty cI cJ cZ) sz)) (va_Qi (fun (r : Int32) (_ : Unit) => r = (r_on S w x).1) (fun _ t => hg_At D (xW o cI cJ cZ ((r_on S w x).2)) (va_A (xW o cI cJ cZ S) sz) t) (va_A (xW o cI cJ cZ S) sz)) 0 0 (va_A (xW o cI cJ cZ S) sz) := by
  refine h_start (cc := cX5_on) (maxL := 4) (ret := (some .int)) (by decide) rfl (Nat.le_of_ble_eq_true rfl) ?_
  intro pg ev s mi args below meth cd ls hx hb hr hts hown hlocks hml hnm hpic hl
  obtain ⟨hsz, hP, hK, hD0⟩ := hpic
  subst hsz
  have hD := hD0.self (sz := s.heap.size)
  generalize hAe : va_A (xW o cI cJ cZ S) s.heap.size = A at hD ⊢
  have hA : ∀ q : Nat, s.heap.size ≤ q → A q := fun q h => by rw [← hAe]; exact Or.inr h
  have hS : va_S A s.heap s.heap [] := va_S.rf
  have hi3 : ∀ w ∈ u_ws RX3 TX3 5, w ∈ wsX5_on := by decide +kernel
  have hi5 : ∀ w ∈ u_ws RX5 TX5 6, w ∈ wsX5_on := by decide +kernel
  have hl : lv_has ls 4 [(0, .ref (o 0)), (1, .int w), (2, .int x)] := hl
  refine lv_iload_n hx hb dX5_on_0 rfl (lv_at hl 1 rfl) ?_
  refine lv_iconst (v := nI 0) hx hb dX5_on_1 (by decide) ?_
  refine lv_aload_n hx hb dX5_on_2 rfl (lv_at hl 0 rfl) ?_
  refine va_get (C := RX5) (T := TX5) (N := 6) (v := .ref (o 2)) hx hb hts hi5 hown hK hP 0 rfl rfl 1 (by decide) (hts (.fieldLink RX5 19 "HotGround" "plant" "LHotGround$Plant;") (by decide +kernel)) (fun _ h9 => h9) rfl dX5_on_3 ?_
  refine va_get (C := RX3) (T := TX3) (N := 5) (v := .int (nI (hg_n S 1))) hx hb hts hi3 hown hK hP 2 rfl rfl 0 (by decide) (hts (.fieldLink RX5 95 "HotGround$Plant" "count" "I") (by decide +kernel)) (fun _ h9 => h9) rfl dX5_on_6 ?_
  refine lv_iconst (v := nI 1) hx hb dX5_on_9 (by decide) ?_
  refine lv_isub hx hb dX5_on_10 ?_
  refine vp_callSi (va_Run.run (va_runS (As := [.int w, .int (nI 0), .int ((nI (hg_n S 1)) - (nI 1))]) (rest := []) ⟨hx, hb, hml, hown, hts⟩ (m_X5_within l w (nI 0) ((nI (hg_n S 1)) - (nI 1))) (va_cwS 3 hts gX5_on_X5_within rfl rfl rfl (by decide +kernel) ⟨Nat.le_of_ble_eq_true rfl, Nat.le_of_ble_eq_true rfl⟩) (h_preS0) rfl rfl hl.1 rfl (lv_room (Nat.le_of_ble_eq_true rfl)) dX5_on_11 ⟨Nat.le_of_ble_eq_true rfl, Nat.le_of_ble_eq_true rfl⟩)) (fun r_1 hr_1 => ?_)
  subst hr_1
  refine lv_if_ne (tgt := 19) hx hb dX5_on_14 (by decide) (fun c_14 => ?_) (fun c_14 => ?_)
  · skip
    have v_14 : ((nI 0) ≤ w ∧ w ≤ ((nI (hg_n S 1)) - (nI 1))) := hg_in_t c_14
    obtain ⟨kw, kwh, rfl⟩ := hg_wel (by omega) v_14
    refine lv_aload_n hx hb dX5_on_19 rfl (lv_at hl 0 rfl) ?_
    refine va_get (C := RX5) (T := TX5) (N := 6) (v := .ref (o 2)) hx hb hts hi5 hown hK hP 0 rfl rfl 1 (by decide) (hts (.fieldLink RX5 19 "HotGround" "plant" "LHotGround$Plant;") (by decide +kernel)) (fun _ h9 => h9) rfl dX5_on_20 ?_
    refine va_get (C := RX3) (T := TX3) (N := 5) (v := .ref (o 14)) hx hb hts hi3 hown hK hP 2 rfl rfl 4 (by decide) (hts (.fieldLink RX5 99 "HotGround$Plant" "on" "[Z") (by decide +kernel)) (fun _ h9 => h9) rfl dX5_on_23 ?_
    refine lv_iload_n hx hb dX5_on_26 rfl (lv_at hl 1 rfl) ?_
    refine h_zald (f := hg_i S 8) hx hb hK hP 14 2 rfl rfl kw (rfl) (by omega) (by decide) dX5_on_27 ?_
    refine lv_istore_n (lv' := [(3, .int (hg_i S 8 kw)), (0, .ref (o 0)), (1, .int (nI kw)), (2, .int x)]) hx hb dX5_on_28 rfl hl (by decide) rfl (fun ls hl => ?_)
    refine lv_aload_n hx hb dX5_on_29 rfl (lv_at hl 1 rfl) ?_
    refine va_get (C := RX5) (T := TX5) (N := 6) (v := .ref (o 2)) hx hb hts hi5 hown hK hP 0 rfl rfl 1 (by decide) (hts (.fieldLink RX5 19 "HotGround" "plant" "LHotGround$Plant;") (by decide +kernel)) (fun _ h9 => h9) rfl dX5_on_30 ?_
    refine va_get (C := RX3) (T := TX3) (N := 5) (v := .ref (o 14)) hx hb hts hi3 hown hK hP 2 rfl rfl 4 (by decide) (hts (.fieldLink RX5 99 "HotGround$Plant" "on" "[Z") (by decide +kernel)) (fun _ h9 => h9) rfl dX5_on_33 ?_
    refine lv_iload_n hx hb dX5_on_36 rfl (lv_at hl 2 rfl) ?_
    refine lv_iload_n hx hb dX5_on_37 rfl (lv_at hl 3 rfl) ?_
    refine h_zast (f := hg_i S 8) (ws' := xW o cI cJ cZ (hg_si S 8 (upd (hg_i S 8) kw x))) hx hb hK hP hD hS 14 2 rfl rfl kw (rfl) (by omega) (by decide) (hx01) rfl dX5_on_38 (fun H locs hP hD hS => ?_)
    refine lv_iload_n hx hb dX5_on_39 rfl (lv_at hl 0 rfl) ?_
    refine lv_if_eq (tgt := 47) hx hb dX5_on_40 (by decide) (fun c_40 => ?_) (fun c_40 => ?_)
    · skip
      refine lv_iconst (v := nI 0) hx hb dX5_on_47 (by decide) ?_
      have hq : r_on S (nI kw) x = (nI 0, hg_si S 8 (upd (hg_i S 8) kw x)) := by unfold r_on; rw [if_pos v_14]; (try rw [nI_clamp (show kw < 2 ^ 31 by omega)]); unfold f_01; rw [if_pos c_40]
      rw [show (hg_si S 8 (upd (hg_i S 8) kw x) : hg_S) = (r_on S (nI kw) x).2 from by rw [hq]] at hP hD
      exact W.iret (v := nI 0) hx hb hr (fun t ht hW => ⟨⟨_, (), rfl, by rw [hq], ⟨by rw [ht]; exact hP, hD⟩⟩, hS.F ht⟩) hS.2.2 dX5_on_48
    · skip
      refine lv_iconst (v := nI 1) hx hb dX5_on_43 (by decide) ?_
      refine lv_goto (tgt := 48) hx hb dX5_on_44 (by decide) ?_
      have hq : r_on S (nI kw) x = (nI 1, hg_si S 8 (upd (hg_i S 8) kw x)) := by unfold r_on; rw [if_pos v_14]; (try rw [nI_clamp (show kw < 2 ^ 31 by omega)]); unfold f_01; rw [if_neg c_40]
      rw [show (hg_si S 8 (upd (hg_i S 8) kw x) : hg_S) = (r_on S (nI kw) x).2 from by rw [hq]] at hP hD
      exact W.iret (v := nI 1) hx hb hr (fun t ht hW => ⟨⟨_, (), rfl, by rw [hq], ⟨by rw [ht]; exact hP, hD⟩⟩, hS.F ht⟩) hS.2.2 dX5_on_48
  · skip
    have v_14 : ¬ ((nI 0) ≤ w ∧ w ≤ ((nI (hg_n S 1)) - (nI 1))) := hg_in_f c_14
    refine lv_iconst (v := -1) hx hb dX5_on_17 (by decide) ?_
    have hq : r_on S w x = ((-1), S) := by unfold r_on; rw [if_neg (fun q => v_14 q)]
    rw [show (S : hg_S) = (r_on S w x).2 from by rw [hq]] at hP hD
    exact W.iret (v := (-1)) hx hb hr (fun t ht hW => ⟨⟨_, (), rfl, by rw [hq], ⟨by rw [ht]; exact hP, hD⟩⟩, hS.F ht⟩) hS.2.2 dX5_on_18
set_option maxHeartbeats 4000000 in
set_option maxRecDepth 100000 in
/-- the point -/
theorem m_X5_meeting (l : Launch) (D : va_G) (o : Nat → Nat) (cI cJ cZ : ClassId) (S : hg_S) (h0 : hg_n S 0 ≤ 8) (h1 : hg_n S 1 ≤ 4)  : Met l yX5_meeting wsX5_meeting ({ frames := 4, cells := 0, slots := 0, locals := 79 }) (va_Pc [.ref (o 0)] (hg_R D (xW o cI cJ cZ S) (hg_ty cI cJ cZ))) (vp_Si (fun r => r = f_point S)) 0 0 (fun _ => False) := by
  refine h_start (cc := cX5_meeting) (maxL := 2) (ret := (some .int)) (by decide) rfl (Nat.le_of_ble_eq_true rfl) ?_
  intro pg ev s mi args below meth cd ls hx hb hr hts hown hlocks hml hnm hpic hl
  obtain ⟨hP, hK⟩ := hpic
  have hi5 : ∀ w ∈ u_ws RX5 TX5 6, w ∈ wsX5_meeting := by decide +kernel
  have hl : lv_has ls 2 [(0, .ref (o 0))] := hl
  refine lv_bipush (v := nI 20) hx hb dX5_meeting_0 (by decide) ?_
  refine h_topi (y := nI 20 - nI 0) (by decide) ?_
  refine lv_istore_n (lv' := [(1, .int (nI 20 - nI 0)), (0, .ref (o 0))]) hx hb dX5_meeting_2 rfl hl (by decide) rfl (fun ls hl => ?_)
  refine h_forI (nL := 2) 21 (fun i => [(1, .int (nI 20 - nI i)), (0, .ref (o 0))]) (fun i => f_point S = f_meet S (21 - i)) ?_ ?_ rfl (lv_sub hl [0, 1] rfl)
  · intro i ls hi hI hl ih
    have hl : lv_has ls 2 [(1, .int (nI 20 - nI i)), (0, .ref (o 0))] := hl
    rw [show nI 20 - nI i = nI (20 - i) from pk_sub (by omega)] at hl
    have hl : lv_has ls 2 [(1, .int (nI (20 - i))), (0, .ref (o 0))] := hl
    have hm : f_meet S (21 - i) = if f_draw S (20 - i) ≤ f_supply S (20 - i) then nI (20 - i) else f_meet S (20 - i) := by rw [show 21 - i = (20 - i) + 1 from by omega]; rfl
    refine lv_iload_n hx hb dX5_meeting_3 rfl (lv_at hl 0 rfl) ?_
    refine lv_if_lt (tgt := 34) hx hb dX5_meeting_4 (by decide) (fun c_4 => absurd c_4 (nI_pos (by omega))) (fun c_4 => ?_)
    refine lv_aload_n hx hb dX5_meeting_7 rfl (lv_at hl 1 rfl) ?_
    refine va_get (C := RX5) (T := TX5) (N := 6) (v := .ref (o 1)) hx hb hts hi5 hown hK hP 0 rfl rfl 0 (by decide) (hts (.fieldLink RX5 10 "HotGround" "wells" "LHotGround$Wells;") (by decide +kernel)) (fun _ h9 => h9) rfl dX5_meeting_8 ?_
    refine lv_iload_n hx hb dX5_meeting_11 rfl (lv_at hl 0 rfl) ?_
    refine vp_callSi (va_Run.run (va_runV (As := [.int (nI (20 - i))]) (rest := []) ⟨hx, hb, hml, hown, hts⟩ (m_X4_supply l D o cI cJ cZ S h0 (20 - i) (by omega)) (cwV 1 hts gX5_meeting_X4_supply rfl rfl rfl (by decide +kernel) ⟨Nat.le_of_ble_eq_true rfl, Nat.le_of_ble_eq_true rfl⟩) (h_preR hK hP 1 rfl rfl rfl) rfl rfl hl.1 rfl (lv_room (Nat.le_of_ble_eq_true rfl)) dX5_meeting_12 ⟨Nat.le_of_ble_eq_true rfl, Nat.le_of_ble_eq_true rfl⟩)) (fun r_1 hr_1 => ?_)
    subst hr_1
    refine lv_aload_n hx hb dX5_meeting_15 rfl (lv_at hl 1 rfl) ?_
    refine va_get (C := RX5) (T := TX5) (N := 6) (v := .ref (o 2)) hx hb hts hi5 hown hK hP 0 rfl rfl 1 (by decide) (hts (.fieldLink RX5 19 "HotGround" "plant" "LHotGround$Plant;") (by decide +kernel)) (fun _ h9 => h9) rfl dX5_meeting_16 ?_
    refine lv_iload_n hx hb dX5_meeting_19 rfl (lv_at hl 0 rfl) ?_
    refine vp_callSi (va_Run.run (va_runV (As := [.int (nI (20 - i))]) (rest := [.int (f_supply S (20 - i))]) ⟨hx, hb, hml, hown, hts⟩ (m_X3_draw l D o cI cJ cZ S h1 (20 - i) (by omega)) (cwV 1 hts gX5_meeting_X3_draw rfl rfl rfl (by decide +kernel) ⟨Nat.le_of_ble_eq_true rfl, Nat.le_of_ble_eq_true rfl⟩) (h_preR hK hP 2 rfl rfl rfl) rfl rfl hl.1 rfl (lv_room (Nat.le_of_ble_eq_true rfl)) dX5_meeting_20 ⟨Nat.le_of_ble_eq_true rfl, Nat.le_of_ble_eq_true rfl⟩)) (fun r_2 hr_2 => ?_)
    subst hr_2
    refine lv_icmp_lt (tgt := 28) hx hb dX5_meeting_23 (by decide) (fun c_23 => ?_) (fun c_23 => ?_)
    · skip
      refine lv_iinc (v := nI 20 - nI (i + 1)) (lv' := [(1, .int (nI 20 - nI (i + 1))), (0, .ref (o 0))]) hx hb dX5_meeting_28 hl (k := 0) rfl (hg_dec20 hi) (by decide) rfl (fun ls hl => ?_)
      refine lv_goto (tgt := 3) hx hb dX5_meeting_31 (by decide) ?_
      exact ih ls (by rw [hI, hm, if_neg (hg_nle.mpr c_23)]; congr 1; omega) (lv_sub hl [0, 1] rfl)
    · skip
      refine lv_iload_n hx hb dX5_meeting_26 rfl (lv_at hl 0 rfl) ?_
      exact W.iret (v := nI (20 - i)) hx hb hr (fun t ht hW => ⟨_, rfl, by rw [hI, hm, if_pos (hg_nlt.mp c_23)], ht⟩) (fun _ h9 => nomatch h9) dX5_meeting_27
  · intro ls hI hl
    have hl : lv_has ls 2 [(1, .int (nI 20 - nI 21)), (0, .ref (o 0))] := hl
    refine lv_iload_n hx hb dX5_meeting_3 rfl (lv_at hl 0 rfl) ?_
    refine lv_if_lt (tgt := 34) hx hb dX5_meeting_4 (by decide) (fun c_4 => ?_) (fun c_4 => absurd (by decide) c_4)
    refine lv_bipush (v := -9) hx hb dX5_meeting_34 (by decide) ?_
    exact W.iret (v := (-9)) hx hb hr (fun t ht hW => ⟨_, rfl, by rw [hI]; rfl, ht⟩) (fun _ h9 => nomatch h9) dX5_meeting_36
set_option maxHeartbeats 4000000 in
set_option maxRecDepth 100000 in
/-- point -/
theorem m_X5_point (l : Launch) (D : va_G) (o : Nat → Nat) (cI cJ cZ : ClassId) (S : hg_S) (h0 : hg_n S 0 ≤ 8) (h1 : hg_n S 1 ≤ 4)  : Met l yX5_point wsX5_point ({ frames := 5, cells := 0, slots := 0, locals := 100 }) (va_Pc [.ref (o 0)] (hg_R D (xW o cI cJ cZ S) (hg_ty cI cJ cZ))) (vp_Si (fun r => r = f_point S)) 0 0 (fun _ => False) := by
  refine h_start (cc := cX5_point) (maxL := 1) (ret := (some .int)) (by decide) rfl (Nat.le_of_ble_eq_true rfl) ?_
  intro pg ev s mi args below meth cd ls hx hb hr hts hown hlocks hml hnm hpic hl
  obtain ⟨hP, hK⟩ := hpic
  have hl : lv_has ls 1 [(0, .ref (o 0))] := hl
  refine lv_aload_n hx hb dX5_point_0 rfl (lv_at hl 0 rfl) ?_
  refine vp_callSi (va_Run.run (va_runV (As := []) (rest := []) ⟨hx, hb, hml, hown, hts⟩ (m_X5_meeting l D o cI cJ cZ S h0 h1) (cwV 0 hts gX5_point_X5_meeting rfl rfl rfl (by decide +kernel) ⟨Nat.le_of_ble_eq_true rfl, Nat.le_of_ble_eq_true rfl⟩) (h_preR hK hP 0 rfl rfl rfl) rfl rfl hl.1 rfl (lv_room (Nat.le_of_ble_eq_true rfl)) dX5_point_1 ⟨Nat.le_of_ble_eq_true rfl, Nat.le_of_ble_eq_true rfl⟩)) (fun r_1 hr_1 => ?_)
  subst hr_1
  exact W.iret (v := f_point S) hx hb hr (fun t ht hW => ⟨_, rfl, rfl, ht⟩) (fun _ h9 => nomatch h9) dX5_point_4
set_option maxHeartbeats 4000000 in
set_option maxRecDepth 100000 in
/-- at -/
theorem m_X5_at (l : Launch) (D : va_G) (o : Nat → Nat) (cI cJ cZ : ClassId) (S : hg_S) (h0 : hg_n S 0 ≤ 8) (h1 : hg_n S 1 ≤ 4) (q a : Int32) : Met l yX5_at wsX5_at ({ frames := 4, cells := 0, slots := 0, locals := 80 }) (va_Pc [.ref (o 0), .int q, .int a] (hg_R D (xW o cI cJ cZ S) (hg_ty cI cJ cZ))) (vp_Si (fun r => r = a_at S q a)) 0 0 (fun _ => False) := by
  refine h_start (cc := cX5_at) (maxL := 3) (ret := (some .int)) (by decide) rfl (Nat.le_of_ble_eq_true rfl) ?_
  intro pg ev s mi args below meth cd ls hx hb hr hts hown hlocks hml hnm hpic hl
  obtain ⟨hP, hK⟩ := hpic
  have hi5 : ∀ w ∈ u_ws RX5 TX5 6, w ∈ wsX5_at := by decide +kernel
  have hl : lv_has ls 3 [(0, .ref (o 0)), (1, .int q), (2, .int a)] := hl
  refine lv_iload_n hx hb dX5_at_0 rfl (lv_at hl 1 rfl) ?_
  refine lv_iconst (v := nI 0) hx hb dX5_at_1 (by decide) ?_
  refine lv_iconst (v := nI 2) hx hb dX5_at_2 (by decide) ?_
  refine vp_callSi (va_Run.run (va_runS (As := [.int q, .int (nI 0), .int (nI 2)]) (rest := []) ⟨hx, hb, hml, hown, hts⟩ (m_X5_within l q (nI 0) (nI 2)) (va_cwS 3 hts gX5_at_X5_within rfl rfl rfl (by decide +kernel) ⟨Nat.le_of_ble_eq_true rfl, Nat.le_of_ble_eq_true rfl⟩) (h_preS0) rfl rfl hl.1 rfl (lv_room (Nat.le_of_ble_eq_true rfl)) dX5_at_3 ⟨Nat.le_of_ble_eq_true rfl, Nat.le_of_ble_eq_true rfl⟩)) (fun r_1 hr_1 => ?_)
  subst hr_1
  refine lv_if_eq (tgt := 16) hx hb dX5_at_6 (by decide) (fun c_6 => ?_) (fun c_6 => ?_)
  · skip
    have v_6 : ¬ ((nI 0) ≤ q ∧ q ≤ (nI 2)) := hg_in_f c_6
    refine lv_iconst (v := -1) hx hb dX5_at_16 (by decide) ?_
    exact W.iret (v := (-1)) hx hb hr (fun t ht hW => ⟨_, rfl, by show (-1) = a_at S q a; unfold a_at; rw [if_neg (fun q => v_6 q.1)], ht⟩) (fun _ h9 => nomatch h9) dX5_at_17
  · skip
    have v_6 : ((nI 0) ≤ q ∧ q ≤ (nI 2)) := hg_in_t c_6
    refine lv_iload_n hx hb dX5_at_9 rfl (lv_at hl 2 rfl) ?_
    refine vp_callSi (va_Run.run (va_runS (As := [.int a]) (rest := []) ⟨hx, hb, hml, hown, hts⟩ (m_X5_isPressure l a) (va_cwS 1 hts gX5_at_X5_isPressure rfl rfl rfl (by decide +kernel) ⟨Nat.le_of_ble_eq_true rfl, Nat.le_of_ble_eq_true rfl⟩) (h_preS0) rfl rfl hl.1 rfl (lv_room (Nat.le_of_ble_eq_true rfl)) dX5_at_10 ⟨Nat.le_of_ble_eq_true rfl, Nat.le_of_ble_eq_true rfl⟩)) (fun r_2 hr_2 => ?_)
    subst hr_2
    refine lv_if_ne (tgt := 18) hx hb dX5_at_13 (by decide) (fun c_13 => ?_) (fun c_13 => ?_)
    · skip
      have v_13 : ((nI 0) ≤ a ∧ a ≤ (nI 20)) := hg_in_t c_13
      refine lv_iload_n hx hb dX5_at_18 rfl (lv_at hl 1 rfl) ?_
      obtain ⟨kq, kql, kqh, rfl⟩ := hg_rng (by decide) (by decide) v_6
      obtain ⟨ka, kal, kah, rfl⟩ := hg_rng (by decide) (by decide) v_13
      rcases Nat.eq_or_lt_of_le (show 0 ≤ kq by omega) with rfl | kq0
      · skip
        refine lv_lookup (off := 25) (tgt := 44) hx hb dX5_at_19 (by decide) (by decide) (by decide) ?_
        refine lv_aload_n hx hb dX5_at_44 rfl (lv_at hl 0 rfl) ?_
        refine va_get (C := RX5) (T := TX5) (N := 6) (v := .ref (o 1)) hx hb hts hi5 hown hK hP 0 rfl rfl 0 (by decide) (hts (.fieldLink RX5 10 "HotGround" "wells" "LHotGround$Wells;") (by decide +kernel)) (fun _ h9 => h9) rfl dX5_at_45 ?_
        refine lv_iload_n hx hb dX5_at_48 rfl (lv_at hl 2 rfl) ?_
        refine vp_callSi (va_Run.run (va_runV (As := [.int (nI ka)]) (rest := []) ⟨hx, hb, hml, hown, hts⟩ (m_X4_supply l D o cI cJ cZ S h0 ka (by omega)) (cwV 1 hts gX5_at_X4_supply rfl rfl rfl (by decide +kernel) ⟨Nat.le_of_ble_eq_true rfl, Nat.le_of_ble_eq_true rfl⟩) (h_preR hK hP 1 rfl rfl rfl) rfl rfl hl.1 rfl (lv_room (Nat.le_of_ble_eq_true rfl)) dX5_at_49 ⟨Nat.le_of_ble_eq_true rfl, Nat.le_of_ble_eq_true rfl⟩)) (fun r_3 hr_3 => ?_)
        subst hr_3
        exact W.iret (v := f_supply S ka) hx hb hr (fun t ht hW => ⟨_, rfl, by show f_supply S ka = a_at S (nI 0) (nI ka); unfold a_at; rw [if_pos (⟨v_6, v_13⟩)]; (try rw [nI_clamp (show ka < 2 ^ 31 by omega)]); rw [if_pos rfl], ht⟩) (fun _ h9 => nomatch h9) dX5_at_52
      · skip
        rcases Nat.eq_or_lt_of_le (show 1 ≤ kq by omega) with rfl | kq1
        · skip
          refine lv_lookup (off := 34) (tgt := 53) hx hb dX5_at_19 (by decide) (by decide) (by decide) ?_
          refine lv_aload_n hx hb dX5_at_53 rfl (lv_at hl 0 rfl) ?_
          refine va_get (C := RX5) (T := TX5) (N := 6) (v := .ref (o 2)) hx hb hts hi5 hown hK hP 0 rfl rfl 1 (by decide) (hts (.fieldLink RX5 19 "HotGround" "plant" "LHotGround$Plant;") (by decide +kernel)) (fun _ h9 => h9) rfl dX5_at_54 ?_
          refine lv_iload_n hx hb dX5_at_57 rfl (lv_at hl 2 rfl) ?_
          refine vp_callSi (va_Run.run (va_runV (As := [.int (nI ka)]) (rest := []) ⟨hx, hb, hml, hown, hts⟩ (m_X3_draw l D o cI cJ cZ S h1 ka (by omega)) (cwV 1 hts gX5_at_X3_draw rfl rfl rfl (by decide +kernel) ⟨Nat.le_of_ble_eq_true rfl, Nat.le_of_ble_eq_true rfl⟩) (h_preR hK hP 2 rfl rfl rfl) rfl rfl hl.1 rfl (lv_room (Nat.le_of_ble_eq_true rfl)) dX5_at_58 ⟨Nat.le_of_ble_eq_true rfl, Nat.le_of_ble_eq_true rfl⟩)) (fun r_4 hr_4 => ?_)
          subst hr_4
          exact W.iret (v := f_draw S ka) hx hb hr (fun t ht hW => ⟨_, rfl, by show f_draw S ka = a_at S (nI 1) (nI ka); unfold a_at; rw [if_pos (⟨v_6, v_13⟩)]; (try rw [nI_clamp (show ka < 2 ^ 31 by omega)]); rw [if_neg (by decide)]; rw [if_pos rfl], ht⟩) (fun _ h9 => nomatch h9) dX5_at_61
        · skip
          obtain rfl : kq = 2 := by omega
          refine lv_lookup (off := 43) (tgt := 62) hx hb dX5_at_19 (by decide) (by decide) (by decide) ?_
          refine lv_aload_n hx hb dX5_at_62 rfl (lv_at hl 0 rfl) ?_
          refine va_get (C := RX5) (T := TX5) (N := 6) (v := .ref (o 1)) hx hb hts hi5 hown hK hP 0 rfl rfl 0 (by decide) (hts (.fieldLink RX5 10 "HotGround" "wells" "LHotGround$Wells;") (by decide +kernel)) (fun _ h9 => h9) rfl dX5_at_63 ?_
          refine lv_iload_n hx hb dX5_at_66 rfl (lv_at hl 2 rfl) ?_
          refine vp_callSi (va_Run.run (va_runV (As := [.int (nI ka)]) (rest := []) ⟨hx, hb, hml, hown, hts⟩ (m_X4_water l D o cI cJ cZ S h0 ka (by omega)) (cwV 1 hts gX5_at_X4_water rfl rfl rfl (by decide +kernel) ⟨Nat.le_of_ble_eq_true rfl, Nat.le_of_ble_eq_true rfl⟩) (h_preR hK hP 1 rfl rfl rfl) rfl rfl hl.1 rfl (lv_room (Nat.le_of_ble_eq_true rfl)) dX5_at_67 ⟨Nat.le_of_ble_eq_true rfl, Nat.le_of_ble_eq_true rfl⟩)) (fun r_5 hr_5 => ?_)
          subst hr_5
          exact W.iret (v := f_water S ka) hx hb hr (fun t ht hW => ⟨_, rfl, by show f_water S ka = a_at S (nI 2) (nI ka); unfold a_at; rw [if_pos (⟨v_6, v_13⟩)]; (try rw [nI_clamp (show ka < 2 ^ 31 by omega)]); rw [if_neg (by decide)]; rw [if_neg (by decide)], ht⟩) (fun _ h9 => nomatch h9) dX5_at_70
    · skip
      have v_13 : ¬ ((nI 0) ≤ a ∧ a ≤ (nI 20)) := hg_in_f c_13
      refine lv_iconst (v := -1) hx hb dX5_at_16 (by decide) ?_
      exact W.iret (v := (-1)) hx hb hr (fun t ht hW => ⟨_, rfl, by show (-1) = a_at S q a; unfold a_at; rw [if_neg (fun q => v_13 q.2)], ht⟩) (fun _ h9 => nomatch h9) dX5_at_17
end
section
set_option maxHeartbeats 4000000 in
set_option maxRecDepth 100000 in
/-- fill -/
theorem m_X5_fill (l : Launch) (D : va_G) (o : Nat → Nat) (cI cJ cZ : ClassId) (S : hg_S) (sz : Nat) (b a d : Int32) : Met l yX5_fill wsX5_fill ({ frames := 2, cells := 0, slots := 0, locals := 42 }) (va_Pc [.ref (o 0), .int b, .int a, .int d] (hg_Wr D (xW o cI cJ cZ S) (hg_ty cI cJ cZ) sz)) (va_Qi (fun (r : Int32) (_ : Unit) => r = (r_fill S b a d).1) (fun _ t => hg_At D (xW o cI cJ cZ ((r_fill S b a d).2)) (va_A (xW o cI cJ cZ S) sz) t) (va_A (xW o cI cJ cZ S) sz)) 0 0 (va_A (xW o cI cJ cZ S) sz) := by
  refine h_start (cc := cX5_fill) (maxL := 4) (ret := (some .int)) (by decide) rfl (Nat.le_of_ble_eq_true rfl) ?_
  intro pg ev s mi args below meth cd ls hx hb hr hts hown hlocks hml hnm hpic hl
  obtain ⟨hsz, hP, hK, hD0⟩ := hpic
  subst hsz
  have hD := hD0.self (sz := s.heap.size)
  generalize hAe : va_A (xW o cI cJ cZ S) s.heap.size = A at hD ⊢
  have hA : ∀ q : Nat, s.heap.size ≤ q → A q := fun q h => by rw [← hAe]; exact Or.inr h
  have hS : va_S A s.heap s.heap [] := va_S.rf
  have hi0 : ∀ w ∈ u_ws RX0 TX0 7, w ∈ wsX5_fill := by decide +kernel
  have hi5 : ∀ w ∈ u_ws RX5 TX5 6, w ∈ wsX5_fill := by decide +kernel
  have hl : lv_has ls 4 [(0, .ref (o 0)), (1, .int b), (2, .int a), (3, .int d)] := hl
  refine lv_iload_n hx hb dX5_fill_0 rfl (lv_at hl 1 rfl) ?_
  refine vp_callSi (va_Run.run (va_runS (As := [.int b]) (rest := []) ⟨hx, hb, hml, hown, hts⟩ (m_X5_isBox l b) (va_cwS 1 hts gX5_fill_X5_isBox rfl rfl rfl (by decide +kernel) ⟨Nat.le_of_ble_eq_true rfl, Nat.le_of_ble_eq_true rfl⟩) (h_preS0) rfl rfl hl.1 rfl (lv_room (Nat.le_of_ble_eq_true rfl)) dX5_fill_1 ⟨Nat.le_of_ble_eq_true rfl, Nat.le_of_ble_eq_true rfl⟩)) (fun r_1 hr_1 => ?_)
  subst hr_1
  refine lv_if_eq (tgt := 27) hx hb dX5_fill_4 (by decide) (fun c_4 => ?_) (fun c_4 => ?_)
  · skip
    have v_4 : ¬ ((nI 0) ≤ b ∧ b ≤ (nI 3)) := hg_in_f c_4
    refine lv_iconst (v := -1) hx hb dX5_fill_27 (by decide) ?_
    have hq : r_fill S b a d = ((-1), S) := by unfold r_fill; rw [if_neg (fun q => v_4 q.1)]
    rw [show (S : hg_S) = (r_fill S b a d).2 from by rw [hq]] at hP hD
    exact W.iret (v := (-1)) hx hb hr (fun t ht hW => ⟨⟨_, (), rfl, by rw [hq], ⟨by rw [ht]; exact hP, hD⟩⟩, hS.F ht⟩) hS.2.2 dX5_fill_28
  · skip
    have v_4 : ((nI 0) ≤ b ∧ b ≤ (nI 3)) := hg_in_t c_4
    refine lv_iload_n hx hb dX5_fill_7 rfl (lv_at hl 2 rfl) ?_
    refine lv_iconst (v := nI 0) hx hb dX5_fill_8 (by decide) ?_
    refine lv_ldc (v := 10000000) hx hb hown (hts (.constant RX5 118 (10000000)) (by decide +kernel)) dX5_fill_9 ?_
    refine h_topi (y := nI 10000000) (by decide) ?_
    refine vp_callSi (va_Run.run (va_runS (As := [.int a, .int (nI 0), .int (nI 10000000)]) (rest := []) ⟨hx, hb, hml, hown, hts⟩ (m_X5_within l a (nI 0) (nI 10000000)) (va_cwS 3 hts gX5_fill_X5_within rfl rfl rfl (by decide +kernel) ⟨Nat.le_of_ble_eq_true rfl, Nat.le_of_ble_eq_true rfl⟩) (h_preS0) rfl rfl hl.1 rfl (lv_room (Nat.le_of_ble_eq_true rfl)) dX5_fill_11 ⟨Nat.le_of_ble_eq_true rfl, Nat.le_of_ble_eq_true rfl⟩)) (fun r_2 hr_2 => ?_)
    subst hr_2
    refine lv_if_eq (tgt := 27) hx hb dX5_fill_14 (by decide) (fun c_14 => ?_) (fun c_14 => ?_)
    · skip
      have v_14 : ¬ ((nI 0) ≤ a ∧ a ≤ (nI 10000000)) := hg_in_f c_14
      refine lv_iconst (v := -1) hx hb dX5_fill_27 (by decide) ?_
      have hq : r_fill S b a d = ((-1), S) := by unfold r_fill; rw [if_neg (fun q => v_14 q.2.1)]
      rw [show (S : hg_S) = (r_fill S b a d).2 from by rw [hq]] at hP hD
      exact W.iret (v := (-1)) hx hb hr (fun t ht hW => ⟨⟨_, (), rfl, by rw [hq], ⟨by rw [ht]; exact hP, hD⟩⟩, hS.F ht⟩) hS.2.2 dX5_fill_28
    · skip
      have v_14 : ((nI 0) ≤ a ∧ a ≤ (nI 10000000)) := hg_in_t c_14
      refine lv_iload_n hx hb dX5_fill_17 rfl (lv_at hl 3 rfl) ?_
      refine lv_iconst (v := nI 0) hx hb dX5_fill_18 (by decide) ?_
      refine lv_ldc (v := 10000000) hx hb hown (hts (.constant RX5 118 (10000000)) (by decide +kernel)) dX5_fill_19 ?_
      refine h_topi (y := nI 10000000) (by decide) ?_
      refine vp_callSi (va_Run.run (va_runS (As := [.int d, .int (nI 0), .int (nI 10000000)]) (rest := []) ⟨hx, hb, hml, hown, hts⟩ (m_X5_within l d (nI 0) (nI 10000000)) (va_cwS 3 hts gX5_fill_X5_within rfl rfl rfl (by decide +kernel) ⟨Nat.le_of_ble_eq_true rfl, Nat.le_of_ble_eq_true rfl⟩) (h_preS0) rfl rfl hl.1 rfl (lv_room (Nat.le_of_ble_eq_true rfl)) dX5_fill_21 ⟨Nat.le_of_ble_eq_true rfl, Nat.le_of_ble_eq_true rfl⟩)) (fun r_3 hr_3 => ?_)
      subst hr_3
      refine lv_if_ne (tgt := 29) hx hb dX5_fill_24 (by decide) (fun c_24 => ?_) (fun c_24 => ?_)
      · skip
        have v_24 : ((nI 0) ≤ d ∧ d ≤ (nI 10000000)) := hg_in_t c_24
        obtain ⟨kb, kbl, kbh, rfl⟩ := hg_rng (by decide) (by decide) v_4
        refine lv_aload_n hx hb dX5_fill_29 rfl (lv_at hl 0 rfl) ?_
        refine va_get (C := RX5) (T := TX5) (N := 6) (v := .ref (o 3)) hx hb hts hi5 hown hK hP 0 rfl rfl 2 (by decide) (hts (.fieldLink RX5 26 "HotGround" "ground" "LHotGround$Ground;") (by decide +kernel)) (fun _ h9 => h9) rfl dX5_fill_30 ?_
        refine va_get (C := RX0) (T := TX0) (N := 7) (v := .ref (o 15)) hx hb hts hi0 hown hK hP 3 rfl rfl 0 (by decide) (hts (.fieldLink RX5 119 "HotGround$Ground" "mass" "[J") (by decide +kernel)) (fun _ h9 => h9) rfl dX5_fill_33 ?_
        refine lv_iload_n hx hb dX5_fill_36 rfl (lv_at hl 1 rfl) ?_
        refine lv_iload_n hx hb dX5_fill_37 rfl (lv_at hl 2 rfl) ?_
        refine lv_i2l (v := Int32.toInt64 a) hx hb dX5_fill_38 rfl ?_
        refine lv_topl (fun z_4 ez_4 => ?_)
        refine h_last (f := hg_l S 0) (ws' := xW o cI cJ cZ (hg_sl S 0 (vp_updL (hg_l S 0) kb z_4))) hx hb hK hP hD hS 15 1 rfl rfl kb (rfl) (by omega) (by decide) rfl dX5_fill_39 (fun H locs hP hD hS => ?_)
        refine lv_aload_n hx hb dX5_fill_40 rfl (lv_at hl 0 rfl) ?_
        refine va_get (C := RX5) (T := TX5) (N := 6) (v := .ref (o 3)) hx hb hts hi5 hown hK hP 0 rfl rfl 2 (by decide) (hts (.fieldLink RX5 26 "HotGround" "ground" "LHotGround$Ground;") (by decide +kernel)) (fun _ h9 => h9) rfl dX5_fill_41 ?_
        refine va_get (C := RX0) (T := TX0) (N := 7) (v := .ref (o 16)) hx hb hts hi0 hown hK hP 3 rfl rfl 1 (by decide) (hts (.fieldLink RX5 123 "HotGround$Ground" "heat" "[J") (by decide +kernel)) (fun _ h9 => h9) rfl dX5_fill_44 ?_
        refine lv_iload_n hx hb dX5_fill_47 rfl (lv_at hl 1 rfl) ?_
        refine lv_iload_n hx hb dX5_fill_48 rfl (lv_at hl 3 rfl) ?_
        refine lv_i2l (v := Int32.toInt64 d) hx hb dX5_fill_49 rfl ?_
        refine lv_topl (fun z_5 ez_5 => ?_)
        refine h_last (f := hg_l S 1) (ws' := xW o cI cJ cZ (hg_sl (hg_sl S 0 (vp_updL (hg_l S 0) kb z_4)) 1 (vp_updL (hg_l S 1) kb z_5))) hx hb hK hP hD hS 16 1 rfl rfl kb (rfl) (by omega) (by decide) rfl dX5_fill_50 (fun H locs hP hD hS => ?_)
        refine lv_iconst (v := nI 1) hx hb dX5_fill_51 (by decide) ?_
        subst ez_5
        subst ez_4
        have hq : r_fill S (nI kb) a d = (nI 1, hg_sl (hg_sl S 0 (vp_updL (hg_l S 0) kb (Int32.toInt64 a))) 1 (vp_updL (hg_l S 1) kb (Int32.toInt64 d))) := by unfold r_fill; rw [if_pos (⟨v_4, v_14, v_24⟩)]; (try rw [nI_clamp (show kb < 2 ^ 31 by omega)])
        rw [show (hg_sl (hg_sl S 0 (vp_updL (hg_l S 0) kb (Int32.toInt64 a))) 1 (vp_updL (hg_l S 1) kb (Int32.toInt64 d)) : hg_S) = (r_fill S (nI kb) a d).2 from by rw [hq]] at hP hD
        exact W.iret (v := nI 1) hx hb hr (fun t ht hW => ⟨⟨_, (), rfl, by rw [hq], ⟨by rw [ht]; exact hP, hD⟩⟩, hS.F ht⟩) hS.2.2 dX5_fill_52
      · skip
        have v_24 : ¬ ((nI 0) ≤ d ∧ d ≤ (nI 10000000)) := hg_in_f c_24
        refine lv_iconst (v := -1) hx hb dX5_fill_27 (by decide) ?_
        have hq : r_fill S b a d = ((-1), S) := by unfold r_fill; rw [if_neg (fun q => v_24 q.2.2)]
        rw [show (S : hg_S) = (r_fill S b a d).2 from by rw [hq]] at hP hD
        exact W.iret (v := (-1)) hx hb hr (fun t ht hW => ⟨⟨_, (), rfl, by rw [hq], ⟨by rw [ht]; exact hP, hD⟩⟩, hS.F ht⟩) hS.2.2 dX5_fill_28
set_option maxHeartbeats 4000000 in
set_option maxRecDepth 100000 in
/-- a leak -/
theorem m_X5_setLeak (l : Launch) (D : va_G) (o : Nat → Nat) (cI cJ cZ : ClassId) (S : hg_S) (sz : Nat) (w v : Int32) : Met l yX5_setLeak wsX5_setLeak ({ frames := 1, cells := 0, slots := 0, locals := 22 }) (va_Pc [.ref (o 0), .int w, .int v] (hg_Wr D (xW o cI cJ cZ S) (hg_ty cI cJ cZ) sz)) (va_Qi (fun (r : Int32) (_ : Unit) => r = (r_leak S w v).1) (fun _ t => hg_At D (xW o cI cJ cZ ((r_leak S w v).2)) (va_A (xW o cI cJ cZ S) sz) t) (va_A (xW o cI cJ cZ S) sz)) 0 0 (va_A (xW o cI cJ cZ S) sz) := by
  refine h_start (cc := cX5_setLeak) (maxL := 4) (ret := (some .int)) (by decide) rfl (Nat.le_of_ble_eq_true rfl) ?_
  intro pg ev s mi args below meth cd ls hx hb hr hts hown hlocks hml hnm hpic hl
  obtain ⟨hsz, hP, hK, hD0⟩ := hpic
  subst hsz
  have hD := hD0.self (sz := s.heap.size)
  generalize hAe : va_A (xW o cI cJ cZ S) s.heap.size = A at hD ⊢
  have hA : ∀ q : Nat, s.heap.size ≤ q → A q := fun q h => by rw [← hAe]; exact Or.inr h
  have hS : va_S A s.heap s.heap [] := va_S.rf
  have hi0 : ∀ w ∈ u_ws RX0 TX0 7, w ∈ wsX5_setLeak := by decide +kernel
  have hi5 : ∀ w ∈ u_ws RX5 TX5 6, w ∈ wsX5_setLeak := by decide +kernel
  have hl : lv_has ls 4 [(0, .ref (o 0)), (1, .int w), (2, .int v)] := hl
  refine lv_iload_n hx hb dX5_setLeak_0 rfl (lv_at hl 1 rfl) ?_
  refine lv_iconst (v := nI 0) hx hb dX5_setLeak_1 (by decide) ?_
  refine lv_iconst (v := nI 2) hx hb dX5_setLeak_2 (by decide) ?_
  refine vp_callSi (va_Run.run (va_runS (As := [.int w, .int (nI 0), .int (nI 2)]) (rest := []) ⟨hx, hb, hml, hown, hts⟩ (m_X5_within l w (nI 0) (nI 2)) (va_cwS 3 hts gX5_setLeak_X5_within rfl rfl rfl (by decide +kernel) ⟨Nat.le_of_ble_eq_true rfl, Nat.le_of_ble_eq_true rfl⟩) (h_preS0) rfl rfl hl.1 rfl (lv_room (Nat.le_of_ble_eq_true rfl)) dX5_setLeak_3 ⟨Nat.le_of_ble_eq_true rfl, Nat.le_of_ble_eq_true rfl⟩)) (fun r_1 hr_1 => ?_)
  subst hr_1
  refine lv_if_eq (tgt := 20) hx hb dX5_setLeak_6 (by decide) (fun c_6 => ?_) (fun c_6 => ?_)
  · skip
    have v_6 : ¬ ((nI 0) ≤ w ∧ w ≤ (nI 2)) := hg_in_f c_6
    refine lv_iconst (v := -1) hx hb dX5_setLeak_20 (by decide) ?_
    have hq : r_leak S w v = ((-1), S) := by unfold r_leak; rw [if_neg (fun q => v_6 q.1)]
    rw [show (S : hg_S) = (r_leak S w v).2 from by rw [hq]] at hP hD
    exact W.iret (v := (-1)) hx hb hr (fun t ht hW => ⟨⟨_, (), rfl, by rw [hq], ⟨by rw [ht]; exact hP, hD⟩⟩, hS.F ht⟩) hS.2.2 dX5_setLeak_21
  · skip
    have v_6 : ((nI 0) ≤ w ∧ w ≤ (nI 2)) := hg_in_t c_6
    refine lv_iload_n hx hb dX5_setLeak_9 rfl (lv_at hl 2 rfl) ?_
    refine lv_iconst (v := nI 2) hx hb dX5_setLeak_10 (by decide) ?_
    refine lv_sipush (v := nI 1000) hx hb dX5_setLeak_11 (by decide) ?_
    refine vp_callSi (va_Run.run (va_runS (As := [.int v, .int (nI 2), .int (nI 1000)]) (rest := []) ⟨hx, hb, hml, hown, hts⟩ (m_X5_within l v (nI 2) (nI 1000)) (va_cwS 3 hts gX5_setLeak_X5_within rfl rfl rfl (by decide +kernel) ⟨Nat.le_of_ble_eq_true rfl, Nat.le_of_ble_eq_true rfl⟩) (h_preS0) rfl rfl hl.1 rfl (lv_room (Nat.le_of_ble_eq_true rfl)) dX5_setLeak_14 ⟨Nat.le_of_ble_eq_true rfl, Nat.le_of_ble_eq_true rfl⟩)) (fun r_2 hr_2 => ?_)
    subst hr_2
    refine lv_if_ne (tgt := 22) hx hb dX5_setLeak_17 (by decide) (fun c_17 => ?_) (fun c_17 => ?_)
    · skip
      have v_17 : ((nI 2) ≤ v ∧ v ≤ (nI 1000)) := hg_in_t c_17
      obtain ⟨kw, kwl, kwh, rfl⟩ := hg_rng (by decide) (by decide) v_6
      refine lv_aload_n hx hb dX5_setLeak_22 rfl (lv_at hl 0 rfl) ?_
      refine va_get (C := RX5) (T := TX5) (N := 6) (v := .ref (o 3)) hx hb hts hi5 hown hK hP 0 rfl rfl 2 (by decide) (hts (.fieldLink RX5 26 "HotGround" "ground" "LHotGround$Ground;") (by decide +kernel)) (fun _ h9 => h9) rfl dX5_setLeak_23 ?_
      refine va_get (C := RX0) (T := TX0) (N := 7) (v := .ref (o 18)) hx hb hts hi0 hown hK hP 3 rfl rfl 3 (by decide) (hts (.fieldLink RX5 184 "HotGround$Ground" "leak" "[I") (by decide +kernel)) (fun _ h9 => h9) rfl dX5_setLeak_26 ?_
      refine lv_iload_n hx hb dX5_setLeak_29 rfl (lv_at hl 1 rfl) ?_
      refine h_iald (f := hg_i S 9) hx hb hK hP 18 0 rfl rfl kw (rfl) (by omega) (by decide) dX5_setLeak_30 ?_
      refine lv_istore_n (lv' := [(3, .int (hg_i S 9 kw)), (0, .ref (o 0)), (1, .int (nI kw)), (2, .int v)]) hx hb dX5_setLeak_31 rfl hl (by decide) rfl (fun ls hl => ?_)
      refine lv_aload_n hx hb dX5_setLeak_32 rfl (lv_at hl 1 rfl) ?_
      refine va_get (C := RX5) (T := TX5) (N := 6) (v := .ref (o 3)) hx hb hts hi5 hown hK hP 0 rfl rfl 2 (by decide) (hts (.fieldLink RX5 26 "HotGround" "ground" "LHotGround$Ground;") (by decide +kernel)) (fun _ h9 => h9) rfl dX5_setLeak_33 ?_
      refine va_get (C := RX0) (T := TX0) (N := 7) (v := .ref (o 18)) hx hb hts hi0 hown hK hP 3 rfl rfl 3 (by decide) (hts (.fieldLink RX5 184 "HotGround$Ground" "leak" "[I") (by decide +kernel)) (fun _ h9 => h9) rfl dX5_setLeak_36 ?_
      refine lv_iload_n hx hb dX5_setLeak_39 rfl (lv_at hl 2 rfl) ?_
      refine lv_iload_n hx hb dX5_setLeak_40 rfl (lv_at hl 3 rfl) ?_
      refine h_iast (f := hg_i S 9) (ws' := xW o cI cJ cZ (hg_si S 9 (upd (hg_i S 9) kw v))) hx hb hK hP hD hS 18 0 rfl rfl kw (rfl) (by omega) (by decide) rfl dX5_setLeak_41 (fun H locs hP hD hS => ?_)
      refine lv_iload_n hx hb dX5_setLeak_42 rfl (lv_at hl 0 rfl) ?_
      have hq : r_leak S (nI kw) v = (hg_i S 9 kw, hg_si S 9 (upd (hg_i S 9) kw v)) := by unfold r_leak; rw [if_pos (⟨v_6, v_17⟩)]; (try rw [nI_clamp (show kw < 2 ^ 31 by omega)])
      rw [show (hg_si S 9 (upd (hg_i S 9) kw v) : hg_S) = (r_leak S (nI kw) v).2 from by rw [hq]] at hP hD
      exact W.iret (v := hg_i S 9 kw) hx hb hr (fun t ht hW => ⟨⟨_, (), rfl, by rw [hq], ⟨by rw [ht]; exact hP, hD⟩⟩, hS.F ht⟩) hS.2.2 dX5_setLeak_43
    · skip
      have v_17 : ¬ ((nI 2) ≤ v ∧ v ≤ (nI 1000)) := hg_in_f c_17
      refine lv_iconst (v := -1) hx hb dX5_setLeak_20 (by decide) ?_
      have hq : r_leak S w v = ((-1), S) := by unfold r_leak; rw [if_neg (fun q => v_17 q.2)]
      rw [show (S : hg_S) = (r_leak S w v).2 from by rw [hq]] at hP hD
      exact W.iret (v := (-1)) hx hb hr (fun t ht hW => ⟨⟨_, (), rfl, by rw [hq], ⟨by rw [ht]; exact hP, hD⟩⟩, hS.F ht⟩) hS.2.2 dX5_setLeak_21
set_option maxHeartbeats 4000000 in
set_option maxRecDepth 100000 in
/-- a feed -/
theorem m_X5_setFeed (l : Launch) (D : va_G) (o : Nat → Nat) (cI cJ cZ : ClassId) (S : hg_S) (sz : Nat) (w v : Int32) : Met l yX5_setFeed wsX5_setFeed ({ frames := 2, cells := 0, slots := 0, locals := 42 }) (va_Pc [.ref (o 0), .int w, .int v] (hg_Wr D (xW o cI cJ cZ S) (hg_ty cI cJ cZ) sz)) (va_Qi (fun (r : Int32) (_ : Unit) => r = (r_feed S w v).1) (fun _ t => hg_At D (xW o cI cJ cZ ((r_feed S w v).2)) (va_A (xW o cI cJ cZ S) sz) t) (va_A (xW o cI cJ cZ S) sz)) 0 0 (va_A (xW o cI cJ cZ S) sz) := by
  refine h_start (cc := cX5_setFeed) (maxL := 4) (ret := (some .int)) (by decide) rfl (Nat.le_of_ble_eq_true rfl) ?_
  intro pg ev s mi args below meth cd ls hx hb hr hts hown hlocks hml hnm hpic hl
  obtain ⟨hsz, hP, hK, hD0⟩ := hpic
  subst hsz
  have hD := hD0.self (sz := s.heap.size)
  generalize hAe : va_A (xW o cI cJ cZ S) s.heap.size = A at hD ⊢
  have hA : ∀ q : Nat, s.heap.size ≤ q → A q := fun q h => by rw [← hAe]; exact Or.inr h
  have hS : va_S A s.heap s.heap [] := va_S.rf
  have hi0 : ∀ w ∈ u_ws RX0 TX0 7, w ∈ wsX5_setFeed := by decide +kernel
  have hi5 : ∀ w ∈ u_ws RX5 TX5 6, w ∈ wsX5_setFeed := by decide +kernel
  have hl : lv_has ls 4 [(0, .ref (o 0)), (1, .int w), (2, .int v)] := hl
  refine lv_iload_n hx hb dX5_setFeed_0 rfl (lv_at hl 1 rfl) ?_
  refine vp_callSi (va_Run.run (va_runS (As := [.int w]) (rest := []) ⟨hx, hb, hml, hown, hts⟩ (m_X5_isBox l w) (va_cwS 1 hts gX5_setFeed_X5_isBox rfl rfl rfl (by decide +kernel) ⟨Nat.le_of_ble_eq_true rfl, Nat.le_of_ble_eq_true rfl⟩) (h_preS0) rfl rfl hl.1 rfl (lv_room (Nat.le_of_ble_eq_true rfl)) dX5_setFeed_1 ⟨Nat.le_of_ble_eq_true rfl, Nat.le_of_ble_eq_true rfl⟩)) (fun r_1 hr_1 => ?_)
  subst hr_1
  refine lv_if_eq (tgt := 18) hx hb dX5_setFeed_4 (by decide) (fun c_4 => ?_) (fun c_4 => ?_)
  · skip
    have v_4 : ¬ ((nI 0) ≤ w ∧ w ≤ (nI 3)) := hg_in_f c_4
    refine lv_iconst (v := -1) hx hb dX5_setFeed_18 (by decide) ?_
    have hq : r_feed S w v = ((-1), S) := by unfold r_feed; rw [if_neg (fun q => v_4 q.1)]
    rw [show (S : hg_S) = (r_feed S w v).2 from by rw [hq]] at hP hD
    exact W.iret (v := (-1)) hx hb hr (fun t ht hW => ⟨⟨_, (), rfl, by rw [hq], ⟨by rw [ht]; exact hP, hD⟩⟩, hS.F ht⟩) hS.2.2 dX5_setFeed_19
  · skip
    have v_4 : ((nI 0) ≤ w ∧ w ≤ (nI 3)) := hg_in_t c_4
    refine lv_iload_n hx hb dX5_setFeed_7 rfl (lv_at hl 2 rfl) ?_
    refine lv_iconst (v := nI 0) hx hb dX5_setFeed_8 (by decide) ?_
    refine lv_sipush (v := nI 1000) hx hb dX5_setFeed_9 (by decide) ?_
    refine vp_callSi (va_Run.run (va_runS (As := [.int v, .int (nI 0), .int (nI 1000)]) (rest := []) ⟨hx, hb, hml, hown, hts⟩ (m_X5_within l v (nI 0) (nI 1000)) (va_cwS 3 hts gX5_setFeed_X5_within rfl rfl rfl (by decide +kernel) ⟨Nat.le_of_ble_eq_true rfl, Nat.le_of_ble_eq_true rfl⟩) (h_preS0) rfl rfl hl.1 rfl (lv_room (Nat.le_of_ble_eq_true rfl)) dX5_setFeed_12 ⟨Nat.le_of_ble_eq_true rfl, Nat.le_of_ble_eq_true rfl⟩)) (fun r_2 hr_2 => ?_)
    subst hr_2
    refine lv_if_ne (tgt := 20) hx hb dX5_setFeed_15 (by decide) (fun c_15 => ?_) (fun c_15 => ?_)
    · skip
      have v_15 : ((nI 0) ≤ v ∧ v ≤ (nI 1000)) := hg_in_t c_15
      obtain ⟨kw, kwl, kwh, rfl⟩ := hg_rng (by decide) (by decide) v_4
      refine lv_aload_n hx hb dX5_setFeed_20 rfl (lv_at hl 0 rfl) ?_
      refine va_get (C := RX5) (T := TX5) (N := 6) (v := .ref (o 3)) hx hb hts hi5 hown hK hP 0 rfl rfl 2 (by decide) (hts (.fieldLink RX5 26 "HotGround" "ground" "LHotGround$Ground;") (by decide +kernel)) (fun _ h9 => h9) rfl dX5_setFeed_21 ?_
      refine va_get (C := RX0) (T := TX0) (N := 7) (v := .ref (o 17)) hx hb hts hi0 hown hK hP 3 rfl rfl 2 (by decide) (hts (.fieldLink RX5 187 "HotGround$Ground" "feed" "[I") (by decide +kernel)) (fun _ h9 => h9) rfl dX5_setFeed_24 ?_
      refine lv_iload_n hx hb dX5_setFeed_27 rfl (lv_at hl 1 rfl) ?_
      refine h_iald (f := hg_i S 10) hx hb hK hP 17 0 rfl rfl kw (rfl) (by omega) (by decide) dX5_setFeed_28 ?_
      refine lv_istore_n (lv' := [(3, .int (hg_i S 10 kw)), (0, .ref (o 0)), (1, .int (nI kw)), (2, .int v)]) hx hb dX5_setFeed_29 rfl hl (by decide) rfl (fun ls hl => ?_)
      refine lv_aload_n hx hb dX5_setFeed_30 rfl (lv_at hl 1 rfl) ?_
      refine va_get (C := RX5) (T := TX5) (N := 6) (v := .ref (o 3)) hx hb hts hi5 hown hK hP 0 rfl rfl 2 (by decide) (hts (.fieldLink RX5 26 "HotGround" "ground" "LHotGround$Ground;") (by decide +kernel)) (fun _ h9 => h9) rfl dX5_setFeed_31 ?_
      refine va_get (C := RX0) (T := TX0) (N := 7) (v := .ref (o 17)) hx hb hts hi0 hown hK hP 3 rfl rfl 2 (by decide) (hts (.fieldLink RX5 187 "HotGround$Ground" "feed" "[I") (by decide +kernel)) (fun _ h9 => h9) rfl dX5_setFeed_34 ?_
      refine lv_iload_n hx hb dX5_setFeed_37 rfl (lv_at hl 2 rfl) ?_
      refine lv_iload_n hx hb dX5_setFeed_38 rfl (lv_at hl 3 rfl) ?_
      refine h_iast (f := hg_i S 10) (ws' := xW o cI cJ cZ (hg_si S 10 (upd (hg_i S 10) kw v))) hx hb hK hP hD hS 17 0 rfl rfl kw (rfl) (by omega) (by decide) rfl dX5_setFeed_39 (fun H locs hP hD hS => ?_)
      refine lv_iload_n hx hb dX5_setFeed_40 rfl (lv_at hl 0 rfl) ?_
      have hq : r_feed S (nI kw) v = (hg_i S 10 kw, hg_si S 10 (upd (hg_i S 10) kw v)) := by unfold r_feed; rw [if_pos (⟨v_4, v_15⟩)]; (try rw [nI_clamp (show kw < 2 ^ 31 by omega)])
      rw [show (hg_si S 10 (upd (hg_i S 10) kw v) : hg_S) = (r_feed S (nI kw) v).2 from by rw [hq]] at hP hD
      exact W.iret (v := hg_i S 10 kw) hx hb hr (fun t ht hW => ⟨⟨_, (), rfl, by rw [hq], ⟨by rw [ht]; exact hP, hD⟩⟩, hS.F ht⟩) hS.2.2 dX5_setFeed_41
    · skip
      have v_15 : ¬ ((nI 0) ≤ v ∧ v ≤ (nI 1000)) := hg_in_f c_15
      refine lv_iconst (v := -1) hx hb dX5_setFeed_18 (by decide) ?_
      have hq : r_feed S w v = ((-1), S) := by unfold r_feed; rw [if_neg (fun q => v_15 q.2)]
      rw [show (S : hg_S) = (r_feed S w v).2 from by rw [hq]] at hP hD
      exact W.iret (v := (-1)) hx hb hr (fun t ht hW => ⟨⟨_, (), rfl, by rw [hq], ⟨by rw [ht]; exact hP, hD⟩⟩, hS.F ht⟩) hS.2.2 dX5_setFeed_19
set_option maxHeartbeats 4000000 in
set_option maxRecDepth 100000 in
/-- the share given back -/
theorem m_X5_setGivenShare (l : Launch) (D : va_G) (o : Nat → Nat) (cI cJ cZ : ClassId) (S : hg_S) (sz : Nat) (v : Int32) : Met l yX5_setGivenShare wsX5_setGivenShare ({ frames := 1, cells := 0, slots := 0, locals := 22 }) (va_Pc [.ref (o 0), .int v] (hg_Wr D (xW o cI cJ cZ S) (hg_ty cI cJ cZ) sz)) (va_Qi (fun (r : Int32) (_ : Unit) => r = (r_gsh S v).1) (fun _ t => hg_At D (xW o cI cJ cZ ((r_gsh S v).2)) (va_A (xW o cI cJ cZ S) sz) t) (va_A (xW o cI cJ cZ S) sz)) 0 0 (va_A (xW o cI cJ cZ S) sz) := by
  refine h_start (cc := cX5_setGivenShare) (maxL := 3) (ret := (some .int)) (by decide) rfl (Nat.le_of_ble_eq_true rfl) ?_
  intro pg ev s mi args below meth cd ls hx hb hr hts hown hlocks hml hnm hpic hl
  obtain ⟨hsz, hP, hK, hD0⟩ := hpic
  subst hsz
  have hD := hD0.self (sz := s.heap.size)
  generalize hAe : va_A (xW o cI cJ cZ S) s.heap.size = A at hD ⊢
  have hA : ∀ q : Nat, s.heap.size ≤ q → A q := fun q h => by rw [← hAe]; exact Or.inr h
  have hS : va_S A s.heap s.heap [] := va_S.rf
  have hi0 : ∀ w ∈ u_ws RX0 TX0 7, w ∈ wsX5_setGivenShare := by decide +kernel
  have hi5 : ∀ w ∈ u_ws RX5 TX5 6, w ∈ wsX5_setGivenShare := by decide +kernel
  have hl : lv_has ls 3 [(0, .ref (o 0)), (1, .int v)] := hl
  refine lv_iload_n hx hb dX5_setGivenShare_0 rfl (lv_at hl 1 rfl) ?_
  refine lv_iconst (v := nI 0) hx hb dX5_setGivenShare_1 (by decide) ?_
  refine lv_sipush (v := nI 1000) hx hb dX5_setGivenShare_2 (by decide) ?_
  refine vp_callSi (va_Run.run (va_runS (As := [.int v, .int (nI 0), .int (nI 1000)]) (rest := []) ⟨hx, hb, hml, hown, hts⟩ (m_X5_within l v (nI 0) (nI 1000)) (va_cwS 3 hts gX5_setGivenShare_X5_within rfl rfl rfl (by decide +kernel) ⟨Nat.le_of_ble_eq_true rfl, Nat.le_of_ble_eq_true rfl⟩) (h_preS0) rfl rfl hl.1 rfl (lv_room (Nat.le_of_ble_eq_true rfl)) dX5_setGivenShare_5 ⟨Nat.le_of_ble_eq_true rfl, Nat.le_of_ble_eq_true rfl⟩)) (fun r_1 hr_1 => ?_)
  subst hr_1
  refine lv_if_ne (tgt := 13) hx hb dX5_setGivenShare_8 (by decide) (fun c_8 => ?_) (fun c_8 => ?_)
  · skip
    have v_8 : ((nI 0) ≤ v ∧ v ≤ (nI 1000)) := hg_in_t c_8
    obtain ⟨kv, kvl, kvh, rfl⟩ := hg_rng (by decide) (by decide) v_8
    refine lv_aload_n hx hb dX5_setGivenShare_13 rfl (lv_at hl 0 rfl) ?_
    refine va_get (C := RX5) (T := TX5) (N := 6) (v := .ref (o 3)) hx hb hts hi5 hown hK hP 0 rfl rfl 2 (by decide) (hts (.fieldLink RX5 26 "HotGround" "ground" "LHotGround$Ground;") (by decide +kernel)) (fun _ h9 => h9) rfl dX5_setGivenShare_14 ?_
    refine va_get (C := RX0) (T := TX0) (N := 7) (v := .int (nI (hg_n S 2))) hx hb hts hi0 hown hK hP 3 rfl rfl 4 (by decide) (hts (.fieldLink RX5 190 "HotGround$Ground" "givenShare" "I") (by decide +kernel)) (fun _ h9 => h9) rfl dX5_setGivenShare_17 ?_
    refine lv_istore_n (lv' := [(2, .int (nI (hg_n S 2))), (0, .ref (o 0)), (1, .int (nI kv))]) hx hb dX5_setGivenShare_20 rfl hl (by decide) rfl (fun ls hl => ?_)
    refine lv_aload_n hx hb dX5_setGivenShare_21 rfl (lv_at hl 1 rfl) ?_
    refine va_get (C := RX5) (T := TX5) (N := 6) (v := .ref (o 3)) hx hb hts hi5 hown hK hP 0 rfl rfl 2 (by decide) (hts (.fieldLink RX5 26 "HotGround" "ground" "LHotGround$Ground;") (by decide +kernel)) (fun _ h9 => h9) rfl dX5_setGivenShare_22 ?_
    refine lv_iload_n hx hb dX5_setGivenShare_25 rfl (lv_at hl 2 rfl) ?_
    refine h_put (C := RX0) (T := TX0) (N := 7) (v := .int (nI kv)) (ty := .int) (ws' := xW o cI cJ cZ (hg_sn S 2 kv)) hx hb hts hi0 tyX0 tyX0_ok nmX0 hown hK hP hD hS 3 rfl rfl 4 (by decide) (hts (.fieldLink RX5 190 "HotGround$Ground" "givenShare" "I") (by decide +kernel)) (fun _ h9 => h9) rfl (by decide +kernel) rfl rfl (Nat.le_of_ble_eq_true rfl) rfl dX5_setGivenShare_26 (fun H locs hP hD hS => ?_)
    refine lv_iload_n hx hb dX5_setGivenShare_29 rfl (lv_at hl 0 rfl) ?_
    have hq : r_gsh S (nI kv) = (nI (hg_n S 2), hg_sn S 2 kv) := by unfold r_gsh; rw [if_pos v_8]; (try rw [nI_clamp (show kv < 2 ^ 31 by omega)])
    rw [show (hg_sn S 2 kv : hg_S) = (r_gsh S (nI kv)).2 from by rw [hq]] at hP hD
    exact W.iret (v := nI (hg_n S 2)) hx hb hr (fun t ht hW => ⟨⟨_, (), rfl, by rw [hq], ⟨by rw [ht]; exact hP, hD⟩⟩, hS.F ht⟩) hS.2.2 dX5_setGivenShare_30
  · skip
    have v_8 : ¬ ((nI 0) ≤ v ∧ v ≤ (nI 1000)) := hg_in_f c_8
    refine lv_iconst (v := -1) hx hb dX5_setGivenShare_11 (by decide) ?_
    have hq : r_gsh S v = ((-1), S) := by unfold r_gsh; rw [if_neg (fun q => v_8 q)]
    rw [show (S : hg_S) = (r_gsh S v).2 from by rw [hq]] at hP hD
    exact W.iret (v := (-1)) hx hb hr (fun t ht hW => ⟨⟨_, (), rfl, by rw [hq], ⟨by rw [ht]; exact hP, hD⟩⟩, hS.F ht⟩) hS.2.2 dX5_setGivenShare_12
set_option maxHeartbeats 4000000 in
set_option maxRecDepth 100000 in
/-- the box given to -/
theorem m_X5_setGivenBox (l : Launch) (D : va_G) (o : Nat → Nat) (cI cJ cZ : ClassId) (S : hg_S) (sz : Nat) (v : Int32) : Met l yX5_setGivenBox wsX5_setGivenBox ({ frames := 2, cells := 0, slots := 0, locals := 42 }) (va_Pc [.ref (o 0), .int v] (hg_Wr D (xW o cI cJ cZ S) (hg_ty cI cJ cZ) sz)) (va_Qi (fun (r : Int32) (_ : Unit) => r = (r_gbx S v).1) (fun _ t => hg_At D (xW o cI cJ cZ ((r_gbx S v).2)) (va_A (xW o cI cJ cZ S) sz) t) (va_A (xW o cI cJ cZ S) sz)) 0 0 (va_A (xW o cI cJ cZ S) sz) := by
  refine h_start (cc := cX5_setGivenBox) (maxL := 3) (ret := (some .int)) (by decide) rfl (Nat.le_of_ble_eq_true rfl) ?_
  intro pg ev s mi args below meth cd ls hx hb hr hts hown hlocks hml hnm hpic hl
  obtain ⟨hsz, hP, hK, hD0⟩ := hpic
  subst hsz
  have hD := hD0.self (sz := s.heap.size)
  generalize hAe : va_A (xW o cI cJ cZ S) s.heap.size = A at hD ⊢
  have hA : ∀ q : Nat, s.heap.size ≤ q → A q := fun q h => by rw [← hAe]; exact Or.inr h
  have hS : va_S A s.heap s.heap [] := va_S.rf
  have hi0 : ∀ w ∈ u_ws RX0 TX0 7, w ∈ wsX5_setGivenBox := by decide +kernel
  have hi5 : ∀ w ∈ u_ws RX5 TX5 6, w ∈ wsX5_setGivenBox := by decide +kernel
  have hl : lv_has ls 3 [(0, .ref (o 0)), (1, .int v)] := hl
  refine lv_iload_n hx hb dX5_setGivenBox_0 rfl (lv_at hl 1 rfl) ?_
  refine vp_callSi (va_Run.run (va_runS (As := [.int v]) (rest := []) ⟨hx, hb, hml, hown, hts⟩ (m_X5_isBox l v) (va_cwS 1 hts gX5_setGivenBox_X5_isBox rfl rfl rfl (by decide +kernel) ⟨Nat.le_of_ble_eq_true rfl, Nat.le_of_ble_eq_true rfl⟩) (h_preS0) rfl rfl hl.1 rfl (lv_room (Nat.le_of_ble_eq_true rfl)) dX5_setGivenBox_1 ⟨Nat.le_of_ble_eq_true rfl, Nat.le_of_ble_eq_true rfl⟩)) (fun r_1 hr_1 => ?_)
  subst hr_1
  refine lv_if_ne (tgt := 9) hx hb dX5_setGivenBox_4 (by decide) (fun c_4 => ?_) (fun c_4 => ?_)
  · skip
    have v_4 : ((nI 0) ≤ v ∧ v ≤ (nI 3)) := hg_in_t c_4
    obtain ⟨kv, kvl, kvh, rfl⟩ := hg_rng (by decide) (by decide) v_4
    refine lv_aload_n hx hb dX5_setGivenBox_9 rfl (lv_at hl 0 rfl) ?_
    refine va_get (C := RX5) (T := TX5) (N := 6) (v := .ref (o 3)) hx hb hts hi5 hown hK hP 0 rfl rfl 2 (by decide) (hts (.fieldLink RX5 26 "HotGround" "ground" "LHotGround$Ground;") (by decide +kernel)) (fun _ h9 => h9) rfl dX5_setGivenBox_10 ?_
    refine va_get (C := RX0) (T := TX0) (N := 7) (v := .int (nI (hg_n S 3))) hx hb hts hi0 hown hK hP 3 rfl rfl 5 (by decide) (hts (.fieldLink RX5 193 "HotGround$Ground" "givenBox" "I") (by decide +kernel)) (fun _ h9 => h9) rfl dX5_setGivenBox_13 ?_
    refine lv_istore_n (lv' := [(2, .int (nI (hg_n S 3))), (0, .ref (o 0)), (1, .int (nI kv))]) hx hb dX5_setGivenBox_16 rfl hl (by decide) rfl (fun ls hl => ?_)
    refine lv_aload_n hx hb dX5_setGivenBox_17 rfl (lv_at hl 1 rfl) ?_
    refine va_get (C := RX5) (T := TX5) (N := 6) (v := .ref (o 3)) hx hb hts hi5 hown hK hP 0 rfl rfl 2 (by decide) (hts (.fieldLink RX5 26 "HotGround" "ground" "LHotGround$Ground;") (by decide +kernel)) (fun _ h9 => h9) rfl dX5_setGivenBox_18 ?_
    refine lv_iload_n hx hb dX5_setGivenBox_21 rfl (lv_at hl 2 rfl) ?_
    refine h_put (C := RX0) (T := TX0) (N := 7) (v := .int (nI kv)) (ty := .int) (ws' := xW o cI cJ cZ (hg_sn S 3 kv)) hx hb hts hi0 tyX0 tyX0_ok nmX0 hown hK hP hD hS 3 rfl rfl 5 (by decide) (hts (.fieldLink RX5 193 "HotGround$Ground" "givenBox" "I") (by decide +kernel)) (fun _ h9 => h9) rfl (by decide +kernel) rfl rfl (Nat.le_of_ble_eq_true rfl) rfl dX5_setGivenBox_22 (fun H locs hP hD hS => ?_)
    refine lv_iload_n hx hb dX5_setGivenBox_25 rfl (lv_at hl 0 rfl) ?_
    have hq : r_gbx S (nI kv) = (nI (hg_n S 3), hg_sn S 3 kv) := by unfold r_gbx; rw [if_pos v_4]; (try rw [nI_clamp (show kv < 2 ^ 31 by omega)])
    rw [show (hg_sn S 3 kv : hg_S) = (r_gbx S (nI kv)).2 from by rw [hq]] at hP hD
    exact W.iret (v := nI (hg_n S 3)) hx hb hr (fun t ht hW => ⟨⟨_, (), rfl, by rw [hq], ⟨by rw [ht]; exact hP, hD⟩⟩, hS.F ht⟩) hS.2.2 dX5_setGivenBox_26
  · skip
    have v_4 : ¬ ((nI 0) ≤ v ∧ v ≤ (nI 3)) := hg_in_f c_4
    refine lv_iconst (v := -1) hx hb dX5_setGivenBox_7 (by decide) ?_
    have hq : r_gbx S v = ((-1), S) := by unfold r_gbx; rw [if_neg (fun q => v_4 q)]
    rw [show (S : hg_S) = (r_gbx S v).2 from by rw [hq]] at hP hD
    exact W.iret (v := (-1)) hx hb hr (fun t ht hW => ⟨⟨_, (), rfl, by rw [hq], ⟨by rw [ht]; exact hP, hD⟩⟩, hS.F ht⟩) hS.2.2 dX5_setGivenBox_8
set_option maxHeartbeats 4000000 in
set_option maxRecDepth 100000 in
/-- set -/
theorem m_X5_set (l : Launch) (D : va_G) (o : Nat → Nat) (cI cJ cZ : ClassId) (S : hg_S) (sz : Nat) (q w v : Int32) : Met l yX5_set wsX5_set ({ frames := 3, cells := 0, slots := 0, locals := 65 }) (va_Pc [.ref (o 0), .int q, .int w, .int v] (hg_Wr D (xW o cI cJ cZ S) (hg_ty cI cJ cZ) sz)) (va_Qi (fun (r : Int32) (_ : Unit) => r = (r_set S q w v).1) (fun _ t => hg_At D (xW o cI cJ cZ ((r_set S q w v).2)) (va_A (xW o cI cJ cZ S) sz) t) (va_A (xW o cI cJ cZ S) sz)) 0 0 (va_A (xW o cI cJ cZ S) sz) := by
  refine h_start (cc := cX5_set) (maxL := 4) (ret := (some .int)) (by decide) rfl (Nat.le_of_ble_eq_true rfl) ?_
  intro pg ev s mi args below meth cd ls hx hb hr hts hown hlocks hml hnm hpic hl
  obtain ⟨hsz, hP, hK, hD0⟩ := hpic
  subst hsz
  have hD := hD0.self (sz := s.heap.size)
  generalize hAe : va_A (xW o cI cJ cZ S) s.heap.size = A at hD ⊢
  have hA : ∀ q : Nat, s.heap.size ≤ q → A q := fun q h => by rw [← hAe]; exact Or.inr h
  have hS : va_S A s.heap s.heap [] := va_S.rf
  have hl : lv_has ls 4 [(0, .ref (o 0)), (1, .int q), (2, .int w), (3, .int v)] := hl
  refine lv_iload_n hx hb dX5_set_0 rfl (lv_at hl 1 rfl) ?_
  by_cases e0 : q = nI 0
  · subst e0
    refine lv_tableIn (off := 27) (tgt := 28) hx hb dX5_set_1 (by decide) (by decide) (by decide) (by decide) ?_
    refine lv_aload_n hx hb dX5_set_28 rfl (lv_at hl 0 rfl) ?_
    refine lv_iload_n hx hb dX5_set_29 rfl (lv_at hl 2 rfl) ?_
    refine lv_iload_n hx hb dX5_set_30 rfl (lv_at hl 3 rfl) ?_
    refine h_calli (w1 := xW o cI cJ cZ ((r_leak S w v).2)) (va_runV (As := [.int w, .int v]) (rest := []) ⟨hx, hb, hml, hown, hts⟩ (m_X5_setLeak l D o cI cJ cZ S s.heap.size  w v) (cwV 2 hts gX5_set_X5_setLeak rfl rfl rfl (by decide +kernel) ⟨Nat.le_of_ble_eq_true rfl, Nat.le_of_ble_eq_true rfl⟩) (h_preW hK hP hD 0 rfl rfl rfl) rfl rfl hl.1 rfl (lv_room (Nat.le_of_ble_eq_true rfl)) dX5_set_31 ⟨Nat.le_of_ble_eq_true rfl, Nat.le_of_ble_eq_true rfl⟩) hS (h_all hD hS hA) (fun r_1 H locs hr_1 hP hD hS => ?_)
    subst hr_1
    have hq : r_set S (nI 0) w v = ((r_leak S w v).1, (r_leak S w v).2) := by unfold r_set; rw [if_pos rfl]
    rw [show ((r_leak S w v).2 : hg_S) = (r_set S (nI 0) w v).2 from by rw [hq]] at hP hD
    exact W.iret (v := (r_leak S w v).1) hx hb hr (fun t ht hW => ⟨⟨_, (), rfl, by rw [hq], ⟨by rw [ht]; exact hP, hD⟩⟩, hS.F ht⟩) hS.2.2 dX5_set_34
  · skip
    by_cases e1 : q = nI 1
    · subst e1
      refine lv_tableIn (off := 34) (tgt := 35) hx hb dX5_set_1 (by decide) (by decide) (by decide) (by decide) ?_
      refine lv_aload_n hx hb dX5_set_35 rfl (lv_at hl 0 rfl) ?_
      refine lv_iload_n hx hb dX5_set_36 rfl (lv_at hl 2 rfl) ?_
      refine lv_iload_n hx hb dX5_set_37 rfl (lv_at hl 3 rfl) ?_
      refine h_calli (w1 := xW o cI cJ cZ ((r_feed S w v).2)) (va_runV (As := [.int w, .int v]) (rest := []) ⟨hx, hb, hml, hown, hts⟩ (m_X5_setFeed l D o cI cJ cZ S s.heap.size  w v) (cwV 2 hts gX5_set_X5_setFeed rfl rfl rfl (by decide +kernel) ⟨Nat.le_of_ble_eq_true rfl, Nat.le_of_ble_eq_true rfl⟩) (h_preW hK hP hD 0 rfl rfl rfl) rfl rfl hl.1 rfl (lv_room (Nat.le_of_ble_eq_true rfl)) dX5_set_38 ⟨Nat.le_of_ble_eq_true rfl, Nat.le_of_ble_eq_true rfl⟩) hS (h_all hD hS hA) (fun r_2 H locs hr_2 hP hD hS => ?_)
      subst hr_2
      have hq : r_set S (nI 1) w v = ((r_feed S w v).1, (r_feed S w v).2) := by unfold r_set; rw [if_neg (by decide), if_pos rfl]
      rw [show ((r_feed S w v).2 : hg_S) = (r_set S (nI 1) w v).2 from by rw [hq]] at hP hD
      exact W.iret (v := (r_feed S w v).1) hx hb hr (fun t ht hW => ⟨⟨_, (), rfl, by rw [hq], ⟨by rw [ht]; exact hP, hD⟩⟩, hS.F ht⟩) hS.2.2 dX5_set_41
    · skip
      by_cases e2 : q = nI 2
      · subst e2
        by_cases g0 : w = nI 0
        · subst g0
          refine lv_tableIn (off := 41) (tgt := 42) hx hb dX5_set_1 (by decide) (by decide) (by decide) (by decide) ?_
          refine lv_iload_n hx hb dX5_set_42 rfl (lv_at hl 2 rfl) ?_
          refine lv_if_ne (tgt := 54) hx hb dX5_set_43 (by decide) (fun c_43 => absurd (by decide) c_43) (fun c_43 => ?_)
          refine lv_aload_n hx hb dX5_set_46 rfl (lv_at hl 0 rfl) ?_
          refine lv_iload_n hx hb dX5_set_47 rfl (lv_at hl 3 rfl) ?_
          refine h_calli (w1 := xW o cI cJ cZ ((r_gsh S v).2)) (va_runV (As := [.int v]) (rest := []) ⟨hx, hb, hml, hown, hts⟩ (m_X5_setGivenShare l D o cI cJ cZ S s.heap.size  v) (cwV 1 hts gX5_set_X5_setGivenShare rfl rfl rfl (by decide +kernel) ⟨Nat.le_of_ble_eq_true rfl, Nat.le_of_ble_eq_true rfl⟩) (h_preW hK hP hD 0 rfl rfl rfl) rfl rfl hl.1 rfl (lv_room (Nat.le_of_ble_eq_true rfl)) dX5_set_48 ⟨Nat.le_of_ble_eq_true rfl, Nat.le_of_ble_eq_true rfl⟩) hS (h_all hD hS hA) (fun r_3 H locs hr_3 hP hD hS => ?_)
          subst hr_3
          refine lv_goto (tgt := 68) hx hb dX5_set_51 (by decide) ?_
          have hq : r_set S (nI 2) (nI 0) v = ((r_gsh S v).1, (r_gsh S v).2) := by unfold r_set; rw [if_neg (by decide), if_neg (by decide), if_pos rfl, if_pos rfl]
          rw [show ((r_gsh S v).2 : hg_S) = (r_set S (nI 2) (nI 0) v).2 from by rw [hq]] at hP hD
          exact W.iret (v := (r_gsh S v).1) hx hb hr (fun t ht hW => ⟨⟨_, (), rfl, by rw [hq], ⟨by rw [ht]; exact hP, hD⟩⟩, hS.F ht⟩) hS.2.2 dX5_set_68
        · skip
          by_cases g1 : w = nI 1
          · subst g1
            refine lv_tableIn (off := 41) (tgt := 42) hx hb dX5_set_1 (by decide) (by decide) (by decide) (by decide) ?_
            refine lv_iload_n hx hb dX5_set_42 rfl (lv_at hl 2 rfl) ?_
            refine lv_if_ne (tgt := 54) hx hb dX5_set_43 (by decide) (fun c_43 => ?_) (fun c_43 => absurd c_43 (by decide))
            refine lv_iload_n hx hb dX5_set_54 rfl (lv_at hl 2 rfl) ?_
            refine lv_iconst (v := nI 1) hx hb dX5_set_55 (by decide) ?_
            refine lv_icmp_ne (tgt := 67) hx hb dX5_set_56 (by decide) (fun c_56 => absurd (by decide) c_56) (fun c_56 => ?_)
            refine lv_aload_n hx hb dX5_set_59 rfl (lv_at hl 0 rfl) ?_
            refine lv_iload_n hx hb dX5_set_60 rfl (lv_at hl 3 rfl) ?_
            refine h_calli (w1 := xW o cI cJ cZ ((r_gbx S v).2)) (va_runV (As := [.int v]) (rest := []) ⟨hx, hb, hml, hown, hts⟩ (m_X5_setGivenBox l D o cI cJ cZ S s.heap.size  v) (cwV 1 hts gX5_set_X5_setGivenBox rfl rfl rfl (by decide +kernel) ⟨Nat.le_of_ble_eq_true rfl, Nat.le_of_ble_eq_true rfl⟩) (h_preW hK hP hD 0 rfl rfl rfl) rfl rfl hl.1 rfl (lv_room (Nat.le_of_ble_eq_true rfl)) dX5_set_61 ⟨Nat.le_of_ble_eq_true rfl, Nat.le_of_ble_eq_true rfl⟩) hS (h_all hD hS hA) (fun r_4 H locs hr_4 hP hD hS => ?_)
            subst hr_4
            refine lv_goto (tgt := 68) hx hb dX5_set_64 (by decide) ?_
            have hq : r_set S (nI 2) (nI 1) v = ((r_gbx S v).1, (r_gbx S v).2) := by unfold r_set; rw [if_neg (by decide), if_neg (by decide), if_pos rfl, if_neg (by decide), if_pos rfl]
            rw [show ((r_gbx S v).2 : hg_S) = (r_set S (nI 2) (nI 1) v).2 from by rw [hq]] at hP hD
            exact W.iret (v := (r_gbx S v).1) hx hb hr (fun t ht hW => ⟨⟨_, (), rfl, by rw [hq], ⟨by rw [ht]; exact hP, hD⟩⟩, hS.F ht⟩) hS.2.2 dX5_set_68
          · skip
            refine lv_tableIn (off := 41) (tgt := 42) hx hb dX5_set_1 (by decide) (by decide) (by decide) (by decide) ?_
            refine lv_iload_n hx hb dX5_set_42 rfl (lv_at hl 2 rfl) ?_
            refine lv_if_ne (tgt := 54) hx hb dX5_set_43 (by decide) (fun c_43 => ?_) (fun c_43 => absurd c_43 (fun h => g0 (h.trans nI_0.symm)))
            refine lv_iload_n hx hb dX5_set_54 rfl (lv_at hl 2 rfl) ?_
            refine lv_iconst (v := nI 1) hx hb dX5_set_55 (by decide) ?_
            refine lv_icmp_ne (tgt := 67) hx hb dX5_set_56 (by decide) (fun c_56 => ?_) (fun c_56 => absurd c_56 (g1))
            refine lv_iconst (v := -1) hx hb dX5_set_67 (by decide) ?_
            have hq : r_set S (nI 2) w v = ((-1), S) := by unfold r_set; rw [if_neg (by decide), if_neg (by decide), if_pos rfl, if_neg g0, if_neg g1]
            rw [show (S : hg_S) = (r_set S (nI 2) w v).2 from by rw [hq]] at hP hD
            exact W.iret (v := (-1)) hx hb hr (fun t ht hW => ⟨⟨_, (), rfl, by rw [hq], ⟨by rw [ht]; exact hP, hD⟩⟩, hS.F ht⟩) hS.2.2 dX5_set_68
      · skip
        refine lv_tableOut (tgt := 69) hx hb dX5_set_1 (hg_out (n := 2) (by decide) (fun j hj => by rcases (show j = 0 ∨ j = 1 ∨ j = 2 by omega) with rfl | rfl | rfl <;> assumption)) (by decide) ?_
        refine lv_iconst (v := -1) hx hb dX5_set_69 (by decide) ?_
        have hq : r_set S q w v = ((-1), S) := by unfold r_set; rw [if_neg e0, if_neg e1, if_neg e2]
        rw [show (S : hg_S) = (r_set S q w v).2 from by rw [hq]] at hP hD
        exact W.iret (v := (-1)) hx hb hr (fun t ht hW => ⟨⟨_, (), rfl, by rw [hq], ⟨by rw [ht]; exact hP, hD⟩⟩, hS.F ht⟩) hS.2.2 dX5_set_70
set_option maxHeartbeats 4000000 in
set_option maxRecDepth 100000 in
/-- the wells take -/
theorem m_X5_takeAll (l : Launch) (D : va_G) (o : Nat → Nat) (cI cJ cZ : ClassId) (S : hg_S) (sz : Nat) (h0 : hg_n S 0 ≤ 8) (hbx : ok_bx S) (p : Nat) (hp : p ≤ 20) : Met l yX5_takeAll wsX5_takeAll ({ frames := 3, cells := 0, slots := 0, locals := 56 }) (va_Pc [.ref (o 0), .int (nI p)] (hg_Wr D (xW o cI cJ cZ S) (hg_ty cI cJ cZ) sz)) (va_Ql (fun (r : Int64) (_ : Unit) => r = f_tk S p (hg_n S 0)) (fun _ t => hg_At D (xW o cI cJ cZ (s_tk S p (hg_n S 0))) (va_A (xW o cI cJ cZ S) sz) t) (va_A (xW o cI cJ cZ S) sz)) 0 0 (va_A (xW o cI cJ cZ S) sz) := by
  refine h_start (cc := cX5_takeAll) (maxL := 5) (ret := (some .long)) (by decide) rfl (Nat.le_of_ble_eq_true rfl) ?_
  intro pg ev s mi args below meth cd ls hx hb hr hts hown hlocks hml hnm hpic hl
  obtain ⟨hsz, hP, hK, hD0⟩ := hpic
  subst hsz
  have hD := hD0.self (sz := s.heap.size)
  generalize hAe : va_A (xW o cI cJ cZ S) s.heap.size = A at hD ⊢
  have hA : ∀ q : Nat, s.heap.size ≤ q → A q := fun q h => by rw [← hAe]; exact Or.inr h
  have hS : va_S A s.heap s.heap [] := va_S.rf
  have hi4 : ∀ w ∈ u_ws RX4 TX4 6, w ∈ wsX5_takeAll := by decide +kernel
  have hi5 : ∀ w ∈ u_ws RX5 TX5 6, w ∈ wsX5_takeAll := by decide +kernel
  have hl : lv_has ls 5 [(0, .ref (o 0)), (1, .int (nI p))] := hl
  refine lv_lconst (v := 0) hx hb dX5_takeAll_0 (by decide) ?_
  refine lv_lstore_n (lv' := [(2, .long 0), (0, .ref (o 0)), (1, .int (nI p))]) hx hb dX5_takeAll_1 rfl hl (by decide) rfl (fun ls hl => ?_)
  refine lv_iconst (v := nI 0) hx hb dX5_takeAll_2 (by decide) ?_
  refine lv_istore (lv' := [(4, .int (nI 0)), (2, .long 0), (0, .ref (o 0)), (1, .int (nI p))]) hx hb dX5_takeAll_3 hl (by decide) rfl (fun ls hl => ?_)
  have hP : va_P D vwCl (xW o cI cJ cZ (s_tk S p 0)) s.heap := hP
  have hD : va_D A (xW o cI cJ cZ (s_tk S p 0)) := hD
  have hn0 : ∀ i, hg_n (s_tk S p i) 0 = hg_n S 0 := fun i => s_tk_n S p i 0
  refine h_forW (nL := 5) (hg_n S 0) (fun i => [(4, .int (nI i)), (2, .long (f_tk S p i)), (0, .ref (o 0)), (1, .int (nI p))]) (fun i => xW o cI cJ cZ (s_tk S p i)) ?_ ?_ (lv_sub hl [0, 1, 2, 3] rfl) hP hD hS
  · intro i ls H locs hi hl hP hD hS ih
    have hl : lv_has ls 5 [(4, .int (nI i)), (2, .long (f_tk S p i)), (0, .ref (o 0)), (1, .int (nI p))] := hl
    refine lv_iload hx hb dX5_takeAll_5 (lv_at hl 0 rfl) ?_
    refine lv_aload_n hx hb dX5_takeAll_7 rfl (lv_at hl 2 rfl) ?_
    refine va_get (C := RX5) (T := TX5) (N := 6) (v := .ref (o 1)) hx hb hts hi5 hown hK hP 0 rfl rfl 0 (by decide) (hts (.fieldLink RX5 10 "HotGround" "wells" "LHotGround$Wells;") (by decide +kernel)) (fun _ h9 => h9) rfl dX5_takeAll_8 ?_
    refine va_get (C := RX4) (T := TX4) (N := 6) (v := .int (nI (hg_n (s_tk S p i) 0))) hx hb hts hi4 hown hK hP 1 rfl rfl 0 (by decide) (hts (.fieldLink RX5 52 "HotGround$Wells" "count" "I") (by decide +kernel)) (fun _ h9 => h9) rfl dX5_takeAll_11 ?_
    refine h_topi (y := nI (hg_n S 0)) (by rw [hn0]) ?_
    refine lv_icmp_ge (tgt := 67) hx hb dX5_takeAll_14 (by decide) (fun c_14 => absurd c_14 (nI_ge hi (by omega))) (fun c_14 => ?_)
    refine lv_aload_n hx hb dX5_takeAll_17 rfl (lv_at hl 2 rfl) ?_
    refine va_get (C := RX5) (T := TX5) (N := 6) (v := .ref (o 1)) hx hb hts hi5 hown hK hP 0 rfl rfl 0 (by decide) (hts (.fieldLink RX5 10 "HotGround" "wells" "LHotGround$Wells;") (by decide +kernel)) (fun _ h9 => h9) rfl dX5_takeAll_18 ?_
    refine va_get (C := RX4) (T := TX4) (N := 6) (v := .ref (o 9)) hx hb hts hi4 hown hK hP 1 rfl rfl 4 (by decide) (hts (.fieldLink RX5 68 "HotGround$Wells" "open" "[Z") (by decide +kernel)) (fun _ h9 => h9) rfl dX5_takeAll_21 ?_
    refine lv_iload hx hb dX5_takeAll_24 (lv_at hl 0 rfl) ?_
    refine h_zald (f := hg_i (s_tk S p i) 3) hx hb hK hP 9 2 rfl rfl i (rfl) (by omega) (by decide) dX5_takeAll_26 ?_
    refine lv_if_eq (tgt := 61) hx hb dX5_takeAll_27 (by decide) (fun c_27 => ?_) (fun c_27 => ?_)
    · skip
      have hk1 : s_takes S p (i + 1) = s_takes S p i := if_pos c_27
      rw [show f_tk S p i = f_tk S p (i + 1) from (congrArg Prod.fst hk1).symm] at hl
      have hl : lv_has ls 5 [(4, .int (nI i)), (2, .long (f_tk S p (i + 1))), (0, .ref (o 0)), (1, .int (nI p))] := hl
      rw [show (s_tk S p i : hg_S) = s_tk S p (i + 1) from (congrArg Prod.snd hk1).symm] at hP hD
      refine lv_iinc (v := nI (i + 1)) (lv' := [(4, .int (nI (i + 1))), (2, .long (f_tk S p (i + 1))), (0, .ref (o 0)), (1, .int (nI p))]) hx hb dX5_takeAll_61 hl (k := 0) rfl (nI_1 _) (by decide) rfl (fun ls hl => ?_)
      refine lv_goto (tgt := 5) hx hb dX5_takeAll_64 (by decide) ?_
      exact ih ls H locs (lv_sub hl [0, 1, 2, 3] rfl) hP hD hS
    · skip
      have hk1 := show s_takes S p (i + 1) = (f_tk S p i + f_part (s_tk S p i) (f_bx (s_tk S p i) i) (f_fl (s_tk S p i) i p), s_take (s_tk S p i) (f_bx (s_tk S p i) i) (f_fl (s_tk S p i) i p)) from if_neg c_27
      refine lv_lload_n hx hb dX5_takeAll_30 rfl (lv_at hl 1 rfl) ?_
      refine lv_aload_n hx hb dX5_takeAll_31 rfl (lv_at hl 2 rfl) ?_
      refine va_get (C := RX5) (T := TX5) (N := 6) (v := .ref (o 3)) hx hb hts hi5 hown hK hP 0 rfl rfl 2 (by decide) (hts (.fieldLink RX5 26 "HotGround" "ground" "LHotGround$Ground;") (by decide +kernel)) (fun _ h9 => h9) rfl dX5_takeAll_32 ?_
      refine lv_aload_n hx hb dX5_takeAll_35 rfl (lv_at hl 2 rfl) ?_
      refine va_get (C := RX5) (T := TX5) (N := 6) (v := .ref (o 1)) hx hb hts hi5 hown hK hP 0 rfl rfl 0 (by decide) (hts (.fieldLink RX5 10 "HotGround" "wells" "LHotGround$Wells;") (by decide +kernel)) (fun _ h9 => h9) rfl dX5_takeAll_36 ?_
      refine va_get (C := RX4) (T := TX4) (N := 6) (v := .ref (o 7)) hx hb hts hi4 hown hK hP 1 rfl rfl 2 (by decide) (hts (.fieldLink RX5 89 "HotGround$Wells" "box" "[I") (by decide +kernel)) (fun _ h9 => h9) rfl dX5_takeAll_39 ?_
      refine lv_iload hx hb dX5_takeAll_42 (lv_at hl 0 rfl) ?_
      refine h_iald (f := hg_i (s_tk S p i) 1) hx hb hK hP 7 0 rfl rfl i (rfl) (by omega) (by decide) dX5_takeAll_44 ?_
      have hb4 := (hbx.tk p i).lt (show i < 8 by omega)
      refine h_topi (y := nI (f_bx (s_tk S p i) i)) ((hbx.tk p i).eq (by omega)) ?_
      refine lv_aload_n hx hb dX5_takeAll_45 rfl (lv_at hl 2 rfl) ?_
      refine va_get (C := RX5) (T := TX5) (N := 6) (v := .ref (o 1)) hx hb hts hi5 hown hK hP 0 rfl rfl 0 (by decide) (hts (.fieldLink RX5 10 "HotGround" "wells" "LHotGround$Wells;") (by decide +kernel)) (fun _ h9 => h9) rfl dX5_takeAll_46 ?_
      refine lv_iload hx hb dX5_takeAll_49 (lv_at hl 0 rfl) ?_
      refine lv_iload_n hx hb dX5_takeAll_51 rfl (lv_at hl 3 rfl) ?_
      refine vp_callSi (va_Run.run (va_runV (As := [.int (nI i), .int (nI p)]) (rest := [.int (nI (f_bx (s_tk S p i) i)), .ref (o 3), .long (f_tk S p i)]) ⟨hx, hb, hml, hown, hts⟩ (m_X4_fifths l D o cI cJ cZ (s_tk S p i) i p (by omega) (by omega)) (cwV 2 hts gX5_takeAll_X4_fifths rfl rfl rfl (by decide +kernel) ⟨Nat.le_of_ble_eq_true rfl, Nat.le_of_ble_eq_true rfl⟩) (h_preR hK hP 1 rfl rfl rfl) rfl rfl hl.1 rfl (lv_room (Nat.le_of_ble_eq_true rfl)) dX5_takeAll_52 ⟨Nat.le_of_ble_eq_true rfl, Nat.le_of_ble_eq_true rfl⟩)) (fun r_1 hr_1 => ?_)
      subst hr_1
      refine lv_i2l (v := Int32.toInt64 (f_flow (s_tk S p i) i p)) hx hb dX5_takeAll_55 rfl ?_
      refine h_topl (y := f_fl (s_tk S p i) i p) (rfl) ?_
      refine h_calll (w1 := xW o cI cJ cZ (s_take (s_tk S p i) (f_bx (s_tk S p i) i) (f_fl (s_tk S p i) i p))) (va_runV (As := [.int (nI (f_bx (s_tk S p i) i)), .long (f_fl (s_tk S p i) i p)]) (rest := [.long (f_tk S p i)]) ⟨hx, hb, hml, hown, hts⟩ (m_X0_take l D o cI cJ cZ (s_tk S p i) H.size (f_bx (s_tk S p i) i) (by omega) (f_fl (s_tk S p i) i p)) (cwV 2 hts gX5_takeAll_X0_take rfl rfl rfl (by decide +kernel) ⟨Nat.le_of_ble_eq_true rfl, Nat.le_of_ble_eq_true rfl⟩) (h_preW hK hP hD 3 rfl rfl rfl) rfl rfl hl.1 rfl (lv_room (Nat.le_of_ble_eq_true rfl)) dX5_takeAll_56 ⟨Nat.le_of_ble_eq_true rfl, Nat.le_of_ble_eq_true rfl⟩) hS (h_all hD hS hA) (fun r_2 H locs hr_2 hP hD hS => ?_)
      subst hr_2
      refine lv_ladd hx hb dX5_takeAll_59 ?_
      refine h_topl (y := f_tk S p (i + 1)) ((congrArg Prod.fst hk1).symm) ?_
      refine lv_lstore_n (lv' := [(2, .long (f_tk S p (i + 1))), (4, .int (nI i)), (0, .ref (o 0)), (1, .int (nI p))]) hx hb dX5_takeAll_60 rfl hl (by decide) rfl (fun ls hl => ?_)
      refine lv_iinc (v := nI (i + 1)) (lv' := [(4, .int (nI (i + 1))), (2, .long (f_tk S p (i + 1))), (0, .ref (o 0)), (1, .int (nI p))]) hx hb dX5_takeAll_61 hl (k := 1) rfl (nI_1 _) (by decide) rfl (fun ls hl => ?_)
      refine lv_goto (tgt := 5) hx hb dX5_takeAll_64 (by decide) ?_
      rw [show (s_take (s_tk S p i) (f_bx (s_tk S p i) i) (f_fl (s_tk S p i) i p) : hg_S) = s_tk S p (i + 1) from (congrArg Prod.snd hk1).symm] at hP hD
      exact ih ls H locs (lv_sub hl [0, 1, 2, 3] rfl) hP hD hS
  · intro ls H locs hl hP hD hS
    have hl : lv_has ls 5 [(4, .int (nI (hg_n S 0))), (2, .long (f_tk S p (hg_n S 0))), (0, .ref (o 0)), (1, .int (nI p))] := hl
    refine lv_iload hx hb dX5_takeAll_5 (lv_at hl 0 rfl) ?_
    refine lv_aload_n hx hb dX5_takeAll_7 rfl (lv_at hl 2 rfl) ?_
    refine va_get (C := RX5) (T := TX5) (N := 6) (v := .ref (o 1)) hx hb hts hi5 hown hK hP 0 rfl rfl 0 (by decide) (hts (.fieldLink RX5 10 "HotGround" "wells" "LHotGround$Wells;") (by decide +kernel)) (fun _ h9 => h9) rfl dX5_takeAll_8 ?_
    refine va_get (C := RX4) (T := TX4) (N := 6) (v := .int (nI (hg_n (s_tk S p (hg_n S 0)) 0))) hx hb hts hi4 hown hK hP 1 rfl rfl 0 (by decide) (hts (.fieldLink RX5 52 "HotGround$Wells" "count" "I") (by decide +kernel)) (fun _ h9 => h9) rfl dX5_takeAll_11 ?_
    refine h_topi (y := nI (hg_n S 0)) (by rw [hn0]) ?_
    refine lv_icmp_ge (tgt := 67) hx hb dX5_takeAll_14 (by decide) (fun c_14 => ?_) (fun c_14 => absurd (nI_le (Nat.le_refl _) (by omega)) c_14)
    refine lv_lload_n hx hb dX5_takeAll_67 rfl (lv_at hl 1 rfl) ?_
    exact W.lret (v := f_tk S p (hg_n S 0)) hx hb hr (fun t ht hW => ⟨⟨_, (), rfl, rfl, ⟨by rw [ht]; exact hP, hD⟩⟩, hS.F ht⟩) hS.2.2 dX5_takeAll_68
set_option maxHeartbeats 4000000 in
set_option maxRecDepth 100000 in
/-- a year -/
theorem m_X5_passYear (l : Launch) (D : va_G) (o : Nat → Nat) (cI cJ cZ : ClassId) (S : hg_S) (sz : Nat) (h0 : hg_n S 0 ≤ 8) (h1 : hg_n S 1 ≤ 4) (hg3 : hg_n S 3 < 4) (hbx : ok_bx S) (hlk : ok_lk S)  : Met l yX5_passYear wsX5_passYear ({ frames := 5, cells := 0, slots := 0, locals := 100 }) (va_Pc [.ref (o 0)] (hg_Wr D (xW o cI cJ cZ S) (hg_ty cI cJ cZ) sz)) (va_Qv (fun (_ : Unit) => True) (fun _ t => hg_At D (xW o cI cJ cZ (s_year S)) (va_A (xW o cI cJ cZ S) sz) t) (va_A (xW o cI cJ cZ S) sz)) 0 0 (va_A (xW o cI cJ cZ S) sz) := by
  refine h_start (cc := cX5_passYear) (maxL := 2) (ret := none) (by decide) rfl (Nat.le_of_ble_eq_true rfl) ?_
  intro pg ev s mi args below meth cd ls hx hb hr hts hown hlocks hml hnm hpic hl
  obtain ⟨hsz, hP, hK, hD0⟩ := hpic
  subst hsz
  have hD := hD0.self (sz := s.heap.size)
  generalize hAe : va_A (xW o cI cJ cZ S) s.heap.size = A at hD ⊢
  have hA : ∀ q : Nat, s.heap.size ≤ q → A q := fun q h => by rw [← hAe]; exact Or.inr h
  have hS : va_S A s.heap s.heap [] := va_S.rf
  have hi0 : ∀ w ∈ u_ws RX0 TX0 7, w ∈ wsX5_passYear := by decide +kernel
  have hi5 : ∀ w ∈ u_ws RX5 TX5 6, w ∈ wsX5_passYear := by decide +kernel
  have hl : lv_has ls 2 [(0, .ref (o 0))] := hl
  refine lv_aload_n hx hb dX5_passYear_0 rfl (lv_at hl 0 rfl) ?_
  refine vp_callSi (va_Run.run (va_runV (As := []) (rest := []) ⟨hx, hb, hml, hown, hts⟩ (m_X5_meeting l D o cI cJ cZ S h0 h1) (cwV 0 hts gX5_passYear_X5_meeting rfl rfl rfl (by decide +kernel) ⟨Nat.le_of_ble_eq_true rfl, Nat.le_of_ble_eq_true rfl⟩) (h_preR hK hP 0 rfl rfl rfl) rfl rfl hl.1 rfl (lv_room (Nat.le_of_ble_eq_true rfl)) dX5_passYear_1 ⟨Nat.le_of_ble_eq_true rfl, Nat.le_of_ble_eq_true rfl⟩)) (fun r_1 hr_1 => ?_)
  subst hr_1
  refine lv_istore_n (lv' := [(1, .int (f_point S)), (0, .ref (o 0))]) hx hb dX5_passYear_4 rfl hl (by decide) rfl (fun ls hl => ?_)
  refine lv_iload_n hx hb dX5_passYear_5 rfl (lv_at hl 0 rfl) ?_
  refine lv_bipush (v := -9) hx hb dX5_passYear_6 (by decide) ?_
  refine lv_icmp_ne (tgt := 28) hx hb dX5_passYear_8 (by decide) (fun c_8 => ?_) (fun c_8 => ?_)
  · skip
    obtain ⟨k, hk, ek⟩ := f_point_nat c_8
    rw [show f_point S = nI k from ek] at hl
    have hl : lv_has ls 2 [(1, .int (nI k)), (0, .ref (o 0))] := hl
    have hf : s_first S = s_prod S k := by unfold s_first; rw [if_neg c_8, ek, nI_clamp (by omega)]
    refine lv_aload_n hx hb dX5_passYear_28 rfl (lv_at hl 1 rfl) ?_
    refine va_get (C := RX5) (T := TX5) (N := 6) (v := .ref (o 3)) hx hb hts hi5 hown hK hP 0 rfl rfl 2 (by decide) (hts (.fieldLink RX5 26 "HotGround" "ground" "LHotGround$Ground;") (by decide +kernel)) (fun _ h9 => h9) rfl dX5_passYear_29 ?_
    refine va_get (C := RX0) (T := TX0) (N := 7) (v := .ref (o 19)) hx hb hts hi0 hown hK hP 3 rfl rfl 6 (by decide) (hts (.fieldLink RX5 141 "HotGround$Ground" "sums" "[J") (by decide +kernel)) (fun _ h9 => h9) rfl dX5_passYear_32 ?_
    refine lv_bipush (v := nI 6) hx hb dX5_passYear_35 (by decide) ?_
    refine lv_dup2_11 hx hb dX5_passYear_37 rfl rfl ?_
    refine h_lald (f := hg_l S 2) hx hb hK hP 19 1 rfl rfl 6 (rfl) (by omega) (by decide) dX5_passYear_38 ?_
    refine lv_aload_n hx hb dX5_passYear_39 rfl (lv_at hl 1 rfl) ?_
    refine va_get (C := RX5) (T := TX5) (N := 6) (v := .ref (o 2)) hx hb hts hi5 hown hK hP 0 rfl rfl 1 (by decide) (hts (.fieldLink RX5 19 "HotGround" "plant" "LHotGround$Plant;") (by decide +kernel)) (fun _ h9 => h9) rfl dX5_passYear_40 ?_
    refine lv_iload_n hx hb dX5_passYear_43 rfl (lv_at hl 0 rfl) ?_
    refine vp_callSi (va_Run.run (va_runV (As := [.int (nI k)]) (rest := [.long (hg_l S 2 6), .int (nI 6), .ref (o 19)]) ⟨hx, hb, hml, hown, hts⟩ (m_X3_draw l D o cI cJ cZ S h1 k (by omega)) (cwV 1 hts gX5_passYear_X3_draw rfl rfl rfl (by decide +kernel) ⟨Nat.le_of_ble_eq_true rfl, Nat.le_of_ble_eq_true rfl⟩) (h_preR hK hP 2 rfl rfl rfl) rfl rfl hl.1 rfl (lv_room (Nat.le_of_ble_eq_true rfl)) dX5_passYear_44 ⟨Nat.le_of_ble_eq_true rfl, Nat.le_of_ble_eq_true rfl⟩)) (fun r_2 hr_2 => ?_)
    subst hr_2
    refine lv_i2l (v := Int32.toInt64 (f_draw S k)) hx hb dX5_passYear_47 rfl ?_
    refine lv_ladd hx hb dX5_passYear_48 ?_
    refine lv_topl (fun z_3 ez_3 => ?_)
    refine h_last (f := hg_l S 2) (ws' := xW o cI cJ cZ (hg_sl S 2 (vp_updL (hg_l S 2) 6 z_3))) hx hb hK hP hD hS 19 1 rfl rfl 6 (rfl) (by omega) (by decide) rfl dX5_passYear_49 (fun H locs hP hD hS => ?_)
    subst ez_3
    have hP : va_P D vwCl (xW o cI cJ cZ (s_sold S k)) H := hP
    have hD : va_D A (xW o cI cJ cZ (s_sold S k)) := hD
    refine lv_aload_n hx hb dX5_passYear_50 rfl (lv_at hl 1 rfl) ?_
    refine va_get (C := RX5) (T := TX5) (N := 6) (v := .ref (o 3)) hx hb hts hi5 hown hK hP 0 rfl rfl 2 (by decide) (hts (.fieldLink RX5 26 "HotGround" "ground" "LHotGround$Ground;") (by decide +kernel)) (fun _ h9 => h9) rfl dX5_passYear_51 ?_
    refine lv_aload_n hx hb dX5_passYear_54 rfl (lv_at hl 1 rfl) ?_
    refine lv_iload_n hx hb dX5_passYear_55 rfl (lv_at hl 0 rfl) ?_
    refine h_calll (w1 := xW o cI cJ cZ (s_tk (s_sold S k) k (hg_n S 0))) (va_runV (As := [.int (nI k)]) (rest := [.ref (o 3)]) ⟨hx, hb, hml, hown, hts⟩ (m_X5_takeAll l D o cI cJ cZ (s_sold S k) H.size h0 (fun w hw => hbx w hw) k (by omega)) (cwV 1 hts gX5_passYear_X5_takeAll rfl rfl rfl (by decide +kernel) ⟨Nat.le_of_ble_eq_true rfl, Nat.le_of_ble_eq_true rfl⟩) (h_preW hK hP hD 0 rfl rfl rfl) rfl rfl hl.1 rfl (lv_room (Nat.le_of_ble_eq_true rfl)) dX5_passYear_56 ⟨Nat.le_of_ble_eq_true rfl, Nat.le_of_ble_eq_true rfl⟩) hS (h_all hD hS hA) (fun r_4 H locs hr_4 hP hD hS => ?_)
    subst hr_4
    refine h_callv (w1 := xW o cI cJ cZ (s_give (s_tk (s_sold S k) k (hg_n S 0)) (f_tk (s_sold S k) k (hg_n S 0)))) (va_runV (As := [.long (f_tk (s_sold S k) k (hg_n S 0))]) (rest := []) ⟨hx, hb, hml, hown, hts⟩ (m_X0_giveBack l D o cI cJ cZ (s_tk (s_sold S k) k (hg_n S 0)) H.size (by rw [s_tk_n]; exact hg3) (f_tk (s_sold S k) k (hg_n S 0))) (cwV 1 hts gX5_passYear_X0_giveBack rfl rfl rfl (by decide +kernel) ⟨Nat.le_of_ble_eq_true rfl, Nat.le_of_ble_eq_true rfl⟩) (h_preW hK hP hD 3 rfl rfl rfl) rfl rfl hl.1 rfl (lv_room (Nat.le_of_ble_eq_true rfl)) dX5_passYear_59 ⟨Nat.le_of_ble_eq_true rfl, Nat.le_of_ble_eq_true rfl⟩) hS (h_all hD hS hA) (fun H locs hP hD hS => ?_)
    rw [show (s_give (s_tk (s_sold S k) k (hg_n S 0)) (f_tk (s_sold S k) k (hg_n S 0)) : hg_S) = s_first S from hf.symm] at hP hD
    refine lv_aload_n hx hb dX5_passYear_62 rfl (lv_at hl 1 rfl) ?_
    refine va_get (C := RX5) (T := TX5) (N := 6) (v := .ref (o 3)) hx hb hts hi5 hown hK hP 0 rfl rfl 2 (by decide) (hts (.fieldLink RX5 26 "HotGround" "ground" "LHotGround$Ground;") (by decide +kernel)) (fun _ h9 => h9) rfl dX5_passYear_63 ?_
    refine h_callv (w1 := xW o cI cJ cZ (s_leaks (s_first S) 3)) (va_runV (As := []) (rest := []) ⟨hx, hb, hml, hown, hts⟩ (m_X0_leakAll l D o cI cJ cZ (s_first S) H.size hlk.first) (cwV 0 hts gX5_passYear_X0_leakAll rfl rfl rfl (by decide +kernel) ⟨Nat.le_of_ble_eq_true rfl, Nat.le_of_ble_eq_true rfl⟩) (h_preW hK hP hD 3 rfl rfl rfl) rfl rfl hl.1 rfl (lv_room (Nat.le_of_ble_eq_true rfl)) dX5_passYear_66 ⟨Nat.le_of_ble_eq_true rfl, Nat.le_of_ble_eq_true rfl⟩) hS (h_all hD hS hA) (fun H locs hP hD hS => ?_)
    refine lv_aload_n hx hb dX5_passYear_69 rfl (lv_at hl 1 rfl) ?_
    refine va_get (C := RX5) (T := TX5) (N := 6) (v := .ref (o 3)) hx hb hts hi5 hown hK hP 0 rfl rfl 2 (by decide) (hts (.fieldLink RX5 26 "HotGround" "ground" "LHotGround$Ground;") (by decide +kernel)) (fun _ h9 => h9) rfl dX5_passYear_70 ?_
    refine h_callv (w1 := xW o cI cJ cZ (s_feeds (s_leaks (s_first S) 3) 4)) (va_runV (As := []) (rest := []) ⟨hx, hb, hml, hown, hts⟩ (m_X0_feedAll l D o cI cJ cZ (s_leaks (s_first S) 3) H.size) (cwV 0 hts gX5_passYear_X0_feedAll rfl rfl rfl (by decide +kernel) ⟨Nat.le_of_ble_eq_true rfl, Nat.le_of_ble_eq_true rfl⟩) (h_preW hK hP hD 3 rfl rfl rfl) rfl rfl hl.1 rfl (lv_room (Nat.le_of_ble_eq_true rfl)) dX5_passYear_73 ⟨Nat.le_of_ble_eq_true rfl, Nat.le_of_ble_eq_true rfl⟩) hS (h_all hD hS hA) (fun H locs hP hD hS => ?_)
    refine lv_aload_n hx hb dX5_passYear_76 rfl (lv_at hl 1 rfl) ?_
    refine va_get (C := RX5) (T := TX5) (N := 6) (v := .ref (o 1)) hx hb hts hi5 hown hK hP 0 rfl rfl 0 (by decide) (hts (.fieldLink RX5 10 "HotGround" "wells" "LHotGround$Wells;") (by decide +kernel)) (fun _ h9 => h9) rfl dX5_passYear_77 ?_
    refine h_callv (w1 := xW o cI cJ cZ (s_grow (s_feeds (s_leaks (s_first S) 3) 4))) (va_runV (As := []) (rest := []) ⟨hx, hb, hml, hown, hts⟩ (m_X4_grow l D o cI cJ cZ (s_feeds (s_leaks (s_first S) 3) 4) H.size (by rw [s_feeds_n, s_leaks_n, s_first_n]; exact h0)) (cwV 0 hts gX5_passYear_X4_grow rfl rfl rfl (by decide +kernel) ⟨Nat.le_of_ble_eq_true rfl, Nat.le_of_ble_eq_true rfl⟩) (h_preW hK hP hD 1 rfl rfl rfl) rfl rfl hl.1 rfl (lv_room (Nat.le_of_ble_eq_true rfl)) dX5_passYear_80 ⟨Nat.le_of_ble_eq_true rfl, Nat.le_of_ble_eq_true rfl⟩) hS (h_all hD hS hA) (fun H locs hP hD hS => ?_)
    obtain ⟨T, hT⟩ : ∃ y : hg_S, y = s_grow (s_feeds (s_leaks (s_first S) 3) 4) := ⟨_, rfl⟩
    rw [← hT] at hP hD
    refine lv_aload_n hx hb dX5_passYear_83 rfl (lv_at hl 1 rfl) ?_
    refine va_get (C := RX5) (T := TX5) (N := 6) (v := .ref (o 3)) hx hb hts hi5 hown hK hP 0 rfl rfl 2 (by decide) (hts (.fieldLink RX5 26 "HotGround" "ground" "LHotGround$Ground;") (by decide +kernel)) (fun _ h9 => h9) rfl dX5_passYear_84 ?_
    refine va_get (C := RX0) (T := TX0) (N := 7) (v := .ref (o 19)) hx hb hts hi0 hown hK hP 3 rfl rfl 6 (by decide) (hts (.fieldLink RX5 141 "HotGround$Ground" "sums" "[J") (by decide +kernel)) (fun _ h9 => h9) rfl dX5_passYear_87 ?_
    refine lv_bipush (v := nI 7) hx hb dX5_passYear_90 (by decide) ?_
    refine lv_dup2_11 hx hb dX5_passYear_92 rfl rfl ?_
    refine h_lald (f := hg_l T 2) hx hb hK hP 19 1 rfl rfl 7 (rfl) (by omega) (by decide) dX5_passYear_93 ?_
    refine lv_lconst (v := 1) hx hb dX5_passYear_94 (by decide) ?_
    refine lv_ladd hx hb dX5_passYear_95 ?_
    refine lv_topl (fun z_5 ez_5 => ?_)
    refine h_last (f := hg_l T 2) (ws' := xW o cI cJ cZ (hg_sl T 2 (vp_updL (hg_l T 2) 7 z_5))) hx hb hK hP hD hS 19 1 rfl rfl 7 (rfl) (by omega) (by decide) rfl dX5_passYear_96 (fun H locs hP hD hS => ?_)
    subst ez_5
    rw [show (hg_sl T 2 (vp_updL (hg_l T 2) 7 ((hg_l T 2 7) + 1)) : hg_S) = s_year S from by rw [hT]; rfl] at hP hD
    exact W.vret hx hb hr (fun t ht hW => ⟨⟨(), rfl, trivial, ⟨by rw [ht]; exact hP, hD⟩⟩, hS.F ht⟩) hS.2.2 dX5_passYear_97
  · skip
    have hf : s_first S = s_add S 8 1 := if_pos c_8
    refine lv_aload_n hx hb dX5_passYear_11 rfl (lv_at hl 1 rfl) ?_
    refine va_get (C := RX5) (T := TX5) (N := 6) (v := .ref (o 3)) hx hb hts hi5 hown hK hP 0 rfl rfl 2 (by decide) (hts (.fieldLink RX5 26 "HotGround" "ground" "LHotGround$Ground;") (by decide +kernel)) (fun _ h9 => h9) rfl dX5_passYear_12 ?_
    refine va_get (C := RX0) (T := TX0) (N := 7) (v := .ref (o 19)) hx hb hts hi0 hown hK hP 3 rfl rfl 6 (by decide) (hts (.fieldLink RX5 141 "HotGround$Ground" "sums" "[J") (by decide +kernel)) (fun _ h9 => h9) rfl dX5_passYear_15 ?_
    refine lv_bipush (v := nI 8) hx hb dX5_passYear_18 (by decide) ?_
    refine lv_dup2_11 hx hb dX5_passYear_20 rfl rfl ?_
    refine h_lald (f := hg_l S 2) hx hb hK hP 19 1 rfl rfl 8 (rfl) (by omega) (by decide) dX5_passYear_21 ?_
    refine lv_lconst (v := 1) hx hb dX5_passYear_22 (by decide) ?_
    refine lv_ladd hx hb dX5_passYear_23 ?_
    refine lv_topl (fun z_6 ez_6 => ?_)
    refine h_last (f := hg_l S 2) (ws' := xW o cI cJ cZ (hg_sl S 2 (vp_updL (hg_l S 2) 8 z_6))) hx hb hK hP hD hS 19 1 rfl rfl 8 (rfl) (by omega) (by decide) rfl dX5_passYear_24 (fun H locs hP hD hS => ?_)
    refine lv_goto (tgt := 62) hx hb dX5_passYear_25 (by decide) ?_
    subst ez_6
    rw [show (hg_sl S 2 (vp_updL (hg_l S 2) 8 ((hg_l S 2 8) + 1)) : hg_S) = s_first S from hf.symm] at hP hD
    refine lv_aload_n hx hb dX5_passYear_62 rfl (lv_at hl 1 rfl) ?_
    refine va_get (C := RX5) (T := TX5) (N := 6) (v := .ref (o 3)) hx hb hts hi5 hown hK hP 0 rfl rfl 2 (by decide) (hts (.fieldLink RX5 26 "HotGround" "ground" "LHotGround$Ground;") (by decide +kernel)) (fun _ h9 => h9) rfl dX5_passYear_63 ?_
    refine h_callv (w1 := xW o cI cJ cZ (s_leaks (s_first S) 3)) (va_runV (As := []) (rest := []) ⟨hx, hb, hml, hown, hts⟩ (m_X0_leakAll l D o cI cJ cZ (s_first S) H.size hlk.first) (cwV 0 hts gX5_passYear_X0_leakAll rfl rfl rfl (by decide +kernel) ⟨Nat.le_of_ble_eq_true rfl, Nat.le_of_ble_eq_true rfl⟩) (h_preW hK hP hD 3 rfl rfl rfl) rfl rfl hl.1 rfl (lv_room (Nat.le_of_ble_eq_true rfl)) dX5_passYear_66 ⟨Nat.le_of_ble_eq_true rfl, Nat.le_of_ble_eq_true rfl⟩) hS (h_all hD hS hA) (fun H locs hP hD hS => ?_)
    refine lv_aload_n hx hb dX5_passYear_69 rfl (lv_at hl 1 rfl) ?_
    refine va_get (C := RX5) (T := TX5) (N := 6) (v := .ref (o 3)) hx hb hts hi5 hown hK hP 0 rfl rfl 2 (by decide) (hts (.fieldLink RX5 26 "HotGround" "ground" "LHotGround$Ground;") (by decide +kernel)) (fun _ h9 => h9) rfl dX5_passYear_70 ?_
    refine h_callv (w1 := xW o cI cJ cZ (s_feeds (s_leaks (s_first S) 3) 4)) (va_runV (As := []) (rest := []) ⟨hx, hb, hml, hown, hts⟩ (m_X0_feedAll l D o cI cJ cZ (s_leaks (s_first S) 3) H.size) (cwV 0 hts gX5_passYear_X0_feedAll rfl rfl rfl (by decide +kernel) ⟨Nat.le_of_ble_eq_true rfl, Nat.le_of_ble_eq_true rfl⟩) (h_preW hK hP hD 3 rfl rfl rfl) rfl rfl hl.1 rfl (lv_room (Nat.le_of_ble_eq_true rfl)) dX5_passYear_73 ⟨Nat.le_of_ble_eq_true rfl, Nat.le_of_ble_eq_true rfl⟩) hS (h_all hD hS hA) (fun H locs hP hD hS => ?_)
    refine lv_aload_n hx hb dX5_passYear_76 rfl (lv_at hl 1 rfl) ?_
    refine va_get (C := RX5) (T := TX5) (N := 6) (v := .ref (o 1)) hx hb hts hi5 hown hK hP 0 rfl rfl 0 (by decide) (hts (.fieldLink RX5 10 "HotGround" "wells" "LHotGround$Wells;") (by decide +kernel)) (fun _ h9 => h9) rfl dX5_passYear_77 ?_
    refine h_callv (w1 := xW o cI cJ cZ (s_grow (s_feeds (s_leaks (s_first S) 3) 4))) (va_runV (As := []) (rest := []) ⟨hx, hb, hml, hown, hts⟩ (m_X4_grow l D o cI cJ cZ (s_feeds (s_leaks (s_first S) 3) 4) H.size (by rw [s_feeds_n, s_leaks_n, s_first_n]; exact h0)) (cwV 0 hts gX5_passYear_X4_grow rfl rfl rfl (by decide +kernel) ⟨Nat.le_of_ble_eq_true rfl, Nat.le_of_ble_eq_true rfl⟩) (h_preW hK hP hD 1 rfl rfl rfl) rfl rfl hl.1 rfl (lv_room (Nat.le_of_ble_eq_true rfl)) dX5_passYear_80 ⟨Nat.le_of_ble_eq_true rfl, Nat.le_of_ble_eq_true rfl⟩) hS (h_all hD hS hA) (fun H locs hP hD hS => ?_)
    obtain ⟨T, hT⟩ : ∃ y : hg_S, y = s_grow (s_feeds (s_leaks (s_first S) 3) 4) := ⟨_, rfl⟩
    rw [← hT] at hP hD
    refine lv_aload_n hx hb dX5_passYear_83 rfl (lv_at hl 1 rfl) ?_
    refine va_get (C := RX5) (T := TX5) (N := 6) (v := .ref (o 3)) hx hb hts hi5 hown hK hP 0 rfl rfl 2 (by decide) (hts (.fieldLink RX5 26 "HotGround" "ground" "LHotGround$Ground;") (by decide +kernel)) (fun _ h9 => h9) rfl dX5_passYear_84 ?_
    refine va_get (C := RX0) (T := TX0) (N := 7) (v := .ref (o 19)) hx hb hts hi0 hown hK hP 3 rfl rfl 6 (by decide) (hts (.fieldLink RX5 141 "HotGround$Ground" "sums" "[J") (by decide +kernel)) (fun _ h9 => h9) rfl dX5_passYear_87 ?_
    refine lv_bipush (v := nI 7) hx hb dX5_passYear_90 (by decide) ?_
    refine lv_dup2_11 hx hb dX5_passYear_92 rfl rfl ?_
    refine h_lald (f := hg_l T 2) hx hb hK hP 19 1 rfl rfl 7 (rfl) (by omega) (by decide) dX5_passYear_93 ?_
    refine lv_lconst (v := 1) hx hb dX5_passYear_94 (by decide) ?_
    refine lv_ladd hx hb dX5_passYear_95 ?_
    refine lv_topl (fun z_7 ez_7 => ?_)
    refine h_last (f := hg_l T 2) (ws' := xW o cI cJ cZ (hg_sl T 2 (vp_updL (hg_l T 2) 7 z_7))) hx hb hK hP hD hS 19 1 rfl rfl 7 (rfl) (by omega) (by decide) rfl dX5_passYear_96 (fun H locs hP hD hS => ?_)
    subst ez_7
    rw [show (hg_sl T 2 (vp_updL (hg_l T 2) 7 ((hg_l T 2 7) + 1)) : hg_S) = s_year S from by rw [hT]; rfl] at hP hD
    exact W.vret hx hb hr (fun t ht hW => ⟨⟨(), rfl, trivial, ⟨by rw [ht]; exact hP, hD⟩⟩, hS.F ht⟩) hS.2.2 dX5_passYear_97
set_option maxHeartbeats 4000000 in
set_option maxRecDepth 100000 in
/-- year -/
theorem m_X5_year (l : Launch) (D : va_G) (o : Nat → Nat) (cI cJ cZ : ClassId) (S : hg_S) (sz : Nat) (h0 : hg_n S 0 ≤ 8) (h1 : hg_n S 1 ≤ 4) (hg3 : hg_n S 3 < 4) (hbx : ok_bx S) (hlk : ok_lk S) (n : Int32) : Met l yX5_year wsX5_year ({ frames := 6, cells := 0, slots := 0, locals := 121 }) (va_Pc [.ref (o 0), .int n] (hg_Wr D (xW o cI cJ cZ S) (hg_ty cI cJ cZ) sz)) (va_Qi (fun (r : Int32) (_ : Unit) => r = (r_year S n).1) (fun _ t => hg_At D (xW o cI cJ cZ ((r_year S n).2)) (va_A (xW o cI cJ cZ S) sz) t) (va_A (xW o cI cJ cZ S) sz)) 0 0 (va_A (xW o cI cJ cZ S) sz) := by
  refine h_start (cc := cX5_year) (maxL := 3) (ret := (some .int)) (by decide) rfl (Nat.le_of_ble_eq_true rfl) ?_
  intro pg ev s mi args below meth cd ls hx hb hr hts hown hlocks hml hnm hpic hl
  obtain ⟨hsz, hP, hK, hD0⟩ := hpic
  subst hsz
  have hD := hD0.self (sz := s.heap.size)
  generalize hAe : va_A (xW o cI cJ cZ S) s.heap.size = A at hD ⊢
  have hA : ∀ q : Nat, s.heap.size ≤ q → A q := fun q h => by rw [← hAe]; exact Or.inr h
  have hS : va_S A s.heap s.heap [] := va_S.rf
  have hi0 : ∀ w ∈ u_ws RX0 TX0 7, w ∈ wsX5_year := by decide +kernel
  have hi5 : ∀ w ∈ u_ws RX5 TX5 6, w ∈ wsX5_year := by decide +kernel
  have hl : lv_has ls 3 [(0, .ref (o 0)), (1, .int n)] := hl
  refine lv_iload_n hx hb dX5_year_0 rfl (lv_at hl 1 rfl) ?_
  refine lv_iconst (v := nI 1) hx hb dX5_year_1 (by decide) ?_
  refine lv_bipush (v := nI 20) hx hb dX5_year_2 (by decide) ?_
  refine vp_callSi (va_Run.run (va_runS (As := [.int n, .int (nI 1), .int (nI 20)]) (rest := []) ⟨hx, hb, hml, hown, hts⟩ (m_X5_within l n (nI 1) (nI 20)) (va_cwS 3 hts gX5_year_X5_within rfl rfl rfl (by decide +kernel) ⟨Nat.le_of_ble_eq_true rfl, Nat.le_of_ble_eq_true rfl⟩) (h_preS0) rfl rfl hl.1 rfl (lv_room (Nat.le_of_ble_eq_true rfl)) dX5_year_4 ⟨Nat.le_of_ble_eq_true rfl, Nat.le_of_ble_eq_true rfl⟩)) (fun r_1 hr_1 => ?_)
  subst hr_1
  refine lv_if_ne (tgt := 12) hx hb dX5_year_7 (by decide) (fun c_7 => ?_) (fun c_7 => ?_)
  · skip
    have v_7 : ((nI 1) ≤ n ∧ n ≤ (nI 20)) := hg_in_t c_7
    obtain ⟨kn, knl, knh, rfl⟩ := hg_rng (by decide) (by decide) v_7
    refine lv_iconst (v := nI 0) hx hb dX5_year_12 (by decide) ?_
    refine lv_istore_n (lv' := [(2, .int (nI 0)), (0, .ref (o 0)), (1, .int (nI kn))]) hx hb dX5_year_13 rfl hl (by decide) rfl (fun ls hl => ?_)
    have hP : va_P D vwCl (xW o cI cJ cZ (s_years S 0)) s.heap := hP
    have hD : va_D A (xW o cI cJ cZ (s_years S 0)) := hD
    refine h_forW (nL := 3) (kn) (fun i => [(2, .int (nI i)), (0, .ref (o 0)), (1, .int (nI kn))]) (fun i => xW o cI cJ cZ (s_years S i)) ?_ ?_ (lv_sub hl [0, 1, 2] rfl) hP hD hS
    · intro i ls H locs hi hl hP hD hS ih
      have hl : lv_has ls 3 [(2, .int (nI i)), (0, .ref (o 0)), (1, .int (nI kn))] := hl
      refine lv_iload_n hx hb dX5_year_14 rfl (lv_at hl 0 rfl) ?_
      refine lv_iload_n hx hb dX5_year_15 rfl (lv_at hl 2 rfl) ?_
      refine lv_icmp_ge (tgt := 29) hx hb dX5_year_16 (by decide) (fun c_16 => absurd c_16 (nI_ge hi (by omega))) (fun c_16 => ?_)
      refine lv_aload_n hx hb dX5_year_19 rfl (lv_at hl 1 rfl) ?_
      refine h_callv (w1 := xW o cI cJ cZ (s_year (s_years S i))) (va_runV (As := []) (rest := []) ⟨hx, hb, hml, hown, hts⟩ (m_X5_passYear l D o cI cJ cZ (s_years S i) H.size (by rw [s_years_n]; exact h0) (by rw [s_years_n]; exact h1) (by rw [s_years_n]; exact hg3) (hbx.years i) (hlk.years i)) (cwV 0 hts gX5_year_X5_passYear rfl rfl rfl (by decide +kernel) ⟨Nat.le_of_ble_eq_true rfl, Nat.le_of_ble_eq_true rfl⟩) (h_preW hK hP hD 0 rfl rfl rfl) rfl rfl hl.1 rfl (lv_room (Nat.le_of_ble_eq_true rfl)) dX5_year_20 ⟨Nat.le_of_ble_eq_true rfl, Nat.le_of_ble_eq_true rfl⟩) hS (h_all hD hS hA) (fun H locs hP hD hS => ?_)
      refine lv_iinc (v := nI (i + 1)) (lv' := [(2, .int (nI (i + 1))), (0, .ref (o 0)), (1, .int (nI kn))]) hx hb dX5_year_23 hl (k := 0) rfl (nI_1 _) (by decide) rfl (fun ls hl => ?_)
      refine lv_goto (tgt := 14) hx hb dX5_year_26 (by decide) ?_
      have hP : va_P D vwCl (xW o cI cJ cZ (s_years S (i + 1))) H := hP
      have hD : va_D A (xW o cI cJ cZ (s_years S (i + 1))) := hD
      exact ih ls H locs (lv_sub hl [0, 1, 2] rfl) hP hD hS
    · intro ls H locs hl hP hD hS
      have hl : lv_has ls 3 [(2, .int (nI kn)), (0, .ref (o 0)), (1, .int (nI kn))] := hl
      refine lv_iload_n hx hb dX5_year_14 rfl (lv_at hl 0 rfl) ?_
      refine lv_iload_n hx hb dX5_year_15 rfl (lv_at hl 2 rfl) ?_
      refine lv_icmp_ge (tgt := 29) hx hb dX5_year_16 (by decide) (fun c_16 => ?_) (fun c_16 => absurd (nI_le (Nat.le_refl _) (by omega)) c_16)
      refine lv_aload_n hx hb dX5_year_29 rfl (lv_at hl 1 rfl) ?_
      refine va_get (C := RX5) (T := TX5) (N := 6) (v := .ref (o 3)) hx hb hts hi5 hown hK hP 0 rfl rfl 2 (by decide) (hts (.fieldLink RX5 26 "HotGround" "ground" "LHotGround$Ground;") (by decide +kernel)) (fun _ h9 => h9) rfl dX5_year_30 ?_
      refine va_get (C := RX0) (T := TX0) (N := 7) (v := .ref (o 19)) hx hb hts hi0 hown hK hP 3 rfl rfl 6 (by decide) (hts (.fieldLink RX5 141 "HotGround$Ground" "sums" "[J") (by decide +kernel)) (fun _ h9 => h9) rfl dX5_year_33 ?_
      refine lv_bipush (v := nI 7) hx hb dX5_year_36 (by decide) ?_
      refine h_lald (f := hg_l (s_years S kn) 2) hx hb hK hP 19 1 rfl rfl 7 (rfl) (by omega) (by decide) dX5_year_38 ?_
      refine lv_l2i (v := Int64.toInt32 ((hg_l (s_years S kn) 2) 7)) hx hb dX5_year_39 rfl ?_
      have hq : r_year S (nI kn) = (Int64.toInt32 ((hg_l (s_years S kn) 2) 7), s_years S kn) := by unfold r_year; rw [if_pos v_7]; (try rw [nI_clamp (show kn < 2 ^ 31 by omega)])
      rw [show (s_years S kn : hg_S) = (r_year S (nI kn)).2 from by rw [hq]] at hP hD
      exact W.iret (v := Int64.toInt32 ((hg_l (s_years S kn) 2) 7)) hx hb hr (fun t ht hW => ⟨⟨_, (), rfl, by rw [hq], ⟨by rw [ht]; exact hP, hD⟩⟩, hS.F ht⟩) hS.2.2 dX5_year_40
  · skip
    have v_7 : ¬ ((nI 1) ≤ n ∧ n ≤ (nI 20)) := hg_in_f c_7
    refine lv_iconst (v := -1) hx hb dX5_year_10 (by decide) ?_
    have hq : r_year S n = ((-1), S) := by unfold r_year; rw [if_neg (fun q => v_7 q)]
    rw [show (S : hg_S) = (r_year S n).2 from by rw [hq]] at hP hD
    exact W.iret (v := (-1)) hx hb hr (fun t ht hW => ⟨⟨_, (), rfl, by rw [hq], ⟨by rw [ht]; exact hP, hD⟩⟩, hS.F ht⟩) hS.2.2 dX5_year_11
set_option maxHeartbeats 4000000 in
set_option maxRecDepth 100000 in
/-- box -/
theorem m_X5_box (l : Launch) (D : va_G) (o : Nat → Nat) (cI cJ cZ : ClassId) (S : hg_S) (b q : Int32) : Met l yX5_box wsX5_box ({ frames := 2, cells := 0, slots := 0, locals := 42 }) (va_Pc [.ref (o 0), .int b, .int q] (hg_R D (xW o cI cJ cZ S) (hg_ty cI cJ cZ))) (vp_Sl (fun r => r = a_box S b q)) 0 0 (fun _ => False) := by
  refine h_start (cc := cX5_box) (maxL := 3) (ret := (some .long)) (by decide) rfl (Nat.le_of_ble_eq_true rfl) ?_
  intro pg ev s mi args below meth cd ls hx hb hr hts hown hlocks hml hnm hpic hl
  obtain ⟨hP, hK⟩ := hpic
  have hi0 : ∀ w ∈ u_ws RX0 TX0 7, w ∈ wsX5_box := by decide +kernel
  have hi5 : ∀ w ∈ u_ws RX5 TX5 6, w ∈ wsX5_box := by decide +kernel
  have hl : lv_has ls 3 [(0, .ref (o 0)), (1, .int b), (2, .int q)] := hl
  refine lv_iload_n hx hb dX5_box_0 rfl (lv_at hl 1 rfl) ?_
  refine vp_callSi (va_Run.run (va_runS (As := [.int b]) (rest := []) ⟨hx, hb, hml, hown, hts⟩ (m_X5_isBox l b) (va_cwS 1 hts gX5_box_X5_isBox rfl rfl rfl (by decide +kernel) ⟨Nat.le_of_ble_eq_true rfl, Nat.le_of_ble_eq_true rfl⟩) (h_preS0) rfl rfl hl.1 rfl (lv_room (Nat.le_of_ble_eq_true rfl)) dX5_box_1 ⟨Nat.le_of_ble_eq_true rfl, Nat.le_of_ble_eq_true rfl⟩)) (fun r_1 hr_1 => ?_)
  subst hr_1
  refine lv_if_eq (tgt := 16) hx hb dX5_box_4 (by decide) (fun c_4 => ?_) (fun c_4 => ?_)
  · skip
    have v_4 : ¬ ((nI 0) ≤ b ∧ b ≤ (nI 3)) := hg_in_f c_4
    refine lv_ldc2 (v := -1) hx hb hown (hts (.constantLong RX5 144 (-1)) (by decide +kernel)) dX5_box_16 ?_
    exact W.lret (v := (-1)) hx hb hr (fun t ht hW => ⟨_, rfl, by show (-1) = a_box S b q; unfold a_box; rw [if_neg (fun q => v_4 q.1)], ht⟩) (fun _ h9 => nomatch h9) dX5_box_19
  · skip
    have v_4 : ((nI 0) ≤ b ∧ b ≤ (nI 3)) := hg_in_t c_4
    refine lv_iload_n hx hb dX5_box_7 rfl (lv_at hl 2 rfl) ?_
    refine lv_iconst (v := nI 0) hx hb dX5_box_8 (by decide) ?_
    refine lv_iconst (v := nI 1) hx hb dX5_box_9 (by decide) ?_
    refine vp_callSi (va_Run.run (va_runS (As := [.int q, .int (nI 0), .int (nI 1)]) (rest := []) ⟨hx, hb, hml, hown, hts⟩ (m_X5_within l q (nI 0) (nI 1)) (va_cwS 3 hts gX5_box_X5_within rfl rfl rfl (by decide +kernel) ⟨Nat.le_of_ble_eq_true rfl, Nat.le_of_ble_eq_true rfl⟩) (h_preS0) rfl rfl hl.1 rfl (lv_room (Nat.le_of_ble_eq_true rfl)) dX5_box_10 ⟨Nat.le_of_ble_eq_true rfl, Nat.le_of_ble_eq_true rfl⟩)) (fun r_2 hr_2 => ?_)
    subst hr_2
    refine lv_if_ne (tgt := 20) hx hb dX5_box_13 (by decide) (fun c_13 => ?_) (fun c_13 => ?_)
    · skip
      have v_13 : ((nI 0) ≤ q ∧ q ≤ (nI 1)) := hg_in_t c_13
      obtain ⟨kb, kbl, kbh, rfl⟩ := hg_rng (by decide) (by decide) v_4
      refine lv_iload_n hx hb dX5_box_20 rfl (lv_at hl 2 rfl) ?_
      refine lv_if_ne (tgt := 36) hx hb dX5_box_21 (by decide) (fun c_21 => ?_) (fun c_21 => ?_)
      · skip
        refine lv_aload_n hx hb dX5_box_36 rfl (lv_at hl 0 rfl) ?_
        refine va_get (C := RX5) (T := TX5) (N := 6) (v := .ref (o 3)) hx hb hts hi5 hown hK hP 0 rfl rfl 2 (by decide) (hts (.fieldLink RX5 26 "HotGround" "ground" "LHotGround$Ground;") (by decide +kernel)) (fun _ h9 => h9) rfl dX5_box_37 ?_
        refine va_get (C := RX0) (T := TX0) (N := 7) (v := .ref (o 16)) hx hb hts hi0 hown hK hP 3 rfl rfl 1 (by decide) (hts (.fieldLink RX5 123 "HotGround$Ground" "heat" "[J") (by decide +kernel)) (fun _ h9 => h9) rfl dX5_box_40 ?_
        refine lv_iload_n hx hb dX5_box_43 rfl (lv_at hl 1 rfl) ?_
        refine h_lald (f := hg_l S 1) hx hb hK hP 16 1 rfl rfl kb (rfl) (by omega) (by decide) dX5_box_44 ?_
        exact W.lret (v := hg_l S 1 kb) hx hb hr (fun t ht hW => ⟨_, rfl, by show hg_l S 1 kb = a_box S (nI kb) q; unfold a_box; rw [if_pos (⟨v_4, v_13⟩)]; (try rw [nI_clamp (show kb < 2 ^ 31 by omega)]); rw [if_neg (fun h => c_21 (h.trans nI_0))], ht⟩) (fun _ h9 => nomatch h9) dX5_box_45
      · skip
        refine lv_aload_n hx hb dX5_box_24 rfl (lv_at hl 0 rfl) ?_
        refine va_get (C := RX5) (T := TX5) (N := 6) (v := .ref (o 3)) hx hb hts hi5 hown hK hP 0 rfl rfl 2 (by decide) (hts (.fieldLink RX5 26 "HotGround" "ground" "LHotGround$Ground;") (by decide +kernel)) (fun _ h9 => h9) rfl dX5_box_25 ?_
        refine va_get (C := RX0) (T := TX0) (N := 7) (v := .ref (o 15)) hx hb hts hi0 hown hK hP 3 rfl rfl 0 (by decide) (hts (.fieldLink RX5 119 "HotGround$Ground" "mass" "[J") (by decide +kernel)) (fun _ h9 => h9) rfl dX5_box_28 ?_
        refine lv_iload_n hx hb dX5_box_31 rfl (lv_at hl 1 rfl) ?_
        refine h_lald (f := hg_l S 0) hx hb hK hP 15 1 rfl rfl kb (rfl) (by omega) (by decide) dX5_box_32 ?_
        refine lv_goto (tgt := 45) hx hb dX5_box_33 (by decide) ?_
        exact W.lret (v := hg_l S 0 kb) hx hb hr (fun t ht hW => ⟨_, rfl, by show hg_l S 0 kb = a_box S (nI kb) q; unfold a_box; rw [if_pos (⟨v_4, v_13⟩)]; (try rw [nI_clamp (show kb < 2 ^ 31 by omega)]); rw [if_pos (c_21.trans nI_0.symm)], ht⟩) (fun _ h9 => nomatch h9) dX5_box_45
    · skip
      have v_13 : ¬ ((nI 0) ≤ q ∧ q ≤ (nI 1)) := hg_in_f c_13
      refine lv_ldc2 (v := -1) hx hb hown (hts (.constantLong RX5 144 (-1)) (by decide +kernel)) dX5_box_16 ?_
      exact W.lret (v := (-1)) hx hb hr (fun t ht hW => ⟨_, rfl, by show (-1) = a_box S b q; unfold a_box; rw [if_neg (fun q => v_13 q.2)], ht⟩) (fun _ h9 => nomatch h9) dX5_box_19
set_option maxHeartbeats 4000000 in
set_option maxRecDepth 100000 in
/-- sum -/
theorem m_X5_sum (l : Launch) (D : va_G) (o : Nat → Nat) (cI cJ cZ : ClassId) (S : hg_S) (q : Int32) : Met l yX5_sum wsX5_sum ({ frames := 1, cells := 0, slots := 0, locals := 22 }) (va_Pc [.ref (o 0), .int q] (hg_R D (xW o cI cJ cZ S) (hg_ty cI cJ cZ))) (vp_Sl (fun r => r = a_sum S q)) 0 0 (fun _ => False) := by
  refine h_start (cc := cX5_sum) (maxL := 2) (ret := (some .long)) (by decide) rfl (Nat.le_of_ble_eq_true rfl) ?_
  intro pg ev s mi args below meth cd ls hx hb hr hts hown hlocks hml hnm hpic hl
  obtain ⟨hP, hK⟩ := hpic
  have hi0 : ∀ w ∈ u_ws RX0 TX0 7, w ∈ wsX5_sum := by decide +kernel
  have hi5 : ∀ w ∈ u_ws RX5 TX5 6, w ∈ wsX5_sum := by decide +kernel
  have hl : lv_has ls 2 [(0, .ref (o 0)), (1, .int q)] := hl
  refine lv_iload_n hx hb dX5_sum_0 rfl (lv_at hl 1 rfl) ?_
  refine lv_iconst (v := nI 0) hx hb dX5_sum_1 (by decide) ?_
  refine lv_bipush (v := nI 8) hx hb dX5_sum_2 (by decide) ?_
  refine vp_callSi (va_Run.run (va_runS (As := [.int q, .int (nI 0), .int (nI 8)]) (rest := []) ⟨hx, hb, hml, hown, hts⟩ (m_X5_within l q (nI 0) (nI 8)) (va_cwS 3 hts gX5_sum_X5_within rfl rfl rfl (by decide +kernel) ⟨Nat.le_of_ble_eq_true rfl, Nat.le_of_ble_eq_true rfl⟩) (h_preS0) rfl rfl hl.1 rfl (lv_room (Nat.le_of_ble_eq_true rfl)) dX5_sum_4 ⟨Nat.le_of_ble_eq_true rfl, Nat.le_of_ble_eq_true rfl⟩)) (fun r_1 hr_1 => ?_)
  subst hr_1
  refine lv_if_ne (tgt := 14) hx hb dX5_sum_7 (by decide) (fun c_7 => ?_) (fun c_7 => ?_)
  · skip
    have v_7 : ((nI 0) ≤ q ∧ q ≤ (nI 8)) := hg_in_t c_7
    obtain ⟨kq, kql, kqh, rfl⟩ := hg_rng (by decide) (by decide) v_7
    refine lv_aload_n hx hb dX5_sum_14 rfl (lv_at hl 0 rfl) ?_
    refine va_get (C := RX5) (T := TX5) (N := 6) (v := .ref (o 3)) hx hb hts hi5 hown hK hP 0 rfl rfl 2 (by decide) (hts (.fieldLink RX5 26 "HotGround" "ground" "LHotGround$Ground;") (by decide +kernel)) (fun _ h9 => h9) rfl dX5_sum_15 ?_
    refine va_get (C := RX0) (T := TX0) (N := 7) (v := .ref (o 19)) hx hb hts hi0 hown hK hP 3 rfl rfl 6 (by decide) (hts (.fieldLink RX5 141 "HotGround$Ground" "sums" "[J") (by decide +kernel)) (fun _ h9 => h9) rfl dX5_sum_18 ?_
    refine lv_iload_n hx hb dX5_sum_21 rfl (lv_at hl 1 rfl) ?_
    refine h_lald (f := hg_l S 2) hx hb hK hP 19 1 rfl rfl kq (rfl) (by omega) (by decide) dX5_sum_22 ?_
    exact W.lret (v := hg_l S 2 kq) hx hb hr (fun t ht hW => ⟨_, rfl, by show hg_l S 2 kq = a_sum S (nI kq); unfold a_sum; rw [if_pos v_7]; (try rw [nI_clamp (show kq < 2 ^ 31 by omega)]), ht⟩) (fun _ h9 => nomatch h9) dX5_sum_23
  · skip
    have v_7 : ¬ ((nI 0) ≤ q ∧ q ≤ (nI 8)) := hg_in_f c_7
    refine lv_ldc2 (v := -1) hx hb hown (hts (.constantLong RX5 144 (-1)) (by decide +kernel)) dX5_sum_10 ?_
    exact W.lret (v := (-1)) hx hb hr (fun t ht hW => ⟨_, rfl, by show (-1) = a_sum S q; unfold a_sum; rw [if_neg (fun q => v_7 q)], ht⟩) (fun _ h9 => nomatch h9) dX5_sum_13
set_option maxHeartbeats 4000000 in
set_option maxRecDepth 100000 in
/-- share -/
theorem m_X5_share (l : Launch) (D : va_G) (o : Nat → Nat) (cI cJ cZ : ClassId) (S : hg_S) (sz : Nat) (k v : Int32) : Met l yX5_share wsX5_share ({ frames := 1, cells := 0, slots := 0, locals := 22 }) (va_Pc [.ref (o 0), .int k, .int v] (hg_Wr D (xW o cI cJ cZ S) (hg_ty cI cJ cZ) sz)) (va_Qi (fun (r : Int32) (_ : Unit) => r = (r_share S k v).1) (fun _ t => hg_At D (xW o cI cJ cZ ((r_share S k v).2)) (va_A (xW o cI cJ cZ S) sz) t) (va_A (xW o cI cJ cZ S) sz)) 0 0 (va_A (xW o cI cJ cZ S) sz) := by
  refine h_start (cc := cX5_share) (maxL := 4) (ret := (some .int)) (by decide) rfl (Nat.le_of_ble_eq_true rfl) ?_
  intro pg ev s mi args below meth cd ls hx hb hr hts hown hlocks hml hnm hpic hl
  obtain ⟨hsz, hP, hK, hD0⟩ := hpic
  subst hsz
  have hD := hD0.self (sz := s.heap.size)
  generalize hAe : va_A (xW o cI cJ cZ S) s.heap.size = A at hD ⊢
  have hA : ∀ q : Nat, s.heap.size ≤ q → A q := fun q h => by rw [← hAe]; exact Or.inr h
  have hS : va_S A s.heap s.heap [] := va_S.rf
  have hi1 : ∀ w ∈ u_ws RX1 TX1 3, w ∈ wsX5_share := by decide +kernel
  have hi5 : ∀ w ∈ u_ws RX5 TX5 6, w ∈ wsX5_share := by decide +kernel
  have hl : lv_has ls 4 [(0, .ref (o 0)), (1, .int k), (2, .int v)] := hl
  refine lv_iload_n hx hb dX5_share_0 rfl (lv_at hl 1 rfl) ?_
  refine lv_iconst (v := nI 0) hx hb dX5_share_1 (by decide) ?_
  refine lv_iconst (v := nI 5) hx hb dX5_share_2 (by decide) ?_
  refine vp_callSi (va_Run.run (va_runS (As := [.int k, .int (nI 0), .int (nI 5)]) (rest := []) ⟨hx, hb, hml, hown, hts⟩ (m_X5_within l k (nI 0) (nI 5)) (va_cwS 3 hts gX5_share_X5_within rfl rfl rfl (by decide +kernel) ⟨Nat.le_of_ble_eq_true rfl, Nat.le_of_ble_eq_true rfl⟩) (h_preS0) rfl rfl hl.1 rfl (lv_room (Nat.le_of_ble_eq_true rfl)) dX5_share_3 ⟨Nat.le_of_ble_eq_true rfl, Nat.le_of_ble_eq_true rfl⟩)) (fun r_1 hr_1 => ?_)
  subst hr_1
  refine lv_if_eq (tgt := 20) hx hb dX5_share_6 (by decide) (fun c_6 => ?_) (fun c_6 => ?_)
  · skip
    have v_6 : ¬ ((nI 0) ≤ k ∧ k ≤ (nI 5)) := hg_in_f c_6
    refine lv_iconst (v := -1) hx hb dX5_share_20 (by decide) ?_
    have hq : r_share S k v = ((-1), S) := by unfold r_share; rw [if_neg (fun q => v_6 q.1)]
    rw [show (S : hg_S) = (r_share S k v).2 from by rw [hq]] at hP hD
    exact W.iret (v := (-1)) hx hb hr (fun t ht hW => ⟨⟨_, (), rfl, by rw [hq], ⟨by rw [ht]; exact hP, hD⟩⟩, hS.F ht⟩) hS.2.2 dX5_share_21
  · skip
    have v_6 : ((nI 0) ≤ k ∧ k ≤ (nI 5)) := hg_in_t c_6
    refine lv_iload_n hx hb dX5_share_9 rfl (lv_at hl 2 rfl) ?_
    refine lv_iconst (v := nI 0) hx hb dX5_share_10 (by decide) ?_
    refine lv_sipush (v := nI 1000) hx hb dX5_share_11 (by decide) ?_
    refine vp_callSi (va_Run.run (va_runS (As := [.int v, .int (nI 0), .int (nI 1000)]) (rest := []) ⟨hx, hb, hml, hown, hts⟩ (m_X5_within l v (nI 0) (nI 1000)) (va_cwS 3 hts gX5_share_X5_within rfl rfl rfl (by decide +kernel) ⟨Nat.le_of_ble_eq_true rfl, Nat.le_of_ble_eq_true rfl⟩) (h_preS0) rfl rfl hl.1 rfl (lv_room (Nat.le_of_ble_eq_true rfl)) dX5_share_14 ⟨Nat.le_of_ble_eq_true rfl, Nat.le_of_ble_eq_true rfl⟩)) (fun r_2 hr_2 => ?_)
    subst hr_2
    refine lv_if_ne (tgt := 22) hx hb dX5_share_17 (by decide) (fun c_17 => ?_) (fun c_17 => ?_)
    · skip
      have v_17 : ((nI 0) ≤ v ∧ v ≤ (nI 1000)) := hg_in_t c_17
      obtain ⟨kk, kkl, kkh, rfl⟩ := hg_rng (by decide) (by decide) v_6
      refine lv_aload_n hx hb dX5_share_22 rfl (lv_at hl 0 rfl) ?_
      refine va_get (C := RX5) (T := TX5) (N := 6) (v := .ref (o 4)) hx hb hts hi5 hown hK hP 0 rfl rfl 3 (by decide) (hts (.fieldLink RX5 33 "HotGround" "kernel" "LHotGround$Kernel;") (by decide +kernel)) (fun _ h9 => h9) rfl dX5_share_23 ?_
      refine va_get (C := RX1) (T := TX1) (N := 3) (v := .ref (o 20)) hx hb hts hi1 hown hK hP 4 rfl rfl 1 (by decide) (hts (.fieldLink RX5 146 "HotGround$Kernel" "shares" "[I") (by decide +kernel)) (fun _ h9 => h9) rfl dX5_share_26 ?_
      refine lv_iload_n hx hb dX5_share_29 rfl (lv_at hl 1 rfl) ?_
      refine h_iald (f := hg_i S 11) hx hb hK hP 20 0 rfl rfl kk (rfl) (by omega) (by decide) dX5_share_30 ?_
      refine lv_istore_n (lv' := [(3, .int (hg_i S 11 kk)), (0, .ref (o 0)), (1, .int (nI kk)), (2, .int v)]) hx hb dX5_share_31 rfl hl (by decide) rfl (fun ls hl => ?_)
      refine lv_aload_n hx hb dX5_share_32 rfl (lv_at hl 1 rfl) ?_
      refine va_get (C := RX5) (T := TX5) (N := 6) (v := .ref (o 4)) hx hb hts hi5 hown hK hP 0 rfl rfl 3 (by decide) (hts (.fieldLink RX5 33 "HotGround" "kernel" "LHotGround$Kernel;") (by decide +kernel)) (fun _ h9 => h9) rfl dX5_share_33 ?_
      refine vp_callSi (va_Run.run (va_runV (As := []) (rest := []) ⟨hx, hb, hml, hown, hts⟩ (m_X1_together l D o cI cJ cZ S) (cwV 0 hts gX5_share_X1_together rfl rfl rfl (by decide +kernel) ⟨Nat.le_of_ble_eq_true rfl, Nat.le_of_ble_eq_true rfl⟩) (h_preR hK hP 4 rfl rfl rfl) rfl rfl hl.1 rfl (lv_room (Nat.le_of_ble_eq_true rfl)) dX5_share_36 ⟨Nat.le_of_ble_eq_true rfl, Nat.le_of_ble_eq_true rfl⟩)) (fun r_3 hr_3 => ?_)
      subst hr_3
      refine lv_iload_n hx hb dX5_share_39 rfl (lv_at hl 0 rfl) ?_
      refine lv_isub hx hb dX5_share_40 ?_
      refine lv_iload_n hx hb dX5_share_41 rfl (lv_at hl 3 rfl) ?_
      refine lv_iadd hx hb dX5_share_42 ?_
      refine h_topi (y := f_shr S kk v) (rfl) ?_
      refine lv_sipush (v := nI 1000) hx hb dX5_share_43 (by decide) ?_
      refine lv_icmp_le (tgt := 51) hx hb dX5_share_46 (by decide) (fun c_46 => ?_) (fun c_46 => ?_)
      · skip
        refine lv_aload_n hx hb dX5_share_51 rfl (lv_at hl 1 rfl) ?_
        refine va_get (C := RX5) (T := TX5) (N := 6) (v := .ref (o 4)) hx hb hts hi5 hown hK hP 0 rfl rfl 3 (by decide) (hts (.fieldLink RX5 33 "HotGround" "kernel" "LHotGround$Kernel;") (by decide +kernel)) (fun _ h9 => h9) rfl dX5_share_52 ?_
        refine va_get (C := RX1) (T := TX1) (N := 3) (v := .ref (o 20)) hx hb hts hi1 hown hK hP 4 rfl rfl 1 (by decide) (hts (.fieldLink RX5 146 "HotGround$Kernel" "shares" "[I") (by decide +kernel)) (fun _ h9 => h9) rfl dX5_share_55 ?_
        refine lv_iload_n hx hb dX5_share_58 rfl (lv_at hl 2 rfl) ?_
        refine lv_iload_n hx hb dX5_share_59 rfl (lv_at hl 3 rfl) ?_
        refine h_iast (f := hg_i S 11) (ws' := xW o cI cJ cZ (hg_si S 11 (upd (hg_i S 11) kk v))) hx hb hK hP hD hS 20 0 rfl rfl kk (rfl) (by omega) (by decide) rfl dX5_share_60 (fun H locs hP hD hS => ?_)
        refine lv_iload_n hx hb dX5_share_61 rfl (lv_at hl 0 rfl) ?_
        have hq : r_share S (nI kk) v = (hg_i S 11 kk, hg_si S 11 (upd (hg_i S 11) kk v)) := by unfold r_share; rw [if_pos ⟨v_6, v_17, by rw [nI_clamp (show kk < 2 ^ 31 by omega)]; exact c_46⟩, nI_clamp (show kk < 2 ^ 31 by omega)]
        rw [show (hg_si S 11 (upd (hg_i S 11) kk v) : hg_S) = (r_share S (nI kk) v).2 from by rw [hq]] at hP hD
        exact W.iret (v := hg_i S 11 kk) hx hb hr (fun t ht hW => ⟨⟨_, (), rfl, by rw [hq], ⟨by rw [ht]; exact hP, hD⟩⟩, hS.F ht⟩) hS.2.2 dX5_share_62
      · skip
        refine lv_iconst (v := -1) hx hb dX5_share_49 (by decide) ?_
        have hq : r_share S (nI kk) v = ((-1), S) := by unfold r_share; rw [if_neg (fun q => c_46 (by have := q.2.2; rw [nI_clamp (show kk < 2 ^ 31 by omega)] at this; exact this))]
        rw [show (S : hg_S) = (r_share S (nI kk) v).2 from by rw [hq]] at hP hD
        exact W.iret (v := (-1)) hx hb hr (fun t ht hW => ⟨⟨_, (), rfl, by rw [hq], ⟨by rw [ht]; exact hP, hD⟩⟩, hS.F ht⟩) hS.2.2 dX5_share_50
    · skip
      have v_17 : ¬ ((nI 0) ≤ v ∧ v ≤ (nI 1000)) := hg_in_f c_17
      refine lv_iconst (v := -1) hx hb dX5_share_20 (by decide) ?_
      have hq : r_share S k v = ((-1), S) := by unfold r_share; rw [if_neg (fun q => v_17 q.2.1)]
      rw [show (S : hg_S) = (r_share S k v).2 from by rw [hq]] at hP hD
      exact W.iret (v := (-1)) hx hb hr (fun t ht hW => ⟨⟨_, (), rfl, by rw [hq], ⟨by rw [ht]; exact hP, hD⟩⟩, hS.F ht⟩) hS.2.2 dX5_share_21
set_option maxHeartbeats 4000000 in
set_option maxRecDepth 100000 in
/-- put -/
theorem m_X5_put (l : Launch) (D : va_G) (o : Nat → Nat) (cI cJ cZ : ClassId) (S : hg_S) (sz : Nat) (h4 : hg_n S 4 ≤ 12) (v : Int32) : Met l yX5_put wsX5_put ({ frames := 1, cells := 0, slots := 0, locals := 22 }) (va_Pc [.ref (o 0), .int v] (hg_Wr D (xW o cI cJ cZ S) (hg_ty cI cJ cZ) sz)) (va_Qi (fun (r : Int32) (_ : Unit) => r = (r_put S v).1) (fun _ t => hg_At D (xW o cI cJ cZ ((r_put S v).2)) (va_A (xW o cI cJ cZ S) sz) t) (va_A (xW o cI cJ cZ S) sz)) 0 0 (va_A (xW o cI cJ cZ S) sz) := by
  refine h_start (cc := cX5_put) (maxL := 2) (ret := (some .int)) (by decide) rfl (Nat.le_of_ble_eq_true rfl) ?_
  intro pg ev s mi args below meth cd ls hx hb hr hts hown hlocks hml hnm hpic hl
  obtain ⟨hsz, hP, hK, hD0⟩ := hpic
  subst hsz
  have hD := hD0.self (sz := s.heap.size)
  generalize hAe : va_A (xW o cI cJ cZ S) s.heap.size = A at hD ⊢
  have hA : ∀ q : Nat, s.heap.size ≤ q → A q := fun q h => by rw [← hAe]; exact Or.inr h
  have hS : va_S A s.heap s.heap [] := va_S.rf
  have hi1 : ∀ w ∈ u_ws RX1 TX1 3, w ∈ wsX5_put := by decide +kernel
  have hi5 : ∀ w ∈ u_ws RX5 TX5 6, w ∈ wsX5_put := by decide +kernel
  have hl : lv_has ls 2 [(0, .ref (o 0)), (1, .int v)] := hl
  refine lv_iload_n hx hb dX5_put_0 rfl (lv_at hl 1 rfl) ?_
  refine lv_iconst (v := nI 0) hx hb dX5_put_1 (by decide) ?_
  refine lv_ldc (v := 1000000) hx hb hown (hts (.constant RX5 152 (1000000)) (by decide +kernel)) dX5_put_2 ?_
  refine h_topi (y := nI 1000000) (by decide) ?_
  refine vp_callSi (va_Run.run (va_runS (As := [.int v, .int (nI 0), .int (nI 1000000)]) (rest := []) ⟨hx, hb, hml, hown, hts⟩ (m_X5_within l v (nI 0) (nI 1000000)) (va_cwS 3 hts gX5_put_X5_within rfl rfl rfl (by decide +kernel) ⟨Nat.le_of_ble_eq_true rfl, Nat.le_of_ble_eq_true rfl⟩) (h_preS0) rfl rfl hl.1 rfl (lv_room (Nat.le_of_ble_eq_true rfl)) dX5_put_4 ⟨Nat.le_of_ble_eq_true rfl, Nat.le_of_ble_eq_true rfl⟩)) (fun r_1 hr_1 => ?_)
  subst hr_1
  refine lv_if_ne (tgt := 12) hx hb dX5_put_7 (by decide) (fun c_7 => ?_) (fun c_7 => ?_)
  · skip
    have v_7 : ((nI 0) ≤ v ∧ v ≤ (nI 1000000)) := hg_in_t c_7
    refine lv_aload_n hx hb dX5_put_12 rfl (lv_at hl 0 rfl) ?_
    refine va_get (C := RX5) (T := TX5) (N := 6) (v := .ref (o 4)) hx hb hts hi5 hown hK hP 0 rfl rfl 3 (by decide) (hts (.fieldLink RX5 33 "HotGround" "kernel" "LHotGround$Kernel;") (by decide +kernel)) (fun _ h9 => h9) rfl dX5_put_13 ?_
    refine va_get (C := RX1) (T := TX1) (N := 3) (v := .int (nI (hg_n S 4))) hx hb hts hi1 hown hK hP 4 rfl rfl 0 (by decide) (hts (.fieldLink RX5 153 "HotGround$Kernel" "count" "I") (by decide +kernel)) (fun _ h9 => h9) rfl dX5_put_16 ?_
    refine lv_bipush (v := nI 12) hx hb dX5_put_19 (by decide) ?_
    refine lv_icmp_lt (tgt := 27) hx hb dX5_put_21 (by decide) (fun c_21 => ?_) (fun c_21 => ?_)
    · skip
      have hc : hg_n S 4 < 12 := (nI_ltI (by omega) (by omega)).mp c_21
      refine lv_aload_n hx hb dX5_put_27 rfl (lv_at hl 0 rfl) ?_
      refine va_get (C := RX5) (T := TX5) (N := 6) (v := .ref (o 4)) hx hb hts hi5 hown hK hP 0 rfl rfl 3 (by decide) (hts (.fieldLink RX5 33 "HotGround" "kernel" "LHotGround$Kernel;") (by decide +kernel)) (fun _ h9 => h9) rfl dX5_put_28 ?_
      refine va_get (C := RX1) (T := TX1) (N := 3) (v := .ref (o 21)) hx hb hts hi1 hown hK hP 4 rfl rfl 2 (by decide) (hts (.fieldLink RX5 154 "HotGround$Kernel" "amounts" "[I") (by decide +kernel)) (fun _ h9 => h9) rfl dX5_put_31 ?_
      refine lv_aload_n hx hb dX5_put_34 rfl (lv_at hl 0 rfl) ?_
      refine va_get (C := RX5) (T := TX5) (N := 6) (v := .ref (o 4)) hx hb hts hi5 hown hK hP 0 rfl rfl 3 (by decide) (hts (.fieldLink RX5 33 "HotGround" "kernel" "LHotGround$Kernel;") (by decide +kernel)) (fun _ h9 => h9) rfl dX5_put_35 ?_
      refine va_get (C := RX1) (T := TX1) (N := 3) (v := .int (nI (hg_n S 4))) hx hb hts hi1 hown hK hP 4 rfl rfl 0 (by decide) (hts (.fieldLink RX5 153 "HotGround$Kernel" "count" "I") (by decide +kernel)) (fun _ h9 => h9) rfl dX5_put_38 ?_
      refine lv_iload_n hx hb dX5_put_41 rfl (lv_at hl 1 rfl) ?_
      refine h_iast (f := hg_i S 12) (ws' := xW o cI cJ cZ (hg_si S 12 (upd (hg_i S 12) (hg_n S 4) v))) hx hb hK hP hD hS 21 0 rfl rfl (hg_n S 4) (rfl) (by omega) (by decide) rfl dX5_put_42 (fun H locs hP hD hS => ?_)
      refine lv_aload_n hx hb dX5_put_43 rfl (lv_at hl 0 rfl) ?_
      refine va_get (C := RX5) (T := TX5) (N := 6) (v := .ref (o 4)) hx hb hts hi5 hown hK hP 0 rfl rfl 3 (by decide) (hts (.fieldLink RX5 33 "HotGround" "kernel" "LHotGround$Kernel;") (by decide +kernel)) (fun _ h9 => h9) rfl dX5_put_44 ?_
      refine lv_dup hx hb dX5_put_47 rfl ?_
      refine va_get (C := RX1) (T := TX1) (N := 3) (v := .int (nI (hg_n S 4))) hx hb hts hi1 hown hK hP 4 rfl rfl 0 (by decide) (hts (.fieldLink RX5 153 "HotGround$Kernel" "count" "I") (by decide +kernel)) (fun _ h9 => h9) rfl dX5_put_48 ?_
      refine lv_iconst (v := nI 1) hx hb dX5_put_51 (by decide) ?_
      refine lv_iadd hx hb dX5_put_52 ?_
      refine h_topi (y := nI ((hg_n S 4) + 1)) (nI_add _ _) ?_
      refine h_put (C := RX1) (T := TX1) (N := 3) (v := .int (nI ((hg_n S 4) + 1))) (ty := .int) (ws' := xW o cI cJ cZ (hg_sn (hg_si S 12 (upd (hg_i S 12) (hg_n S 4) v)) 4 ((hg_n S 4) + 1))) hx hb hts hi1 tyX1 tyX1_ok nmX1 hown hK hP hD hS 4 rfl rfl 0 (by decide) (hts (.fieldLink RX5 153 "HotGround$Kernel" "count" "I") (by decide +kernel)) (fun _ h9 => h9) rfl (by decide +kernel) rfl rfl (Nat.le_of_ble_eq_true rfl) rfl dX5_put_53 (fun H locs hP hD hS => ?_)
      refine lv_aload_n hx hb dX5_put_56 rfl (lv_at hl 0 rfl) ?_
      refine va_get (C := RX5) (T := TX5) (N := 6) (v := .ref (o 4)) hx hb hts hi5 hown hK hP 0 rfl rfl 3 (by decide) (hts (.fieldLink RX5 33 "HotGround" "kernel" "LHotGround$Kernel;") (by decide +kernel)) (fun _ h9 => h9) rfl dX5_put_57 ?_
      refine va_get (C := RX1) (T := TX1) (N := 3) (v := .int (nI ((hg_n S 4) + 1))) hx hb hts hi1 hown hK hP 4 rfl rfl 0 (by decide) (hts (.fieldLink RX5 153 "HotGround$Kernel" "count" "I") (by decide +kernel)) (fun _ h9 => h9) rfl dX5_put_60 ?_
      have hq : r_put S v = (nI ((hg_n S 4) + 1), hg_sn (hg_si S 12 (upd (hg_i S 12) (hg_n S 4) v)) 4 ((hg_n S 4) + 1)) := by unfold r_put; rw [if_pos v_7]; rw [if_pos (by omega)]
      rw [show (hg_sn (hg_si S 12 (upd (hg_i S 12) (hg_n S 4) v)) 4 ((hg_n S 4) + 1) : hg_S) = (r_put S v).2 from by rw [hq]] at hP hD
      exact W.iret (v := nI ((hg_n S 4) + 1)) hx hb hr (fun t ht hW => ⟨⟨_, (), rfl, by rw [hq], ⟨by rw [ht]; exact hP, hD⟩⟩, hS.F ht⟩) hS.2.2 dX5_put_63
    · skip
      have hc : ¬ hg_n S 4 < 12 := fun h => c_21 ((nI_ltI (by omega) (by omega)).mpr h)
      refine lv_bipush (v := -3) hx hb dX5_put_24 (by decide) ?_
      have hq : r_put S v = ((-3), S) := by unfold r_put; rw [if_pos v_7]; rw [if_neg (by omega)]
      rw [show (S : hg_S) = (r_put S v).2 from by rw [hq]] at hP hD
      exact W.iret (v := (-3)) hx hb hr (fun t ht hW => ⟨⟨_, (), rfl, by rw [hq], ⟨by rw [ht]; exact hP, hD⟩⟩, hS.F ht⟩) hS.2.2 dX5_put_26
  · skip
    have v_7 : ¬ ((nI 0) ≤ v ∧ v ≤ (nI 1000000)) := hg_in_f c_7
    refine lv_iconst (v := -1) hx hb dX5_put_10 (by decide) ?_
    have hq : r_put S v = ((-1), S) := by unfold r_put; rw [if_neg (fun q => v_7 q)]
    rw [show (S : hg_S) = (r_put S v).2 from by rw [hq]] at hP hD
    exact W.iret (v := (-1)) hx hb hr (fun t ht hW => ⟨⟨_, (), rfl, by rw [hq], ⟨by rw [ht]; exact hP, hD⟩⟩, hS.F ht⟩) hS.2.2 dX5_put_11
set_option maxHeartbeats 4000000 in
set_option maxRecDepth 100000 in
/-- back -/
theorem m_X5_back (l : Launch) (D : va_G) (o : Nat → Nat) (cI cJ cZ : ClassId) (S : hg_S) (h4 : hg_n S 4 ≤ 12) (y : Int32) : Met l yX5_back wsX5_back ({ frames := 1, cells := 0, slots := 0, locals := 24 }) (va_Pc [.ref (o 0), .int y] (hg_R D (xW o cI cJ cZ S) (hg_ty cI cJ cZ))) (vp_Si (fun r => r = a_back S y)) 0 0 (fun _ => False) := by
  refine h_start (cc := cX5_back) (maxL := 2) (ret := (some .int)) (by decide) rfl (Nat.le_of_ble_eq_true rfl) ?_
  intro pg ev s mi args below meth cd ls hx hb hr hts hown hlocks hml hnm hpic hl
  obtain ⟨hP, hK⟩ := hpic
  have hi5 : ∀ w ∈ u_ws RX5 TX5 6, w ∈ wsX5_back := by decide +kernel
  have hl : lv_has ls 2 [(0, .ref (o 0)), (1, .int y)] := hl
  refine lv_iload_n hx hb dX5_back_0 rfl (lv_at hl 1 rfl) ?_
  refine lv_iconst (v := nI 0) hx hb dX5_back_1 (by decide) ?_
  refine lv_bipush (v := nI 16) hx hb dX5_back_2 (by decide) ?_
  refine vp_callSi (va_Run.run (va_runS (As := [.int y, .int (nI 0), .int (nI 16)]) (rest := []) ⟨hx, hb, hml, hown, hts⟩ (m_X5_within l y (nI 0) (nI 16)) (va_cwS 3 hts gX5_back_X5_within rfl rfl rfl (by decide +kernel) ⟨Nat.le_of_ble_eq_true rfl, Nat.le_of_ble_eq_true rfl⟩) (h_preS0) rfl rfl hl.1 rfl (lv_room (Nat.le_of_ble_eq_true rfl)) dX5_back_4 ⟨Nat.le_of_ble_eq_true rfl, Nat.le_of_ble_eq_true rfl⟩)) (fun r_1 hr_1 => ?_)
  subst hr_1
  refine lv_if_ne (tgt := 12) hx hb dX5_back_7 (by decide) (fun c_7 => ?_) (fun c_7 => ?_)
  · skip
    have v_7 : ((nI 0) ≤ y ∧ y ≤ (nI 16)) := hg_in_t c_7
    obtain ⟨ky, kyl, kyh, rfl⟩ := hg_rng (by decide) (by decide) v_7
    refine lv_aload_n hx hb dX5_back_12 rfl (lv_at hl 0 rfl) ?_
    refine va_get (C := RX5) (T := TX5) (N := 6) (v := .ref (o 4)) hx hb hts hi5 hown hK hP 0 rfl rfl 3 (by decide) (hts (.fieldLink RX5 33 "HotGround" "kernel" "LHotGround$Kernel;") (by decide +kernel)) (fun _ h9 => h9) rfl dX5_back_13 ?_
    refine lv_iload_n hx hb dX5_back_16 rfl (lv_at hl 1 rfl) ?_
    refine vp_callSi (va_Run.run (va_runV (As := [.int (nI ky)]) (rest := []) ⟨hx, hb, hml, hown, hts⟩ (m_X1_comes l D o cI cJ cZ S h4 ky (by omega)) (cwV 1 hts gX5_back_X1_comes rfl rfl rfl (by decide +kernel) ⟨Nat.le_of_ble_eq_true rfl, Nat.le_of_ble_eq_true rfl⟩) (h_preR hK hP 4 rfl rfl rfl) rfl rfl hl.1 rfl (lv_room (Nat.le_of_ble_eq_true rfl)) dX5_back_17 ⟨Nat.le_of_ble_eq_true rfl, Nat.le_of_ble_eq_true rfl⟩)) (fun r_2 hr_2 => ?_)
    subst hr_2
    exact W.iret (v := f_comes S ky) hx hb hr (fun t ht hW => ⟨_, rfl, by show f_comes S ky = a_back S (nI ky); unfold a_back; rw [if_pos v_7]; (try rw [nI_clamp (show ky < 2 ^ 31 by omega)]), ht⟩) (fun _ h9 => nomatch h9) dX5_back_20
  · skip
    have v_7 : ¬ ((nI 0) ≤ y ∧ y ≤ (nI 16)) := hg_in_f c_7
    refine lv_iconst (v := -1) hx hb dX5_back_10 (by decide) ?_
    exact W.iret (v := (-1)) hx hb hr (fun t ht hW => ⟨_, rfl, by show (-1) = a_back S y; unfold a_back; rw [if_neg (fun q => v_7 q)], ht⟩) (fun _ h9 => nomatch h9) dX5_back_11
set_option maxHeartbeats 4000000 in
set_option maxRecDepth 100000 in
/-- cut -/
theorem m_X5_cut (l : Launch) (D : va_G) (o : Nat → Nat) (cI cJ cZ : ClassId) (S : hg_S) (sz : Nat) (h4 : hg_n S 4 ≤ 12)  : Met l yX5_cut wsX5_cut ({ frames := 0, cells := 0, slots := 0, locals := 0 }) (va_Pc [.ref (o 0)] (hg_Wr D (xW o cI cJ cZ S) (hg_ty cI cJ cZ) sz)) (va_Qi (fun (r : Int32) (_ : Unit) => r = (r_cut S).1) (fun _ t => hg_At D (xW o cI cJ cZ ((r_cut S).2)) (va_A (xW o cI cJ cZ S) sz) t) (va_A (xW o cI cJ cZ S) sz)) 0 0 (va_A (xW o cI cJ cZ S) sz) := by
  refine h_start (cc := cX5_cut) (maxL := 1) (ret := (some .int)) (by decide) rfl (Nat.le_of_ble_eq_true rfl) ?_
  intro pg ev s mi args below meth cd ls hx hb hr hts hown hlocks hml hnm hpic hl
  obtain ⟨hsz, hP, hK, hD0⟩ := hpic
  subst hsz
  have hD := hD0.self (sz := s.heap.size)
  generalize hAe : va_A (xW o cI cJ cZ S) s.heap.size = A at hD ⊢
  have hA : ∀ q : Nat, s.heap.size ≤ q → A q := fun q h => by rw [← hAe]; exact Or.inr h
  have hS : va_S A s.heap s.heap [] := va_S.rf
  have hi1 : ∀ w ∈ u_ws RX1 TX1 3, w ∈ wsX5_cut := by decide +kernel
  have hi5 : ∀ w ∈ u_ws RX5 TX5 6, w ∈ wsX5_cut := by decide +kernel
  have hl : lv_has ls 1 [(0, .ref (o 0))] := hl
  refine lv_aload_n hx hb dX5_cut_0 rfl (lv_at hl 0 rfl) ?_
  refine va_get (C := RX5) (T := TX5) (N := 6) (v := .ref (o 4)) hx hb hts hi5 hown hK hP 0 rfl rfl 3 (by decide) (hts (.fieldLink RX5 33 "HotGround" "kernel" "LHotGround$Kernel;") (by decide +kernel)) (fun _ h9 => h9) rfl dX5_cut_1 ?_
  refine va_get (C := RX1) (T := TX1) (N := 3) (v := .int (nI (hg_n S 4))) hx hb hts hi1 hown hK hP 4 rfl rfl 0 (by decide) (hts (.fieldLink RX5 153 "HotGround$Kernel" "count" "I") (by decide +kernel)) (fun _ h9 => h9) rfl dX5_cut_4 ?_
  refine lv_if_gt (tgt := 13) hx hb dX5_cut_7 (by decide) (fun c_7 => ?_) (fun c_7 => ?_)
  · skip
    have hc : 0 < hg_n S 4 := by have := hg_lt.mp c_7; rw [i_z, nI_toInt (by omega)] at this; omega
    refine lv_aload_n hx hb dX5_cut_13 rfl (lv_at hl 0 rfl) ?_
    refine va_get (C := RX5) (T := TX5) (N := 6) (v := .ref (o 4)) hx hb hts hi5 hown hK hP 0 rfl rfl 3 (by decide) (hts (.fieldLink RX5 33 "HotGround" "kernel" "LHotGround$Kernel;") (by decide +kernel)) (fun _ h9 => h9) rfl dX5_cut_14 ?_
    refine lv_dup hx hb dX5_cut_17 rfl ?_
    refine va_get (C := RX1) (T := TX1) (N := 3) (v := .int (nI (hg_n S 4))) hx hb hts hi1 hown hK hP 4 rfl rfl 0 (by decide) (hts (.fieldLink RX5 153 "HotGround$Kernel" "count" "I") (by decide +kernel)) (fun _ h9 => h9) rfl dX5_cut_18 ?_
    refine lv_iconst (v := nI 1) hx hb dX5_cut_21 (by decide) ?_
    refine lv_isub hx hb dX5_cut_22 ?_
    refine h_topi (y := nI ((hg_n S 4) - 1)) (pk_sub (by omega)) ?_
    refine h_put (C := RX1) (T := TX1) (N := 3) (v := .int (nI ((hg_n S 4) - 1))) (ty := .int) (ws' := xW o cI cJ cZ (hg_sn S 4 ((hg_n S 4) - 1))) hx hb hts hi1 tyX1 tyX1_ok nmX1 hown hK hP hD hS 4 rfl rfl 0 (by decide) (hts (.fieldLink RX5 153 "HotGround$Kernel" "count" "I") (by decide +kernel)) (fun _ h9 => h9) rfl (by decide +kernel) rfl rfl (Nat.le_of_ble_eq_true rfl) rfl dX5_cut_23 (fun H locs hP hD hS => ?_)
    refine lv_aload_n hx hb dX5_cut_26 rfl (lv_at hl 0 rfl) ?_
    refine va_get (C := RX5) (T := TX5) (N := 6) (v := .ref (o 4)) hx hb hts hi5 hown hK hP 0 rfl rfl 3 (by decide) (hts (.fieldLink RX5 33 "HotGround" "kernel" "LHotGround$Kernel;") (by decide +kernel)) (fun _ h9 => h9) rfl dX5_cut_27 ?_
    refine va_get (C := RX1) (T := TX1) (N := 3) (v := .int (nI ((hg_n S 4) - 1))) hx hb hts hi1 hown hK hP 4 rfl rfl 0 (by decide) (hts (.fieldLink RX5 153 "HotGround$Kernel" "count" "I") (by decide +kernel)) (fun _ h9 => h9) rfl dX5_cut_30 ?_
    have hq : r_cut S = (nI ((hg_n S 4) - 1), hg_sn S 4 ((hg_n S 4) - 1)) := by unfold r_cut; rw [if_neg (by omega)]
    rw [show (hg_sn S 4 ((hg_n S 4) - 1) : hg_S) = (r_cut S).2 from by rw [hq]] at hP hD
    exact W.iret (v := nI ((hg_n S 4) - 1)) hx hb hr (fun t ht hW => ⟨⟨_, (), rfl, by rw [hq], ⟨by rw [ht]; exact hP, hD⟩⟩, hS.F ht⟩) hS.2.2 dX5_cut_33
  · skip
    have hc : hg_n S 4 = 0 := by have := hg_le.mp (hg_nlt.mp c_7); rw [i_z, nI_toInt (by omega)] at this; omega
    refine lv_bipush (v := -2) hx hb dX5_cut_10 (by decide) ?_
    have hq : r_cut S = ((-2), S) := by unfold r_cut; rw [if_pos hc]
    rw [show (S : hg_S) = (r_cut S).2 from by rw [hq]] at hP hD
    exact W.iret (v := (-2)) hx hb hr (fun t ht hW => ⟨⟨_, (), rfl, by rw [hq], ⟨by rw [ht]; exact hP, hD⟩⟩, hS.F ht⟩) hS.2.2 dX5_cut_12
set_option maxHeartbeats 4000000 in
set_option maxRecDepth 100000 in
/-- candidate -/
theorem m_X5_candidate (l : Launch) (D : va_G) (o : Nat → Nat) (cI cJ cZ : ClassId) (S : hg_S) (sz : Nat) (h5 : hg_n S 5 ≤ 8) (a b d : Int32) : Met l yX5_candidate wsX5_candidate ({ frames := 2, cells := 0, slots := 0, locals := 42 }) (va_Pc [.ref (o 0), .int a, .int b, .int d] (hg_Wr D (xW o cI cJ cZ S) (hg_ty cI cJ cZ) sz)) (va_Qi (fun (r : Int32) (_ : Unit) => r = (r_cand S a b d).1) (fun _ t => hg_At D (xW o cI cJ cZ ((r_cand S a b d).2)) (va_A (xW o cI cJ cZ S) sz) t) (va_A (xW o cI cJ cZ S) sz)) 0 0 (va_A (xW o cI cJ cZ S) sz) := by
  refine h_start (cc := cX5_candidate) (maxL := 4) (ret := (some .int)) (by decide) rfl (Nat.le_of_ble_eq_true rfl) ?_
  intro pg ev s mi args below meth cd ls hx hb hr hts hown hlocks hml hnm hpic hl
  obtain ⟨hsz, hP, hK, hD0⟩ := hpic
  subst hsz
  have hD := hD0.self (sz := s.heap.size)
  generalize hAe : va_A (xW o cI cJ cZ S) s.heap.size = A at hD ⊢
  have hA : ∀ q : Nat, s.heap.size ≤ q → A q := fun q h => by rw [← hAe]; exact Or.inr h
  have hS : va_S A s.heap s.heap [] := va_S.rf
  have hi2 : ∀ w ∈ u_ws RX2 TX2 5, w ∈ wsX5_candidate := by decide +kernel
  have hi5 : ∀ w ∈ u_ws RX5 TX5 6, w ∈ wsX5_candidate := by decide +kernel
  have hl : lv_has ls 4 [(0, .ref (o 0)), (1, .int a), (2, .int b), (3, .int d)] := hl
  refine lv_iload_n hx hb dX5_candidate_0 rfl (lv_at hl 1 rfl) ?_
  refine lv_iconst (v := nI 1) hx hb dX5_candidate_1 (by decide) ?_
  refine lv_sipush (v := nI 1000) hx hb dX5_candidate_2 (by decide) ?_
  refine vp_callSi (va_Run.run (va_runS (As := [.int a, .int (nI 1), .int (nI 1000)]) (rest := []) ⟨hx, hb, hml, hown, hts⟩ (m_X5_within l a (nI 1) (nI 1000)) (va_cwS 3 hts gX5_candidate_X5_within rfl rfl rfl (by decide +kernel) ⟨Nat.le_of_ble_eq_true rfl, Nat.le_of_ble_eq_true rfl⟩) (h_preS0) rfl rfl hl.1 rfl (lv_room (Nat.le_of_ble_eq_true rfl)) dX5_candidate_5 ⟨Nat.le_of_ble_eq_true rfl, Nat.le_of_ble_eq_true rfl⟩)) (fun r_1 hr_1 => ?_)
  subst hr_1
  refine lv_if_eq (tgt := 29) hx hb dX5_candidate_8 (by decide) (fun c_8 => ?_) (fun c_8 => ?_)
  · skip
    have v_8 : ¬ ((nI 1) ≤ a ∧ a ≤ (nI 1000)) := hg_in_f c_8
    refine lv_iconst (v := -1) hx hb dX5_candidate_29 (by decide) ?_
    have hq : r_cand S a b d = ((-1), S) := by unfold r_cand; rw [if_neg (fun q => v_8 q.1)]
    rw [show (S : hg_S) = (r_cand S a b d).2 from by rw [hq]] at hP hD
    exact W.iret (v := (-1)) hx hb hr (fun t ht hW => ⟨⟨_, (), rfl, by rw [hq], ⟨by rw [ht]; exact hP, hD⟩⟩, hS.F ht⟩) hS.2.2 dX5_candidate_30
  · skip
    have v_8 : ((nI 1) ≤ a ∧ a ≤ (nI 1000)) := hg_in_t c_8
    refine lv_iload_n hx hb dX5_candidate_11 rfl (lv_at hl 2 rfl) ?_
    refine vp_callSi (va_Run.run (va_runS (As := [.int b]) (rest := []) ⟨hx, hb, hml, hown, hts⟩ (m_X5_isPlanYear l b) (va_cwS 1 hts gX5_candidate_X5_isPlanYear rfl rfl rfl (by decide +kernel) ⟨Nat.le_of_ble_eq_true rfl, Nat.le_of_ble_eq_true rfl⟩) (h_preS0) rfl rfl hl.1 rfl (lv_room (Nat.le_of_ble_eq_true rfl)) dX5_candidate_12 ⟨Nat.le_of_ble_eq_true rfl, Nat.le_of_ble_eq_true rfl⟩)) (fun r_2 hr_2 => ?_)
    subst hr_2
    refine lv_if_eq (tgt := 29) hx hb dX5_candidate_15 (by decide) (fun c_15 => ?_) (fun c_15 => ?_)
    · skip
      have v_15 : ¬ ((nI 0) ≤ b ∧ b ≤ (nI 5)) := hg_in_f c_15
      refine lv_iconst (v := -1) hx hb dX5_candidate_29 (by decide) ?_
      have hq : r_cand S a b d = ((-1), S) := by unfold r_cand; rw [if_neg (fun q => v_15 q.2.1)]
      rw [show (S : hg_S) = (r_cand S a b d).2 from by rw [hq]] at hP hD
      exact W.iret (v := (-1)) hx hb hr (fun t ht hW => ⟨⟨_, (), rfl, by rw [hq], ⟨by rw [ht]; exact hP, hD⟩⟩, hS.F ht⟩) hS.2.2 dX5_candidate_30
    · skip
      have v_15 : ((nI 0) ≤ b ∧ b ≤ (nI 5)) := hg_in_t c_15
      refine lv_iload_n hx hb dX5_candidate_18 rfl (lv_at hl 3 rfl) ?_
      refine lv_iconst (v := nI 1) hx hb dX5_candidate_19 (by decide) ?_
      refine lv_sipush (v := nI 500) hx hb dX5_candidate_20 (by decide) ?_
      refine vp_callSi (va_Run.run (va_runS (As := [.int d, .int (nI 1), .int (nI 500)]) (rest := []) ⟨hx, hb, hml, hown, hts⟩ (m_X5_within l d (nI 1) (nI 500)) (va_cwS 3 hts gX5_candidate_X5_within rfl rfl rfl (by decide +kernel) ⟨Nat.le_of_ble_eq_true rfl, Nat.le_of_ble_eq_true rfl⟩) (h_preS0) rfl rfl hl.1 rfl (lv_room (Nat.le_of_ble_eq_true rfl)) dX5_candidate_23 ⟨Nat.le_of_ble_eq_true rfl, Nat.le_of_ble_eq_true rfl⟩)) (fun r_3 hr_3 => ?_)
      subst hr_3
      refine lv_if_ne (tgt := 31) hx hb dX5_candidate_26 (by decide) (fun c_26 => ?_) (fun c_26 => ?_)
      · skip
        have v_26 : ((nI 1) ≤ d ∧ d ≤ (nI 500)) := hg_in_t c_26
        refine lv_aload_n hx hb dX5_candidate_31 rfl (lv_at hl 0 rfl) ?_
        refine va_get (C := RX5) (T := TX5) (N := 6) (v := .ref (o 5)) hx hb hts hi5 hown hK hP 0 rfl rfl 4 (by decide) (hts (.fieldLink RX5 40 "HotGround" "offers" "LHotGround$Offers;") (by decide +kernel)) (fun _ h9 => h9) rfl dX5_candidate_32 ?_
        refine va_get (C := RX2) (T := TX2) (N := 5) (v := .int (nI (hg_n S 5))) hx hb hts hi2 hown hK hP 5 rfl rfl 0 (by decide) (hts (.fieldLink RX5 163 "HotGround$Offers" "count" "I") (by decide +kernel)) (fun _ h9 => h9) rfl dX5_candidate_35 ?_
        refine lv_bipush (v := nI 8) hx hb dX5_candidate_38 (by decide) ?_
        refine lv_icmp_lt (tgt := 46) hx hb dX5_candidate_40 (by decide) (fun c_40 => ?_) (fun c_40 => ?_)
        · skip
          have hc : hg_n S 5 < 8 := (nI_ltI (by omega) (by omega)).mp c_40
          refine lv_aload_n hx hb dX5_candidate_46 rfl (lv_at hl 0 rfl) ?_
          refine va_get (C := RX5) (T := TX5) (N := 6) (v := .ref (o 5)) hx hb hts hi5 hown hK hP 0 rfl rfl 4 (by decide) (hts (.fieldLink RX5 40 "HotGround" "offers" "LHotGround$Offers;") (by decide +kernel)) (fun _ h9 => h9) rfl dX5_candidate_47 ?_
          refine lv_iload_n hx hb dX5_candidate_50 rfl (lv_at hl 1 rfl) ?_
          refine lv_iload_n hx hb dX5_candidate_51 rfl (lv_at hl 2 rfl) ?_
          refine lv_iload_n hx hb dX5_candidate_52 rfl (lv_at hl 3 rfl) ?_
          refine h_calli (w1 := xW o cI cJ cZ (s_cand S a b d)) (va_runV (As := [.int a, .int b, .int d]) (rest := []) ⟨hx, hb, hml, hown, hts⟩ (m_X2_add l D o cI cJ cZ S s.heap.size hc a b d) (cwV 3 hts gX5_candidate_X2_add rfl rfl rfl (by decide +kernel) ⟨Nat.le_of_ble_eq_true rfl, Nat.le_of_ble_eq_true rfl⟩) (h_preW hK hP hD 5 rfl rfl rfl) rfl rfl hl.1 rfl (lv_room (Nat.le_of_ble_eq_true rfl)) dX5_candidate_53 ⟨Nat.le_of_ble_eq_true rfl, Nat.le_of_ble_eq_true rfl⟩) hS (h_all hD hS hA) (fun r_4 H locs hr_4 hP hD hS => ?_)
          subst hr_4
          have hq : r_cand S a b d = (nI (hg_n S 5), s_cand S a b d) := by unfold r_cand; rw [if_pos (⟨v_8, v_15, v_26⟩)]; rw [if_pos (by omega)]
          rw [show (s_cand S a b d : hg_S) = (r_cand S a b d).2 from by rw [hq]] at hP hD
          exact W.iret (v := nI (hg_n S 5)) hx hb hr (fun t ht hW => ⟨⟨_, (), rfl, by rw [hq], ⟨by rw [ht]; exact hP, hD⟩⟩, hS.F ht⟩) hS.2.2 dX5_candidate_56
        · skip
          have hc : ¬ hg_n S 5 < 8 := fun h => c_40 ((nI_ltI (by omega) (by omega)).mpr h)
          refine lv_bipush (v := -3) hx hb dX5_candidate_43 (by decide) ?_
          have hq : r_cand S a b d = ((-3), S) := by unfold r_cand; rw [if_pos (⟨v_8, v_15, v_26⟩)]; rw [if_neg (by omega)]
          rw [show (S : hg_S) = (r_cand S a b d).2 from by rw [hq]] at hP hD
          exact W.iret (v := (-3)) hx hb hr (fun t ht hW => ⟨⟨_, (), rfl, by rw [hq], ⟨by rw [ht]; exact hP, hD⟩⟩, hS.F ht⟩) hS.2.2 dX5_candidate_45
      · skip
        have v_26 : ¬ ((nI 1) ≤ d ∧ d ≤ (nI 500)) := hg_in_f c_26
        refine lv_iconst (v := -1) hx hb dX5_candidate_29 (by decide) ?_
        have hq : r_cand S a b d = ((-1), S) := by unfold r_cand; rw [if_neg (fun q => v_26 q.2.2)]
        rw [show (S : hg_S) = (r_cand S a b d).2 from by rw [hq]] at hP hD
        exact W.iret (v := (-1)) hx hb hr (fun t ht hW => ⟨⟨_, (), rfl, by rw [hq], ⟨by rw [ht]; exact hP, hD⟩⟩, hS.F ht⟩) hS.2.2 dX5_candidate_30
set_option maxHeartbeats 4000000 in
set_option maxRecDepth 100000 in
/-- promise -/
theorem m_X5_promise (l : Launch) (D : va_G) (o : Nat → Nat) (cI cJ cZ : ClassId) (S : hg_S) (sz : Nat) (y v : Int32) : Met l yX5_promise wsX5_promise ({ frames := 2, cells := 0, slots := 0, locals := 42 }) (va_Pc [.ref (o 0), .int y, .int v] (hg_Wr D (xW o cI cJ cZ S) (hg_ty cI cJ cZ) sz)) (va_Qi (fun (r : Int32) (_ : Unit) => r = (r_prom S y v).1) (fun _ t => hg_At D (xW o cI cJ cZ ((r_prom S y v).2)) (va_A (xW o cI cJ cZ S) sz) t) (va_A (xW o cI cJ cZ S) sz)) 0 0 (va_A (xW o cI cJ cZ S) sz) := by
  refine h_start (cc := cX5_promise) (maxL := 4) (ret := (some .int)) (by decide) rfl (Nat.le_of_ble_eq_true rfl) ?_
  intro pg ev s mi args below meth cd ls hx hb hr hts hown hlocks hml hnm hpic hl
  obtain ⟨hsz, hP, hK, hD0⟩ := hpic
  subst hsz
  have hD := hD0.self (sz := s.heap.size)
  generalize hAe : va_A (xW o cI cJ cZ S) s.heap.size = A at hD ⊢
  have hA : ∀ q : Nat, s.heap.size ≤ q → A q := fun q h => by rw [← hAe]; exact Or.inr h
  have hS : va_S A s.heap s.heap [] := va_S.rf
  have hi2 : ∀ w ∈ u_ws RX2 TX2 5, w ∈ wsX5_promise := by decide +kernel
  have hi5 : ∀ w ∈ u_ws RX5 TX5 6, w ∈ wsX5_promise := by decide +kernel
  have hl : lv_has ls 4 [(0, .ref (o 0)), (1, .int y), (2, .int v)] := hl
  refine lv_iload_n hx hb dX5_promise_0 rfl (lv_at hl 1 rfl) ?_
  refine vp_callSi (va_Run.run (va_runS (As := [.int y]) (rest := []) ⟨hx, hb, hml, hown, hts⟩ (m_X5_isPlanYear l y) (va_cwS 1 hts gX5_promise_X5_isPlanYear rfl rfl rfl (by decide +kernel) ⟨Nat.le_of_ble_eq_true rfl, Nat.le_of_ble_eq_true rfl⟩) (h_preS0) rfl rfl hl.1 rfl (lv_room (Nat.le_of_ble_eq_true rfl)) dX5_promise_1 ⟨Nat.le_of_ble_eq_true rfl, Nat.le_of_ble_eq_true rfl⟩)) (fun r_1 hr_1 => ?_)
  subst hr_1
  refine lv_if_eq (tgt := 18) hx hb dX5_promise_4 (by decide) (fun c_4 => ?_) (fun c_4 => ?_)
  · skip
    have v_4 : ¬ ((nI 0) ≤ y ∧ y ≤ (nI 5)) := hg_in_f c_4
    refine lv_iconst (v := -1) hx hb dX5_promise_18 (by decide) ?_
    have hq : r_prom S y v = ((-1), S) := by unfold r_prom; rw [if_neg (fun q => v_4 q.1)]
    rw [show (S : hg_S) = (r_prom S y v).2 from by rw [hq]] at hP hD
    exact W.iret (v := (-1)) hx hb hr (fun t ht hW => ⟨⟨_, (), rfl, by rw [hq], ⟨by rw [ht]; exact hP, hD⟩⟩, hS.F ht⟩) hS.2.2 dX5_promise_19
  · skip
    have v_4 : ((nI 0) ≤ y ∧ y ≤ (nI 5)) := hg_in_t c_4
    refine lv_iload_n hx hb dX5_promise_7 rfl (lv_at hl 2 rfl) ?_
    refine lv_iconst (v := nI 0) hx hb dX5_promise_8 (by decide) ?_
    refine lv_sipush (v := nI 3000) hx hb dX5_promise_9 (by decide) ?_
    refine vp_callSi (va_Run.run (va_runS (As := [.int v, .int (nI 0), .int (nI 3000)]) (rest := []) ⟨hx, hb, hml, hown, hts⟩ (m_X5_within l v (nI 0) (nI 3000)) (va_cwS 3 hts gX5_promise_X5_within rfl rfl rfl (by decide +kernel) ⟨Nat.le_of_ble_eq_true rfl, Nat.le_of_ble_eq_true rfl⟩) (h_preS0) rfl rfl hl.1 rfl (lv_room (Nat.le_of_ble_eq_true rfl)) dX5_promise_12 ⟨Nat.le_of_ble_eq_true rfl, Nat.le_of_ble_eq_true rfl⟩)) (fun r_2 hr_2 => ?_)
    subst hr_2
    refine lv_if_ne (tgt := 20) hx hb dX5_promise_15 (by decide) (fun c_15 => ?_) (fun c_15 => ?_)
    · skip
      have v_15 : ((nI 0) ≤ v ∧ v ≤ (nI 3000)) := hg_in_t c_15
      obtain ⟨ky, kyl, kyh, rfl⟩ := hg_rng (by decide) (by decide) v_4
      refine lv_aload_n hx hb dX5_promise_20 rfl (lv_at hl 0 rfl) ?_
      refine va_get (C := RX5) (T := TX5) (N := 6) (v := .ref (o 5)) hx hb hts hi5 hown hK hP 0 rfl rfl 4 (by decide) (hts (.fieldLink RX5 40 "HotGround" "offers" "LHotGround$Offers;") (by decide +kernel)) (fun _ h9 => h9) rfl dX5_promise_21 ?_
      refine va_get (C := RX2) (T := TX2) (N := 5) (v := .ref (o 25)) hx hb hts hi2 hown hK hP 5 rfl rfl 4 (by decide) (hts (.fieldLink RX5 165 "HotGround$Offers" "promised" "[I") (by decide +kernel)) (fun _ h9 => h9) rfl dX5_promise_24 ?_
      refine lv_iload_n hx hb dX5_promise_27 rfl (lv_at hl 1 rfl) ?_
      refine h_iald (f := hg_i S 16) hx hb hK hP 25 0 rfl rfl ky (rfl) (by omega) (by decide) dX5_promise_28 ?_
      refine lv_istore_n (lv' := [(3, .int (hg_i S 16 ky)), (0, .ref (o 0)), (1, .int (nI ky)), (2, .int v)]) hx hb dX5_promise_29 rfl hl (by decide) rfl (fun ls hl => ?_)
      refine lv_aload_n hx hb dX5_promise_30 rfl (lv_at hl 1 rfl) ?_
      refine va_get (C := RX5) (T := TX5) (N := 6) (v := .ref (o 5)) hx hb hts hi5 hown hK hP 0 rfl rfl 4 (by decide) (hts (.fieldLink RX5 40 "HotGround" "offers" "LHotGround$Offers;") (by decide +kernel)) (fun _ h9 => h9) rfl dX5_promise_31 ?_
      refine va_get (C := RX2) (T := TX2) (N := 5) (v := .ref (o 25)) hx hb hts hi2 hown hK hP 5 rfl rfl 4 (by decide) (hts (.fieldLink RX5 165 "HotGround$Offers" "promised" "[I") (by decide +kernel)) (fun _ h9 => h9) rfl dX5_promise_34 ?_
      refine lv_iload_n hx hb dX5_promise_37 rfl (lv_at hl 2 rfl) ?_
      refine lv_iload_n hx hb dX5_promise_38 rfl (lv_at hl 3 rfl) ?_
      refine h_iast (f := hg_i S 16) (ws' := xW o cI cJ cZ (hg_si S 16 (upd (hg_i S 16) ky v))) hx hb hK hP hD hS 25 0 rfl rfl ky (rfl) (by omega) (by decide) rfl dX5_promise_39 (fun H locs hP hD hS => ?_)
      refine lv_iload_n hx hb dX5_promise_40 rfl (lv_at hl 0 rfl) ?_
      have hq : r_prom S (nI ky) v = (hg_i S 16 ky, hg_si S 16 (upd (hg_i S 16) ky v)) := by unfold r_prom; rw [if_pos (⟨v_4, v_15⟩)]; (try rw [nI_clamp (show ky < 2 ^ 31 by omega)])
      rw [show (hg_si S 16 (upd (hg_i S 16) ky v) : hg_S) = (r_prom S (nI ky) v).2 from by rw [hq]] at hP hD
      exact W.iret (v := hg_i S 16 ky) hx hb hr (fun t ht hW => ⟨⟨_, (), rfl, by rw [hq], ⟨by rw [ht]; exact hP, hD⟩⟩, hS.F ht⟩) hS.2.2 dX5_promise_41
    · skip
      have v_15 : ¬ ((nI 0) ≤ v ∧ v ≤ (nI 3000)) := hg_in_f c_15
      refine lv_iconst (v := -1) hx hb dX5_promise_18 (by decide) ?_
      have hq : r_prom S y v = ((-1), S) := by unfold r_prom; rw [if_neg (fun q => v_15 q.2)]
      rw [show (S : hg_S) = (r_prom S y v).2 from by rw [hq]] at hP hD
      exact W.iret (v := (-1)) hx hb hr (fun t ht hW => ⟨⟨_, (), rfl, by rw [hq], ⟨by rw [ht]; exact hP, hD⟩⟩, hS.F ht⟩) hS.2.2 dX5_promise_19
set_option maxHeartbeats 4000000 in
set_option maxRecDepth 100000 in
/-- plan -/
theorem m_X5_plan (l : Launch) (D : va_G) (o : Nat → Nat) (cI cJ cZ : ClassId) (S : hg_S) (h5 : hg_n S 5 ≤ 8) (q : Int32) : Met l yX5_plan wsX5_plan ({ frames := 4, cells := 0, slots := 0, locals := 83 }) (va_Pc [.ref (o 0), .int q] (hg_R D (xW o cI cJ cZ S) (hg_ty cI cJ cZ))) (vp_Si (fun r => r = a_plan S q)) 0 0 (fun _ => False) := by
  refine h_start (cc := cX5_plan) (maxL := 3) (ret := (some .int)) (by decide) rfl (Nat.le_of_ble_eq_true rfl) ?_
  intro pg ev s mi args below meth cd ls hx hb hr hts hown hlocks hml hnm hpic hl
  obtain ⟨hP, hK⟩ := hpic
  have hi5 : ∀ w ∈ u_ws RX5 TX5 6, w ∈ wsX5_plan := by decide +kernel
  have hl : lv_has ls 3 [(0, .ref (o 0)), (1, .int q)] := hl
  refine lv_iload_n hx hb dX5_plan_0 rfl (lv_at hl 1 rfl) ?_
  refine lv_iconst (v := nI 0) hx hb dX5_plan_1 (by decide) ?_
  refine lv_iconst (v := nI 1) hx hb dX5_plan_2 (by decide) ?_
  refine vp_callSi (va_Run.run (va_runS (As := [.int q, .int (nI 0), .int (nI 1)]) (rest := []) ⟨hx, hb, hml, hown, hts⟩ (m_X5_within l q (nI 0) (nI 1)) (va_cwS 3 hts gX5_plan_X5_within rfl rfl rfl (by decide +kernel) ⟨Nat.le_of_ble_eq_true rfl, Nat.le_of_ble_eq_true rfl⟩) (h_preS0) rfl rfl hl.1 rfl (lv_room (Nat.le_of_ble_eq_true rfl)) dX5_plan_3 ⟨Nat.le_of_ble_eq_true rfl, Nat.le_of_ble_eq_true rfl⟩)) (fun r_1 hr_1 => ?_)
  subst hr_1
  refine lv_if_ne (tgt := 11) hx hb dX5_plan_6 (by decide) (fun c_6 => ?_) (fun c_6 => ?_)
  · skip
    have v_6 : ((nI 0) ≤ q ∧ q ≤ (nI 1)) := hg_in_t c_6
    refine lv_aload_n hx hb dX5_plan_11 rfl (lv_at hl 0 rfl) ?_
    refine va_get (C := RX5) (T := TX5) (N := 6) (v := .ref (o 5)) hx hb hts hi5 hown hK hP 0 rfl rfl 4 (by decide) (hts (.fieldLink RX5 40 "HotGround" "offers" "LHotGround$Offers;") (by decide +kernel)) (fun _ h9 => h9) rfl dX5_plan_12 ?_
    refine vp_callSi (va_Run.run (va_runV (As := []) (rest := []) ⟨hx, hb, hml, hown, hts⟩ (m_X2_cheapest l D o cI cJ cZ S h5) (cwV 0 hts gX5_plan_X2_cheapest rfl rfl rfl (by decide +kernel) ⟨Nat.le_of_ble_eq_true rfl, Nat.le_of_ble_eq_true rfl⟩) (h_preR hK hP 5 rfl rfl rfl) rfl rfl hl.1 rfl (lv_room (Nat.le_of_ble_eq_true rfl)) dX5_plan_15 ⟨Nat.le_of_ble_eq_true rfl, Nat.le_of_ble_eq_true rfl⟩)) (fun r_2 hr_2 => ?_)
    subst hr_2
    refine lv_istore_n (lv' := [(2, .int (f_bst S)), (0, .ref (o 0)), (1, .int q)]) hx hb dX5_plan_18 rfl hl (by decide) rfl (fun ls hl => ?_)
    refine lv_iload_n hx hb dX5_plan_19 rfl (lv_at hl 0 rfl) ?_
    refine lv_bipush (v := -9) hx hb dX5_plan_20 (by decide) ?_
    refine lv_icmp_ne (tgt := 28) hx hb dX5_plan_22 (by decide) (fun c_22 => ?_) (fun c_22 => ?_)
    · skip
      refine lv_iload_n hx hb dX5_plan_28 rfl (lv_at hl 2 rfl) ?_
      refine lv_if_ne (tgt := 36) hx hb dX5_plan_29 (by decide) (fun c_29 => ?_) (fun c_29 => ?_)
      · skip
        refine lv_aload_n hx hb dX5_plan_36 rfl (lv_at hl 1 rfl) ?_
        refine va_get (C := RX5) (T := TX5) (N := 6) (v := .ref (o 5)) hx hb hts hi5 hown hK hP 0 rfl rfl 4 (by decide) (hts (.fieldLink RX5 40 "HotGround" "offers" "LHotGround$Offers;") (by decide +kernel)) (fun _ h9 => h9) rfl dX5_plan_37 ?_
        refine lv_iload_n hx hb dX5_plan_40 rfl (lv_at hl 0 rfl) ?_
        refine vp_callSi (va_Run.run (va_runV (As := [.int (f_bst S)]) (rest := []) ⟨hx, hb, hml, hown, hts⟩ (m_X2_price l D o cI cJ cZ S h5 (f_bst S)) (cwV 1 hts gX5_plan_X2_price rfl rfl rfl (by decide +kernel) ⟨Nat.le_of_ble_eq_true rfl, Nat.le_of_ble_eq_true rfl⟩) (h_preR hK hP 5 rfl rfl rfl) rfl rfl hl.1 rfl (lv_room (Nat.le_of_ble_eq_true rfl)) dX5_plan_41 ⟨Nat.le_of_ble_eq_true rfl, Nat.le_of_ble_eq_true rfl⟩)) (fun r_3 hr_3 => ?_)
        subst hr_3
        exact W.iret (v := f_cost S (f_bst S)) hx hb hr (fun t ht hW => ⟨_, rfl, by show f_cost S (f_bst S) = a_plan S q; unfold a_plan; rw [if_pos v_6]; rw [if_neg c_22]; rw [if_neg (fun h => c_29 (h.trans nI_0))], ht⟩) (fun _ h9 => nomatch h9) dX5_plan_44
      · skip
        refine lv_iload_n hx hb dX5_plan_32 rfl (lv_at hl 0 rfl) ?_
        refine lv_goto (tgt := 44) hx hb dX5_plan_33 (by decide) ?_
        exact W.iret (v := f_bst S) hx hb hr (fun t ht hW => ⟨_, rfl, by show f_bst S = a_plan S q; unfold a_plan; rw [if_pos v_6]; rw [if_neg c_22]; rw [if_pos (c_29.trans nI_0.symm)], ht⟩) (fun _ h9 => nomatch h9) dX5_plan_44
    · skip
      refine lv_bipush (v := -9) hx hb dX5_plan_25 (by decide) ?_
      exact W.iret (v := (-9)) hx hb hr (fun t ht hW => ⟨_, rfl, by show (-9) = a_plan S q; unfold a_plan; rw [if_pos v_6]; rw [if_pos c_22], ht⟩) (fun _ h9 => nomatch h9) dX5_plan_27
  · skip
    have v_6 : ¬ ((nI 0) ≤ q ∧ q ≤ (nI 1)) := hg_in_f c_6
    refine lv_iconst (v := -1) hx hb dX5_plan_9 (by decide) ?_
    exact W.iret (v := (-1)) hx hb hr (fun t ht hW => ⟨_, rfl, by show (-1) = a_plan S q; unfold a_plan; rw [if_neg (fun q => v_6 q)], ht⟩) (fun _ h9 => nomatch h9) dX5_plan_10
set_option maxHeartbeats 4000000 in
set_option maxRecDepth 100000 in
/-- lacks -/
theorem m_X5_lacks (l : Launch) (D : va_G) (o : Nat → Nat) (cI cJ cZ : ClassId) (S : hg_S) (h5 : hg_n S 5 ≤ 8) (a y : Int32) : Met l yX5_lacks wsX5_lacks ({ frames := 2, cells := 0, slots := 0, locals := 42 }) (va_Pc [.ref (o 0), .int a, .int y] (hg_R D (xW o cI cJ cZ S) (hg_ty cI cJ cZ))) (vp_Si (fun r => r = a_lacks S a y)) 0 0 (fun _ => False) := by
  refine h_start (cc := cX5_lacks) (maxL := 3) (ret := (some .int)) (by decide) rfl (Nat.le_of_ble_eq_true rfl) ?_
  intro pg ev s mi args below meth cd ls hx hb hr hts hown hlocks hml hnm hpic hl
  obtain ⟨hP, hK⟩ := hpic
  have hi5 : ∀ w ∈ u_ws RX5 TX5 6, w ∈ wsX5_lacks := by decide +kernel
  have hl : lv_has ls 3 [(0, .ref (o 0)), (1, .int a), (2, .int y)] := hl
  refine lv_iload_n hx hb dX5_lacks_0 rfl (lv_at hl 1 rfl) ?_
  refine lv_iconst (v := nI 0) hx hb dX5_lacks_1 (by decide) ?_
  refine lv_aload_n hx hb dX5_lacks_2 rfl (lv_at hl 0 rfl) ?_
  refine va_get (C := RX5) (T := TX5) (N := 6) (v := .ref (o 5)) hx hb hts hi5 hown hK hP 0 rfl rfl 4 (by decide) (hts (.fieldLink RX5 40 "HotGround" "offers" "LHotGround$Offers;") (by decide +kernel)) (fun _ h9 => h9) rfl dX5_lacks_3 ?_
  refine vp_callSi (va_Run.run (va_runV (As := []) (rest := [.int (nI 0), .int a]) ⟨hx, hb, hml, hown, hts⟩ (m_X2_sets l D o cI cJ cZ S h5) (cwV 0 hts gX5_lacks_X2_sets rfl rfl rfl (by decide +kernel) ⟨Nat.le_of_ble_eq_true rfl, Nat.le_of_ble_eq_true rfl⟩) (h_preR hK hP 5 rfl rfl rfl) rfl rfl hl.1 rfl (lv_room (Nat.le_of_ble_eq_true rfl)) dX5_lacks_6 ⟨Nat.le_of_ble_eq_true rfl, Nat.le_of_ble_eq_true rfl⟩)) (fun r_1 hr_1 => ?_)
  subst hr_1
  refine lv_iconst (v := nI 1) hx hb dX5_lacks_9 (by decide) ?_
  refine lv_isub hx hb dX5_lacks_10 ?_
  refine vp_callSi (va_Run.run (va_runS (As := [.int a, .int (nI 0), .int ((nI (2 ^ hg_n S 5)) - (nI 1))]) (rest := []) ⟨hx, hb, hml, hown, hts⟩ (m_X5_within l a (nI 0) ((nI (2 ^ hg_n S 5)) - (nI 1))) (va_cwS 3 hts gX5_lacks_X5_within rfl rfl rfl (by decide +kernel) ⟨Nat.le_of_ble_eq_true rfl, Nat.le_of_ble_eq_true rfl⟩) (h_preS0) rfl rfl hl.1 rfl (lv_room (Nat.le_of_ble_eq_true rfl)) dX5_lacks_11 ⟨Nat.le_of_ble_eq_true rfl, Nat.le_of_ble_eq_true rfl⟩)) (fun r_2 hr_2 => ?_)
  subst hr_2
  refine lv_if_eq (tgt := 24) hx hb dX5_lacks_14 (by decide) (fun c_14 => ?_) (fun c_14 => ?_)
  · skip
    have v_14 : ¬ ((nI 0) ≤ a ∧ a ≤ ((nI (2 ^ hg_n S 5)) - (nI 1))) := hg_in_f c_14
    refine lv_iconst (v := -1) hx hb dX5_lacks_24 (by decide) ?_
    exact W.iret (v := (-1)) hx hb hr (fun t ht hW => ⟨_, rfl, by show (-1) = a_lacks S a y; unfold a_lacks; rw [if_neg (fun q => v_14 q.1)], ht⟩) (fun _ h9 => nomatch h9) dX5_lacks_25
  · skip
    have v_14 : ((nI 0) ≤ a ∧ a ≤ ((nI (2 ^ hg_n S 5)) - (nI 1))) := hg_in_t c_14
    refine lv_iload_n hx hb dX5_lacks_17 rfl (lv_at hl 2 rfl) ?_
    refine vp_callSi (va_Run.run (va_runS (As := [.int y]) (rest := []) ⟨hx, hb, hml, hown, hts⟩ (m_X5_isPlanYear l y) (va_cwS 1 hts gX5_lacks_X5_isPlanYear rfl rfl rfl (by decide +kernel) ⟨Nat.le_of_ble_eq_true rfl, Nat.le_of_ble_eq_true rfl⟩) (h_preS0) rfl rfl hl.1 rfl (lv_room (Nat.le_of_ble_eq_true rfl)) dX5_lacks_18 ⟨Nat.le_of_ble_eq_true rfl, Nat.le_of_ble_eq_true rfl⟩)) (fun r_3 hr_3 => ?_)
    subst hr_3
    refine lv_if_ne (tgt := 26) hx hb dX5_lacks_21 (by decide) (fun c_21 => ?_) (fun c_21 => ?_)
    · skip
      have v_21 : ((nI 0) ≤ y ∧ y ≤ (nI 5)) := hg_in_t c_21
      obtain ⟨ky, kyl, kyh, rfl⟩ := hg_rng (by decide) (by decide) v_21
      refine lv_aload_n hx hb dX5_lacks_26 rfl (lv_at hl 0 rfl) ?_
      refine va_get (C := RX5) (T := TX5) (N := 6) (v := .ref (o 5)) hx hb hts hi5 hown hK hP 0 rfl rfl 4 (by decide) (hts (.fieldLink RX5 40 "HotGround" "offers" "LHotGround$Offers;") (by decide +kernel)) (fun _ h9 => h9) rfl dX5_lacks_27 ?_
      refine lv_iload_n hx hb dX5_lacks_30 rfl (lv_at hl 1 rfl) ?_
      refine lv_iload_n hx hb dX5_lacks_31 rfl (lv_at hl 2 rfl) ?_
      refine vp_callSi (va_Run.run (va_runV (As := [.int a, .int (nI ky)]) (rest := []) ⟨hx, hb, hml, hown, hts⟩ (m_X2_missing l D o cI cJ cZ S h5 a ky (by omega)) (cwV 2 hts gX5_lacks_X2_missing rfl rfl rfl (by decide +kernel) ⟨Nat.le_of_ble_eq_true rfl, Nat.le_of_ble_eq_true rfl⟩) (h_preR hK hP 5 rfl rfl rfl) rfl rfl hl.1 rfl (lv_room (Nat.le_of_ble_eq_true rfl)) dX5_lacks_32 ⟨Nat.le_of_ble_eq_true rfl, Nat.le_of_ble_eq_true rfl⟩)) (fun r_4 hr_4 => ?_)
      subst hr_4
      exact W.iret (v := f_lack S a ky) hx hb hr (fun t ht hW => ⟨_, rfl, by show f_lack S a ky = a_lacks S a (nI ky); unfold a_lacks; rw [if_pos (⟨v_14, v_21⟩)]; (try rw [nI_clamp (show ky < 2 ^ 31 by omega)]), ht⟩) (fun _ h9 => nomatch h9) dX5_lacks_35
    · skip
      have v_21 : ¬ ((nI 0) ≤ y ∧ y ≤ (nI 5)) := hg_in_f c_21
      refine lv_iconst (v := -1) hx hb dX5_lacks_24 (by decide) ?_
      exact W.iret (v := (-1)) hx hb hr (fun t ht hW => ⟨_, rfl, by show (-1) = a_lacks S a y; unfold a_lacks; rw [if_neg (fun q => v_21 q.2)], ht⟩) (fun _ h9 => nomatch h9) dX5_lacks_25
set_option maxHeartbeats 4000000 in
set_option maxRecDepth 100000 in
/-- count -/
theorem m_X5_count (l : Launch) (D : va_G) (o : Nat → Nat) (cI cJ cZ : ClassId) (S : hg_S) (h0 : hg_n S 0 ≤ 8) (h1 : hg_n S 1 ≤ 4) (q : Int32) : Met l yX5_count wsX5_count ({ frames := 1, cells := 0, slots := 0, locals := 23 }) (va_Pc [.ref (o 0), .int q] (hg_R D (xW o cI cJ cZ S) (hg_ty cI cJ cZ))) (vp_Si (fun r => r = a_count S q)) 0 0 (fun _ => False) := by
  refine h_start (cc := cX5_count) (maxL := 2) (ret := (some .int)) (by decide) rfl (Nat.le_of_ble_eq_true rfl) ?_
  intro pg ev s mi args below meth cd ls hx hb hr hts hown hlocks hml hnm hpic hl
  obtain ⟨hP, hK⟩ := hpic
  have hi1 : ∀ w ∈ u_ws RX1 TX1 3, w ∈ wsX5_count := by decide +kernel
  have hi2 : ∀ w ∈ u_ws RX2 TX2 5, w ∈ wsX5_count := by decide +kernel
  have hi3 : ∀ w ∈ u_ws RX3 TX3 5, w ∈ wsX5_count := by decide +kernel
  have hi4 : ∀ w ∈ u_ws RX4 TX4 6, w ∈ wsX5_count := by decide +kernel
  have hi5 : ∀ w ∈ u_ws RX5 TX5 6, w ∈ wsX5_count := by decide +kernel
  have hl : lv_has ls 2 [(0, .ref (o 0)), (1, .int q)] := hl
  refine lv_iload_n hx hb dX5_count_0 rfl (lv_at hl 1 rfl) ?_
  by_cases e0 : q = nI 0
  · subst e0
    refine lv_tableIn (off := 39) (tgt := 40) hx hb dX5_count_1 (by decide) (by decide) (by decide) (by decide) ?_
    refine lv_aload_n hx hb dX5_count_40 rfl (lv_at hl 0 rfl) ?_
    refine va_get (C := RX5) (T := TX5) (N := 6) (v := .ref (o 1)) hx hb hts hi5 hown hK hP 0 rfl rfl 0 (by decide) (hts (.fieldLink RX5 10 "HotGround" "wells" "LHotGround$Wells;") (by decide +kernel)) (fun _ h9 => h9) rfl dX5_count_41 ?_
    refine va_get (C := RX4) (T := TX4) (N := 6) (v := .int (nI (hg_n S 0))) hx hb hts hi4 hown hK hP 1 rfl rfl 0 (by decide) (hts (.fieldLink RX5 52 "HotGround$Wells" "count" "I") (by decide +kernel)) (fun _ h9 => h9) rfl dX5_count_44 ?_
    exact W.iret (v := nI (hg_n S 0)) hx hb hr (fun t ht hW => ⟨_, rfl, by show nI (hg_n S 0) = a_count S (nI 0); unfold a_count; rw [if_pos rfl], ht⟩) (fun _ h9 => nomatch h9) dX5_count_47
  · skip
    by_cases e1 : q = nI 1
    · subst e1
      refine lv_tableIn (off := 47) (tgt := 48) hx hb dX5_count_1 (by decide) (by decide) (by decide) (by decide) ?_
      refine lv_aload_n hx hb dX5_count_48 rfl (lv_at hl 0 rfl) ?_
      refine va_get (C := RX5) (T := TX5) (N := 6) (v := .ref (o 2)) hx hb hts hi5 hown hK hP 0 rfl rfl 1 (by decide) (hts (.fieldLink RX5 19 "HotGround" "plant" "LHotGround$Plant;") (by decide +kernel)) (fun _ h9 => h9) rfl dX5_count_49 ?_
      refine va_get (C := RX3) (T := TX3) (N := 5) (v := .int (nI (hg_n S 1))) hx hb hts hi3 hown hK hP 2 rfl rfl 0 (by decide) (hts (.fieldLink RX5 95 "HotGround$Plant" "count" "I") (by decide +kernel)) (fun _ h9 => h9) rfl dX5_count_52 ?_
      exact W.iret (v := nI (hg_n S 1)) hx hb hr (fun t ht hW => ⟨_, rfl, by show nI (hg_n S 1) = a_count S (nI 1); unfold a_count; rw [if_neg (by decide)]; rw [if_pos rfl], ht⟩) (fun _ h9 => nomatch h9) dX5_count_55
    · skip
      by_cases e2 : q = nI 2
      · subst e2
        refine lv_tableIn (off := 55) (tgt := 56) hx hb dX5_count_1 (by decide) (by decide) (by decide) (by decide) ?_
        refine lv_aload_n hx hb dX5_count_56 rfl (lv_at hl 0 rfl) ?_
        refine va_get (C := RX5) (T := TX5) (N := 6) (v := .ref (o 5)) hx hb hts hi5 hown hK hP 0 rfl rfl 4 (by decide) (hts (.fieldLink RX5 40 "HotGround" "offers" "LHotGround$Offers;") (by decide +kernel)) (fun _ h9 => h9) rfl dX5_count_57 ?_
        refine va_get (C := RX2) (T := TX2) (N := 5) (v := .int (nI (hg_n S 5))) hx hb hts hi2 hown hK hP 5 rfl rfl 0 (by decide) (hts (.fieldLink RX5 163 "HotGround$Offers" "count" "I") (by decide +kernel)) (fun _ h9 => h9) rfl dX5_count_60 ?_
        exact W.iret (v := nI (hg_n S 5)) hx hb hr (fun t ht hW => ⟨_, rfl, by show nI (hg_n S 5) = a_count S (nI 2); unfold a_count; rw [if_neg (by decide)]; rw [if_neg (by decide)]; rw [if_pos rfl], ht⟩) (fun _ h9 => nomatch h9) dX5_count_63
      · skip
        by_cases e3 : q = nI 3
        · subst e3
          refine lv_tableIn (off := 63) (tgt := 64) hx hb dX5_count_1 (by decide) (by decide) (by decide) (by decide) ?_
          refine lv_aload_n hx hb dX5_count_64 rfl (lv_at hl 0 rfl) ?_
          refine va_get (C := RX5) (T := TX5) (N := 6) (v := .ref (o 4)) hx hb hts hi5 hown hK hP 0 rfl rfl 3 (by decide) (hts (.fieldLink RX5 33 "HotGround" "kernel" "LHotGround$Kernel;") (by decide +kernel)) (fun _ h9 => h9) rfl dX5_count_65 ?_
          refine va_get (C := RX1) (T := TX1) (N := 3) (v := .int (nI (hg_n S 4))) hx hb hts hi1 hown hK hP 4 rfl rfl 0 (by decide) (hts (.fieldLink RX5 153 "HotGround$Kernel" "count" "I") (by decide +kernel)) (fun _ h9 => h9) rfl dX5_count_68 ?_
          exact W.iret (v := nI (hg_n S 4)) hx hb hr (fun t ht hW => ⟨_, rfl, by show nI (hg_n S 4) = a_count S (nI 3); unfold a_count; rw [if_neg (by decide)]; rw [if_neg (by decide)]; rw [if_neg (by decide)]; rw [if_pos rfl], ht⟩) (fun _ h9 => nomatch h9) dX5_count_71
        · skip
          by_cases e4 : q = nI 4
          · subst e4
            refine lv_tableIn (off := 71) (tgt := 72) hx hb dX5_count_1 (by decide) (by decide) (by decide) (by decide) ?_
            refine lv_aload_n hx hb dX5_count_72 rfl (lv_at hl 0 rfl) ?_
            refine va_get (C := RX5) (T := TX5) (N := 6) (v := .ref (o 1)) hx hb hts hi5 hown hK hP 0 rfl rfl 0 (by decide) (hts (.fieldLink RX5 10 "HotGround" "wells" "LHotGround$Wells;") (by decide +kernel)) (fun _ h9 => h9) rfl dX5_count_73 ?_
            refine va_get (C := RX4) (T := TX4) (N := 6) (v := .ref (o 9)) hx hb hts hi4 hown hK hP 1 rfl rfl 4 (by decide) (hts (.fieldLink RX5 68 "HotGround$Wells" "open" "[Z") (by decide +kernel)) (fun _ h9 => h9) rfl dX5_count_76 ?_
            refine lv_aload_n hx hb dX5_count_79 rfl (lv_at hl 0 rfl) ?_
            refine va_get (C := RX5) (T := TX5) (N := 6) (v := .ref (o 1)) hx hb hts hi5 hown hK hP 0 rfl rfl 0 (by decide) (hts (.fieldLink RX5 10 "HotGround" "wells" "LHotGround$Wells;") (by decide +kernel)) (fun _ h9 => h9) rfl dX5_count_80 ?_
            refine va_get (C := RX4) (T := TX4) (N := 6) (v := .int (nI (hg_n S 0))) hx hb hts hi4 hown hK hP 1 rfl rfl 0 (by decide) (hts (.fieldLink RX5 52 "HotGround$Wells" "count" "I") (by decide +kernel)) (fun _ h9 => h9) rfl dX5_count_83 ?_
            refine vp_callSi (va_Run.run (va_runS (As := [.ref (o 9), .int (nI (hg_n S 0))]) (rest := []) ⟨hx, hb, hml, hown, hts⟩ (m_X5_trues3 l D o cI cJ cZ S (hg_n S 0) (by omega)) (va_cwS 2 hts gX5_count_X5_trues rfl rfl rfl (by decide +kernel) ⟨Nat.le_of_ble_eq_true rfl, Nat.le_of_ble_eq_true rfl⟩) (h_preSR hK hP) rfl rfl hl.1 rfl (lv_room (Nat.le_of_ble_eq_true rfl)) dX5_count_86 ⟨Nat.le_of_ble_eq_true rfl, Nat.le_of_ble_eq_true rfl⟩)) (fun r_1 hr_1 => ?_)
            subst hr_1
            exact W.iret (v := f_tr (hg_i S 3) (hg_n S 0)) hx hb hr (fun t ht hW => ⟨_, rfl, by show f_tr (hg_i S 3) (hg_n S 0) = a_count S (nI 4); unfold a_count; rw [if_neg (by decide)]; rw [if_neg (by decide)]; rw [if_neg (by decide)]; rw [if_neg (by decide)]; rw [if_pos rfl], ht⟩) (fun _ h9 => nomatch h9) dX5_count_89
          · skip
            by_cases e5 : q = nI 5
            · subst e5
              refine lv_tableIn (off := 89) (tgt := 90) hx hb dX5_count_1 (by decide) (by decide) (by decide) (by decide) ?_
              refine lv_aload_n hx hb dX5_count_90 rfl (lv_at hl 0 rfl) ?_
              refine va_get (C := RX5) (T := TX5) (N := 6) (v := .ref (o 2)) hx hb hts hi5 hown hK hP 0 rfl rfl 1 (by decide) (hts (.fieldLink RX5 19 "HotGround" "plant" "LHotGround$Plant;") (by decide +kernel)) (fun _ h9 => h9) rfl dX5_count_91 ?_
              refine va_get (C := RX3) (T := TX3) (N := 5) (v := .ref (o 14)) hx hb hts hi3 hown hK hP 2 rfl rfl 4 (by decide) (hts (.fieldLink RX5 99 "HotGround$Plant" "on" "[Z") (by decide +kernel)) (fun _ h9 => h9) rfl dX5_count_94 ?_
              refine lv_aload_n hx hb dX5_count_97 rfl (lv_at hl 0 rfl) ?_
              refine va_get (C := RX5) (T := TX5) (N := 6) (v := .ref (o 2)) hx hb hts hi5 hown hK hP 0 rfl rfl 1 (by decide) (hts (.fieldLink RX5 19 "HotGround" "plant" "LHotGround$Plant;") (by decide +kernel)) (fun _ h9 => h9) rfl dX5_count_98 ?_
              refine va_get (C := RX3) (T := TX3) (N := 5) (v := .int (nI (hg_n S 1))) hx hb hts hi3 hown hK hP 2 rfl rfl 0 (by decide) (hts (.fieldLink RX5 95 "HotGround$Plant" "count" "I") (by decide +kernel)) (fun _ h9 => h9) rfl dX5_count_101 ?_
              refine vp_callSi (va_Run.run (va_runS (As := [.ref (o 14), .int (nI (hg_n S 1))]) (rest := []) ⟨hx, hb, hml, hown, hts⟩ (m_X5_trues8 l D o cI cJ cZ S (hg_n S 1) (by omega)) (va_cwS 2 hts gX5_count_X5_trues rfl rfl rfl (by decide +kernel) ⟨Nat.le_of_ble_eq_true rfl, Nat.le_of_ble_eq_true rfl⟩) (h_preSR hK hP) rfl rfl hl.1 rfl (lv_room (Nat.le_of_ble_eq_true rfl)) dX5_count_104 ⟨Nat.le_of_ble_eq_true rfl, Nat.le_of_ble_eq_true rfl⟩)) (fun r_2 hr_2 => ?_)
              subst hr_2
              exact W.iret (v := f_tr (hg_i S 8) (hg_n S 1)) hx hb hr (fun t ht hW => ⟨_, rfl, by show f_tr (hg_i S 8) (hg_n S 1) = a_count S (nI 5); unfold a_count; rw [if_neg (by decide)]; rw [if_neg (by decide)]; rw [if_neg (by decide)]; rw [if_neg (by decide)]; rw [if_neg (by decide)]; rw [if_pos rfl], ht⟩) (fun _ h9 => nomatch h9) dX5_count_107
            · skip
              refine lv_tableOut (tgt := 108) hx hb dX5_count_1 (hg_out (n := 5) (by decide) (fun j hj => by rcases (show j = 0 ∨ j = 1 ∨ j = 2 ∨ j = 3 ∨ j = 4 ∨ j = 5 by omega) with rfl | rfl | rfl | rfl | rfl | rfl <;> assumption)) (by decide) ?_
              refine lv_iconst (v := -1) hx hb dX5_count_108 (by decide) ?_
              exact W.iret (v := (-1)) hx hb hr (fun t ht hW => ⟨_, rfl, by show (-1) = a_count S q; unfold a_count; rw [if_neg e0, if_neg e1, if_neg e2, if_neg e3, if_neg e4, if_neg e5], ht⟩) (fun _ h9 => nomatch h9) dX5_count_109
set_option maxHeartbeats 4000000 in
set_option maxRecDepth 100000 in
/-- trace -/
theorem m_X5_trace (l : Launch) (D : va_G) (o : Nat → Nat) (cI cJ cZ : ClassId) (S : hg_S)  : Met l yX5_trace wsX5_trace ({ frames := 0, cells := 0, slots := 0, locals := 0 }) (va_Pc [.ref (o 0)] (hg_R D (xW o cI cJ cZ S) (hg_ty cI cJ cZ))) (vp_Sl (fun r => r = hg_t S)) 0 0 (fun _ => False) := by
  refine h_start (cc := cX5_trace) (maxL := 1) (ret := (some .long)) (by decide) rfl (Nat.le_of_ble_eq_true rfl) ?_
  intro pg ev s mi args below meth cd ls hx hb hr hts hown hlocks hml hnm hpic hl
  obtain ⟨hP, hK⟩ := hpic
  have hi5 : ∀ w ∈ u_ws RX5 TX5 6, w ∈ wsX5_trace := by decide +kernel
  have hl : lv_has ls 1 [(0, .ref (o 0))] := hl
  refine lv_aload_n hx hb dX5_trace_0 rfl (lv_at hl 0 rfl) ?_
  refine va_get (C := RX5) (T := TX5) (N := 6) (v := .long (hg_t S)) hx hb hts hi5 hown hK hP 0 rfl rfl 5 (by decide) (hts (.fieldLink RX5 44 "HotGround" "trace" "J") (by decide +kernel)) (fun _ h9 => h9) rfl dX5_trace_1 ?_
  exact W.lret (v := hg_t S) hx hb hr (fun t ht hW => ⟨_, rfl, rfl, ht⟩) (fun _ h9 => nomatch h9) dX5_trace_4
end
section
theorem dX6_init_0 : decode cX6_init 0 = .ok (.aload_n 0, 1) := by decide +kernel
theorem dX6_init_1 : decode cX6_init 1 = .ok (.invokespecial 1, 3) := by decide +kernel
theorem dX6_init_4 : decode cX6_init 4 = .ok (.aload_n 0, 1) := by decide +kernel
theorem dX6_init_5 : decode cX6_init 5 = .ok (.bipush 8, 2) := by decide +kernel
theorem dX6_init_7 : decode cX6_init 7 = .ok (.newarray .int, 2) := by decide +kernel
theorem dX6_init_9 : decode cX6_init 9 = .ok (.putfield 7, 3) := by decide +kernel
theorem dX6_init_12 : decode cX6_init 12 = .ok (.aload_n 0, 1) := by decide +kernel
theorem dX6_init_13 : decode cX6_init 13 = .ok (.bipush 8, 2) := by decide +kernel
theorem dX6_init_15 : decode cX6_init 15 = .ok (.newarray .int, 2) := by decide +kernel
theorem dX6_init_17 : decode cX6_init 17 = .ok (.putfield 13, 3) := by decide +kernel
theorem dX6_init_20 : decode cX6_init 20 = .ok (.aload_n 0, 1) := by decide +kernel
theorem dX6_init_21 : decode cX6_init 21 = .ok (.bipush 8, 2) := by decide +kernel
theorem dX6_init_23 : decode cX6_init 23 = .ok (.newarray .int, 2) := by decide +kernel
theorem dX6_init_25 : decode cX6_init 25 = .ok (.putfield 16, 3) := by decide +kernel
theorem dX6_init_28 : decode cX6_init 28 = .ok (.aload_n 0, 1) := by decide +kernel
theorem dX6_init_29 : decode cX6_init 29 = .ok (.bipush 8, 2) := by decide +kernel
theorem dX6_init_31 : decode cX6_init 31 = .ok (.newarray .boolean, 2) := by decide +kernel
theorem dX6_init_33 : decode cX6_init 33 = .ok (.putfield 19, 3) := by decide +kernel
theorem dX6_init_36 : decode cX6_init 36 = .ok (.aload_n 0, 1) := by decide +kernel
theorem dX6_init_37 : decode cX6_init 37 = .ok (.bipush 40, 2) := by decide +kernel
theorem dX6_init_39 : decode cX6_init 39 = .ok (.newarray .int, 2) := by decide +kernel
theorem dX6_init_41 : decode cX6_init 41 = .ok (.putfield 23, 3) := by decide +kernel
theorem dX6_init_44 : decode cX6_init 44 = .ok (.aload_n 0, 1) := by decide +kernel
theorem dX6_init_45 : decode cX6_init 45 = .ok (.iconst 4, 1) := by decide +kernel
theorem dX6_init_46 : decode cX6_init 46 = .ok (.newarray .int, 2) := by decide +kernel
theorem dX6_init_48 : decode cX6_init 48 = .ok (.putfield 26, 3) := by decide +kernel
theorem dX6_init_51 : decode cX6_init 51 = .ok (.aload_n 0, 1) := by decide +kernel
theorem dX6_init_52 : decode cX6_init 52 = .ok (.iconst 4, 1) := by decide +kernel
theorem dX6_init_53 : decode cX6_init 53 = .ok (.newarray .int, 2) := by decide +kernel
theorem dX6_init_55 : decode cX6_init 55 = .ok (.putfield 29, 3) := by decide +kernel
theorem dX6_init_58 : decode cX6_init 58 = .ok (.aload_n 0, 1) := by decide +kernel
theorem dX6_init_59 : decode cX6_init 59 = .ok (.iconst 4, 1) := by decide +kernel
theorem dX6_init_60 : decode cX6_init 60 = .ok (.newarray .int, 2) := by decide +kernel
theorem dX6_init_62 : decode cX6_init 62 = .ok (.putfield 32, 3) := by decide +kernel
theorem dX6_init_65 : decode cX6_init 65 = .ok (.aload_n 0, 1) := by decide +kernel
theorem dX6_init_66 : decode cX6_init 66 = .ok (.iconst 4, 1) := by decide +kernel
theorem dX6_init_67 : decode cX6_init 67 = .ok (.newarray .boolean, 2) := by decide +kernel
theorem dX6_init_69 : decode cX6_init 69 = .ok (.putfield 35, 3) := by decide +kernel
theorem dX6_init_72 : decode cX6_init 72 = .ok (.aload_n 0, 1) := by decide +kernel
theorem dX6_init_73 : decode cX6_init 73 = .ok (.iconst 4, 1) := by decide +kernel
theorem dX6_init_74 : decode cX6_init 74 = .ok (.newarray .long, 2) := by decide +kernel
theorem dX6_init_76 : decode cX6_init 76 = .ok (.putfield 38, 3) := by decide +kernel
theorem dX6_init_79 : decode cX6_init 79 = .ok (.aload_n 0, 1) := by decide +kernel
theorem dX6_init_80 : decode cX6_init 80 = .ok (.iconst 4, 1) := by decide +kernel
theorem dX6_init_81 : decode cX6_init 81 = .ok (.newarray .long, 2) := by decide +kernel
theorem dX6_init_83 : decode cX6_init 83 = .ok (.putfield 42, 3) := by decide +kernel
theorem dX6_init_86 : decode cX6_init 86 = .ok (.aload_n 0, 1) := by decide +kernel
theorem dX6_init_87 : decode cX6_init 87 = .ok (.iconst 3, 1) := by decide +kernel
theorem dX6_init_88 : decode cX6_init 88 = .ok (.newarray .int, 2) := by decide +kernel
theorem dX6_init_90 : decode cX6_init 90 = .ok (.dup, 1) := by decide +kernel
theorem dX6_init_91 : decode cX6_init 91 = .ok (.iconst 0, 1) := by decide +kernel
theorem dX6_init_92 : decode cX6_init 92 = .ok (.sipush 1000, 3) := by decide +kernel
theorem dX6_init_95 : decode cX6_init 95 = .ok (.iastore, 1) := by decide +kernel
theorem dX6_init_96 : decode cX6_init 96 = .ok (.dup, 1) := by decide +kernel
theorem dX6_init_97 : decode cX6_init 97 = .ok (.iconst 1, 1) := by decide +kernel
theorem dX6_init_98 : decode cX6_init 98 = .ok (.sipush 1000, 3) := by decide +kernel
theorem dX6_init_101 : decode cX6_init 101 = .ok (.iastore, 1) := by decide +kernel
theorem dX6_init_102 : decode cX6_init 102 = .ok (.dup, 1) := by decide +kernel
theorem dX6_init_103 : decode cX6_init 103 = .ok (.iconst 2, 1) := by decide +kernel
theorem dX6_init_104 : decode cX6_init 104 = .ok (.sipush 1000, 3) := by decide +kernel
theorem dX6_init_107 : decode cX6_init 107 = .ok (.iastore, 1) := by decide +kernel
theorem dX6_init_108 : decode cX6_init 108 = .ok (.putfield 45, 3) := by decide +kernel
theorem dX6_init_111 : decode cX6_init 111 = .ok (.aload_n 0, 1) := by decide +kernel
theorem dX6_init_112 : decode cX6_init 112 = .ok (.iconst 4, 1) := by decide +kernel
theorem dX6_init_113 : decode cX6_init 113 = .ok (.newarray .int, 2) := by decide +kernel
theorem dX6_init_115 : decode cX6_init 115 = .ok (.putfield 48, 3) := by decide +kernel
theorem dX6_init_118 : decode cX6_init 118 = .ok (.aload_n 0, 1) := by decide +kernel
theorem dX6_init_119 : decode cX6_init 119 = .ok (.bipush 9, 2) := by decide +kernel
theorem dX6_init_121 : decode cX6_init 121 = .ok (.newarray .long, 2) := by decide +kernel
theorem dX6_init_123 : decode cX6_init 123 = .ok (.putfield 51, 3) := by decide +kernel
theorem dX6_init_126 : decode cX6_init 126 = .ok (.aload_n 0, 1) := by decide +kernel
theorem dX6_init_127 : decode cX6_init 127 = .ok (.bipush 6, 2) := by decide +kernel
theorem dX6_init_129 : decode cX6_init 129 = .ok (.newarray .int, 2) := by decide +kernel
theorem dX6_init_131 : decode cX6_init 131 = .ok (.putfield 54, 3) := by decide +kernel
theorem dX6_init_134 : decode cX6_init 134 = .ok (.aload_n 0, 1) := by decide +kernel
theorem dX6_init_135 : decode cX6_init 135 = .ok (.bipush 12, 2) := by decide +kernel
theorem dX6_init_137 : decode cX6_init 137 = .ok (.newarray .int, 2) := by decide +kernel
theorem dX6_init_139 : decode cX6_init 139 = .ok (.putfield 57, 3) := by decide +kernel
theorem dX6_init_142 : decode cX6_init 142 = .ok (.aload_n 0, 1) := by decide +kernel
theorem dX6_init_143 : decode cX6_init 143 = .ok (.bipush 8, 2) := by decide +kernel
theorem dX6_init_145 : decode cX6_init 145 = .ok (.newarray .int, 2) := by decide +kernel
theorem dX6_init_147 : decode cX6_init 147 = .ok (.putfield 60, 3) := by decide +kernel
theorem dX6_init_150 : decode cX6_init 150 = .ok (.aload_n 0, 1) := by decide +kernel
theorem dX6_init_151 : decode cX6_init 151 = .ok (.bipush 8, 2) := by decide +kernel
theorem dX6_init_153 : decode cX6_init 153 = .ok (.newarray .int, 2) := by decide +kernel
theorem dX6_init_155 : decode cX6_init 155 = .ok (.putfield 63, 3) := by decide +kernel
theorem dX6_init_158 : decode cX6_init 158 = .ok (.aload_n 0, 1) := by decide +kernel
theorem dX6_init_159 : decode cX6_init 159 = .ok (.bipush 8, 2) := by decide +kernel
theorem dX6_init_161 : decode cX6_init 161 = .ok (.newarray .int, 2) := by decide +kernel
theorem dX6_init_163 : decode cX6_init 163 = .ok (.putfield 66, 3) := by decide +kernel
theorem dX6_init_166 : decode cX6_init 166 = .ok (.aload_n 0, 1) := by decide +kernel
theorem dX6_init_167 : decode cX6_init 167 = .ok (.bipush 6, 2) := by decide +kernel
theorem dX6_init_169 : decode cX6_init 169 = .ok (.newarray .int, 2) := by decide +kernel
theorem dX6_init_171 : decode cX6_init 171 = .ok (.putfield 69, 3) := by decide +kernel
theorem dX6_init_174 : decode cX6_init 174 = .ok (.aload_n 0, 1) := by decide +kernel
theorem dX6_init_175 : decode cX6_init 175 = .ok (.iconst 0, 1) := by decide +kernel
theorem dX6_init_176 : decode cX6_init 176 = .ok (.putfield 72, 3) := by decide +kernel
theorem dX6_init_179 : decode cX6_init 179 = .ok (.return_, 1) := by decide +kernel
theorem dX6_in_0 : decode cX6_in 0 = .ok (.iload_n 0, 1) := by decide +kernel
theorem dX6_in_1 : decode cX6_in 1 = .ok (.iload_n 1, 1) := by decide +kernel
theorem dX6_in_2 : decode cX6_in 2 = .ok (.if_icmp .lt 12, 3) := by decide +kernel
theorem dX6_in_5 : decode cX6_in 5 = .ok (.iload_n 0, 1) := by decide +kernel
theorem dX6_in_6 : decode cX6_in 6 = .ok (.iload_n 2, 1) := by decide +kernel
theorem dX6_in_7 : decode cX6_in 7 = .ok (.if_icmp .gt 7, 3) := by decide +kernel
theorem dX6_in_10 : decode cX6_in 10 = .ok (.iconst 1, 1) := by decide +kernel
theorem dX6_in_11 : decode cX6_in 11 = .ok (.goto 4, 3) := by decide +kernel
theorem dX6_in_14 : decode cX6_in 14 = .ok (.iconst 0, 1) := by decide +kernel
theorem dX6_in_15 : decode cX6_in 15 = .ok (.ireturn, 1) := by decide +kernel
set_option maxRecDepth 20000 in
theorem ggX6_isWell_X6_in : GoodIn wsX6_isWell wsX6_in := goodIn_r _ [5] (by decide +kernel) (by decide +kernel)
set_option maxRecDepth 20000 in
theorem gX6_isWell_X6_in : GoodIn wsX6_isWell (va_wsS RX6 76 yX6_in wsX6_in) := goodIn_app (goodIn_of _ (by decide +kernel)) ggX6_isWell_X6_in
theorem dX6_isWell_0 : decode cX6_isWell 0 = .ok (.iload_n 1, 1) := by decide +kernel
theorem dX6_isWell_1 : decode cX6_isWell 1 = .ok (.iconst 0, 1) := by decide +kernel
theorem dX6_isWell_2 : decode cX6_isWell 2 = .ok (.aload_n 0, 1) := by decide +kernel
theorem dX6_isWell_3 : decode cX6_isWell 3 = .ok (.getfield 72, 3) := by decide +kernel
theorem dX6_isWell_6 : decode cX6_isWell 6 = .ok (.iconst 1, 1) := by decide +kernel
theorem dX6_isWell_7 : decode cX6_isWell 7 = .ok (.isub, 1) := by decide +kernel
theorem dX6_isWell_8 : decode cX6_isWell 8 = .ok (.invokestatic 76, 3) := by decide +kernel
theorem dX6_isWell_11 : decode cX6_isWell 11 = .ok (.ireturn, 1) := by decide +kernel
set_option maxRecDepth 20000 in
theorem ggX6_well_X6_in : GoodIn wsX6_well wsX6_in := goodIn_r _ [10] (by decide +kernel) (by decide +kernel)
set_option maxRecDepth 20000 in
theorem gX6_well_X6_in : GoodIn wsX6_well (va_wsS RX6 76 yX6_in wsX6_in) := goodIn_app (goodIn_of _ (by decide +kernel)) ggX6_well_X6_in
theorem dX6_well_0 : decode cX6_well 0 = .ok (.iload_n 3, 1) := by decide +kernel
theorem dX6_well_1 : decode cX6_well 1 = .ok (.sipush 200, 3) := by decide +kernel
theorem dX6_well_4 : decode cX6_well 4 = .ok (.if_icmp .gt 39, 3) := by decide +kernel
theorem dX6_well_7 : decode cX6_well 7 = .ok (.iload_n 3, 1) := by decide +kernel
theorem dX6_well_8 : decode cX6_well 8 = .ok (.iload 4, 2) := by decide +kernel
theorem dX6_well_10 : decode cX6_well 10 = .ok (.if_icmp .lt 33, 3) := by decide +kernel
theorem dX6_well_13 : decode cX6_well 13 = .ok (.iload 4, 2) := by decide +kernel
theorem dX6_well_15 : decode cX6_well 15 = .ok (.iload 5, 2) := by decide +kernel
theorem dX6_well_17 : decode cX6_well 17 = .ok (.if_icmp .lt 26, 3) := by decide +kernel
theorem dX6_well_20 : decode cX6_well 20 = .ok (.iload 5, 2) := by decide +kernel
theorem dX6_well_22 : decode cX6_well 22 = .ok (.iload 6, 2) := by decide +kernel
theorem dX6_well_24 : decode cX6_well 24 = .ok (.if_icmp .lt 19, 3) := by decide +kernel
theorem dX6_well_27 : decode cX6_well 27 = .ok (.iload 6, 2) := by decide +kernel
theorem dX6_well_29 : decode cX6_well 29 = .ok (.iload 7, 2) := by decide +kernel
theorem dX6_well_31 : decode cX6_well 31 = .ok (.if_icmp .lt 12, 3) := by decide +kernel
theorem dX6_well_34 : decode cX6_well 34 = .ok (.iload 7, 2) := by decide +kernel
theorem dX6_well_36 : decode cX6_well 36 = .ok (.ifCond .lt 7, 3) := by decide +kernel
theorem dX6_well_39 : decode cX6_well 39 = .ok (.iconst 1, 1) := by decide +kernel
theorem dX6_well_40 : decode cX6_well 40 = .ok (.goto 4, 3) := by decide +kernel
theorem dX6_well_43 : decode cX6_well 43 = .ok (.iconst 0, 1) := by decide +kernel
theorem dX6_well_44 : decode cX6_well 44 = .ok (.istore 8, 2) := by decide +kernel
theorem dX6_well_46 : decode cX6_well 46 = .ok (.iload_n 1, 1) := by decide +kernel
theorem dX6_well_47 : decode cX6_well 47 = .ok (.iconst 0, 1) := by decide +kernel
theorem dX6_well_48 : decode cX6_well 48 = .ok (.iconst 2, 1) := by decide +kernel
theorem dX6_well_49 : decode cX6_well 49 = .ok (.invokestatic 76, 3) := by decide +kernel
theorem dX6_well_52 : decode cX6_well 52 = .ok (.ifCond .eq 17, 3) := by decide +kernel
theorem dX6_well_55 : decode cX6_well 55 = .ok (.iload_n 2, 1) := by decide +kernel
theorem dX6_well_56 : decode cX6_well 56 = .ok (.iconst 0, 1) := by decide +kernel
theorem dX6_well_57 : decode cX6_well 57 = .ok (.iconst 3, 1) := by decide +kernel
theorem dX6_well_58 : decode cX6_well 58 = .ok (.invokestatic 76, 3) := by decide +kernel
theorem dX6_well_61 : decode cX6_well 61 = .ok (.ifCond .eq 8, 3) := by decide +kernel
theorem dX6_well_64 : decode cX6_well 64 = .ok (.iload 8, 2) := by decide +kernel
theorem dX6_well_66 : decode cX6_well 66 = .ok (.ifCond .ne 5, 3) := by decide +kernel
theorem dX6_well_69 : decode cX6_well 69 = .ok (.iconst (-1), 1) := by decide +kernel
theorem dX6_well_70 : decode cX6_well 70 = .ok (.ireturn, 1) := by decide +kernel
theorem dX6_well_71 : decode cX6_well 71 = .ok (.aload_n 0, 1) := by decide +kernel
theorem dX6_well_72 : decode cX6_well 72 = .ok (.getfield 72, 3) := by decide +kernel
theorem dX6_well_75 : decode cX6_well 75 = .ok (.bipush 8, 2) := by decide +kernel
theorem dX6_well_77 : decode cX6_well 77 = .ok (.if_icmp .ne 6, 3) := by decide +kernel
theorem dX6_well_80 : decode cX6_well 80 = .ok (.bipush (-3), 2) := by decide +kernel
theorem dX6_well_82 : decode cX6_well 82 = .ok (.ireturn, 1) := by decide +kernel
theorem dX6_well_83 : decode cX6_well 83 = .ok (.aload_n 0, 1) := by decide +kernel
theorem dX6_well_84 : decode cX6_well 84 = .ok (.getfield 7, 3) := by decide +kernel
theorem dX6_well_87 : decode cX6_well 87 = .ok (.aload_n 0, 1) := by decide +kernel
theorem dX6_well_88 : decode cX6_well 88 = .ok (.getfield 72, 3) := by decide +kernel
theorem dX6_well_91 : decode cX6_well 91 = .ok (.iload_n 1, 1) := by decide +kernel
theorem dX6_well_92 : decode cX6_well 92 = .ok (.iastore, 1) := by decide +kernel
theorem dX6_well_93 : decode cX6_well 93 = .ok (.aload_n 0, 1) := by decide +kernel
theorem dX6_well_94 : decode cX6_well 94 = .ok (.getfield 13, 3) := by decide +kernel
theorem dX6_well_97 : decode cX6_well 97 = .ok (.aload_n 0, 1) := by decide +kernel
theorem dX6_well_98 : decode cX6_well 98 = .ok (.getfield 72, 3) := by decide +kernel
theorem dX6_well_101 : decode cX6_well 101 = .ok (.iload_n 2, 1) := by decide +kernel
theorem dX6_well_102 : decode cX6_well 102 = .ok (.iastore, 1) := by decide +kernel
theorem dX6_well_103 : decode cX6_well 103 = .ok (.aload_n 0, 1) := by decide +kernel
theorem dX6_well_104 : decode cX6_well 104 = .ok (.getfield 16, 3) := by decide +kernel
theorem dX6_well_107 : decode cX6_well 107 = .ok (.aload_n 0, 1) := by decide +kernel
theorem dX6_well_108 : decode cX6_well 108 = .ok (.getfield 72, 3) := by decide +kernel
theorem dX6_well_111 : decode cX6_well 111 = .ok (.iconst 0, 1) := by decide +kernel
theorem dX6_well_112 : decode cX6_well 112 = .ok (.iastore, 1) := by decide +kernel
theorem dX6_well_113 : decode cX6_well 113 = .ok (.aload_n 0, 1) := by decide +kernel
theorem dX6_well_114 : decode cX6_well 114 = .ok (.getfield 19, 3) := by decide +kernel
theorem dX6_well_117 : decode cX6_well 117 = .ok (.aload_n 0, 1) := by decide +kernel
theorem dX6_well_118 : decode cX6_well 118 = .ok (.getfield 72, 3) := by decide +kernel
theorem dX6_well_121 : decode cX6_well 121 = .ok (.iconst 0, 1) := by decide +kernel
theorem dX6_well_122 : decode cX6_well 122 = .ok (.bastore, 1) := by decide +kernel
theorem dX6_well_123 : decode cX6_well 123 = .ok (.aload_n 0, 1) := by decide +kernel
theorem dX6_well_124 : decode cX6_well 124 = .ok (.getfield 23, 3) := by decide +kernel
theorem dX6_well_127 : decode cX6_well 127 = .ok (.iconst 5, 1) := by decide +kernel
theorem dX6_well_128 : decode cX6_well 128 = .ok (.aload_n 0, 1) := by decide +kernel
theorem dX6_well_129 : decode cX6_well 129 = .ok (.getfield 72, 3) := by decide +kernel
theorem dX6_well_132 : decode cX6_well 132 = .ok (.imul, 1) := by decide +kernel
theorem dX6_well_133 : decode cX6_well 133 = .ok (.iload_n 3, 1) := by decide +kernel
theorem dX6_well_134 : decode cX6_well 134 = .ok (.iastore, 1) := by decide +kernel
theorem dX6_well_135 : decode cX6_well 135 = .ok (.aload_n 0, 1) := by decide +kernel
theorem dX6_well_136 : decode cX6_well 136 = .ok (.getfield 23, 3) := by decide +kernel
theorem dX6_well_139 : decode cX6_well 139 = .ok (.iconst 5, 1) := by decide +kernel
theorem dX6_well_140 : decode cX6_well 140 = .ok (.aload_n 0, 1) := by decide +kernel
theorem dX6_well_141 : decode cX6_well 141 = .ok (.getfield 72, 3) := by decide +kernel
theorem dX6_well_144 : decode cX6_well 144 = .ok (.imul, 1) := by decide +kernel
theorem dX6_well_145 : decode cX6_well 145 = .ok (.iconst 1, 1) := by decide +kernel
theorem dX6_well_146 : decode cX6_well 146 = .ok (.iadd, 1) := by decide +kernel
theorem dX6_well_147 : decode cX6_well 147 = .ok (.iload 4, 2) := by decide +kernel
theorem dX6_well_149 : decode cX6_well 149 = .ok (.iastore, 1) := by decide +kernel
theorem dX6_well_150 : decode cX6_well 150 = .ok (.aload_n 0, 1) := by decide +kernel
theorem dX6_well_151 : decode cX6_well 151 = .ok (.getfield 23, 3) := by decide +kernel
theorem dX6_well_154 : decode cX6_well 154 = .ok (.iconst 5, 1) := by decide +kernel
theorem dX6_well_155 : decode cX6_well 155 = .ok (.aload_n 0, 1) := by decide +kernel
theorem dX6_well_156 : decode cX6_well 156 = .ok (.getfield 72, 3) := by decide +kernel
theorem dX6_well_159 : decode cX6_well 159 = .ok (.imul, 1) := by decide +kernel
theorem dX6_well_160 : decode cX6_well 160 = .ok (.iconst 2, 1) := by decide +kernel
theorem dX6_well_161 : decode cX6_well 161 = .ok (.iadd, 1) := by decide +kernel
theorem dX6_well_162 : decode cX6_well 162 = .ok (.iload 5, 2) := by decide +kernel
theorem dX6_well_164 : decode cX6_well 164 = .ok (.iastore, 1) := by decide +kernel
theorem dX6_well_165 : decode cX6_well 165 = .ok (.aload_n 0, 1) := by decide +kernel
theorem dX6_well_166 : decode cX6_well 166 = .ok (.getfield 23, 3) := by decide +kernel
theorem dX6_well_169 : decode cX6_well 169 = .ok (.iconst 5, 1) := by decide +kernel
theorem dX6_well_170 : decode cX6_well 170 = .ok (.aload_n 0, 1) := by decide +kernel
theorem dX6_well_171 : decode cX6_well 171 = .ok (.getfield 72, 3) := by decide +kernel
theorem dX6_well_174 : decode cX6_well 174 = .ok (.imul, 1) := by decide +kernel
theorem dX6_well_175 : decode cX6_well 175 = .ok (.iconst 3, 1) := by decide +kernel
theorem dX6_well_176 : decode cX6_well 176 = .ok (.iadd, 1) := by decide +kernel
theorem dX6_well_177 : decode cX6_well 177 = .ok (.iload 6, 2) := by decide +kernel
theorem dX6_well_179 : decode cX6_well 179 = .ok (.iastore, 1) := by decide +kernel
theorem dX6_well_180 : decode cX6_well 180 = .ok (.aload_n 0, 1) := by decide +kernel
theorem dX6_well_181 : decode cX6_well 181 = .ok (.getfield 23, 3) := by decide +kernel
theorem dX6_well_184 : decode cX6_well 184 = .ok (.iconst 5, 1) := by decide +kernel
theorem dX6_well_185 : decode cX6_well 185 = .ok (.aload_n 0, 1) := by decide +kernel
theorem dX6_well_186 : decode cX6_well 186 = .ok (.getfield 72, 3) := by decide +kernel
theorem dX6_well_189 : decode cX6_well 189 = .ok (.imul, 1) := by decide +kernel
theorem dX6_well_190 : decode cX6_well 190 = .ok (.iconst 4, 1) := by decide +kernel
theorem dX6_well_191 : decode cX6_well 191 = .ok (.iadd, 1) := by decide +kernel
theorem dX6_well_192 : decode cX6_well 192 = .ok (.iload 7, 2) := by decide +kernel
theorem dX6_well_194 : decode cX6_well 194 = .ok (.iastore, 1) := by decide +kernel
theorem dX6_well_195 : decode cX6_well 195 = .ok (.aload_n 0, 1) := by decide +kernel
theorem dX6_well_196 : decode cX6_well 196 = .ok (.dup, 1) := by decide +kernel
theorem dX6_well_197 : decode cX6_well 197 = .ok (.getfield 72, 3) := by decide +kernel
theorem dX6_well_200 : decode cX6_well 200 = .ok (.iconst 1, 1) := by decide +kernel
theorem dX6_well_201 : decode cX6_well 201 = .ok (.iadd, 1) := by decide +kernel
theorem dX6_well_202 : decode cX6_well 202 = .ok (.putfield 72, 3) := by decide +kernel
theorem dX6_well_205 : decode cX6_well 205 = .ok (.aload_n 0, 1) := by decide +kernel
theorem dX6_well_206 : decode cX6_well 206 = .ok (.getfield 72, 3) := by decide +kernel
theorem dX6_well_209 : decode cX6_well 209 = .ok (.iconst 1, 1) := by decide +kernel
theorem dX6_well_210 : decode cX6_well 210 = .ok (.isub, 1) := by decide +kernel
theorem dX6_well_211 : decode cX6_well 211 = .ok (.ireturn, 1) := by decide +kernel
set_option maxRecDepth 20000 in
theorem ggX6_open_X6_isWell : GoodIn wsX6_open wsX6_isWell := goodIn_r _ [6, 7, 8, 9, 5, 10, 11, 12, 13, 14, 15, 16, 17, 18, 19, 20, 21, 22, 23, 24, 25, 26, 27, 28, 29, 30, 31, 32, 33, 34, 35, 36, 37] (by decide +kernel) (by decide +kernel)
set_option maxRecDepth 20000 in
theorem gX6_open_X6_isWell : GoodIn wsX6_open (wsV RX6 80 RX6 yX6_isWell wsX6_isWell) := goodIn_app (goodIn_of _ (by decide +kernel)) ggX6_open_X6_isWell
theorem dX6_open_0 : decode cX6_open 0 = .ok (.aload_n 0, 1) := by decide +kernel
theorem dX6_open_1 : decode cX6_open 1 = .ok (.iload_n 1, 1) := by decide +kernel
theorem dX6_open_2 : decode cX6_open 2 = .ok (.invokevirtual 80, 3) := by decide +kernel
theorem dX6_open_5 : decode cX6_open 5 = .ok (.ifCond .ne 5, 3) := by decide +kernel
theorem dX6_open_8 : decode cX6_open 8 = .ok (.iconst (-1), 1) := by decide +kernel
theorem dX6_open_9 : decode cX6_open 9 = .ok (.ireturn, 1) := by decide +kernel
theorem dX6_open_10 : decode cX6_open 10 = .ok (.aload_n 0, 1) := by decide +kernel
theorem dX6_open_11 : decode cX6_open 11 = .ok (.getfield 19, 3) := by decide +kernel
theorem dX6_open_14 : decode cX6_open 14 = .ok (.iload_n 1, 1) := by decide +kernel
theorem dX6_open_15 : decode cX6_open 15 = .ok (.baload, 1) := by decide +kernel
theorem dX6_open_16 : decode cX6_open 16 = .ok (.ifCond .eq 7, 3) := by decide +kernel
theorem dX6_open_19 : decode cX6_open 19 = .ok (.iconst 1, 1) := by decide +kernel
theorem dX6_open_20 : decode cX6_open 20 = .ok (.goto 4, 3) := by decide +kernel
theorem dX6_open_23 : decode cX6_open 23 = .ok (.iconst 0, 1) := by decide +kernel
theorem dX6_open_24 : decode cX6_open 24 = .ok (.istore_n 3, 1) := by decide +kernel
theorem dX6_open_25 : decode cX6_open 25 = .ok (.aload_n 0, 1) := by decide +kernel
theorem dX6_open_26 : decode cX6_open 26 = .ok (.getfield 19, 3) := by decide +kernel
theorem dX6_open_29 : decode cX6_open 29 = .ok (.iload_n 1, 1) := by decide +kernel
theorem dX6_open_30 : decode cX6_open 30 = .ok (.iload_n 2, 1) := by decide +kernel
theorem dX6_open_31 : decode cX6_open 31 = .ok (.bastore, 1) := by decide +kernel
theorem dX6_open_32 : decode cX6_open 32 = .ok (.iload_n 3, 1) := by decide +kernel
theorem dX6_open_33 : decode cX6_open 33 = .ok (.ireturn, 1) := by decide +kernel
set_option maxRecDepth 20000 in
theorem ggX6_clean_X6_isWell : GoodIn wsX6_clean wsX6_isWell := goodIn_r _ [6, 7, 8, 9, 5, 10, 11, 12, 13, 14, 15, 16, 17, 18, 19, 20, 21, 22, 23, 24, 25, 26, 27, 28, 29, 30, 31, 32, 33, 34, 35, 36, 37] (by decide +kernel) (by decide +kernel)
set_option maxRecDepth 20000 in
theorem gX6_clean_X6_isWell : GoodIn wsX6_clean (wsV RX6 80 RX6 yX6_isWell wsX6_isWell) := goodIn_app (goodIn_of _ (by decide +kernel)) ggX6_clean_X6_isWell
theorem dX6_clean_0 : decode cX6_clean 0 = .ok (.aload_n 0, 1) := by decide +kernel
theorem dX6_clean_1 : decode cX6_clean 1 = .ok (.iload_n 1, 1) := by decide +kernel
theorem dX6_clean_2 : decode cX6_clean 2 = .ok (.invokevirtual 80, 3) := by decide +kernel
theorem dX6_clean_5 : decode cX6_clean 5 = .ok (.ifCond .ne 5, 3) := by decide +kernel
theorem dX6_clean_8 : decode cX6_clean 8 = .ok (.iconst (-1), 1) := by decide +kernel
theorem dX6_clean_9 : decode cX6_clean 9 = .ok (.ireturn, 1) := by decide +kernel
theorem dX6_clean_10 : decode cX6_clean 10 = .ok (.aload_n 0, 1) := by decide +kernel
theorem dX6_clean_11 : decode cX6_clean 11 = .ok (.getfield 16, 3) := by decide +kernel
theorem dX6_clean_14 : decode cX6_clean 14 = .ok (.iload_n 1, 1) := by decide +kernel
theorem dX6_clean_15 : decode cX6_clean 15 = .ok (.iaload, 1) := by decide +kernel
theorem dX6_clean_16 : decode cX6_clean 16 = .ok (.istore_n 2, 1) := by decide +kernel
theorem dX6_clean_17 : decode cX6_clean 17 = .ok (.aload_n 0, 1) := by decide +kernel
theorem dX6_clean_18 : decode cX6_clean 18 = .ok (.getfield 16, 3) := by decide +kernel
theorem dX6_clean_21 : decode cX6_clean 21 = .ok (.iload_n 1, 1) := by decide +kernel
theorem dX6_clean_22 : decode cX6_clean 22 = .ok (.iconst 0, 1) := by decide +kernel
theorem dX6_clean_23 : decode cX6_clean 23 = .ok (.iastore, 1) := by decide +kernel
theorem dX6_clean_24 : decode cX6_clean 24 = .ok (.iload_n 2, 1) := by decide +kernel
theorem dX6_clean_25 : decode cX6_clean 25 = .ok (.ireturn, 1) := by decide +kernel
theorem dX6_flowOf_0 : decode cX6_flowOf 0 = .ok (.iload_n 2, 1) := by decide +kernel
theorem dX6_flowOf_1 : decode cX6_flowOf 1 = .ok (.iconst 5, 1) := by decide +kernel
theorem dX6_flowOf_2 : decode cX6_flowOf 2 = .ok (.idiv, 1) := by decide +kernel
theorem dX6_flowOf_3 : decode cX6_flowOf 3 = .ok (.istore_n 3, 1) := by decide +kernel
theorem dX6_flowOf_4 : decode cX6_flowOf 4 = .ok (.iload_n 2, 1) := by decide +kernel
theorem dX6_flowOf_5 : decode cX6_flowOf 5 = .ok (.iconst 5, 1) := by decide +kernel
theorem dX6_flowOf_6 : decode cX6_flowOf 6 = .ok (.irem, 1) := by decide +kernel
theorem dX6_flowOf_7 : decode cX6_flowOf 7 = .ok (.istore 4, 2) := by decide +kernel
theorem dX6_flowOf_9 : decode cX6_flowOf 9 = .ok (.iconst 5, 1) := by decide +kernel
theorem dX6_flowOf_10 : decode cX6_flowOf 10 = .ok (.iload 4, 2) := by decide +kernel
theorem dX6_flowOf_12 : decode cX6_flowOf 12 = .ok (.isub, 1) := by decide +kernel
theorem dX6_flowOf_13 : decode cX6_flowOf 13 = .ok (.aload_n 0, 1) := by decide +kernel
theorem dX6_flowOf_14 : decode cX6_flowOf 14 = .ok (.getfield 23, 3) := by decide +kernel
theorem dX6_flowOf_17 : decode cX6_flowOf 17 = .ok (.iconst 5, 1) := by decide +kernel
theorem dX6_flowOf_18 : decode cX6_flowOf 18 = .ok (.iload_n 1, 1) := by decide +kernel
theorem dX6_flowOf_19 : decode cX6_flowOf 19 = .ok (.imul, 1) := by decide +kernel
theorem dX6_flowOf_20 : decode cX6_flowOf 20 = .ok (.iload_n 3, 1) := by decide +kernel
theorem dX6_flowOf_21 : decode cX6_flowOf 21 = .ok (.iadd, 1) := by decide +kernel
theorem dX6_flowOf_22 : decode cX6_flowOf 22 = .ok (.iaload, 1) := by decide +kernel
theorem dX6_flowOf_23 : decode cX6_flowOf 23 = .ok (.imul, 1) := by decide +kernel
theorem dX6_flowOf_24 : decode cX6_flowOf 24 = .ok (.istore 5, 2) := by decide +kernel
theorem dX6_flowOf_26 : decode cX6_flowOf 26 = .ok (.iload 5, 2) := by decide +kernel
theorem dX6_flowOf_28 : decode cX6_flowOf 28 = .ok (.iload 4, 2) := by decide +kernel
theorem dX6_flowOf_30 : decode cX6_flowOf 30 = .ok (.ifCond .ne 7, 3) := by decide +kernel
theorem dX6_flowOf_33 : decode cX6_flowOf 33 = .ok (.iconst 0, 1) := by decide +kernel
theorem dX6_flowOf_34 : decode cX6_flowOf 34 = .ok (.goto 18, 3) := by decide +kernel
theorem dX6_flowOf_37 : decode cX6_flowOf 37 = .ok (.iload 4, 2) := by decide +kernel
theorem dX6_flowOf_39 : decode cX6_flowOf 39 = .ok (.aload_n 0, 1) := by decide +kernel
theorem dX6_flowOf_40 : decode cX6_flowOf 40 = .ok (.getfield 23, 3) := by decide +kernel
theorem dX6_flowOf_43 : decode cX6_flowOf 43 = .ok (.iconst 5, 1) := by decide +kernel
theorem dX6_flowOf_44 : decode cX6_flowOf 44 = .ok (.iload_n 1, 1) := by decide +kernel
theorem dX6_flowOf_45 : decode cX6_flowOf 45 = .ok (.imul, 1) := by decide +kernel
theorem dX6_flowOf_46 : decode cX6_flowOf 46 = .ok (.iload_n 3, 1) := by decide +kernel
theorem dX6_flowOf_47 : decode cX6_flowOf 47 = .ok (.iadd, 1) := by decide +kernel
theorem dX6_flowOf_48 : decode cX6_flowOf 48 = .ok (.iconst 1, 1) := by decide +kernel
theorem dX6_flowOf_49 : decode cX6_flowOf 49 = .ok (.iadd, 1) := by decide +kernel
theorem dX6_flowOf_50 : decode cX6_flowOf 50 = .ok (.iaload, 1) := by decide +kernel
theorem dX6_flowOf_51 : decode cX6_flowOf 51 = .ok (.imul, 1) := by decide +kernel
theorem dX6_flowOf_52 : decode cX6_flowOf 52 = .ok (.iadd, 1) := by decide +kernel
theorem dX6_flowOf_53 : decode cX6_flowOf 53 = .ok (.istore 5, 2) := by decide +kernel
theorem dX6_flowOf_55 : decode cX6_flowOf 55 = .ok (.aload_n 0, 1) := by decide +kernel
theorem dX6_flowOf_56 : decode cX6_flowOf 56 = .ok (.getfield 7, 3) := by decide +kernel
theorem dX6_flowOf_59 : decode cX6_flowOf 59 = .ok (.iload_n 1, 1) := by decide +kernel
theorem dX6_flowOf_60 : decode cX6_flowOf 60 = .ok (.iaload, 1) := by decide +kernel
theorem dX6_flowOf_61 : decode cX6_flowOf 61 = .ok (.ifCond .le 35, 3) := by decide +kernel
theorem dX6_flowOf_64 : decode cX6_flowOf 64 = .ok (.aload_n 0, 1) := by decide +kernel
theorem dX6_flowOf_65 : decode cX6_flowOf 65 = .ok (.getfield 16, 3) := by decide +kernel
theorem dX6_flowOf_68 : decode cX6_flowOf 68 = .ok (.iload_n 1, 1) := by decide +kernel
theorem dX6_flowOf_69 : decode cX6_flowOf 69 = .ok (.iaload, 1) := by decide +kernel
theorem dX6_flowOf_70 : decode cX6_flowOf 70 = .ok (.bipush 19, 2) := by decide +kernel
theorem dX6_flowOf_72 : decode cX6_flowOf 72 = .ok (.if_icmp .le 7, 3) := by decide +kernel
theorem dX6_flowOf_75 : decode cX6_flowOf 75 = .ok (.iconst 0, 1) := by decide +kernel
theorem dX6_flowOf_76 : decode cX6_flowOf 76 = .ok (.goto 18, 3) := by decide +kernel
theorem dX6_flowOf_79 : decode cX6_flowOf 79 = .ok (.iload 5, 2) := by decide +kernel
theorem dX6_flowOf_81 : decode cX6_flowOf 81 = .ok (.bipush 20, 2) := by decide +kernel
theorem dX6_flowOf_83 : decode cX6_flowOf 83 = .ok (.aload_n 0, 1) := by decide +kernel
theorem dX6_flowOf_84 : decode cX6_flowOf 84 = .ok (.getfield 16, 3) := by decide +kernel
theorem dX6_flowOf_87 : decode cX6_flowOf 87 = .ok (.iload_n 1, 1) := by decide +kernel
theorem dX6_flowOf_88 : decode cX6_flowOf 88 = .ok (.iaload, 1) := by decide +kernel
theorem dX6_flowOf_89 : decode cX6_flowOf 89 = .ok (.isub, 1) := by decide +kernel
theorem dX6_flowOf_90 : decode cX6_flowOf 90 = .ok (.imul, 1) := by decide +kernel
theorem dX6_flowOf_91 : decode cX6_flowOf 91 = .ok (.bipush 20, 2) := by decide +kernel
theorem dX6_flowOf_93 : decode cX6_flowOf 93 = .ok (.idiv, 1) := by decide +kernel
theorem dX6_flowOf_94 : decode cX6_flowOf 94 = .ok (.istore 5, 2) := by decide +kernel
theorem dX6_flowOf_96 : decode cX6_flowOf 96 = .ok (.aload_n 0, 1) := by decide +kernel
theorem dX6_flowOf_97 : decode cX6_flowOf 97 = .ok (.getfield 7, 3) := by decide +kernel
theorem dX6_flowOf_100 : decode cX6_flowOf 100 = .ok (.iload_n 1, 1) := by decide +kernel
theorem dX6_flowOf_101 : decode cX6_flowOf 101 = .ok (.iaload, 1) := by decide +kernel
theorem dX6_flowOf_102 : decode cX6_flowOf 102 = .ok (.iconst 2, 1) := by decide +kernel
theorem dX6_flowOf_103 : decode cX6_flowOf 103 = .ok (.if_icmp .ne 17, 3) := by decide +kernel
theorem dX6_flowOf_106 : decode cX6_flowOf 106 = .ok (.iload 5, 2) := by decide +kernel
theorem dX6_flowOf_108 : decode cX6_flowOf 108 = .ok (.sipush 1000, 3) := by decide +kernel
theorem dX6_flowOf_111 : decode cX6_flowOf 111 = .ok (.if_icmp .le 9, 3) := by decide +kernel
theorem dX6_flowOf_114 : decode cX6_flowOf 114 = .ok (.sipush 1000, 3) := by decide +kernel
theorem dX6_flowOf_117 : decode cX6_flowOf 117 = .ok (.goto 5, 3) := by decide +kernel
theorem dX6_flowOf_120 : decode cX6_flowOf 120 = .ok (.iload 5, 2) := by decide +kernel
theorem dX6_flowOf_122 : decode cX6_flowOf 122 = .ok (.ireturn, 1) := by decide +kernel
theorem dX6_steamOf_0 : decode cX6_steamOf 0 = .ok (.iload_n 0, 1) := by decide +kernel
theorem dX6_steamOf_1 : decode cX6_steamOf 1 = .ok (.sipush 300, 3) := by decide +kernel
theorem dX6_steamOf_4 : decode cX6_steamOf 4 = .ok (.iconst 5, 1) := by decide +kernel
theorem dX6_steamOf_5 : decode cX6_steamOf 5 = .ok (.iload_n 1, 1) := by decide +kernel
theorem dX6_steamOf_6 : decode cX6_steamOf 6 = .ok (.imul, 1) := by decide +kernel
theorem dX6_steamOf_7 : decode cX6_steamOf 7 = .ok (.isub, 1) := by decide +kernel
theorem dX6_steamOf_8 : decode cX6_steamOf 8 = .ok (.imul, 1) := by decide +kernel
theorem dX6_steamOf_9 : decode cX6_steamOf 9 = .ok (.sipush 1000, 3) := by decide +kernel
theorem dX6_steamOf_12 : decode cX6_steamOf 12 = .ok (.idiv, 1) := by decide +kernel
theorem dX6_steamOf_13 : decode cX6_steamOf 13 = .ok (.ireturn, 1) := by decide +kernel
set_option maxRecDepth 20000 in
theorem ggX6_flow_X6_isWell : GoodIn wsX6_flow wsX6_isWell := goodIn_r _ [9, 10, 11, 12, 8, 13, 20, 21, 22, 23, 24, 25, 26, 27, 28, 29, 30, 31, 32, 33, 34, 35, 36, 37, 38, 39, 40, 41, 42, 43, 44, 45, 46] (by decide +kernel) (by decide +kernel)
set_option maxRecDepth 20000 in
theorem gX6_flow_X6_isWell : GoodIn wsX6_flow (wsV RX6 80 RX6 yX6_isWell wsX6_isWell) := goodIn_app (goodIn_of _ (by decide +kernel)) ggX6_flow_X6_isWell
set_option maxRecDepth 20000 in
theorem ggX6_flow_X6_in : GoodIn wsX6_flow wsX6_in := goodIn_r _ [13] (by decide +kernel) (by decide +kernel)
set_option maxRecDepth 20000 in
theorem gX6_flow_X6_in : GoodIn wsX6_flow (va_wsS RX6 76 yX6_in wsX6_in) := goodIn_app (goodIn_of _ (by decide +kernel)) ggX6_flow_X6_in
set_option maxRecDepth 20000 in
theorem ggX6_flow_X6_flowOf : GoodIn wsX6_flow wsX6_flowOf := goodIn_r _ [17, 18, 2, 19, 20, 21, 22, 23, 24, 25, 26, 27, 28, 29, 30, 31, 32, 33, 34, 35, 36, 37, 38, 39, 40, 41, 42, 43, 44, 45, 46] (by decide +kernel) (by decide +kernel)
set_option maxRecDepth 20000 in
theorem gX6_flow_X6_flowOf : GoodIn wsX6_flow (wsV RX6 92 RX6 yX6_flowOf wsX6_flowOf) := goodIn_app (goodIn_of _ (by decide +kernel)) ggX6_flow_X6_flowOf
theorem dX6_flow_0 : decode cX6_flow 0 = .ok (.aload_n 0, 1) := by decide +kernel
theorem dX6_flow_1 : decode cX6_flow 1 = .ok (.iload_n 1, 1) := by decide +kernel
theorem dX6_flow_2 : decode cX6_flow 2 = .ok (.invokevirtual 80, 3) := by decide +kernel
theorem dX6_flow_5 : decode cX6_flow 5 = .ok (.ifCond .eq 13, 3) := by decide +kernel
theorem dX6_flow_8 : decode cX6_flow 8 = .ok (.iload_n 2, 1) := by decide +kernel
theorem dX6_flow_9 : decode cX6_flow 9 = .ok (.iconst 0, 1) := by decide +kernel
theorem dX6_flow_10 : decode cX6_flow 10 = .ok (.bipush 20, 2) := by decide +kernel
theorem dX6_flow_12 : decode cX6_flow 12 = .ok (.invokestatic 76, 3) := by decide +kernel
theorem dX6_flow_15 : decode cX6_flow 15 = .ok (.ifCond .ne 5, 3) := by decide +kernel
theorem dX6_flow_18 : decode cX6_flow 18 = .ok (.iconst (-1), 1) := by decide +kernel
theorem dX6_flow_19 : decode cX6_flow 19 = .ok (.ireturn, 1) := by decide +kernel
theorem dX6_flow_20 : decode cX6_flow 20 = .ok (.aload_n 0, 1) := by decide +kernel
theorem dX6_flow_21 : decode cX6_flow 21 = .ok (.dup, 1) := by decide +kernel
theorem dX6_flow_22 : decode cX6_flow 22 = .ok (.getfield 84, 3) := by decide +kernel
theorem dX6_flow_25 : decode cX6_flow 25 = .ok (.aload_n 0, 1) := by decide +kernel
theorem dX6_flow_26 : decode cX6_flow 26 = .ok (.getfield 7, 3) := by decide +kernel
theorem dX6_flow_29 : decode cX6_flow 29 = .ok (.iload_n 1, 1) := by decide +kernel
theorem dX6_flow_30 : decode cX6_flow 30 = .ok (.iaload, 1) := by decide +kernel
theorem dX6_flow_31 : decode cX6_flow 31 = .ok (.ifCond .ne 7, 3) := by decide +kernel
theorem dX6_flow_34 : decode cX6_flow 34 = .ok (.lconst 1, 1) := by decide +kernel
theorem dX6_flow_35 : decode cX6_flow 35 = .ok (.goto 22, 3) := by decide +kernel
theorem dX6_flow_38 : decode cX6_flow 38 = .ok (.aload_n 0, 1) := by decide +kernel
theorem dX6_flow_39 : decode cX6_flow 39 = .ok (.getfield 7, 3) := by decide +kernel
theorem dX6_flow_42 : decode cX6_flow 42 = .ok (.iload_n 1, 1) := by decide +kernel
theorem dX6_flow_43 : decode cX6_flow 43 = .ok (.iaload, 1) := by decide +kernel
theorem dX6_flow_44 : decode cX6_flow 44 = .ok (.iconst 1, 1) := by decide +kernel
theorem dX6_flow_45 : decode cX6_flow 45 = .ok (.if_icmp .ne 9, 3) := by decide +kernel
theorem dX6_flow_48 : decode cX6_flow 48 = .ok (.ldc2_w 88, 3) := by decide +kernel
theorem dX6_flow_51 : decode cX6_flow 51 = .ok (.goto 6, 3) := by decide +kernel
theorem dX6_flow_54 : decode cX6_flow 54 = .ok (.ldc2_w 90, 3) := by decide +kernel
theorem dX6_flow_57 : decode cX6_flow 57 = .ok (.ladd, 1) := by decide +kernel
theorem dX6_flow_58 : decode cX6_flow 58 = .ok (.putfield 84, 3) := by decide +kernel
theorem dX6_flow_61 : decode cX6_flow 61 = .ok (.aload_n 0, 1) := by decide +kernel
theorem dX6_flow_62 : decode cX6_flow 62 = .ok (.iload_n 1, 1) := by decide +kernel
theorem dX6_flow_63 : decode cX6_flow 63 = .ok (.iload_n 2, 1) := by decide +kernel
theorem dX6_flow_64 : decode cX6_flow 64 = .ok (.invokevirtual 92, 3) := by decide +kernel
theorem dX6_flow_67 : decode cX6_flow 67 = .ok (.ireturn, 1) := by decide +kernel
set_option maxRecDepth 20000 in
theorem ggX6_about_X6_isWell : GoodIn wsX6_about wsX6_isWell := goodIn_r _ [10, 11, 12, 13, 9, 14, 15, 16, 17, 18, 19, 20, 21, 22, 23, 24, 25, 26, 27, 28, 29, 30, 31, 32, 33, 34, 35, 36, 37, 38, 39, 40, 41] (by decide +kernel) (by decide +kernel)
set_option maxRecDepth 20000 in
theorem gX6_about_X6_isWell : GoodIn wsX6_about (wsV RX6 80 RX6 yX6_isWell wsX6_isWell) := goodIn_app (goodIn_of _ (by decide +kernel)) ggX6_about_X6_isWell
set_option maxRecDepth 20000 in
theorem ggX6_about_X6_in : GoodIn wsX6_about wsX6_in := goodIn_r _ [14] (by decide +kernel) (by decide +kernel)
set_option maxRecDepth 20000 in
theorem gX6_about_X6_in : GoodIn wsX6_about (va_wsS RX6 76 yX6_in wsX6_in) := goodIn_app (goodIn_of _ (by decide +kernel)) ggX6_about_X6_in
theorem dX6_about_0 : decode cX6_about 0 = .ok (.aload_n 0, 1) := by decide +kernel
theorem dX6_about_1 : decode cX6_about 1 = .ok (.iload_n 1, 1) := by decide +kernel
theorem dX6_about_2 : decode cX6_about 2 = .ok (.invokevirtual 80, 3) := by decide +kernel
theorem dX6_about_5 : decode cX6_about 5 = .ok (.ifCond .eq 13, 3) := by decide +kernel
theorem dX6_about_8 : decode cX6_about 8 = .ok (.iload_n 2, 1) := by decide +kernel
theorem dX6_about_9 : decode cX6_about 9 = .ok (.iconst 0, 1) := by decide +kernel
theorem dX6_about_10 : decode cX6_about 10 = .ok (.bipush 8, 2) := by decide +kernel
theorem dX6_about_12 : decode cX6_about 12 = .ok (.invokestatic 76, 3) := by decide +kernel
theorem dX6_about_15 : decode cX6_about 15 = .ok (.ifCond .ne 5, 3) := by decide +kernel
theorem dX6_about_18 : decode cX6_about 18 = .ok (.iconst (-1), 1) := by decide +kernel
theorem dX6_about_19 : decode cX6_about 19 = .ok (.ireturn, 1) := by decide +kernel
theorem dX6_about_20 : decode cX6_about 20 = .ok (.iload_n 2, 1) := by decide +kernel
theorem dX6_about_21 : decode cX6_about 21 = .ok (.tableswitch 67 0 3 #[31, 38, 45, 52], 31) := by decide +kernel
theorem dX6_about_52 : decode cX6_about 52 = .ok (.aload_n 0, 1) := by decide +kernel
theorem dX6_about_53 : decode cX6_about 53 = .ok (.getfield 7, 3) := by decide +kernel
theorem dX6_about_56 : decode cX6_about 56 = .ok (.iload_n 1, 1) := by decide +kernel
theorem dX6_about_57 : decode cX6_about 57 = .ok (.iaload, 1) := by decide +kernel
theorem dX6_about_58 : decode cX6_about 58 = .ok (.ireturn, 1) := by decide +kernel
theorem dX6_about_59 : decode cX6_about 59 = .ok (.aload_n 0, 1) := by decide +kernel
theorem dX6_about_60 : decode cX6_about 60 = .ok (.getfield 13, 3) := by decide +kernel
theorem dX6_about_63 : decode cX6_about 63 = .ok (.iload_n 1, 1) := by decide +kernel
theorem dX6_about_64 : decode cX6_about 64 = .ok (.iaload, 1) := by decide +kernel
theorem dX6_about_65 : decode cX6_about 65 = .ok (.ireturn, 1) := by decide +kernel
theorem dX6_about_66 : decode cX6_about 66 = .ok (.aload_n 0, 1) := by decide +kernel
theorem dX6_about_67 : decode cX6_about 67 = .ok (.getfield 16, 3) := by decide +kernel
theorem dX6_about_70 : decode cX6_about 70 = .ok (.iload_n 1, 1) := by decide +kernel
theorem dX6_about_71 : decode cX6_about 71 = .ok (.iaload, 1) := by decide +kernel
theorem dX6_about_72 : decode cX6_about 72 = .ok (.ireturn, 1) := by decide +kernel
theorem dX6_about_73 : decode cX6_about 73 = .ok (.aload_n 0, 1) := by decide +kernel
theorem dX6_about_74 : decode cX6_about 74 = .ok (.getfield 19, 3) := by decide +kernel
theorem dX6_about_77 : decode cX6_about 77 = .ok (.iload_n 1, 1) := by decide +kernel
theorem dX6_about_78 : decode cX6_about 78 = .ok (.baload, 1) := by decide +kernel
theorem dX6_about_79 : decode cX6_about 79 = .ok (.ifCond .eq 7, 3) := by decide +kernel
theorem dX6_about_82 : decode cX6_about 82 = .ok (.iconst 1, 1) := by decide +kernel
theorem dX6_about_83 : decode cX6_about 83 = .ok (.goto 4, 3) := by decide +kernel
theorem dX6_about_86 : decode cX6_about 86 = .ok (.iconst 0, 1) := by decide +kernel
theorem dX6_about_87 : decode cX6_about 87 = .ok (.ireturn, 1) := by decide +kernel
theorem dX6_about_88 : decode cX6_about 88 = .ok (.aload_n 0, 1) := by decide +kernel
theorem dX6_about_89 : decode cX6_about 89 = .ok (.getfield 23, 3) := by decide +kernel
theorem dX6_about_92 : decode cX6_about 92 = .ok (.iconst 5, 1) := by decide +kernel
theorem dX6_about_93 : decode cX6_about 93 = .ok (.iload_n 1, 1) := by decide +kernel
theorem dX6_about_94 : decode cX6_about 94 = .ok (.imul, 1) := by decide +kernel
theorem dX6_about_95 : decode cX6_about 95 = .ok (.iload_n 2, 1) := by decide +kernel
theorem dX6_about_96 : decode cX6_about 96 = .ok (.iadd, 1) := by decide +kernel
theorem dX6_about_97 : decode cX6_about 97 = .ok (.iconst 4, 1) := by decide +kernel
theorem dX6_about_98 : decode cX6_about 98 = .ok (.isub, 1) := by decide +kernel
theorem dX6_about_99 : decode cX6_about 99 = .ok (.iaload, 1) := by decide +kernel
theorem dX6_about_100 : decode cX6_about 100 = .ok (.ireturn, 1) := by decide +kernel
set_option maxRecDepth 20000 in
theorem ggX6_turbine_X6_in : GoodIn wsX6_turbine wsX6_in := goodIn_r _ [9] (by decide +kernel) (by decide +kernel)
set_option maxRecDepth 20000 in
theorem gX6_turbine_X6_in : GoodIn wsX6_turbine (va_wsS RX6 76 yX6_in wsX6_in) := goodIn_app (goodIn_of _ (by decide +kernel)) ggX6_turbine_X6_in
theorem dX6_turbine_0 : decode cX6_turbine 0 = .ok (.iload_n 1, 1) := by decide +kernel
theorem dX6_turbine_1 : decode cX6_turbine 1 = .ok (.iconst 0, 1) := by decide +kernel
theorem dX6_turbine_2 : decode cX6_turbine 2 = .ok (.bipush 20, 2) := by decide +kernel
theorem dX6_turbine_4 : decode cX6_turbine 4 = .ok (.invokestatic 76, 3) := by decide +kernel
theorem dX6_turbine_7 : decode cX6_turbine 7 = .ok (.ifCond .eq 24, 3) := by decide +kernel
theorem dX6_turbine_10 : decode cX6_turbine 10 = .ok (.iload_n 2, 1) := by decide +kernel
theorem dX6_turbine_11 : decode cX6_turbine 11 = .ok (.iconst 1, 1) := by decide +kernel
theorem dX6_turbine_12 : decode cX6_turbine 12 = .ok (.bipush 40, 2) := by decide +kernel
theorem dX6_turbine_14 : decode cX6_turbine 14 = .ok (.invokestatic 76, 3) := by decide +kernel
theorem dX6_turbine_17 : decode cX6_turbine 17 = .ok (.ifCond .eq 14, 3) := by decide +kernel
theorem dX6_turbine_20 : decode cX6_turbine 20 = .ok (.iload_n 3, 1) := by decide +kernel
theorem dX6_turbine_21 : decode cX6_turbine 21 = .ok (.iconst 1, 1) := by decide +kernel
theorem dX6_turbine_22 : decode cX6_turbine 22 = .ok (.sipush 2000, 3) := by decide +kernel
theorem dX6_turbine_25 : decode cX6_turbine 25 = .ok (.invokestatic 76, 3) := by decide +kernel
theorem dX6_turbine_28 : decode cX6_turbine 28 = .ok (.ifCond .ne 5, 3) := by decide +kernel
theorem dX6_turbine_31 : decode cX6_turbine 31 = .ok (.iconst (-1), 1) := by decide +kernel
theorem dX6_turbine_32 : decode cX6_turbine 32 = .ok (.ireturn, 1) := by decide +kernel
theorem dX6_turbine_33 : decode cX6_turbine 33 = .ok (.aload_n 0, 1) := by decide +kernel
theorem dX6_turbine_34 : decode cX6_turbine 34 = .ok (.getfield 96, 3) := by decide +kernel
theorem dX6_turbine_37 : decode cX6_turbine 37 = .ok (.iconst 4, 1) := by decide +kernel
theorem dX6_turbine_38 : decode cX6_turbine 38 = .ok (.if_icmp .ne 6, 3) := by decide +kernel
theorem dX6_turbine_41 : decode cX6_turbine 41 = .ok (.bipush (-3), 2) := by decide +kernel
theorem dX6_turbine_43 : decode cX6_turbine 43 = .ok (.ireturn, 1) := by decide +kernel
theorem dX6_turbine_44 : decode cX6_turbine 44 = .ok (.aload_n 0, 1) := by decide +kernel
theorem dX6_turbine_45 : decode cX6_turbine 45 = .ok (.getfield 26, 3) := by decide +kernel
theorem dX6_turbine_48 : decode cX6_turbine 48 = .ok (.aload_n 0, 1) := by decide +kernel
theorem dX6_turbine_49 : decode cX6_turbine 49 = .ok (.getfield 96, 3) := by decide +kernel
theorem dX6_turbine_52 : decode cX6_turbine 52 = .ok (.iload_n 1, 1) := by decide +kernel
theorem dX6_turbine_53 : decode cX6_turbine 53 = .ok (.iastore, 1) := by decide +kernel
theorem dX6_turbine_54 : decode cX6_turbine 54 = .ok (.aload_n 0, 1) := by decide +kernel
theorem dX6_turbine_55 : decode cX6_turbine 55 = .ok (.getfield 29, 3) := by decide +kernel
theorem dX6_turbine_58 : decode cX6_turbine 58 = .ok (.aload_n 0, 1) := by decide +kernel
theorem dX6_turbine_59 : decode cX6_turbine 59 = .ok (.getfield 96, 3) := by decide +kernel
theorem dX6_turbine_62 : decode cX6_turbine 62 = .ok (.iload_n 2, 1) := by decide +kernel
theorem dX6_turbine_63 : decode cX6_turbine 63 = .ok (.iastore, 1) := by decide +kernel
theorem dX6_turbine_64 : decode cX6_turbine 64 = .ok (.aload_n 0, 1) := by decide +kernel
theorem dX6_turbine_65 : decode cX6_turbine 65 = .ok (.getfield 32, 3) := by decide +kernel
theorem dX6_turbine_68 : decode cX6_turbine 68 = .ok (.aload_n 0, 1) := by decide +kernel
theorem dX6_turbine_69 : decode cX6_turbine 69 = .ok (.getfield 96, 3) := by decide +kernel
theorem dX6_turbine_72 : decode cX6_turbine 72 = .ok (.iload_n 3, 1) := by decide +kernel
theorem dX6_turbine_73 : decode cX6_turbine 73 = .ok (.iastore, 1) := by decide +kernel
theorem dX6_turbine_74 : decode cX6_turbine 74 = .ok (.aload_n 0, 1) := by decide +kernel
theorem dX6_turbine_75 : decode cX6_turbine 75 = .ok (.getfield 35, 3) := by decide +kernel
theorem dX6_turbine_78 : decode cX6_turbine 78 = .ok (.aload_n 0, 1) := by decide +kernel
theorem dX6_turbine_79 : decode cX6_turbine 79 = .ok (.getfield 96, 3) := by decide +kernel
theorem dX6_turbine_82 : decode cX6_turbine 82 = .ok (.iconst 1, 1) := by decide +kernel
theorem dX6_turbine_83 : decode cX6_turbine 83 = .ok (.bastore, 1) := by decide +kernel
theorem dX6_turbine_84 : decode cX6_turbine 84 = .ok (.aload_n 0, 1) := by decide +kernel
theorem dX6_turbine_85 : decode cX6_turbine 85 = .ok (.dup, 1) := by decide +kernel
theorem dX6_turbine_86 : decode cX6_turbine 86 = .ok (.getfield 96, 3) := by decide +kernel
theorem dX6_turbine_89 : decode cX6_turbine 89 = .ok (.iconst 1, 1) := by decide +kernel
theorem dX6_turbine_90 : decode cX6_turbine 90 = .ok (.iadd, 1) := by decide +kernel
theorem dX6_turbine_91 : decode cX6_turbine 91 = .ok (.putfield 96, 3) := by decide +kernel
theorem dX6_turbine_94 : decode cX6_turbine 94 = .ok (.aload_n 0, 1) := by decide +kernel
theorem dX6_turbine_95 : decode cX6_turbine 95 = .ok (.getfield 96, 3) := by decide +kernel
theorem dX6_turbine_98 : decode cX6_turbine 98 = .ok (.iconst 1, 1) := by decide +kernel
theorem dX6_turbine_99 : decode cX6_turbine 99 = .ok (.isub, 1) := by decide +kernel
theorem dX6_turbine_100 : decode cX6_turbine 100 = .ok (.ireturn, 1) := by decide +kernel
set_option maxRecDepth 20000 in
theorem ggX6_on_X6_in : GoodIn wsX6_on wsX6_in := goodIn_r _ [6] (by decide +kernel) (by decide +kernel)
set_option maxRecDepth 20000 in
theorem gX6_on_X6_in : GoodIn wsX6_on (va_wsS RX6 76 yX6_in wsX6_in) := goodIn_app (goodIn_of _ (by decide +kernel)) ggX6_on_X6_in
theorem dX6_on_0 : decode cX6_on 0 = .ok (.iload_n 1, 1) := by decide +kernel
theorem dX6_on_1 : decode cX6_on 1 = .ok (.iconst 0, 1) := by decide +kernel
theorem dX6_on_2 : decode cX6_on 2 = .ok (.aload_n 0, 1) := by decide +kernel
theorem dX6_on_3 : decode cX6_on 3 = .ok (.getfield 96, 3) := by decide +kernel
theorem dX6_on_6 : decode cX6_on 6 = .ok (.iconst 1, 1) := by decide +kernel
theorem dX6_on_7 : decode cX6_on 7 = .ok (.isub, 1) := by decide +kernel
theorem dX6_on_8 : decode cX6_on 8 = .ok (.invokestatic 76, 3) := by decide +kernel
theorem dX6_on_11 : decode cX6_on 11 = .ok (.ifCond .ne 5, 3) := by decide +kernel
theorem dX6_on_14 : decode cX6_on 14 = .ok (.iconst (-1), 1) := by decide +kernel
theorem dX6_on_15 : decode cX6_on 15 = .ok (.ireturn, 1) := by decide +kernel
theorem dX6_on_16 : decode cX6_on 16 = .ok (.aload_n 0, 1) := by decide +kernel
theorem dX6_on_17 : decode cX6_on 17 = .ok (.getfield 35, 3) := by decide +kernel
theorem dX6_on_20 : decode cX6_on 20 = .ok (.iload_n 1, 1) := by decide +kernel
theorem dX6_on_21 : decode cX6_on 21 = .ok (.baload, 1) := by decide +kernel
theorem dX6_on_22 : decode cX6_on 22 = .ok (.ifCond .eq 7, 3) := by decide +kernel
theorem dX6_on_25 : decode cX6_on 25 = .ok (.iconst 1, 1) := by decide +kernel
theorem dX6_on_26 : decode cX6_on 26 = .ok (.goto 4, 3) := by decide +kernel
theorem dX6_on_29 : decode cX6_on 29 = .ok (.iconst 0, 1) := by decide +kernel
theorem dX6_on_30 : decode cX6_on 30 = .ok (.istore_n 3, 1) := by decide +kernel
theorem dX6_on_31 : decode cX6_on 31 = .ok (.aload_n 0, 1) := by decide +kernel
theorem dX6_on_32 : decode cX6_on 32 = .ok (.getfield 35, 3) := by decide +kernel
theorem dX6_on_35 : decode cX6_on 35 = .ok (.iload_n 1, 1) := by decide +kernel
theorem dX6_on_36 : decode cX6_on 36 = .ok (.iload_n 2, 1) := by decide +kernel
theorem dX6_on_37 : decode cX6_on 37 = .ok (.bastore, 1) := by decide +kernel
theorem dX6_on_38 : decode cX6_on 38 = .ok (.iload_n 3, 1) := by decide +kernel
theorem dX6_on_39 : decode cX6_on 39 = .ok (.ireturn, 1) := by decide +kernel
set_option maxRecDepth 20000 in
theorem ggX6_supply_X6_flowOf : GoodIn wsX6_supply wsX6_flowOf := goodIn_r _ [7, 8, 9, 10, 14, 15, 16, 17, 18, 19, 20, 21, 22, 23, 24, 25, 26, 27, 28, 29, 30, 31, 32, 33, 34, 35, 36, 37, 38, 39, 40] (by decide +kernel) (by decide +kernel)
set_option maxRecDepth 20000 in
theorem gX6_supply_X6_flowOf : GoodIn wsX6_supply (wsV RX6 92 RX6 yX6_flowOf wsX6_flowOf) := goodIn_app (goodIn_of _ (by decide +kernel)) ggX6_supply_X6_flowOf
set_option maxRecDepth 20000 in
theorem ggX6_supply_X6_steamOf : GoodIn wsX6_supply wsX6_steamOf := goodIn_r _ [13] (by decide +kernel) (by decide +kernel)
set_option maxRecDepth 20000 in
theorem gX6_supply_X6_steamOf : GoodIn wsX6_supply (va_wsS RX6 99 yX6_steamOf wsX6_steamOf) := goodIn_app (goodIn_of _ (by decide +kernel)) ggX6_supply_X6_steamOf
theorem dX6_supply_0 : decode cX6_supply 0 = .ok (.iconst 0, 1) := by decide +kernel
theorem dX6_supply_1 : decode cX6_supply 1 = .ok (.istore_n 2, 1) := by decide +kernel
theorem dX6_supply_2 : decode cX6_supply 2 = .ok (.iconst 0, 1) := by decide +kernel
theorem dX6_supply_3 : decode cX6_supply 3 = .ok (.istore_n 3, 1) := by decide +kernel
theorem dX6_supply_4 : decode cX6_supply 4 = .ok (.iload_n 3, 1) := by decide +kernel
theorem dX6_supply_5 : decode cX6_supply 5 = .ok (.aload_n 0, 1) := by decide +kernel
theorem dX6_supply_6 : decode cX6_supply 6 = .ok (.getfield 72, 3) := by decide +kernel
theorem dX6_supply_9 : decode cX6_supply 9 = .ok (.if_icmp .ge 35, 3) := by decide +kernel
theorem dX6_supply_12 : decode cX6_supply 12 = .ok (.iload_n 2, 1) := by decide +kernel
theorem dX6_supply_13 : decode cX6_supply 13 = .ok (.aload_n 0, 1) := by decide +kernel
theorem dX6_supply_14 : decode cX6_supply 14 = .ok (.getfield 19, 3) := by decide +kernel
theorem dX6_supply_17 : decode cX6_supply 17 = .ok (.iload_n 3, 1) := by decide +kernel
theorem dX6_supply_18 : decode cX6_supply 18 = .ok (.baload, 1) := by decide +kernel
theorem dX6_supply_19 : decode cX6_supply 19 = .ok (.ifCond .eq 16, 3) := by decide +kernel
theorem dX6_supply_22 : decode cX6_supply 22 = .ok (.aload_n 0, 1) := by decide +kernel
theorem dX6_supply_23 : decode cX6_supply 23 = .ok (.iload_n 3, 1) := by decide +kernel
theorem dX6_supply_24 : decode cX6_supply 24 = .ok (.iload_n 1, 1) := by decide +kernel
theorem dX6_supply_25 : decode cX6_supply 25 = .ok (.invokevirtual 92, 3) := by decide +kernel
theorem dX6_supply_28 : decode cX6_supply 28 = .ok (.iload_n 1, 1) := by decide +kernel
theorem dX6_supply_29 : decode cX6_supply 29 = .ok (.invokestatic 99, 3) := by decide +kernel
theorem dX6_supply_32 : decode cX6_supply 32 = .ok (.goto 4, 3) := by decide +kernel
theorem dX6_supply_35 : decode cX6_supply 35 = .ok (.iconst 0, 1) := by decide +kernel
theorem dX6_supply_36 : decode cX6_supply 36 = .ok (.iadd, 1) := by decide +kernel
theorem dX6_supply_37 : decode cX6_supply 37 = .ok (.istore_n 2, 1) := by decide +kernel
theorem dX6_supply_38 : decode cX6_supply 38 = .ok (.iinc 3 1, 3) := by decide +kernel
theorem dX6_supply_41 : decode cX6_supply 41 = .ok (.goto (-37), 3) := by decide +kernel
theorem dX6_supply_44 : decode cX6_supply 44 = .ok (.iload_n 2, 1) := by decide +kernel
theorem dX6_supply_45 : decode cX6_supply 45 = .ok (.ireturn, 1) := by decide +kernel
theorem dX6_draw_0 : decode cX6_draw 0 = .ok (.iconst 0, 1) := by decide +kernel
theorem dX6_draw_1 : decode cX6_draw 1 = .ok (.istore_n 2, 1) := by decide +kernel
theorem dX6_draw_2 : decode cX6_draw 2 = .ok (.iconst 0, 1) := by decide +kernel
theorem dX6_draw_3 : decode cX6_draw 3 = .ok (.istore_n 3, 1) := by decide +kernel
theorem dX6_draw_4 : decode cX6_draw 4 = .ok (.iload_n 3, 1) := by decide +kernel
theorem dX6_draw_5 : decode cX6_draw 5 = .ok (.aload_n 0, 1) := by decide +kernel
theorem dX6_draw_6 : decode cX6_draw 6 = .ok (.getfield 96, 3) := by decide +kernel
theorem dX6_draw_9 : decode cX6_draw 9 = .ok (.if_icmp .ge 65, 3) := by decide +kernel
theorem dX6_draw_12 : decode cX6_draw 12 = .ok (.aload_n 0, 1) := by decide +kernel
theorem dX6_draw_13 : decode cX6_draw 13 = .ok (.getfield 35, 3) := by decide +kernel
theorem dX6_draw_16 : decode cX6_draw 16 = .ok (.iload_n 3, 1) := by decide +kernel
theorem dX6_draw_17 : decode cX6_draw 17 = .ok (.baload, 1) := by decide +kernel
theorem dX6_draw_18 : decode cX6_draw 18 = .ok (.ifCond .eq 50, 3) := by decide +kernel
theorem dX6_draw_21 : decode cX6_draw 21 = .ok (.iload_n 1, 1) := by decide +kernel
theorem dX6_draw_22 : decode cX6_draw 22 = .ok (.aload_n 0, 1) := by decide +kernel
theorem dX6_draw_23 : decode cX6_draw 23 = .ok (.getfield 26, 3) := by decide +kernel
theorem dX6_draw_26 : decode cX6_draw 26 = .ok (.iload_n 3, 1) := by decide +kernel
theorem dX6_draw_27 : decode cX6_draw 27 = .ok (.iaload, 1) := by decide +kernel
theorem dX6_draw_28 : decode cX6_draw 28 = .ok (.if_icmp .lt 40, 3) := by decide +kernel
theorem dX6_draw_31 : decode cX6_draw 31 = .ok (.aload_n 0, 1) := by decide +kernel
theorem dX6_draw_32 : decode cX6_draw 32 = .ok (.getfield 29, 3) := by decide +kernel
theorem dX6_draw_35 : decode cX6_draw 35 = .ok (.iload_n 3, 1) := by decide +kernel
theorem dX6_draw_36 : decode cX6_draw 36 = .ok (.iaload, 1) := by decide +kernel
theorem dX6_draw_37 : decode cX6_draw 37 = .ok (.iload_n 1, 1) := by decide +kernel
theorem dX6_draw_38 : decode cX6_draw 38 = .ok (.iconst 1, 1) := by decide +kernel
theorem dX6_draw_39 : decode cX6_draw 39 = .ok (.iadd, 1) := by decide +kernel
theorem dX6_draw_40 : decode cX6_draw 40 = .ok (.imul, 1) := by decide +kernel
theorem dX6_draw_41 : decode cX6_draw 41 = .ok (.istore 4, 2) := by decide +kernel
theorem dX6_draw_43 : decode cX6_draw 43 = .ok (.iload_n 2, 1) := by decide +kernel
theorem dX6_draw_44 : decode cX6_draw 44 = .ok (.iload 4, 2) := by decide +kernel
theorem dX6_draw_46 : decode cX6_draw 46 = .ok (.aload_n 0, 1) := by decide +kernel
theorem dX6_draw_47 : decode cX6_draw 47 = .ok (.getfield 32, 3) := by decide +kernel
theorem dX6_draw_50 : decode cX6_draw 50 = .ok (.iload_n 3, 1) := by decide +kernel
theorem dX6_draw_51 : decode cX6_draw 51 = .ok (.iaload, 1) := by decide +kernel
theorem dX6_draw_52 : decode cX6_draw 52 = .ok (.if_icmp .le 12, 3) := by decide +kernel
theorem dX6_draw_55 : decode cX6_draw 55 = .ok (.aload_n 0, 1) := by decide +kernel
theorem dX6_draw_56 : decode cX6_draw 56 = .ok (.getfield 32, 3) := by decide +kernel
theorem dX6_draw_59 : decode cX6_draw 59 = .ok (.iload_n 3, 1) := by decide +kernel
theorem dX6_draw_60 : decode cX6_draw 60 = .ok (.iaload, 1) := by decide +kernel
theorem dX6_draw_61 : decode cX6_draw 61 = .ok (.goto 5, 3) := by decide +kernel
theorem dX6_draw_64 : decode cX6_draw 64 = .ok (.iload 4, 2) := by decide +kernel
theorem dX6_draw_66 : decode cX6_draw 66 = .ok (.iadd, 1) := by decide +kernel
theorem dX6_draw_67 : decode cX6_draw 67 = .ok (.istore_n 2, 1) := by decide +kernel
theorem dX6_draw_68 : decode cX6_draw 68 = .ok (.iinc 3 1, 3) := by decide +kernel
theorem dX6_draw_71 : decode cX6_draw 71 = .ok (.goto (-67), 3) := by decide +kernel
theorem dX6_draw_74 : decode cX6_draw 74 = .ok (.iload_n 2, 1) := by decide +kernel
theorem dX6_draw_75 : decode cX6_draw 75 = .ok (.ireturn, 1) := by decide +kernel
set_option maxRecDepth 20000 in
theorem ggX6_at_X6_in : GoodIn wsX6_at wsX6_in := goodIn_r _ [6] (by decide +kernel) (by decide +kernel)
set_option maxRecDepth 20000 in
theorem gX6_at_X6_in : GoodIn wsX6_at (va_wsS RX6 76 yX6_in wsX6_in) := goodIn_app (goodIn_of _ (by decide +kernel)) ggX6_at_X6_in
set_option maxRecDepth 20000 in
theorem ggX6_at_X6_supply : GoodIn wsX6_at wsX6_supply := goodIn_r _ [10, 1, 2, 11, 12, 13, 5, 14, 15, 16, 17, 18, 19, 20, 30, 31, 32, 33, 34, 35, 36, 37, 38, 39, 40, 41, 42, 43, 44, 45, 46, 47, 48, 49, 50, 51, 52, 53, 54, 55, 56] (by decide +kernel) (by decide +kernel)
set_option maxRecDepth 20000 in
theorem gX6_at_X6_supply : GoodIn wsX6_at (wsV RX6 102 RX6 yX6_supply wsX6_supply) := goodIn_app (goodIn_of _ (by decide +kernel)) ggX6_at_X6_supply
set_option maxRecDepth 20000 in
theorem ggX6_at_X6_draw : GoodIn wsX6_at wsX6_draw := goodIn_r _ [24, 25, 26, 27, 28, 29, 30, 31, 32, 33, 34, 35, 36, 37, 38, 39, 40, 41, 42, 43, 44, 45, 46, 47, 48, 49, 50, 51, 52, 53, 54, 55, 56] (by decide +kernel) (by decide +kernel)
set_option maxRecDepth 20000 in
theorem gX6_at_X6_draw : GoodIn wsX6_at (wsV RX6 106 RX6 yX6_draw wsX6_draw) := goodIn_app (goodIn_of _ (by decide +kernel)) ggX6_at_X6_draw
set_option maxRecDepth 20000 in
theorem ggX6_at_X6_flowOf : GoodIn wsX6_at wsX6_flowOf := goodIn_r _ [14, 15, 16, 17, 30, 31, 32, 33, 34, 35, 36, 37, 38, 39, 40, 41, 42, 43, 44, 45, 46, 47, 48, 49, 50, 51, 52, 53, 54, 55, 56] (by decide +kernel) (by decide +kernel)
set_option maxRecDepth 20000 in
theorem gX6_at_X6_flowOf : GoodIn wsX6_at (wsV RX6 92 RX6 yX6_flowOf wsX6_flowOf) := goodIn_app (goodIn_of _ (by decide +kernel)) ggX6_at_X6_flowOf
theorem dX6_at_0 : decode cX6_at 0 = .ok (.iload_n 1, 1) := by decide +kernel
theorem dX6_at_1 : decode cX6_at 1 = .ok (.iconst 0, 1) := by decide +kernel
theorem dX6_at_2 : decode cX6_at 2 = .ok (.iconst 2, 1) := by decide +kernel
theorem dX6_at_3 : decode cX6_at 3 = .ok (.invokestatic 76, 3) := by decide +kernel
theorem dX6_at_6 : decode cX6_at 6 = .ok (.ifCond .eq 13, 3) := by decide +kernel
theorem dX6_at_9 : decode cX6_at 9 = .ok (.iload_n 2, 1) := by decide +kernel
theorem dX6_at_10 : decode cX6_at 10 = .ok (.iconst 0, 1) := by decide +kernel
theorem dX6_at_11 : decode cX6_at 11 = .ok (.bipush 20, 2) := by decide +kernel
theorem dX6_at_13 : decode cX6_at 13 = .ok (.invokestatic 76, 3) := by decide +kernel
theorem dX6_at_16 : decode cX6_at 16 = .ok (.ifCond .ne 5, 3) := by decide +kernel
theorem dX6_at_19 : decode cX6_at 19 = .ok (.iconst (-1), 1) := by decide +kernel
theorem dX6_at_20 : decode cX6_at 20 = .ok (.ireturn, 1) := by decide +kernel
theorem dX6_at_21 : decode cX6_at 21 = .ok (.iload_n 1, 1) := by decide +kernel
theorem dX6_at_22 : decode cX6_at 22 = .ok (.iconst 2, 1) := by decide +kernel
theorem dX6_at_23 : decode cX6_at 23 = .ok (.if_icmp .ge 21, 3) := by decide +kernel
theorem dX6_at_26 : decode cX6_at 26 = .ok (.iload_n 1, 1) := by decide +kernel
theorem dX6_at_27 : decode cX6_at 27 = .ok (.ifCond .ne 11, 3) := by decide +kernel
theorem dX6_at_30 : decode cX6_at 30 = .ok (.aload_n 0, 1) := by decide +kernel
theorem dX6_at_31 : decode cX6_at 31 = .ok (.iload_n 2, 1) := by decide +kernel
theorem dX6_at_32 : decode cX6_at 32 = .ok (.invokevirtual 102, 3) := by decide +kernel
theorem dX6_at_35 : decode cX6_at 35 = .ok (.goto 8, 3) := by decide +kernel
theorem dX6_at_38 : decode cX6_at 38 = .ok (.aload_n 0, 1) := by decide +kernel
theorem dX6_at_39 : decode cX6_at 39 = .ok (.iload_n 2, 1) := by decide +kernel
theorem dX6_at_40 : decode cX6_at 40 = .ok (.invokevirtual 106, 3) := by decide +kernel
theorem dX6_at_43 : decode cX6_at 43 = .ok (.ireturn, 1) := by decide +kernel
theorem dX6_at_44 : decode cX6_at 44 = .ok (.iconst 0, 1) := by decide +kernel
theorem dX6_at_45 : decode cX6_at 45 = .ok (.istore_n 3, 1) := by decide +kernel
theorem dX6_at_46 : decode cX6_at 46 = .ok (.iconst 0, 1) := by decide +kernel
theorem dX6_at_47 : decode cX6_at 47 = .ok (.istore 4, 2) := by decide +kernel
theorem dX6_at_49 : decode cX6_at 49 = .ok (.iload 4, 2) := by decide +kernel
theorem dX6_at_51 : decode cX6_at 51 = .ok (.aload_n 0, 1) := by decide +kernel
theorem dX6_at_52 : decode cX6_at 52 = .ok (.getfield 72, 3) := by decide +kernel
theorem dX6_at_55 : decode cX6_at 55 = .ok (.if_icmp .ge 33, 3) := by decide +kernel
theorem dX6_at_58 : decode cX6_at 58 = .ok (.iload_n 3, 1) := by decide +kernel
theorem dX6_at_59 : decode cX6_at 59 = .ok (.aload_n 0, 1) := by decide +kernel
theorem dX6_at_60 : decode cX6_at 60 = .ok (.getfield 19, 3) := by decide +kernel
theorem dX6_at_63 : decode cX6_at 63 = .ok (.iload 4, 2) := by decide +kernel
theorem dX6_at_65 : decode cX6_at 65 = .ok (.baload, 1) := by decide +kernel
theorem dX6_at_66 : decode cX6_at 66 = .ok (.ifCond .eq 13, 3) := by decide +kernel
theorem dX6_at_69 : decode cX6_at 69 = .ok (.aload_n 0, 1) := by decide +kernel
theorem dX6_at_70 : decode cX6_at 70 = .ok (.iload 4, 2) := by decide +kernel
theorem dX6_at_72 : decode cX6_at 72 = .ok (.iload_n 2, 1) := by decide +kernel
theorem dX6_at_73 : decode cX6_at 73 = .ok (.invokevirtual 92, 3) := by decide +kernel
theorem dX6_at_76 : decode cX6_at 76 = .ok (.goto 4, 3) := by decide +kernel
theorem dX6_at_79 : decode cX6_at 79 = .ok (.iconst 0, 1) := by decide +kernel
theorem dX6_at_80 : decode cX6_at 80 = .ok (.iadd, 1) := by decide +kernel
theorem dX6_at_81 : decode cX6_at 81 = .ok (.istore_n 3, 1) := by decide +kernel
theorem dX6_at_82 : decode cX6_at 82 = .ok (.iinc 4 1, 3) := by decide +kernel
theorem dX6_at_85 : decode cX6_at 85 = .ok (.goto (-36), 3) := by decide +kernel
theorem dX6_at_88 : decode cX6_at 88 = .ok (.iload_n 3, 1) := by decide +kernel
theorem dX6_at_89 : decode cX6_at 89 = .ok (.aload_n 0, 1) := by decide +kernel
theorem dX6_at_90 : decode cX6_at 90 = .ok (.iload_n 2, 1) := by decide +kernel
theorem dX6_at_91 : decode cX6_at 91 = .ok (.invokevirtual 102, 3) := by decide +kernel
theorem dX6_at_94 : decode cX6_at 94 = .ok (.isub, 1) := by decide +kernel
theorem dX6_at_95 : decode cX6_at 95 = .ok (.ireturn, 1) := by decide +kernel
set_option maxRecDepth 20000 in
theorem ggX6_point_X6_supply : GoodIn wsX6_point wsX6_supply := goodIn_r _ [5, 6, 7, 8, 9, 10, 4, 11, 12, 13, 14, 15, 16, 17, 27, 28, 29, 30, 31, 32, 33, 34, 35, 36, 37, 38, 39, 40, 41, 42, 43, 44, 45, 46, 47, 48, 49, 50, 51, 52, 53] (by decide +kernel) (by decide +kernel)
set_option maxRecDepth 20000 in
theorem gX6_point_X6_supply : GoodIn wsX6_point (wsV RX6 102 RX6 yX6_supply wsX6_supply) := goodIn_app (goodIn_of _ (by decide +kernel)) ggX6_point_X6_supply
set_option maxRecDepth 20000 in
theorem ggX6_point_X6_draw : GoodIn wsX6_point wsX6_draw := goodIn_r _ [21, 22, 23, 24, 25, 26, 27, 28, 29, 30, 31, 32, 33, 34, 35, 36, 37, 38, 39, 40, 41, 42, 43, 44, 45, 46, 47, 48, 49, 50, 51, 52, 53] (by decide +kernel) (by decide +kernel)
set_option maxRecDepth 20000 in
theorem gX6_point_X6_draw : GoodIn wsX6_point (wsV RX6 106 RX6 yX6_draw wsX6_draw) := goodIn_app (goodIn_of _ (by decide +kernel)) ggX6_point_X6_draw
theorem dX6_point_0 : decode cX6_point 0 = .ok (.bipush 20, 2) := by decide +kernel
theorem dX6_point_2 : decode cX6_point 2 = .ok (.istore_n 1, 1) := by decide +kernel
theorem dX6_point_3 : decode cX6_point 3 = .ok (.iload_n 1, 1) := by decide +kernel
theorem dX6_point_4 : decode cX6_point 4 = .ok (.ifCond .lt 22, 3) := by decide +kernel
theorem dX6_point_7 : decode cX6_point 7 = .ok (.aload_n 0, 1) := by decide +kernel
theorem dX6_point_8 : decode cX6_point 8 = .ok (.iload_n 1, 1) := by decide +kernel
theorem dX6_point_9 : decode cX6_point 9 = .ok (.invokevirtual 102, 3) := by decide +kernel
theorem dX6_point_12 : decode cX6_point 12 = .ok (.aload_n 0, 1) := by decide +kernel
theorem dX6_point_13 : decode cX6_point 13 = .ok (.iload_n 1, 1) := by decide +kernel
theorem dX6_point_14 : decode cX6_point 14 = .ok (.invokevirtual 106, 3) := by decide +kernel
theorem dX6_point_17 : decode cX6_point 17 = .ok (.if_icmp .ge 9, 3) := by decide +kernel
theorem dX6_point_20 : decode cX6_point 20 = .ok (.iinc 1 (-1), 3) := by decide +kernel
theorem dX6_point_23 : decode cX6_point 23 = .ok (.goto (-20), 3) := by decide +kernel
theorem dX6_point_26 : decode cX6_point 26 = .ok (.iload_n 1, 1) := by decide +kernel
theorem dX6_point_27 : decode cX6_point 27 = .ok (.ifCond .ge 8, 3) := by decide +kernel
theorem dX6_point_30 : decode cX6_point 30 = .ok (.bipush (-9), 2) := by decide +kernel
theorem dX6_point_32 : decode cX6_point 32 = .ok (.goto 4, 3) := by decide +kernel
theorem dX6_point_35 : decode cX6_point 35 = .ok (.iload_n 1, 1) := by decide +kernel
theorem dX6_point_36 : decode cX6_point 36 = .ok (.ireturn, 1) := by decide +kernel
set_option maxRecDepth 20000 in
theorem ggX6_isBox_X6_in : GoodIn wsX6_isBox wsX6_in := goodIn_r _ [4] (by decide +kernel) (by decide +kernel)
set_option maxRecDepth 20000 in
theorem gX6_isBox_X6_in : GoodIn wsX6_isBox (va_wsS RX6 76 yX6_in wsX6_in) := goodIn_app (goodIn_of _ (by decide +kernel)) ggX6_isBox_X6_in
theorem dX6_isBox_0 : decode cX6_isBox 0 = .ok (.iload_n 0, 1) := by decide +kernel
theorem dX6_isBox_1 : decode cX6_isBox 1 = .ok (.iconst 0, 1) := by decide +kernel
theorem dX6_isBox_2 : decode cX6_isBox 2 = .ok (.iconst 3, 1) := by decide +kernel
theorem dX6_isBox_3 : decode cX6_isBox 3 = .ok (.invokestatic 76, 3) := by decide +kernel
theorem dX6_isBox_6 : decode cX6_isBox 6 = .ok (.ireturn, 1) := by decide +kernel
set_option maxRecDepth 20000 in
theorem ggX6_fill_X6_isBox : GoodIn wsX6_fill wsX6_isBox := goodIn_r _ [7, 8, 9, 6, 10] (by decide +kernel) (by decide +kernel)
set_option maxRecDepth 20000 in
theorem gX6_fill_X6_isBox : GoodIn wsX6_fill (va_wsS RX6 109 yX6_isBox wsX6_isBox) := goodIn_app (goodIn_of _ (by decide +kernel)) ggX6_fill_X6_isBox
set_option maxRecDepth 20000 in
theorem ggX6_fill_X6_in : GoodIn wsX6_fill wsX6_in := goodIn_r _ [10] (by decide +kernel) (by decide +kernel)
set_option maxRecDepth 20000 in
theorem gX6_fill_X6_in : GoodIn wsX6_fill (va_wsS RX6 76 yX6_in wsX6_in) := goodIn_app (goodIn_of _ (by decide +kernel)) ggX6_fill_X6_in
theorem dX6_fill_0 : decode cX6_fill 0 = .ok (.iload_n 1, 1) := by decide +kernel
theorem dX6_fill_1 : decode cX6_fill 1 = .ok (.invokestatic 109, 3) := by decide +kernel
theorem dX6_fill_4 : decode cX6_fill 4 = .ok (.ifCond .eq 23, 3) := by decide +kernel
theorem dX6_fill_7 : decode cX6_fill 7 = .ok (.iload_n 2, 1) := by decide +kernel
theorem dX6_fill_8 : decode cX6_fill 8 = .ok (.iconst 0, 1) := by decide +kernel
theorem dX6_fill_9 : decode cX6_fill 9 = .ok (.ldc 112, 2) := by decide +kernel
theorem dX6_fill_11 : decode cX6_fill 11 = .ok (.invokestatic 76, 3) := by decide +kernel
theorem dX6_fill_14 : decode cX6_fill 14 = .ok (.ifCond .eq 13, 3) := by decide +kernel
theorem dX6_fill_17 : decode cX6_fill 17 = .ok (.iload_n 3, 1) := by decide +kernel
theorem dX6_fill_18 : decode cX6_fill 18 = .ok (.iconst 0, 1) := by decide +kernel
theorem dX6_fill_19 : decode cX6_fill 19 = .ok (.ldc 112, 2) := by decide +kernel
theorem dX6_fill_21 : decode cX6_fill 21 = .ok (.invokestatic 76, 3) := by decide +kernel
theorem dX6_fill_24 : decode cX6_fill 24 = .ok (.ifCond .ne 5, 3) := by decide +kernel
theorem dX6_fill_27 : decode cX6_fill 27 = .ok (.iconst (-1), 1) := by decide +kernel
theorem dX6_fill_28 : decode cX6_fill 28 = .ok (.ireturn, 1) := by decide +kernel
theorem dX6_fill_29 : decode cX6_fill 29 = .ok (.aload_n 0, 1) := by decide +kernel
theorem dX6_fill_30 : decode cX6_fill 30 = .ok (.getfield 38, 3) := by decide +kernel
theorem dX6_fill_33 : decode cX6_fill 33 = .ok (.iload_n 1, 1) := by decide +kernel
theorem dX6_fill_34 : decode cX6_fill 34 = .ok (.iload_n 2, 1) := by decide +kernel
theorem dX6_fill_35 : decode cX6_fill 35 = .ok (.i2l, 1) := by decide +kernel
theorem dX6_fill_36 : decode cX6_fill 36 = .ok (.lastore, 1) := by decide +kernel
theorem dX6_fill_37 : decode cX6_fill 37 = .ok (.aload_n 0, 1) := by decide +kernel
theorem dX6_fill_38 : decode cX6_fill 38 = .ok (.getfield 42, 3) := by decide +kernel
theorem dX6_fill_41 : decode cX6_fill 41 = .ok (.iload_n 1, 1) := by decide +kernel
theorem dX6_fill_42 : decode cX6_fill 42 = .ok (.iload_n 3, 1) := by decide +kernel
theorem dX6_fill_43 : decode cX6_fill 43 = .ok (.i2l, 1) := by decide +kernel
theorem dX6_fill_44 : decode cX6_fill 44 = .ok (.lastore, 1) := by decide +kernel
theorem dX6_fill_45 : decode cX6_fill 45 = .ok (.iconst 1, 1) := by decide +kernel
theorem dX6_fill_46 : decode cX6_fill 46 = .ok (.ireturn, 1) := by decide +kernel
set_option maxRecDepth 20000 in
theorem ggX6_set_X6_in : GoodIn wsX6_set wsX6_in := goodIn_r _ [8] (by decide +kernel) (by decide +kernel)
set_option maxRecDepth 20000 in
theorem gX6_set_X6_in : GoodIn wsX6_set (va_wsS RX6 76 yX6_in wsX6_in) := goodIn_app (goodIn_of _ (by decide +kernel)) ggX6_set_X6_in
set_option maxRecDepth 20000 in
theorem ggX6_set_X6_isBox : GoodIn wsX6_set wsX6_isBox := goodIn_r _ [11, 5, 6, 7, 8] (by decide +kernel) (by decide +kernel)
set_option maxRecDepth 20000 in
theorem gX6_set_X6_isBox : GoodIn wsX6_set (va_wsS RX6 109 yX6_isBox wsX6_isBox) := goodIn_app (goodIn_of _ (by decide +kernel)) ggX6_set_X6_isBox
theorem dX6_set_0 : decode cX6_set 0 = .ok (.iconst (-1), 1) := by decide +kernel
theorem dX6_set_1 : decode cX6_set 1 = .ok (.istore 4, 2) := by decide +kernel
theorem dX6_set_3 : decode cX6_set 3 = .ok (.iload_n 1, 1) := by decide +kernel
theorem dX6_set_4 : decode cX6_set 4 = .ok (.ifCond .ne 41, 3) := by decide +kernel
theorem dX6_set_7 : decode cX6_set 7 = .ok (.iload_n 2, 1) := by decide +kernel
theorem dX6_set_8 : decode cX6_set 8 = .ok (.iconst 0, 1) := by decide +kernel
theorem dX6_set_9 : decode cX6_set 9 = .ok (.iconst 2, 1) := by decide +kernel
theorem dX6_set_10 : decode cX6_set 10 = .ok (.invokestatic 76, 3) := by decide +kernel
theorem dX6_set_13 : decode cX6_set 13 = .ok (.ifCond .eq 32, 3) := by decide +kernel
theorem dX6_set_16 : decode cX6_set 16 = .ok (.iload_n 3, 1) := by decide +kernel
theorem dX6_set_17 : decode cX6_set 17 = .ok (.iconst 2, 1) := by decide +kernel
theorem dX6_set_18 : decode cX6_set 18 = .ok (.sipush 1000, 3) := by decide +kernel
theorem dX6_set_21 : decode cX6_set 21 = .ok (.invokestatic 76, 3) := by decide +kernel
theorem dX6_set_24 : decode cX6_set 24 = .ok (.ifCond .eq 21, 3) := by decide +kernel
theorem dX6_set_27 : decode cX6_set 27 = .ok (.aload_n 0, 1) := by decide +kernel
theorem dX6_set_28 : decode cX6_set 28 = .ok (.getfield 45, 3) := by decide +kernel
theorem dX6_set_31 : decode cX6_set 31 = .ok (.iload_n 2, 1) := by decide +kernel
theorem dX6_set_32 : decode cX6_set 32 = .ok (.iaload, 1) := by decide +kernel
theorem dX6_set_33 : decode cX6_set 33 = .ok (.istore 4, 2) := by decide +kernel
theorem dX6_set_35 : decode cX6_set 35 = .ok (.aload_n 0, 1) := by decide +kernel
theorem dX6_set_36 : decode cX6_set 36 = .ok (.getfield 45, 3) := by decide +kernel
theorem dX6_set_39 : decode cX6_set 39 = .ok (.iload_n 2, 1) := by decide +kernel
theorem dX6_set_40 : decode cX6_set 40 = .ok (.iload_n 3, 1) := by decide +kernel
theorem dX6_set_41 : decode cX6_set 41 = .ok (.iastore, 1) := by decide +kernel
theorem dX6_set_42 : decode cX6_set 42 = .ok (.goto 106, 3) := by decide +kernel
theorem dX6_set_45 : decode cX6_set 45 = .ok (.iload_n 1, 1) := by decide +kernel
theorem dX6_set_46 : decode cX6_set 46 = .ok (.iconst 1, 1) := by decide +kernel
theorem dX6_set_47 : decode cX6_set 47 = .ok (.if_icmp .ne 39, 3) := by decide +kernel
theorem dX6_set_50 : decode cX6_set 50 = .ok (.iload_n 2, 1) := by decide +kernel
theorem dX6_set_51 : decode cX6_set 51 = .ok (.invokestatic 109, 3) := by decide +kernel
theorem dX6_set_54 : decode cX6_set 54 = .ok (.ifCond .eq 32, 3) := by decide +kernel
theorem dX6_set_57 : decode cX6_set 57 = .ok (.iload_n 3, 1) := by decide +kernel
theorem dX6_set_58 : decode cX6_set 58 = .ok (.iconst 0, 1) := by decide +kernel
theorem dX6_set_59 : decode cX6_set 59 = .ok (.sipush 1000, 3) := by decide +kernel
theorem dX6_set_62 : decode cX6_set 62 = .ok (.invokestatic 76, 3) := by decide +kernel
theorem dX6_set_65 : decode cX6_set 65 = .ok (.ifCond .eq 21, 3) := by decide +kernel
theorem dX6_set_68 : decode cX6_set 68 = .ok (.aload_n 0, 1) := by decide +kernel
theorem dX6_set_69 : decode cX6_set 69 = .ok (.getfield 48, 3) := by decide +kernel
theorem dX6_set_72 : decode cX6_set 72 = .ok (.iload_n 2, 1) := by decide +kernel
theorem dX6_set_73 : decode cX6_set 73 = .ok (.iaload, 1) := by decide +kernel
theorem dX6_set_74 : decode cX6_set 74 = .ok (.istore 4, 2) := by decide +kernel
theorem dX6_set_76 : decode cX6_set 76 = .ok (.aload_n 0, 1) := by decide +kernel
theorem dX6_set_77 : decode cX6_set 77 = .ok (.getfield 48, 3) := by decide +kernel
theorem dX6_set_80 : decode cX6_set 80 = .ok (.iload_n 2, 1) := by decide +kernel
theorem dX6_set_81 : decode cX6_set 81 = .ok (.iload_n 3, 1) := by decide +kernel
theorem dX6_set_82 : decode cX6_set 82 = .ok (.iastore, 1) := by decide +kernel
theorem dX6_set_83 : decode cX6_set 83 = .ok (.goto 65, 3) := by decide +kernel
theorem dX6_set_86 : decode cX6_set 86 = .ok (.iload_n 1, 1) := by decide +kernel
theorem dX6_set_87 : decode cX6_set 87 = .ok (.iconst 2, 1) := by decide +kernel
theorem dX6_set_88 : decode cX6_set 88 = .ok (.if_icmp .ne 32, 3) := by decide +kernel
theorem dX6_set_91 : decode cX6_set 91 = .ok (.iload_n 2, 1) := by decide +kernel
theorem dX6_set_92 : decode cX6_set 92 = .ok (.ifCond .ne 28, 3) := by decide +kernel
theorem dX6_set_95 : decode cX6_set 95 = .ok (.iload_n 3, 1) := by decide +kernel
theorem dX6_set_96 : decode cX6_set 96 = .ok (.iconst 0, 1) := by decide +kernel
theorem dX6_set_97 : decode cX6_set 97 = .ok (.sipush 1000, 3) := by decide +kernel
theorem dX6_set_100 : decode cX6_set 100 = .ok (.invokestatic 76, 3) := by decide +kernel
theorem dX6_set_103 : decode cX6_set 103 = .ok (.ifCond .eq 17, 3) := by decide +kernel
theorem dX6_set_106 : decode cX6_set 106 = .ok (.aload_n 0, 1) := by decide +kernel
theorem dX6_set_107 : decode cX6_set 107 = .ok (.getfield 113, 3) := by decide +kernel
theorem dX6_set_110 : decode cX6_set 110 = .ok (.istore 4, 2) := by decide +kernel
theorem dX6_set_112 : decode cX6_set 112 = .ok (.aload_n 0, 1) := by decide +kernel
theorem dX6_set_113 : decode cX6_set 113 = .ok (.iload_n 3, 1) := by decide +kernel
theorem dX6_set_114 : decode cX6_set 114 = .ok (.putfield 113, 3) := by decide +kernel
theorem dX6_set_117 : decode cX6_set 117 = .ok (.goto 31, 3) := by decide +kernel
theorem dX6_set_120 : decode cX6_set 120 = .ok (.iload_n 1, 1) := by decide +kernel
theorem dX6_set_121 : decode cX6_set 121 = .ok (.iconst 2, 1) := by decide +kernel
theorem dX6_set_122 : decode cX6_set 122 = .ok (.if_icmp .ne 26, 3) := by decide +kernel
theorem dX6_set_125 : decode cX6_set 125 = .ok (.iload_n 2, 1) := by decide +kernel
theorem dX6_set_126 : decode cX6_set 126 = .ok (.iconst 1, 1) := by decide +kernel
theorem dX6_set_127 : decode cX6_set 127 = .ok (.if_icmp .ne 21, 3) := by decide +kernel
theorem dX6_set_130 : decode cX6_set 130 = .ok (.iload_n 3, 1) := by decide +kernel
theorem dX6_set_131 : decode cX6_set 131 = .ok (.invokestatic 109, 3) := by decide +kernel
theorem dX6_set_134 : decode cX6_set 134 = .ok (.ifCond .eq 14, 3) := by decide +kernel
theorem dX6_set_137 : decode cX6_set 137 = .ok (.aload_n 0, 1) := by decide +kernel
theorem dX6_set_138 : decode cX6_set 138 = .ok (.getfield 116, 3) := by decide +kernel
theorem dX6_set_141 : decode cX6_set 141 = .ok (.istore 4, 2) := by decide +kernel
theorem dX6_set_143 : decode cX6_set 143 = .ok (.aload_n 0, 1) := by decide +kernel
theorem dX6_set_144 : decode cX6_set 144 = .ok (.iload_n 3, 1) := by decide +kernel
theorem dX6_set_145 : decode cX6_set 145 = .ok (.putfield 116, 3) := by decide +kernel
theorem dX6_set_148 : decode cX6_set 148 = .ok (.iload 4, 2) := by decide +kernel
theorem dX6_set_150 : decode cX6_set 150 = .ok (.ireturn, 1) := by decide +kernel
theorem dX6_goes_0 : decode cX6_goes 0 = .ok (.aload_n 0, 1) := by decide +kernel
theorem dX6_goes_1 : decode cX6_goes 1 = .ok (.getfield 38, 3) := by decide +kernel
theorem dX6_goes_4 : decode cX6_goes 4 = .ok (.iload_n 1, 1) := by decide +kernel
theorem dX6_goes_5 : decode cX6_goes 5 = .ok (.laload, 1) := by decide +kernel
theorem dX6_goes_6 : decode cX6_goes 6 = .ok (.lconst 0, 1) := by decide +kernel
theorem dX6_goes_7 : decode cX6_goes 7 = .ok (.lcmp, 1) := by decide +kernel
theorem dX6_goes_8 : decode cX6_goes 8 = .ok (.ifCond .ne 7, 3) := by decide +kernel
theorem dX6_goes_11 : decode cX6_goes 11 = .ok (.lconst 0, 1) := by decide +kernel
theorem dX6_goes_12 : decode cX6_goes 12 = .ok (.goto 18, 3) := by decide +kernel
theorem dX6_goes_15 : decode cX6_goes 15 = .ok (.lload_n 2, 1) := by decide +kernel
theorem dX6_goes_16 : decode cX6_goes 16 = .ok (.aload_n 0, 1) := by decide +kernel
theorem dX6_goes_17 : decode cX6_goes 17 = .ok (.getfield 42, 3) := by decide +kernel
theorem dX6_goes_20 : decode cX6_goes 20 = .ok (.iload_n 1, 1) := by decide +kernel
theorem dX6_goes_21 : decode cX6_goes 21 = .ok (.laload, 1) := by decide +kernel
theorem dX6_goes_22 : decode cX6_goes 22 = .ok (.lmul, 1) := by decide +kernel
theorem dX6_goes_23 : decode cX6_goes 23 = .ok (.aload_n 0, 1) := by decide +kernel
theorem dX6_goes_24 : decode cX6_goes 24 = .ok (.getfield 38, 3) := by decide +kernel
theorem dX6_goes_27 : decode cX6_goes 27 = .ok (.iload_n 1, 1) := by decide +kernel
theorem dX6_goes_28 : decode cX6_goes 28 = .ok (.laload, 1) := by decide +kernel
theorem dX6_goes_29 : decode cX6_goes 29 = .ok (.ldiv, 1) := by decide +kernel
theorem dX6_goes_30 : decode cX6_goes 30 = .ok (.lstore 4, 2) := by decide +kernel
theorem dX6_goes_32 : decode cX6_goes 32 = .ok (.aload_n 0, 1) := by decide +kernel
theorem dX6_goes_33 : decode cX6_goes 33 = .ok (.getfield 38, 3) := by decide +kernel
theorem dX6_goes_36 : decode cX6_goes 36 = .ok (.iload_n 1, 1) := by decide +kernel
theorem dX6_goes_37 : decode cX6_goes 37 = .ok (.dup2, 1) := by decide +kernel
end
section
theorem dX6_goes_38 : decode cX6_goes 38 = .ok (.laload, 1) := by decide +kernel
theorem dX6_goes_39 : decode cX6_goes 39 = .ok (.lload_n 2, 1) := by decide +kernel
theorem dX6_goes_40 : decode cX6_goes 40 = .ok (.lsub, 1) := by decide +kernel
theorem dX6_goes_41 : decode cX6_goes 41 = .ok (.lastore, 1) := by decide +kernel
theorem dX6_goes_42 : decode cX6_goes 42 = .ok (.aload_n 0, 1) := by decide +kernel
theorem dX6_goes_43 : decode cX6_goes 43 = .ok (.getfield 42, 3) := by decide +kernel
theorem dX6_goes_46 : decode cX6_goes 46 = .ok (.iload_n 1, 1) := by decide +kernel
theorem dX6_goes_47 : decode cX6_goes 47 = .ok (.dup2, 1) := by decide +kernel
theorem dX6_goes_48 : decode cX6_goes 48 = .ok (.laload, 1) := by decide +kernel
theorem dX6_goes_49 : decode cX6_goes 49 = .ok (.lload 4, 2) := by decide +kernel
theorem dX6_goes_51 : decode cX6_goes 51 = .ok (.lsub, 1) := by decide +kernel
theorem dX6_goes_52 : decode cX6_goes 52 = .ok (.lastore, 1) := by decide +kernel
theorem dX6_goes_53 : decode cX6_goes 53 = .ok (.lload 4, 2) := by decide +kernel
theorem dX6_goes_55 : decode cX6_goes 55 = .ok (.lreturn, 1) := by decide +kernel
theorem dX6_comes_0 : decode cX6_comes 0 = .ok (.aload_n 0, 1) := by decide +kernel
theorem dX6_comes_1 : decode cX6_comes 1 = .ok (.getfield 38, 3) := by decide +kernel
theorem dX6_comes_4 : decode cX6_comes 4 = .ok (.iload_n 1, 1) := by decide +kernel
theorem dX6_comes_5 : decode cX6_comes 5 = .ok (.dup2, 1) := by decide +kernel
theorem dX6_comes_6 : decode cX6_comes 6 = .ok (.laload, 1) := by decide +kernel
theorem dX6_comes_7 : decode cX6_comes 7 = .ok (.lload_n 2, 1) := by decide +kernel
theorem dX6_comes_8 : decode cX6_comes 8 = .ok (.ladd, 1) := by decide +kernel
theorem dX6_comes_9 : decode cX6_comes 9 = .ok (.lastore, 1) := by decide +kernel
theorem dX6_comes_10 : decode cX6_comes 10 = .ok (.aload_n 0, 1) := by decide +kernel
theorem dX6_comes_11 : decode cX6_comes 11 = .ok (.getfield 42, 3) := by decide +kernel
theorem dX6_comes_14 : decode cX6_comes 14 = .ok (.iload_n 1, 1) := by decide +kernel
theorem dX6_comes_15 : decode cX6_comes 15 = .ok (.dup2, 1) := by decide +kernel
theorem dX6_comes_16 : decode cX6_comes 16 = .ok (.laload, 1) := by decide +kernel
theorem dX6_comes_17 : decode cX6_comes 17 = .ok (.lload 4, 2) := by decide +kernel
theorem dX6_comes_19 : decode cX6_comes 19 = .ok (.ladd, 1) := by decide +kernel
theorem dX6_comes_20 : decode cX6_comes 20 = .ok (.lastore, 1) := by decide +kernel
theorem dX6_comes_21 : decode cX6_comes 21 = .ok (.return_, 1) := by decide +kernel
set_option maxRecDepth 20000 in
theorem ggX6_wellsGive_X6_flowOf : GoodIn wsX6_wellsGive wsX6_flowOf := goodIn_r _ [14, 15, 16, 17, 36, 37, 38, 39, 40, 41, 42, 43, 44, 45, 46, 47, 48, 49, 50, 51, 52, 53, 54, 55, 56, 57, 58, 59, 60, 61, 62] (by decide +kernel) (by decide +kernel)
set_option maxRecDepth 20000 in
theorem gX6_wellsGive_X6_flowOf : GoodIn wsX6_wellsGive (wsV RX6 92 RX6 yX6_flowOf wsX6_flowOf) := goodIn_app (goodIn_of _ (by decide +kernel)) ggX6_wellsGive_X6_flowOf
set_option maxRecDepth 20000 in
theorem ggX6_wellsGive_X6_goes : GoodIn wsX6_wellsGive wsX6_goes := goodIn_r _ [21, 4, 22, 36, 37, 38, 39, 40, 41, 42, 43, 44, 45, 46, 47, 48, 49, 50, 51, 52, 53, 54, 55, 56, 57, 58, 59, 60, 61, 62] (by decide +kernel) (by decide +kernel)
set_option maxRecDepth 20000 in
theorem gX6_wellsGive_X6_goes : GoodIn wsX6_wellsGive (wsV RX6 119 RX6 yX6_goes wsX6_goes) := goodIn_app (goodIn_of _ (by decide +kernel)) ggX6_wellsGive_X6_goes
set_option maxRecDepth 20000 in
theorem ggX6_wellsGive_X6_comes : GoodIn wsX6_wellsGive wsX6_comes := goodIn_r _ [26, 4, 22, 36, 37, 38, 39, 40, 41, 42, 43, 44, 45, 46, 47, 48, 49, 50, 51, 52, 53, 54, 55, 56, 57, 58, 59, 60, 61, 62] (by decide +kernel) (by decide +kernel)
set_option maxRecDepth 20000 in
theorem gX6_wellsGive_X6_comes : GoodIn wsX6_wellsGive (wsV RX6 127 RX6 yX6_comes wsX6_comes) := goodIn_app (goodIn_of _ (by decide +kernel)) ggX6_wellsGive_X6_comes
set_option maxRecDepth 20000 in
theorem ggX6_wellsGive_X6_draw : GoodIn wsX6_wellsGive wsX6_draw := goodIn_r _ [30, 31, 32, 33, 34, 35, 36, 37, 38, 39, 40, 41, 42, 43, 44, 45, 46, 47, 48, 49, 50, 51, 52, 53, 54, 55, 56, 57, 58, 59, 60, 61, 62] (by decide +kernel) (by decide +kernel)
set_option maxRecDepth 20000 in
theorem gX6_wellsGive_X6_draw : GoodIn wsX6_wellsGive (wsV RX6 106 RX6 yX6_draw wsX6_draw) := goodIn_app (goodIn_of _ (by decide +kernel)) ggX6_wellsGive_X6_draw
theorem dX6_wellsGive_0 : decode cX6_wellsGive 0 = .ok (.lconst 0, 1) := by decide +kernel
theorem dX6_wellsGive_1 : decode cX6_wellsGive 1 = .ok (.lstore_n 2, 1) := by decide +kernel
theorem dX6_wellsGive_2 : decode cX6_wellsGive 2 = .ok (.iconst 0, 1) := by decide +kernel
theorem dX6_wellsGive_3 : decode cX6_wellsGive 3 = .ok (.istore 4, 2) := by decide +kernel
theorem dX6_wellsGive_5 : decode cX6_wellsGive 5 = .ok (.iload 4, 2) := by decide +kernel
theorem dX6_wellsGive_7 : decode cX6_wellsGive 7 = .ok (.aload_n 0, 1) := by decide +kernel
theorem dX6_wellsGive_8 : decode cX6_wellsGive 8 = .ok (.getfield 72, 3) := by decide +kernel
theorem dX6_wellsGive_11 : decode cX6_wellsGive 11 = .ok (.if_icmp .ge 102, 3) := by decide +kernel
theorem dX6_wellsGive_14 : decode cX6_wellsGive 14 = .ok (.aload_n 0, 1) := by decide +kernel
theorem dX6_wellsGive_15 : decode cX6_wellsGive 15 = .ok (.getfield 19, 3) := by decide +kernel
theorem dX6_wellsGive_18 : decode cX6_wellsGive 18 = .ok (.iload 4, 2) := by decide +kernel
theorem dX6_wellsGive_20 : decode cX6_wellsGive 20 = .ok (.baload, 1) := by decide +kernel
theorem dX6_wellsGive_21 : decode cX6_wellsGive 21 = .ok (.ifCond .eq 86, 3) := by decide +kernel
theorem dX6_wellsGive_24 : decode cX6_wellsGive 24 = .ok (.aload_n 0, 1) := by decide +kernel
theorem dX6_wellsGive_25 : decode cX6_wellsGive 25 = .ok (.getfield 13, 3) := by decide +kernel
theorem dX6_wellsGive_28 : decode cX6_wellsGive 28 = .ok (.iload 4, 2) := by decide +kernel
theorem dX6_wellsGive_30 : decode cX6_wellsGive 30 = .ok (.iaload, 1) := by decide +kernel
theorem dX6_wellsGive_31 : decode cX6_wellsGive 31 = .ok (.istore 5, 2) := by decide +kernel
theorem dX6_wellsGive_33 : decode cX6_wellsGive 33 = .ok (.aload_n 0, 1) := by decide +kernel
theorem dX6_wellsGive_34 : decode cX6_wellsGive 34 = .ok (.iload 4, 2) := by decide +kernel
theorem dX6_wellsGive_36 : decode cX6_wellsGive 36 = .ok (.iload_n 1, 1) := by decide +kernel
theorem dX6_wellsGive_37 : decode cX6_wellsGive 37 = .ok (.invokevirtual 92, 3) := by decide +kernel
theorem dX6_wellsGive_40 : decode cX6_wellsGive 40 = .ok (.i2l, 1) := by decide +kernel
theorem dX6_wellsGive_41 : decode cX6_wellsGive 41 = .ok (.lstore 6, 2) := by decide +kernel
theorem dX6_wellsGive_43 : decode cX6_wellsGive 43 = .ok (.lload 6, 2) := by decide +kernel
theorem dX6_wellsGive_45 : decode cX6_wellsGive 45 = .ok (.aload_n 0, 1) := by decide +kernel
theorem dX6_wellsGive_46 : decode cX6_wellsGive 46 = .ok (.getfield 38, 3) := by decide +kernel
theorem dX6_wellsGive_49 : decode cX6_wellsGive 49 = .ok (.iload 5, 2) := by decide +kernel
theorem dX6_wellsGive_51 : decode cX6_wellsGive 51 = .ok (.laload, 1) := by decide +kernel
theorem dX6_wellsGive_52 : decode cX6_wellsGive 52 = .ok (.lcmp, 1) := by decide +kernel
theorem dX6_wellsGive_53 : decode cX6_wellsGive 53 = .ok (.ifCond .le 13, 3) := by decide +kernel
theorem dX6_wellsGive_56 : decode cX6_wellsGive 56 = .ok (.aload_n 0, 1) := by decide +kernel
theorem dX6_wellsGive_57 : decode cX6_wellsGive 57 = .ok (.getfield 38, 3) := by decide +kernel
theorem dX6_wellsGive_60 : decode cX6_wellsGive 60 = .ok (.iload 5, 2) := by decide +kernel
theorem dX6_wellsGive_62 : decode cX6_wellsGive 62 = .ok (.laload, 1) := by decide +kernel
theorem dX6_wellsGive_63 : decode cX6_wellsGive 63 = .ok (.goto 5, 3) := by decide +kernel
theorem dX6_wellsGive_66 : decode cX6_wellsGive 66 = .ok (.lload 6, 2) := by decide +kernel
theorem dX6_wellsGive_68 : decode cX6_wellsGive 68 = .ok (.lstore 6, 2) := by decide +kernel
theorem dX6_wellsGive_70 : decode cX6_wellsGive 70 = .ok (.aload_n 0, 1) := by decide +kernel
theorem dX6_wellsGive_71 : decode cX6_wellsGive 71 = .ok (.iload 5, 2) := by decide +kernel
theorem dX6_wellsGive_73 : decode cX6_wellsGive 73 = .ok (.lload 6, 2) := by decide +kernel
theorem dX6_wellsGive_75 : decode cX6_wellsGive 75 = .ok (.invokevirtual 119, 3) := by decide +kernel
theorem dX6_wellsGive_78 : decode cX6_wellsGive 78 = .ok (.lstore 8, 2) := by decide +kernel
theorem dX6_wellsGive_80 : decode cX6_wellsGive 80 = .ok (.lload_n 2, 1) := by decide +kernel
theorem dX6_wellsGive_81 : decode cX6_wellsGive 81 = .ok (.lload 6, 2) := by decide +kernel
theorem dX6_wellsGive_83 : decode cX6_wellsGive 83 = .ok (.ladd, 1) := by decide +kernel
theorem dX6_wellsGive_84 : decode cX6_wellsGive 84 = .ok (.lstore_n 2, 1) := by decide +kernel
theorem dX6_wellsGive_85 : decode cX6_wellsGive 85 = .ok (.aload_n 0, 1) := by decide +kernel
theorem dX6_wellsGive_86 : decode cX6_wellsGive 86 = .ok (.getfield 51, 3) := by decide +kernel
theorem dX6_wellsGive_89 : decode cX6_wellsGive 89 = .ok (.iconst 0, 1) := by decide +kernel
theorem dX6_wellsGive_90 : decode cX6_wellsGive 90 = .ok (.dup2, 1) := by decide +kernel
theorem dX6_wellsGive_91 : decode cX6_wellsGive 91 = .ok (.laload, 1) := by decide +kernel
theorem dX6_wellsGive_92 : decode cX6_wellsGive 92 = .ok (.lload 6, 2) := by decide +kernel
theorem dX6_wellsGive_94 : decode cX6_wellsGive 94 = .ok (.ladd, 1) := by decide +kernel
theorem dX6_wellsGive_95 : decode cX6_wellsGive 95 = .ok (.lastore, 1) := by decide +kernel
theorem dX6_wellsGive_96 : decode cX6_wellsGive 96 = .ok (.aload_n 0, 1) := by decide +kernel
theorem dX6_wellsGive_97 : decode cX6_wellsGive 97 = .ok (.getfield 51, 3) := by decide +kernel
theorem dX6_wellsGive_100 : decode cX6_wellsGive 100 = .ok (.iconst 1, 1) := by decide +kernel
theorem dX6_wellsGive_101 : decode cX6_wellsGive 101 = .ok (.dup2, 1) := by decide +kernel
theorem dX6_wellsGive_102 : decode cX6_wellsGive 102 = .ok (.laload, 1) := by decide +kernel
theorem dX6_wellsGive_103 : decode cX6_wellsGive 103 = .ok (.lload 8, 2) := by decide +kernel
theorem dX6_wellsGive_105 : decode cX6_wellsGive 105 = .ok (.ladd, 1) := by decide +kernel
theorem dX6_wellsGive_106 : decode cX6_wellsGive 106 = .ok (.lastore, 1) := by decide +kernel
theorem dX6_wellsGive_107 : decode cX6_wellsGive 107 = .ok (.iinc 4 1, 3) := by decide +kernel
theorem dX6_wellsGive_110 : decode cX6_wellsGive 110 = .ok (.goto (-105), 3) := by decide +kernel
theorem dX6_wellsGive_113 : decode cX6_wellsGive 113 = .ok (.lload_n 2, 1) := by decide +kernel
theorem dX6_wellsGive_114 : decode cX6_wellsGive 114 = .ok (.aload_n 0, 1) := by decide +kernel
theorem dX6_wellsGive_115 : decode cX6_wellsGive 115 = .ok (.getfield 113, 3) := by decide +kernel
theorem dX6_wellsGive_118 : decode cX6_wellsGive 118 = .ok (.i2l, 1) := by decide +kernel
theorem dX6_wellsGive_119 : decode cX6_wellsGive 119 = .ok (.lmul, 1) := by decide +kernel
theorem dX6_wellsGive_120 : decode cX6_wellsGive 120 = .ok (.ldc2_w 123, 3) := by decide +kernel
theorem dX6_wellsGive_123 : decode cX6_wellsGive 123 = .ok (.ldiv, 1) := by decide +kernel
theorem dX6_wellsGive_124 : decode cX6_wellsGive 124 = .ok (.lstore 4, 2) := by decide +kernel
theorem dX6_wellsGive_126 : decode cX6_wellsGive 126 = .ok (.aload_n 0, 1) := by decide +kernel
theorem dX6_wellsGive_127 : decode cX6_wellsGive 127 = .ok (.aload_n 0, 1) := by decide +kernel
theorem dX6_wellsGive_128 : decode cX6_wellsGive 128 = .ok (.getfield 116, 3) := by decide +kernel
theorem dX6_wellsGive_131 : decode cX6_wellsGive 131 = .ok (.lload 4, 2) := by decide +kernel
theorem dX6_wellsGive_133 : decode cX6_wellsGive 133 = .ok (.ldc2_w 125, 3) := by decide +kernel
theorem dX6_wellsGive_136 : decode cX6_wellsGive 136 = .ok (.lload 4, 2) := by decide +kernel
theorem dX6_wellsGive_138 : decode cX6_wellsGive 138 = .ok (.lmul, 1) := by decide +kernel
theorem dX6_wellsGive_139 : decode cX6_wellsGive 139 = .ok (.invokevirtual 127, 3) := by decide +kernel
theorem dX6_wellsGive_142 : decode cX6_wellsGive 142 = .ok (.aload_n 0, 1) := by decide +kernel
theorem dX6_wellsGive_143 : decode cX6_wellsGive 143 = .ok (.getfield 51, 3) := by decide +kernel
theorem dX6_wellsGive_146 : decode cX6_wellsGive 146 = .ok (.iconst 2, 1) := by decide +kernel
theorem dX6_wellsGive_147 : decode cX6_wellsGive 147 = .ok (.dup2, 1) := by decide +kernel
theorem dX6_wellsGive_148 : decode cX6_wellsGive 148 = .ok (.laload, 1) := by decide +kernel
theorem dX6_wellsGive_149 : decode cX6_wellsGive 149 = .ok (.lload 4, 2) := by decide +kernel
theorem dX6_wellsGive_151 : decode cX6_wellsGive 151 = .ok (.ladd, 1) := by decide +kernel
theorem dX6_wellsGive_152 : decode cX6_wellsGive 152 = .ok (.lastore, 1) := by decide +kernel
theorem dX6_wellsGive_153 : decode cX6_wellsGive 153 = .ok (.aload_n 0, 1) := by decide +kernel
theorem dX6_wellsGive_154 : decode cX6_wellsGive 154 = .ok (.getfield 51, 3) := by decide +kernel
theorem dX6_wellsGive_157 : decode cX6_wellsGive 157 = .ok (.iconst 3, 1) := by decide +kernel
theorem dX6_wellsGive_158 : decode cX6_wellsGive 158 = .ok (.dup2, 1) := by decide +kernel
theorem dX6_wellsGive_159 : decode cX6_wellsGive 159 = .ok (.laload, 1) := by decide +kernel
theorem dX6_wellsGive_160 : decode cX6_wellsGive 160 = .ok (.ldc2_w 125, 3) := by decide +kernel
theorem dX6_wellsGive_163 : decode cX6_wellsGive 163 = .ok (.lload 4, 2) := by decide +kernel
theorem dX6_wellsGive_165 : decode cX6_wellsGive 165 = .ok (.lmul, 1) := by decide +kernel
theorem dX6_wellsGive_166 : decode cX6_wellsGive 166 = .ok (.ladd, 1) := by decide +kernel
theorem dX6_wellsGive_167 : decode cX6_wellsGive 167 = .ok (.lastore, 1) := by decide +kernel
theorem dX6_wellsGive_168 : decode cX6_wellsGive 168 = .ok (.aload_n 0, 1) := by decide +kernel
theorem dX6_wellsGive_169 : decode cX6_wellsGive 169 = .ok (.getfield 51, 3) := by decide +kernel
theorem dX6_wellsGive_172 : decode cX6_wellsGive 172 = .ok (.bipush 6, 2) := by decide +kernel
theorem dX6_wellsGive_174 : decode cX6_wellsGive 174 = .ok (.dup2, 1) := by decide +kernel
theorem dX6_wellsGive_175 : decode cX6_wellsGive 175 = .ok (.laload, 1) := by decide +kernel
theorem dX6_wellsGive_176 : decode cX6_wellsGive 176 = .ok (.aload_n 0, 1) := by decide +kernel
theorem dX6_wellsGive_177 : decode cX6_wellsGive 177 = .ok (.iload_n 1, 1) := by decide +kernel
theorem dX6_wellsGive_178 : decode cX6_wellsGive 178 = .ok (.invokevirtual 106, 3) := by decide +kernel
theorem dX6_wellsGive_181 : decode cX6_wellsGive 181 = .ok (.i2l, 1) := by decide +kernel
theorem dX6_wellsGive_182 : decode cX6_wellsGive 182 = .ok (.ladd, 1) := by decide +kernel
theorem dX6_wellsGive_183 : decode cX6_wellsGive 183 = .ok (.lastore, 1) := by decide +kernel
theorem dX6_wellsGive_184 : decode cX6_wellsGive 184 = .ok (.return_, 1) := by decide +kernel
set_option maxRecDepth 20000 in
theorem ggX6_leaks_X6_goes : GoodIn wsX6_leaks wsX6_goes := goodIn_r _ [7, 1, 8, 13, 14, 15, 16, 17, 18, 19, 20, 21, 22, 23, 24, 25, 26, 27, 28, 29, 30, 31, 32, 33, 34, 35, 36, 37, 38, 39] (by decide +kernel) (by decide +kernel)
set_option maxRecDepth 20000 in
theorem gX6_leaks_X6_goes : GoodIn wsX6_leaks (wsV RX6 119 RX6 yX6_goes wsX6_goes) := goodIn_app (goodIn_of _ (by decide +kernel)) ggX6_leaks_X6_goes
set_option maxRecDepth 20000 in
theorem ggX6_leaks_X6_comes : GoodIn wsX6_leaks wsX6_comes := goodIn_r _ [12, 1, 8, 13, 14, 15, 16, 17, 18, 19, 20, 21, 22, 23, 24, 25, 26, 27, 28, 29, 30, 31, 32, 33, 34, 35, 36, 37, 38, 39] (by decide +kernel) (by decide +kernel)
set_option maxRecDepth 20000 in
theorem gX6_leaks_X6_comes : GoodIn wsX6_leaks (wsV RX6 127 RX6 yX6_comes wsX6_comes) := goodIn_app (goodIn_of _ (by decide +kernel)) ggX6_leaks_X6_comes
theorem dX6_leaks_0 : decode cX6_leaks 0 = .ok (.aload_n 0, 1) := by decide +kernel
theorem dX6_leaks_1 : decode cX6_leaks 1 = .ok (.getfield 38, 3) := by decide +kernel
theorem dX6_leaks_4 : decode cX6_leaks 4 = .ok (.iload_n 1, 1) := by decide +kernel
theorem dX6_leaks_5 : decode cX6_leaks 5 = .ok (.laload, 1) := by decide +kernel
theorem dX6_leaks_6 : decode cX6_leaks 6 = .ok (.aload_n 0, 1) := by decide +kernel
theorem dX6_leaks_7 : decode cX6_leaks 7 = .ok (.getfield 38, 3) := by decide +kernel
theorem dX6_leaks_10 : decode cX6_leaks 10 = .ok (.iload_n 1, 1) := by decide +kernel
theorem dX6_leaks_11 : decode cX6_leaks 11 = .ok (.iconst 1, 1) := by decide +kernel
theorem dX6_leaks_12 : decode cX6_leaks 12 = .ok (.iadd, 1) := by decide +kernel
theorem dX6_leaks_13 : decode cX6_leaks 13 = .ok (.laload, 1) := by decide +kernel
theorem dX6_leaks_14 : decode cX6_leaks 14 = .ok (.lsub, 1) := by decide +kernel
theorem dX6_leaks_15 : decode cX6_leaks 15 = .ok (.lstore_n 2, 1) := by decide +kernel
theorem dX6_leaks_16 : decode cX6_leaks 16 = .ok (.lload_n 2, 1) := by decide +kernel
theorem dX6_leaks_17 : decode cX6_leaks 17 = .ok (.lconst 0, 1) := by decide +kernel
theorem dX6_leaks_18 : decode cX6_leaks 18 = .ok (.lcmp, 1) := by decide +kernel
theorem dX6_leaks_19 : decode cX6_leaks 19 = .ok (.ifCond .le 7, 3) := by decide +kernel
theorem dX6_leaks_22 : decode cX6_leaks 22 = .ok (.iload_n 1, 1) := by decide +kernel
theorem dX6_leaks_23 : decode cX6_leaks 23 = .ok (.goto 6, 3) := by decide +kernel
theorem dX6_leaks_26 : decode cX6_leaks 26 = .ok (.iload_n 1, 1) := by decide +kernel
theorem dX6_leaks_27 : decode cX6_leaks 27 = .ok (.iconst 1, 1) := by decide +kernel
theorem dX6_leaks_28 : decode cX6_leaks 28 = .ok (.iadd, 1) := by decide +kernel
theorem dX6_leaks_29 : decode cX6_leaks 29 = .ok (.istore 4, 2) := by decide +kernel
theorem dX6_leaks_31 : decode cX6_leaks 31 = .ok (.lload_n 2, 1) := by decide +kernel
theorem dX6_leaks_32 : decode cX6_leaks 32 = .ok (.lconst 0, 1) := by decide +kernel
theorem dX6_leaks_33 : decode cX6_leaks 33 = .ok (.lcmp, 1) := by decide +kernel
theorem dX6_leaks_34 : decode cX6_leaks 34 = .ok (.ifCond .le 7, 3) := by decide +kernel
theorem dX6_leaks_37 : decode cX6_leaks 37 = .ok (.lload_n 2, 1) := by decide +kernel
theorem dX6_leaks_38 : decode cX6_leaks 38 = .ok (.goto 5, 3) := by decide +kernel
theorem dX6_leaks_41 : decode cX6_leaks 41 = .ok (.lload_n 2, 1) := by decide +kernel
theorem dX6_leaks_42 : decode cX6_leaks 42 = .ok (.lneg, 1) := by decide +kernel
theorem dX6_leaks_43 : decode cX6_leaks 43 = .ok (.aload_n 0, 1) := by decide +kernel
theorem dX6_leaks_44 : decode cX6_leaks 44 = .ok (.getfield 45, 3) := by decide +kernel
theorem dX6_leaks_47 : decode cX6_leaks 47 = .ok (.iload_n 1, 1) := by decide +kernel
theorem dX6_leaks_48 : decode cX6_leaks 48 = .ok (.iaload, 1) := by decide +kernel
theorem dX6_leaks_49 : decode cX6_leaks 49 = .ok (.i2l, 1) := by decide +kernel
theorem dX6_leaks_50 : decode cX6_leaks 50 = .ok (.ldiv, 1) := by decide +kernel
theorem dX6_leaks_51 : decode cX6_leaks 51 = .ok (.lstore 5, 2) := by decide +kernel
theorem dX6_leaks_53 : decode cX6_leaks 53 = .ok (.aload_n 0, 1) := by decide +kernel
theorem dX6_leaks_54 : decode cX6_leaks 54 = .ok (.iload 4, 2) := by decide +kernel
theorem dX6_leaks_56 : decode cX6_leaks 56 = .ok (.lload 5, 2) := by decide +kernel
theorem dX6_leaks_58 : decode cX6_leaks 58 = .ok (.invokevirtual 119, 3) := by decide +kernel
theorem dX6_leaks_61 : decode cX6_leaks 61 = .ok (.lstore 7, 2) := by decide +kernel
theorem dX6_leaks_63 : decode cX6_leaks 63 = .ok (.aload_n 0, 1) := by decide +kernel
theorem dX6_leaks_64 : decode cX6_leaks 64 = .ok (.iconst 2, 1) := by decide +kernel
theorem dX6_leaks_65 : decode cX6_leaks 65 = .ok (.iload_n 1, 1) := by decide +kernel
theorem dX6_leaks_66 : decode cX6_leaks 66 = .ok (.imul, 1) := by decide +kernel
theorem dX6_leaks_67 : decode cX6_leaks 67 = .ok (.iconst 1, 1) := by decide +kernel
theorem dX6_leaks_68 : decode cX6_leaks 68 = .ok (.iadd, 1) := by decide +kernel
theorem dX6_leaks_69 : decode cX6_leaks 69 = .ok (.iload 4, 2) := by decide +kernel
theorem dX6_leaks_71 : decode cX6_leaks 71 = .ok (.isub, 1) := by decide +kernel
theorem dX6_leaks_72 : decode cX6_leaks 72 = .ok (.lload 5, 2) := by decide +kernel
theorem dX6_leaks_74 : decode cX6_leaks 74 = .ok (.lload 7, 2) := by decide +kernel
theorem dX6_leaks_76 : decode cX6_leaks 76 = .ok (.invokevirtual 127, 3) := by decide +kernel
theorem dX6_leaks_79 : decode cX6_leaks 79 = .ok (.return_, 1) := by decide +kernel
set_option maxRecDepth 20000 in
theorem ggX6_oneYear_X6_point : GoodIn wsX6_oneYear wsX6_point := goodIn_r _ [11, 12, 13, 14, 10, 15, 4, 6, 16, 17, 18, 19, 20, 21, 5, 22, 23, 24, 25, 26, 27, 28, 29, 30, 31, 32, 33, 58, 59, 60, 61, 62, 63, 64, 65, 66, 67, 68, 69, 70, 71, 72, 73, 74, 75, 76, 77, 78, 79, 80, 81, 82, 83, 84] (by decide +kernel) (by decide +kernel)
set_option maxRecDepth 20000 in
theorem gX6_oneYear_X6_point : GoodIn wsX6_oneYear (wsV RX6 131 RX6 yX6_point wsX6_point) := goodIn_app (goodIn_of _ (by decide +kernel)) ggX6_oneYear_X6_point
set_option maxRecDepth 20000 in
theorem ggX6_oneYear_X6_wellsGive : GoodIn wsX6_oneYear wsX6_wellsGive := goodIn_r _ [37, 4, 6, 38, 39, 1, 40, 41, 42, 43, 16, 17, 18, 10, 19, 20, 21, 5, 44, 45, 46, 47, 48, 49, 50, 51, 52, 25, 26, 27, 28, 29, 30, 31, 32, 33, 58, 59, 60, 61, 62, 63, 64, 65, 66, 67, 68, 69, 70, 71, 72, 73, 74, 75, 76, 77, 78, 79, 80, 81, 82, 83, 84] (by decide +kernel) (by decide +kernel)
set_option maxRecDepth 20000 in
theorem gX6_oneYear_X6_wellsGive : GoodIn wsX6_oneYear (wsV RX6 135 RX6 yX6_wellsGive wsX6_wellsGive) := goodIn_app (goodIn_of _ (by decide +kernel)) ggX6_oneYear_X6_wellsGive
set_option maxRecDepth 20000 in
theorem ggX6_oneYear_X6_leaks : GoodIn wsX6_oneYear wsX6_leaks := goodIn_r _ [56, 39, 57, 44, 45, 46, 10, 47, 48, 49, 50, 51, 52, 58, 59, 60, 61, 62, 63, 64, 65, 66, 67, 68, 69, 70, 71, 72, 73, 74, 75, 76, 77, 78, 79, 80, 81, 82, 83, 84] (by decide +kernel) (by decide +kernel)
set_option maxRecDepth 20000 in
theorem gX6_oneYear_X6_leaks : GoodIn wsX6_oneYear (wsV RX6 139 RX6 yX6_leaks wsX6_leaks) := goodIn_app (goodIn_of _ (by decide +kernel)) ggX6_oneYear_X6_leaks
set_option maxRecDepth 20000 in
theorem ggX6_oneYear_X6_comes : GoodIn wsX6_oneYear wsX6_comes := goodIn_r _ [52, 39, 48, 58, 59, 60, 61, 62, 63, 64, 65, 66, 67, 68, 69, 70, 71, 72, 73, 74, 75, 76, 77, 78, 79, 80, 81, 82, 83, 84] (by decide +kernel) (by decide +kernel)
set_option maxRecDepth 20000 in
theorem gX6_oneYear_X6_comes : GoodIn wsX6_oneYear (wsV RX6 127 RX6 yX6_comes wsX6_comes) := goodIn_app (goodIn_of _ (by decide +kernel)) ggX6_oneYear_X6_comes
theorem dX6_oneYear_0 : decode cX6_oneYear 0 = .ok (.aload_n 0, 1) := by decide +kernel
theorem dX6_oneYear_1 : decode cX6_oneYear 1 = .ok (.invokevirtual 131, 3) := by decide +kernel
theorem dX6_oneYear_4 : decode cX6_oneYear 4 = .ok (.istore_n 1, 1) := by decide +kernel
theorem dX6_oneYear_5 : decode cX6_oneYear 5 = .ok (.iload_n 1, 1) := by decide +kernel
theorem dX6_oneYear_6 : decode cX6_oneYear 6 = .ok (.ifCond .lt 11, 3) := by decide +kernel
theorem dX6_oneYear_9 : decode cX6_oneYear 9 = .ok (.aload_n 0, 1) := by decide +kernel
theorem dX6_oneYear_10 : decode cX6_oneYear 10 = .ok (.iload_n 1, 1) := by decide +kernel
theorem dX6_oneYear_11 : decode cX6_oneYear 11 = .ok (.invokevirtual 135, 3) := by decide +kernel
theorem dX6_oneYear_14 : decode cX6_oneYear 14 = .ok (.goto 14, 3) := by decide +kernel
theorem dX6_oneYear_17 : decode cX6_oneYear 17 = .ok (.aload_n 0, 1) := by decide +kernel
theorem dX6_oneYear_18 : decode cX6_oneYear 18 = .ok (.getfield 51, 3) := by decide +kernel
theorem dX6_oneYear_21 : decode cX6_oneYear 21 = .ok (.bipush 8, 2) := by decide +kernel
theorem dX6_oneYear_23 : decode cX6_oneYear 23 = .ok (.dup2, 1) := by decide +kernel
theorem dX6_oneYear_24 : decode cX6_oneYear 24 = .ok (.laload, 1) := by decide +kernel
theorem dX6_oneYear_25 : decode cX6_oneYear 25 = .ok (.lconst 1, 1) := by decide +kernel
theorem dX6_oneYear_26 : decode cX6_oneYear 26 = .ok (.ladd, 1) := by decide +kernel
theorem dX6_oneYear_27 : decode cX6_oneYear 27 = .ok (.lastore, 1) := by decide +kernel
theorem dX6_oneYear_28 : decode cX6_oneYear 28 = .ok (.iconst 0, 1) := by decide +kernel
theorem dX6_oneYear_29 : decode cX6_oneYear 29 = .ok (.istore_n 2, 1) := by decide +kernel
theorem dX6_oneYear_30 : decode cX6_oneYear 30 = .ok (.iload_n 2, 1) := by decide +kernel
theorem dX6_oneYear_31 : decode cX6_oneYear 31 = .ok (.iconst 3, 1) := by decide +kernel
theorem dX6_oneYear_32 : decode cX6_oneYear 32 = .ok (.if_icmp .ge 14, 3) := by decide +kernel
theorem dX6_oneYear_35 : decode cX6_oneYear 35 = .ok (.aload_n 0, 1) := by decide +kernel
theorem dX6_oneYear_36 : decode cX6_oneYear 36 = .ok (.iload_n 2, 1) := by decide +kernel
theorem dX6_oneYear_37 : decode cX6_oneYear 37 = .ok (.invokevirtual 139, 3) := by decide +kernel
theorem dX6_oneYear_40 : decode cX6_oneYear 40 = .ok (.iinc 2 1, 3) := by decide +kernel
theorem dX6_oneYear_43 : decode cX6_oneYear 43 = .ok (.goto (-13), 3) := by decide +kernel
theorem dX6_oneYear_46 : decode cX6_oneYear 46 = .ok (.iconst 0, 1) := by decide +kernel
theorem dX6_oneYear_47 : decode cX6_oneYear 47 = .ok (.istore_n 2, 1) := by decide +kernel
theorem dX6_oneYear_48 : decode cX6_oneYear 48 = .ok (.iload_n 2, 1) := by decide +kernel
theorem dX6_oneYear_49 : decode cX6_oneYear 49 = .ok (.iconst 4, 1) := by decide +kernel
theorem dX6_oneYear_50 : decode cX6_oneYear 50 = .ok (.if_icmp .ge 68, 3) := by decide +kernel
theorem dX6_oneYear_53 : decode cX6_oneYear 53 = .ok (.aload_n 0, 1) := by decide +kernel
theorem dX6_oneYear_54 : decode cX6_oneYear 54 = .ok (.iload_n 2, 1) := by decide +kernel
theorem dX6_oneYear_55 : decode cX6_oneYear 55 = .ok (.aload_n 0, 1) := by decide +kernel
theorem dX6_oneYear_56 : decode cX6_oneYear 56 = .ok (.getfield 48, 3) := by decide +kernel
theorem dX6_oneYear_59 : decode cX6_oneYear 59 = .ok (.iload_n 2, 1) := by decide +kernel
theorem dX6_oneYear_60 : decode cX6_oneYear 60 = .ok (.iaload, 1) := by decide +kernel
theorem dX6_oneYear_61 : decode cX6_oneYear 61 = .ok (.i2l, 1) := by decide +kernel
theorem dX6_oneYear_62 : decode cX6_oneYear 62 = .ok (.ldc2_w 142, 3) := by decide +kernel
theorem dX6_oneYear_65 : decode cX6_oneYear 65 = .ok (.aload_n 0, 1) := by decide +kernel
theorem dX6_oneYear_66 : decode cX6_oneYear 66 = .ok (.getfield 48, 3) := by decide +kernel
theorem dX6_oneYear_69 : decode cX6_oneYear 69 = .ok (.iload_n 2, 1) := by decide +kernel
theorem dX6_oneYear_70 : decode cX6_oneYear 70 = .ok (.iaload, 1) := by decide +kernel
theorem dX6_oneYear_71 : decode cX6_oneYear 71 = .ok (.i2l, 1) := by decide +kernel
theorem dX6_oneYear_72 : decode cX6_oneYear 72 = .ok (.lmul, 1) := by decide +kernel
theorem dX6_oneYear_73 : decode cX6_oneYear 73 = .ok (.invokevirtual 127, 3) := by decide +kernel
theorem dX6_oneYear_76 : decode cX6_oneYear 76 = .ok (.aload_n 0, 1) := by decide +kernel
theorem dX6_oneYear_77 : decode cX6_oneYear 77 = .ok (.getfield 51, 3) := by decide +kernel
theorem dX6_oneYear_80 : decode cX6_oneYear 80 = .ok (.iconst 4, 1) := by decide +kernel
theorem dX6_oneYear_81 : decode cX6_oneYear 81 = .ok (.dup2, 1) := by decide +kernel
theorem dX6_oneYear_82 : decode cX6_oneYear 82 = .ok (.laload, 1) := by decide +kernel
theorem dX6_oneYear_83 : decode cX6_oneYear 83 = .ok (.aload_n 0, 1) := by decide +kernel
theorem dX6_oneYear_84 : decode cX6_oneYear 84 = .ok (.getfield 48, 3) := by decide +kernel
theorem dX6_oneYear_87 : decode cX6_oneYear 87 = .ok (.iload_n 2, 1) := by decide +kernel
theorem dX6_oneYear_88 : decode cX6_oneYear 88 = .ok (.iaload, 1) := by decide +kernel
theorem dX6_oneYear_89 : decode cX6_oneYear 89 = .ok (.i2l, 1) := by decide +kernel
theorem dX6_oneYear_90 : decode cX6_oneYear 90 = .ok (.ladd, 1) := by decide +kernel
theorem dX6_oneYear_91 : decode cX6_oneYear 91 = .ok (.lastore, 1) := by decide +kernel
theorem dX6_oneYear_92 : decode cX6_oneYear 92 = .ok (.aload_n 0, 1) := by decide +kernel
theorem dX6_oneYear_93 : decode cX6_oneYear 93 = .ok (.getfield 51, 3) := by decide +kernel
theorem dX6_oneYear_96 : decode cX6_oneYear 96 = .ok (.iconst 5, 1) := by decide +kernel
theorem dX6_oneYear_97 : decode cX6_oneYear 97 = .ok (.dup2, 1) := by decide +kernel
theorem dX6_oneYear_98 : decode cX6_oneYear 98 = .ok (.laload, 1) := by decide +kernel
theorem dX6_oneYear_99 : decode cX6_oneYear 99 = .ok (.ldc2_w 142, 3) := by decide +kernel
theorem dX6_oneYear_102 : decode cX6_oneYear 102 = .ok (.aload_n 0, 1) := by decide +kernel
theorem dX6_oneYear_103 : decode cX6_oneYear 103 = .ok (.getfield 48, 3) := by decide +kernel
theorem dX6_oneYear_106 : decode cX6_oneYear 106 = .ok (.iload_n 2, 1) := by decide +kernel
theorem dX6_oneYear_107 : decode cX6_oneYear 107 = .ok (.iaload, 1) := by decide +kernel
theorem dX6_oneYear_108 : decode cX6_oneYear 108 = .ok (.i2l, 1) := by decide +kernel
theorem dX6_oneYear_109 : decode cX6_oneYear 109 = .ok (.lmul, 1) := by decide +kernel
theorem dX6_oneYear_110 : decode cX6_oneYear 110 = .ok (.ladd, 1) := by decide +kernel
theorem dX6_oneYear_111 : decode cX6_oneYear 111 = .ok (.lastore, 1) := by decide +kernel
theorem dX6_oneYear_112 : decode cX6_oneYear 112 = .ok (.iinc 2 1, 3) := by decide +kernel
theorem dX6_oneYear_115 : decode cX6_oneYear 115 = .ok (.goto (-67), 3) := by decide +kernel
theorem dX6_oneYear_118 : decode cX6_oneYear 118 = .ok (.iconst 0, 1) := by decide +kernel
theorem dX6_oneYear_119 : decode cX6_oneYear 119 = .ok (.istore_n 2, 1) := by decide +kernel
theorem dX6_oneYear_120 : decode cX6_oneYear 120 = .ok (.iload_n 2, 1) := by decide +kernel
theorem dX6_oneYear_121 : decode cX6_oneYear 121 = .ok (.aload_n 0, 1) := by decide +kernel
theorem dX6_oneYear_122 : decode cX6_oneYear 122 = .ok (.getfield 72, 3) := by decide +kernel
theorem dX6_oneYear_125 : decode cX6_oneYear 125 = .ok (.if_icmp .ge 32, 3) := by decide +kernel
theorem dX6_oneYear_128 : decode cX6_oneYear 128 = .ok (.aload_n 0, 1) := by decide +kernel
theorem dX6_oneYear_129 : decode cX6_oneYear 129 = .ok (.getfield 16, 3) := by decide +kernel
theorem dX6_oneYear_132 : decode cX6_oneYear 132 = .ok (.iload_n 2, 1) := by decide +kernel
theorem dX6_oneYear_133 : decode cX6_oneYear 133 = .ok (.dup2, 1) := by decide +kernel
theorem dX6_oneYear_134 : decode cX6_oneYear 134 = .ok (.iaload, 1) := by decide +kernel
theorem dX6_oneYear_135 : decode cX6_oneYear 135 = .ok (.aload_n 0, 1) := by decide +kernel
theorem dX6_oneYear_136 : decode cX6_oneYear 136 = .ok (.getfield 19, 3) := by decide +kernel
theorem dX6_oneYear_139 : decode cX6_oneYear 139 = .ok (.iload_n 2, 1) := by decide +kernel
theorem dX6_oneYear_140 : decode cX6_oneYear 140 = .ok (.baload, 1) := by decide +kernel
theorem dX6_oneYear_141 : decode cX6_oneYear 141 = .ok (.ifCond .eq 7, 3) := by decide +kernel
theorem dX6_oneYear_144 : decode cX6_oneYear 144 = .ok (.iconst 1, 1) := by decide +kernel
theorem dX6_oneYear_145 : decode cX6_oneYear 145 = .ok (.goto 4, 3) := by decide +kernel
theorem dX6_oneYear_148 : decode cX6_oneYear 148 = .ok (.iconst 0, 1) := by decide +kernel
theorem dX6_oneYear_149 : decode cX6_oneYear 149 = .ok (.iadd, 1) := by decide +kernel
theorem dX6_oneYear_150 : decode cX6_oneYear 150 = .ok (.iastore, 1) := by decide +kernel
theorem dX6_oneYear_151 : decode cX6_oneYear 151 = .ok (.iinc 2 1, 3) := by decide +kernel
theorem dX6_oneYear_154 : decode cX6_oneYear 154 = .ok (.goto (-34), 3) := by decide +kernel
theorem dX6_oneYear_157 : decode cX6_oneYear 157 = .ok (.aload_n 0, 1) := by decide +kernel
theorem dX6_oneYear_158 : decode cX6_oneYear 158 = .ok (.getfield 51, 3) := by decide +kernel
theorem dX6_oneYear_161 : decode cX6_oneYear 161 = .ok (.bipush 7, 2) := by decide +kernel
theorem dX6_oneYear_163 : decode cX6_oneYear 163 = .ok (.dup2, 1) := by decide +kernel
theorem dX6_oneYear_164 : decode cX6_oneYear 164 = .ok (.laload, 1) := by decide +kernel
theorem dX6_oneYear_165 : decode cX6_oneYear 165 = .ok (.lconst 1, 1) := by decide +kernel
theorem dX6_oneYear_166 : decode cX6_oneYear 166 = .ok (.ladd, 1) := by decide +kernel
theorem dX6_oneYear_167 : decode cX6_oneYear 167 = .ok (.lastore, 1) := by decide +kernel
theorem dX6_oneYear_168 : decode cX6_oneYear 168 = .ok (.return_, 1) := by decide +kernel
set_option maxRecDepth 20000 in
theorem ggX6_year_X6_in : GoodIn wsX6_year wsX6_in := goodIn_r _ [5] (by decide +kernel) (by decide +kernel)
set_option maxRecDepth 20000 in
theorem gX6_year_X6_in : GoodIn wsX6_year (va_wsS RX6 76 yX6_in wsX6_in) := goodIn_app (goodIn_of _ (by decide +kernel)) ggX6_year_X6_in
set_option maxRecDepth 20000 in
theorem ggX6_year_X6_oneYear : GoodIn wsX6_year wsX6_oneYear := goodIn_r _ [9, 1, 10, 11, 12, 13, 14, 15, 16, 17, 4, 18, 19, 20, 21, 22, 23, 24, 25, 26, 27, 28, 29, 30, 31, 32, 33, 34, 35, 36, 37, 38, 39, 40, 41, 42, 43, 44, 45, 46, 47, 48, 49, 50, 51, 52, 53, 54, 55, 56, 57, 58, 59, 60, 61, 62, 63, 64, 65, 66, 67, 68, 69, 70, 71, 72, 73, 74, 75, 76, 77, 78, 79, 80, 81, 82, 83, 84, 85, 86, 87, 88, 89, 90, 91] (by decide +kernel) (by decide +kernel)
set_option maxRecDepth 20000 in
theorem gX6_year_X6_oneYear : GoodIn wsX6_year (wsV RX6 144 RX6 yX6_oneYear wsX6_oneYear) := goodIn_app (goodIn_of _ (by decide +kernel)) ggX6_year_X6_oneYear
theorem dX6_year_0 : decode cX6_year 0 = .ok (.iload_n 1, 1) := by decide +kernel
theorem dX6_year_1 : decode cX6_year 1 = .ok (.iconst 1, 1) := by decide +kernel
theorem dX6_year_2 : decode cX6_year 2 = .ok (.bipush 20, 2) := by decide +kernel
theorem dX6_year_4 : decode cX6_year 4 = .ok (.invokestatic 76, 3) := by decide +kernel
theorem dX6_year_7 : decode cX6_year 7 = .ok (.ifCond .ne 5, 3) := by decide +kernel
theorem dX6_year_10 : decode cX6_year 10 = .ok (.iconst (-1), 1) := by decide +kernel
theorem dX6_year_11 : decode cX6_year 11 = .ok (.ireturn, 1) := by decide +kernel
theorem dX6_year_12 : decode cX6_year 12 = .ok (.iconst 0, 1) := by decide +kernel
theorem dX6_year_13 : decode cX6_year 13 = .ok (.istore_n 2, 1) := by decide +kernel
theorem dX6_year_14 : decode cX6_year 14 = .ok (.iload_n 2, 1) := by decide +kernel
theorem dX6_year_15 : decode cX6_year 15 = .ok (.iload_n 1, 1) := by decide +kernel
theorem dX6_year_16 : decode cX6_year 16 = .ok (.if_icmp .ge 13, 3) := by decide +kernel
theorem dX6_year_19 : decode cX6_year 19 = .ok (.aload_n 0, 1) := by decide +kernel
theorem dX6_year_20 : decode cX6_year 20 = .ok (.invokevirtual 144, 3) := by decide +kernel
theorem dX6_year_23 : decode cX6_year 23 = .ok (.iinc 2 1, 3) := by decide +kernel
theorem dX6_year_26 : decode cX6_year 26 = .ok (.goto (-12), 3) := by decide +kernel
theorem dX6_year_29 : decode cX6_year 29 = .ok (.aload_n 0, 1) := by decide +kernel
theorem dX6_year_30 : decode cX6_year 30 = .ok (.getfield 51, 3) := by decide +kernel
theorem dX6_year_33 : decode cX6_year 33 = .ok (.bipush 7, 2) := by decide +kernel
theorem dX6_year_35 : decode cX6_year 35 = .ok (.laload, 1) := by decide +kernel
theorem dX6_year_36 : decode cX6_year 36 = .ok (.l2i, 1) := by decide +kernel
theorem dX6_year_37 : decode cX6_year 37 = .ok (.ireturn, 1) := by decide +kernel
set_option maxRecDepth 20000 in
theorem ggX6_box_X6_isBox : GoodIn wsX6_box wsX6_isBox := goodIn_r _ [7, 8, 9, 6, 10] (by decide +kernel) (by decide +kernel)
set_option maxRecDepth 20000 in
theorem gX6_box_X6_isBox : GoodIn wsX6_box (va_wsS RX6 109 yX6_isBox wsX6_isBox) := goodIn_app (goodIn_of _ (by decide +kernel)) ggX6_box_X6_isBox
set_option maxRecDepth 20000 in
theorem ggX6_box_X6_in : GoodIn wsX6_box wsX6_in := goodIn_r _ [10] (by decide +kernel) (by decide +kernel)
set_option maxRecDepth 20000 in
theorem gX6_box_X6_in : GoodIn wsX6_box (va_wsS RX6 76 yX6_in wsX6_in) := goodIn_app (goodIn_of _ (by decide +kernel)) ggX6_box_X6_in
theorem dX6_box_0 : decode cX6_box 0 = .ok (.iload_n 1, 1) := by decide +kernel
theorem dX6_box_1 : decode cX6_box 1 = .ok (.invokestatic 109, 3) := by decide +kernel
theorem dX6_box_4 : decode cX6_box 4 = .ok (.ifCond .eq 12, 3) := by decide +kernel
theorem dX6_box_7 : decode cX6_box 7 = .ok (.iload_n 2, 1) := by decide +kernel
theorem dX6_box_8 : decode cX6_box 8 = .ok (.iconst 0, 1) := by decide +kernel
theorem dX6_box_9 : decode cX6_box 9 = .ok (.iconst 1, 1) := by decide +kernel
theorem dX6_box_10 : decode cX6_box 10 = .ok (.invokestatic 76, 3) := by decide +kernel
theorem dX6_box_13 : decode cX6_box 13 = .ok (.ifCond .ne 9, 3) := by decide +kernel
theorem dX6_box_16 : decode cX6_box 16 = .ok (.ldc2_w 147, 3) := by decide +kernel
theorem dX6_box_19 : decode cX6_box 19 = .ok (.goto 22, 3) := by decide +kernel
theorem dX6_box_22 : decode cX6_box 22 = .ok (.iload_n 2, 1) := by decide +kernel
theorem dX6_box_23 : decode cX6_box 23 = .ok (.ifCond .ne 12, 3) := by decide +kernel
theorem dX6_box_26 : decode cX6_box 26 = .ok (.aload_n 0, 1) := by decide +kernel
theorem dX6_box_27 : decode cX6_box 27 = .ok (.getfield 38, 3) := by decide +kernel
theorem dX6_box_30 : decode cX6_box 30 = .ok (.iload_n 1, 1) := by decide +kernel
theorem dX6_box_31 : decode cX6_box 31 = .ok (.laload, 1) := by decide +kernel
theorem dX6_box_32 : decode cX6_box 32 = .ok (.goto 9, 3) := by decide +kernel
theorem dX6_box_35 : decode cX6_box 35 = .ok (.aload_n 0, 1) := by decide +kernel
theorem dX6_box_36 : decode cX6_box 36 = .ok (.getfield 42, 3) := by decide +kernel
theorem dX6_box_39 : decode cX6_box 39 = .ok (.iload_n 1, 1) := by decide +kernel
theorem dX6_box_40 : decode cX6_box 40 = .ok (.laload, 1) := by decide +kernel
theorem dX6_box_41 : decode cX6_box 41 = .ok (.lreturn, 1) := by decide +kernel
set_option maxRecDepth 20000 in
theorem ggX6_sum_X6_in : GoodIn wsX6_sum wsX6_in := goodIn_r _ [6] (by decide +kernel) (by decide +kernel)
set_option maxRecDepth 20000 in
theorem gX6_sum_X6_in : GoodIn wsX6_sum (va_wsS RX6 76 yX6_in wsX6_in) := goodIn_app (goodIn_of _ (by decide +kernel)) ggX6_sum_X6_in
theorem dX6_sum_0 : decode cX6_sum 0 = .ok (.iload_n 1, 1) := by decide +kernel
theorem dX6_sum_1 : decode cX6_sum 1 = .ok (.iconst 0, 1) := by decide +kernel
theorem dX6_sum_2 : decode cX6_sum 2 = .ok (.bipush 8, 2) := by decide +kernel
theorem dX6_sum_4 : decode cX6_sum 4 = .ok (.invokestatic 76, 3) := by decide +kernel
theorem dX6_sum_7 : decode cX6_sum 7 = .ok (.ifCond .eq 12, 3) := by decide +kernel
theorem dX6_sum_10 : decode cX6_sum 10 = .ok (.aload_n 0, 1) := by decide +kernel
theorem dX6_sum_11 : decode cX6_sum 11 = .ok (.getfield 51, 3) := by decide +kernel
theorem dX6_sum_14 : decode cX6_sum 14 = .ok (.iload_n 1, 1) := by decide +kernel
theorem dX6_sum_15 : decode cX6_sum 15 = .ok (.laload, 1) := by decide +kernel
theorem dX6_sum_16 : decode cX6_sum 16 = .ok (.goto 6, 3) := by decide +kernel
theorem dX6_sum_19 : decode cX6_sum 19 = .ok (.ldc2_w 147, 3) := by decide +kernel
theorem dX6_sum_22 : decode cX6_sum 22 = .ok (.lreturn, 1) := by decide +kernel
set_option maxRecDepth 20000 in
theorem ggX6_share_X6_in : GoodIn wsX6_share wsX6_in := goodIn_r _ [5] (by decide +kernel) (by decide +kernel)
set_option maxRecDepth 20000 in
theorem gX6_share_X6_in : GoodIn wsX6_share (va_wsS RX6 76 yX6_in wsX6_in) := goodIn_app (goodIn_of _ (by decide +kernel)) ggX6_share_X6_in
theorem dX6_share_0 : decode cX6_share 0 = .ok (.iload_n 1, 1) := by decide +kernel
theorem dX6_share_1 : decode cX6_share 1 = .ok (.iconst 0, 1) := by decide +kernel
theorem dX6_share_2 : decode cX6_share 2 = .ok (.iconst 5, 1) := by decide +kernel
theorem dX6_share_3 : decode cX6_share 3 = .ok (.invokestatic 76, 3) := by decide +kernel
theorem dX6_share_6 : decode cX6_share 6 = .ok (.ifCond .eq 14, 3) := by decide +kernel
theorem dX6_share_9 : decode cX6_share 9 = .ok (.iload_n 2, 1) := by decide +kernel
theorem dX6_share_10 : decode cX6_share 10 = .ok (.iconst 0, 1) := by decide +kernel
theorem dX6_share_11 : decode cX6_share 11 = .ok (.sipush 1000, 3) := by decide +kernel
theorem dX6_share_14 : decode cX6_share 14 = .ok (.invokestatic 76, 3) := by decide +kernel
theorem dX6_share_17 : decode cX6_share 17 = .ok (.ifCond .ne 5, 3) := by decide +kernel
theorem dX6_share_20 : decode cX6_share 20 = .ok (.iconst (-1), 1) := by decide +kernel
theorem dX6_share_21 : decode cX6_share 21 = .ok (.ireturn, 1) := by decide +kernel
theorem dX6_share_22 : decode cX6_share 22 = .ok (.iload_n 2, 1) := by decide +kernel
theorem dX6_share_23 : decode cX6_share 23 = .ok (.istore_n 3, 1) := by decide +kernel
theorem dX6_share_24 : decode cX6_share 24 = .ok (.iconst 0, 1) := by decide +kernel
theorem dX6_share_25 : decode cX6_share 25 = .ok (.istore 4, 2) := by decide +kernel
theorem dX6_share_27 : decode cX6_share 27 = .ok (.iload 4, 2) := by decide +kernel
theorem dX6_share_29 : decode cX6_share 29 = .ok (.bipush 6, 2) := by decide +kernel
theorem dX6_share_31 : decode cX6_share 31 = .ok (.if_icmp .ge 29, 3) := by decide +kernel
theorem dX6_share_34 : decode cX6_share 34 = .ok (.iload_n 3, 1) := by decide +kernel
theorem dX6_share_35 : decode cX6_share 35 = .ok (.iload 4, 2) := by decide +kernel
theorem dX6_share_37 : decode cX6_share 37 = .ok (.iload_n 1, 1) := by decide +kernel
theorem dX6_share_38 : decode cX6_share 38 = .ok (.if_icmp .ne 7, 3) := by decide +kernel
theorem dX6_share_41 : decode cX6_share 41 = .ok (.iconst 0, 1) := by decide +kernel
theorem dX6_share_42 : decode cX6_share 42 = .ok (.goto 10, 3) := by decide +kernel
theorem dX6_share_45 : decode cX6_share 45 = .ok (.aload_n 0, 1) := by decide +kernel
theorem dX6_share_46 : decode cX6_share 46 = .ok (.getfield 54, 3) := by decide +kernel
theorem dX6_share_49 : decode cX6_share 49 = .ok (.iload 4, 2) := by decide +kernel
theorem dX6_share_51 : decode cX6_share 51 = .ok (.iaload, 1) := by decide +kernel
theorem dX6_share_52 : decode cX6_share 52 = .ok (.iadd, 1) := by decide +kernel
theorem dX6_share_53 : decode cX6_share 53 = .ok (.istore_n 3, 1) := by decide +kernel
theorem dX6_share_54 : decode cX6_share 54 = .ok (.iinc 4 1, 3) := by decide +kernel
theorem dX6_share_57 : decode cX6_share 57 = .ok (.goto (-30), 3) := by decide +kernel
theorem dX6_share_60 : decode cX6_share 60 = .ok (.iload_n 3, 1) := by decide +kernel
theorem dX6_share_61 : decode cX6_share 61 = .ok (.sipush 1000, 3) := by decide +kernel
theorem dX6_share_64 : decode cX6_share 64 = .ok (.if_icmp .le 5, 3) := by decide +kernel
theorem dX6_share_67 : decode cX6_share 67 = .ok (.iconst (-1), 1) := by decide +kernel
theorem dX6_share_68 : decode cX6_share 68 = .ok (.ireturn, 1) := by decide +kernel
theorem dX6_share_69 : decode cX6_share 69 = .ok (.aload_n 0, 1) := by decide +kernel
theorem dX6_share_70 : decode cX6_share 70 = .ok (.getfield 54, 3) := by decide +kernel
theorem dX6_share_73 : decode cX6_share 73 = .ok (.iload_n 1, 1) := by decide +kernel
theorem dX6_share_74 : decode cX6_share 74 = .ok (.iaload, 1) := by decide +kernel
theorem dX6_share_75 : decode cX6_share 75 = .ok (.istore 4, 2) := by decide +kernel
theorem dX6_share_77 : decode cX6_share 77 = .ok (.aload_n 0, 1) := by decide +kernel
theorem dX6_share_78 : decode cX6_share 78 = .ok (.getfield 54, 3) := by decide +kernel
theorem dX6_share_81 : decode cX6_share 81 = .ok (.iload_n 1, 1) := by decide +kernel
theorem dX6_share_82 : decode cX6_share 82 = .ok (.iload_n 2, 1) := by decide +kernel
theorem dX6_share_83 : decode cX6_share 83 = .ok (.iastore, 1) := by decide +kernel
theorem dX6_share_84 : decode cX6_share 84 = .ok (.iload 4, 2) := by decide +kernel
theorem dX6_share_86 : decode cX6_share 86 = .ok (.ireturn, 1) := by decide +kernel
set_option maxRecDepth 20000 in
theorem ggX6_put_X6_in : GoodIn wsX6_put wsX6_in := goodIn_r _ [7] (by decide +kernel) (by decide +kernel)
set_option maxRecDepth 20000 in
theorem gX6_put_X6_in : GoodIn wsX6_put (va_wsS RX6 76 yX6_in wsX6_in) := goodIn_app (goodIn_of _ (by decide +kernel)) ggX6_put_X6_in
theorem dX6_put_0 : decode cX6_put 0 = .ok (.iload_n 1, 1) := by decide +kernel
theorem dX6_put_1 : decode cX6_put 1 = .ok (.iconst 0, 1) := by decide +kernel
theorem dX6_put_2 : decode cX6_put 2 = .ok (.ldc 149, 2) := by decide +kernel
theorem dX6_put_4 : decode cX6_put 4 = .ok (.invokestatic 76, 3) := by decide +kernel
theorem dX6_put_7 : decode cX6_put 7 = .ok (.ifCond .ne 5, 3) := by decide +kernel
theorem dX6_put_10 : decode cX6_put 10 = .ok (.iconst (-1), 1) := by decide +kernel
theorem dX6_put_11 : decode cX6_put 11 = .ok (.ireturn, 1) := by decide +kernel
theorem dX6_put_12 : decode cX6_put 12 = .ok (.aload_n 0, 1) := by decide +kernel
theorem dX6_put_13 : decode cX6_put 13 = .ok (.getfield 150, 3) := by decide +kernel
theorem dX6_put_16 : decode cX6_put 16 = .ok (.bipush 12, 2) := by decide +kernel
theorem dX6_put_18 : decode cX6_put 18 = .ok (.if_icmp .ne 6, 3) := by decide +kernel
theorem dX6_put_21 : decode cX6_put 21 = .ok (.bipush (-3), 2) := by decide +kernel
theorem dX6_put_23 : decode cX6_put 23 = .ok (.ireturn, 1) := by decide +kernel
theorem dX6_put_24 : decode cX6_put 24 = .ok (.aload_n 0, 1) := by decide +kernel
theorem dX6_put_25 : decode cX6_put 25 = .ok (.getfield 57, 3) := by decide +kernel
theorem dX6_put_28 : decode cX6_put 28 = .ok (.aload_n 0, 1) := by decide +kernel
theorem dX6_put_29 : decode cX6_put 29 = .ok (.getfield 150, 3) := by decide +kernel
theorem dX6_put_32 : decode cX6_put 32 = .ok (.iload_n 1, 1) := by decide +kernel
theorem dX6_put_33 : decode cX6_put 33 = .ok (.iastore, 1) := by decide +kernel
theorem dX6_put_34 : decode cX6_put 34 = .ok (.aload_n 0, 1) := by decide +kernel
theorem dX6_put_35 : decode cX6_put 35 = .ok (.dup, 1) := by decide +kernel
theorem dX6_put_36 : decode cX6_put 36 = .ok (.getfield 150, 3) := by decide +kernel
theorem dX6_put_39 : decode cX6_put 39 = .ok (.iconst 1, 1) := by decide +kernel
theorem dX6_put_40 : decode cX6_put 40 = .ok (.iadd, 1) := by decide +kernel
theorem dX6_put_41 : decode cX6_put 41 = .ok (.putfield 150, 3) := by decide +kernel
theorem dX6_put_44 : decode cX6_put 44 = .ok (.aload_n 0, 1) := by decide +kernel
theorem dX6_put_45 : decode cX6_put 45 = .ok (.getfield 150, 3) := by decide +kernel
theorem dX6_put_48 : decode cX6_put 48 = .ok (.ireturn, 1) := by decide +kernel
set_option maxRecDepth 20000 in
theorem ggX6_back_X6_in : GoodIn wsX6_back wsX6_in := goodIn_r _ [7] (by decide +kernel) (by decide +kernel)
set_option maxRecDepth 20000 in
theorem gX6_back_X6_in : GoodIn wsX6_back (va_wsS RX6 76 yX6_in wsX6_in) := goodIn_app (goodIn_of _ (by decide +kernel)) ggX6_back_X6_in
theorem dX6_back_0 : decode cX6_back 0 = .ok (.iload_n 1, 1) := by decide +kernel
theorem dX6_back_1 : decode cX6_back 1 = .ok (.iconst 0, 1) := by decide +kernel
theorem dX6_back_2 : decode cX6_back 2 = .ok (.bipush 16, 2) := by decide +kernel
theorem dX6_back_4 : decode cX6_back 4 = .ok (.invokestatic 76, 3) := by decide +kernel
theorem dX6_back_7 : decode cX6_back 7 = .ok (.ifCond .ne 5, 3) := by decide +kernel
theorem dX6_back_10 : decode cX6_back 10 = .ok (.iconst (-1), 1) := by decide +kernel
theorem dX6_back_11 : decode cX6_back 11 = .ok (.ireturn, 1) := by decide +kernel
theorem dX6_back_12 : decode cX6_back 12 = .ok (.iconst 0, 1) := by decide +kernel
theorem dX6_back_13 : decode cX6_back 13 = .ok (.istore_n 2, 1) := by decide +kernel
theorem dX6_back_14 : decode cX6_back 14 = .ok (.iconst 0, 1) := by decide +kernel
theorem dX6_back_15 : decode cX6_back 15 = .ok (.istore_n 3, 1) := by decide +kernel
theorem dX6_back_16 : decode cX6_back 16 = .ok (.iload_n 3, 1) := by decide +kernel
theorem dX6_back_17 : decode cX6_back 17 = .ok (.aload_n 0, 1) := by decide +kernel
theorem dX6_back_18 : decode cX6_back 18 = .ok (.getfield 150, 3) := by decide +kernel
theorem dX6_back_21 : decode cX6_back 21 = .ok (.if_icmp .ge 49, 3) := by decide +kernel
theorem dX6_back_24 : decode cX6_back 24 = .ok (.iload_n 1, 1) := by decide +kernel
theorem dX6_back_25 : decode cX6_back 25 = .ok (.iload_n 3, 1) := by decide +kernel
theorem dX6_back_26 : decode cX6_back 26 = .ok (.isub, 1) := by decide +kernel
theorem dX6_back_27 : decode cX6_back 27 = .ok (.istore 4, 2) := by decide +kernel
theorem dX6_back_29 : decode cX6_back 29 = .ok (.iload_n 2, 1) := by decide +kernel
theorem dX6_back_30 : decode cX6_back 30 = .ok (.iload 4, 2) := by decide +kernel
theorem dX6_back_32 : decode cX6_back 32 = .ok (.iconst 0, 1) := by decide +kernel
theorem dX6_back_33 : decode cX6_back 33 = .ok (.iconst 5, 1) := by decide +kernel
theorem dX6_back_34 : decode cX6_back 34 = .ok (.invokestatic 76, 3) := by decide +kernel
theorem dX6_back_37 : decode cX6_back 37 = .ok (.ifCond .eq 24, 3) := by decide +kernel
theorem dX6_back_40 : decode cX6_back 40 = .ok (.aload_n 0, 1) := by decide +kernel
theorem dX6_back_41 : decode cX6_back 41 = .ok (.getfield 57, 3) := by decide +kernel
theorem dX6_back_44 : decode cX6_back 44 = .ok (.iload_n 3, 1) := by decide +kernel
theorem dX6_back_45 : decode cX6_back 45 = .ok (.iaload, 1) := by decide +kernel
theorem dX6_back_46 : decode cX6_back 46 = .ok (.aload_n 0, 1) := by decide +kernel
theorem dX6_back_47 : decode cX6_back 47 = .ok (.getfield 54, 3) := by decide +kernel
theorem dX6_back_50 : decode cX6_back 50 = .ok (.iload 4, 2) := by decide +kernel
theorem dX6_back_52 : decode cX6_back 52 = .ok (.iaload, 1) := by decide +kernel
theorem dX6_back_53 : decode cX6_back 53 = .ok (.imul, 1) := by decide +kernel
theorem dX6_back_54 : decode cX6_back 54 = .ok (.sipush 1000, 3) := by decide +kernel
theorem dX6_back_57 : decode cX6_back 57 = .ok (.idiv, 1) := by decide +kernel
theorem dX6_back_58 : decode cX6_back 58 = .ok (.goto 4, 3) := by decide +kernel
theorem dX6_back_61 : decode cX6_back 61 = .ok (.iconst 0, 1) := by decide +kernel
theorem dX6_back_62 : decode cX6_back 62 = .ok (.iadd, 1) := by decide +kernel
theorem dX6_back_63 : decode cX6_back 63 = .ok (.istore_n 2, 1) := by decide +kernel
theorem dX6_back_64 : decode cX6_back 64 = .ok (.iinc 3 1, 3) := by decide +kernel
theorem dX6_back_67 : decode cX6_back 67 = .ok (.goto (-51), 3) := by decide +kernel
theorem dX6_back_70 : decode cX6_back 70 = .ok (.iload_n 2, 1) := by decide +kernel
theorem dX6_back_71 : decode cX6_back 71 = .ok (.ireturn, 1) := by decide +kernel
theorem dX6_cut_0 : decode cX6_cut 0 = .ok (.aload_n 0, 1) := by decide +kernel
theorem dX6_cut_1 : decode cX6_cut 1 = .ok (.getfield 150, 3) := by decide +kernel
theorem dX6_cut_4 : decode cX6_cut 4 = .ok (.ifCond .ne 6, 3) := by decide +kernel
theorem dX6_cut_7 : decode cX6_cut 7 = .ok (.bipush (-2), 2) := by decide +kernel
theorem dX6_cut_9 : decode cX6_cut 9 = .ok (.ireturn, 1) := by decide +kernel
theorem dX6_cut_10 : decode cX6_cut 10 = .ok (.aload_n 0, 1) := by decide +kernel
theorem dX6_cut_11 : decode cX6_cut 11 = .ok (.dup, 1) := by decide +kernel
theorem dX6_cut_12 : decode cX6_cut 12 = .ok (.getfield 150, 3) := by decide +kernel
theorem dX6_cut_15 : decode cX6_cut 15 = .ok (.iconst 1, 1) := by decide +kernel
theorem dX6_cut_16 : decode cX6_cut 16 = .ok (.isub, 1) := by decide +kernel
theorem dX6_cut_17 : decode cX6_cut 17 = .ok (.putfield 150, 3) := by decide +kernel
theorem dX6_cut_20 : decode cX6_cut 20 = .ok (.aload_n 0, 1) := by decide +kernel
theorem dX6_cut_21 : decode cX6_cut 21 = .ok (.getfield 150, 3) := by decide +kernel
theorem dX6_cut_24 : decode cX6_cut 24 = .ok (.ireturn, 1) := by decide +kernel
set_option maxRecDepth 20000 in
theorem ggX6_candidate_X6_in : GoodIn wsX6_candidate wsX6_in := goodIn_r _ [8] (by decide +kernel) (by decide +kernel)
set_option maxRecDepth 20000 in
theorem gX6_candidate_X6_in : GoodIn wsX6_candidate (va_wsS RX6 76 yX6_in wsX6_in) := goodIn_app (goodIn_of _ (by decide +kernel)) ggX6_candidate_X6_in
theorem dX6_candidate_0 : decode cX6_candidate 0 = .ok (.iload_n 1, 1) := by decide +kernel
theorem dX6_candidate_1 : decode cX6_candidate 1 = .ok (.iconst 1, 1) := by decide +kernel
theorem dX6_candidate_2 : decode cX6_candidate 2 = .ok (.sipush 1000, 3) := by decide +kernel
theorem dX6_candidate_5 : decode cX6_candidate 5 = .ok (.invokestatic 76, 3) := by decide +kernel
theorem dX6_candidate_8 : decode cX6_candidate 8 = .ok (.ifCond .eq 23, 3) := by decide +kernel
theorem dX6_candidate_11 : decode cX6_candidate 11 = .ok (.iload_n 2, 1) := by decide +kernel
theorem dX6_candidate_12 : decode cX6_candidate 12 = .ok (.iconst 0, 1) := by decide +kernel
theorem dX6_candidate_13 : decode cX6_candidate 13 = .ok (.iconst 5, 1) := by decide +kernel
theorem dX6_candidate_14 : decode cX6_candidate 14 = .ok (.invokestatic 76, 3) := by decide +kernel
theorem dX6_candidate_17 : decode cX6_candidate 17 = .ok (.ifCond .eq 14, 3) := by decide +kernel
theorem dX6_candidate_20 : decode cX6_candidate 20 = .ok (.iload_n 3, 1) := by decide +kernel
theorem dX6_candidate_21 : decode cX6_candidate 21 = .ok (.iconst 1, 1) := by decide +kernel
theorem dX6_candidate_22 : decode cX6_candidate 22 = .ok (.sipush 500, 3) := by decide +kernel
theorem dX6_candidate_25 : decode cX6_candidate 25 = .ok (.invokestatic 76, 3) := by decide +kernel
theorem dX6_candidate_28 : decode cX6_candidate 28 = .ok (.ifCond .ne 5, 3) := by decide +kernel
theorem dX6_candidate_31 : decode cX6_candidate 31 = .ok (.iconst (-1), 1) := by decide +kernel
theorem dX6_candidate_32 : decode cX6_candidate 32 = .ok (.ireturn, 1) := by decide +kernel
theorem dX6_candidate_33 : decode cX6_candidate 33 = .ok (.aload_n 0, 1) := by decide +kernel
theorem dX6_candidate_34 : decode cX6_candidate 34 = .ok (.getfield 153, 3) := by decide +kernel
theorem dX6_candidate_37 : decode cX6_candidate 37 = .ok (.bipush 8, 2) := by decide +kernel
theorem dX6_candidate_39 : decode cX6_candidate 39 = .ok (.if_icmp .ne 6, 3) := by decide +kernel
theorem dX6_candidate_42 : decode cX6_candidate 42 = .ok (.bipush (-3), 2) := by decide +kernel
theorem dX6_candidate_44 : decode cX6_candidate 44 = .ok (.ireturn, 1) := by decide +kernel
theorem dX6_candidate_45 : decode cX6_candidate 45 = .ok (.aload_n 0, 1) := by decide +kernel
theorem dX6_candidate_46 : decode cX6_candidate 46 = .ok (.getfield 60, 3) := by decide +kernel
theorem dX6_candidate_49 : decode cX6_candidate 49 = .ok (.aload_n 0, 1) := by decide +kernel
theorem dX6_candidate_50 : decode cX6_candidate 50 = .ok (.getfield 153, 3) := by decide +kernel
theorem dX6_candidate_53 : decode cX6_candidate 53 = .ok (.iload_n 1, 1) := by decide +kernel
theorem dX6_candidate_54 : decode cX6_candidate 54 = .ok (.iastore, 1) := by decide +kernel
theorem dX6_candidate_55 : decode cX6_candidate 55 = .ok (.aload_n 0, 1) := by decide +kernel
theorem dX6_candidate_56 : decode cX6_candidate 56 = .ok (.getfield 63, 3) := by decide +kernel
theorem dX6_candidate_59 : decode cX6_candidate 59 = .ok (.aload_n 0, 1) := by decide +kernel
theorem dX6_candidate_60 : decode cX6_candidate 60 = .ok (.getfield 153, 3) := by decide +kernel
theorem dX6_candidate_63 : decode cX6_candidate 63 = .ok (.iload_n 2, 1) := by decide +kernel
theorem dX6_candidate_64 : decode cX6_candidate 64 = .ok (.iastore, 1) := by decide +kernel
theorem dX6_candidate_65 : decode cX6_candidate 65 = .ok (.aload_n 0, 1) := by decide +kernel
theorem dX6_candidate_66 : decode cX6_candidate 66 = .ok (.getfield 66, 3) := by decide +kernel
theorem dX6_candidate_69 : decode cX6_candidate 69 = .ok (.aload_n 0, 1) := by decide +kernel
theorem dX6_candidate_70 : decode cX6_candidate 70 = .ok (.getfield 153, 3) := by decide +kernel
theorem dX6_candidate_73 : decode cX6_candidate 73 = .ok (.iload_n 3, 1) := by decide +kernel
theorem dX6_candidate_74 : decode cX6_candidate 74 = .ok (.iastore, 1) := by decide +kernel
theorem dX6_candidate_75 : decode cX6_candidate 75 = .ok (.aload_n 0, 1) := by decide +kernel
theorem dX6_candidate_76 : decode cX6_candidate 76 = .ok (.dup, 1) := by decide +kernel
theorem dX6_candidate_77 : decode cX6_candidate 77 = .ok (.getfield 153, 3) := by decide +kernel
theorem dX6_candidate_80 : decode cX6_candidate 80 = .ok (.iconst 1, 1) := by decide +kernel
theorem dX6_candidate_81 : decode cX6_candidate 81 = .ok (.iadd, 1) := by decide +kernel
theorem dX6_candidate_82 : decode cX6_candidate 82 = .ok (.putfield 153, 3) := by decide +kernel
theorem dX6_candidate_85 : decode cX6_candidate 85 = .ok (.aload_n 0, 1) := by decide +kernel
theorem dX6_candidate_86 : decode cX6_candidate 86 = .ok (.getfield 153, 3) := by decide +kernel
theorem dX6_candidate_89 : decode cX6_candidate 89 = .ok (.iconst 1, 1) := by decide +kernel
theorem dX6_candidate_90 : decode cX6_candidate 90 = .ok (.isub, 1) := by decide +kernel
theorem dX6_candidate_91 : decode cX6_candidate 91 = .ok (.ireturn, 1) := by decide +kernel
set_option maxRecDepth 20000 in
theorem ggX6_promise_X6_in : GoodIn wsX6_promise wsX6_in := goodIn_r _ [5] (by decide +kernel) (by decide +kernel)
set_option maxRecDepth 20000 in
theorem gX6_promise_X6_in : GoodIn wsX6_promise (va_wsS RX6 76 yX6_in wsX6_in) := goodIn_app (goodIn_of _ (by decide +kernel)) ggX6_promise_X6_in
theorem dX6_promise_0 : decode cX6_promise 0 = .ok (.iload_n 1, 1) := by decide +kernel
theorem dX6_promise_1 : decode cX6_promise 1 = .ok (.iconst 0, 1) := by decide +kernel
theorem dX6_promise_2 : decode cX6_promise 2 = .ok (.iconst 5, 1) := by decide +kernel
theorem dX6_promise_3 : decode cX6_promise 3 = .ok (.invokestatic 76, 3) := by decide +kernel
theorem dX6_promise_6 : decode cX6_promise 6 = .ok (.ifCond .eq 14, 3) := by decide +kernel
theorem dX6_promise_9 : decode cX6_promise 9 = .ok (.iload_n 2, 1) := by decide +kernel
theorem dX6_promise_10 : decode cX6_promise 10 = .ok (.iconst 0, 1) := by decide +kernel
theorem dX6_promise_11 : decode cX6_promise 11 = .ok (.sipush 3000, 3) := by decide +kernel
theorem dX6_promise_14 : decode cX6_promise 14 = .ok (.invokestatic 76, 3) := by decide +kernel
theorem dX6_promise_17 : decode cX6_promise 17 = .ok (.ifCond .ne 5, 3) := by decide +kernel
theorem dX6_promise_20 : decode cX6_promise 20 = .ok (.iconst (-1), 1) := by decide +kernel
theorem dX6_promise_21 : decode cX6_promise 21 = .ok (.ireturn, 1) := by decide +kernel
theorem dX6_promise_22 : decode cX6_promise 22 = .ok (.aload_n 0, 1) := by decide +kernel
theorem dX6_promise_23 : decode cX6_promise 23 = .ok (.getfield 69, 3) := by decide +kernel
theorem dX6_promise_26 : decode cX6_promise 26 = .ok (.iload_n 1, 1) := by decide +kernel
theorem dX6_promise_27 : decode cX6_promise 27 = .ok (.iaload, 1) := by decide +kernel
theorem dX6_promise_28 : decode cX6_promise 28 = .ok (.istore_n 3, 1) := by decide +kernel
theorem dX6_promise_29 : decode cX6_promise 29 = .ok (.aload_n 0, 1) := by decide +kernel
theorem dX6_promise_30 : decode cX6_promise 30 = .ok (.getfield 69, 3) := by decide +kernel
theorem dX6_promise_33 : decode cX6_promise 33 = .ok (.iload_n 1, 1) := by decide +kernel
theorem dX6_promise_34 : decode cX6_promise 34 = .ok (.iload_n 2, 1) := by decide +kernel
theorem dX6_promise_35 : decode cX6_promise 35 = .ok (.iastore, 1) := by decide +kernel
theorem dX6_promise_36 : decode cX6_promise 36 = .ok (.iload_n 3, 1) := by decide +kernel
theorem dX6_promise_37 : decode cX6_promise 37 = .ok (.ireturn, 1) := by decide +kernel
theorem dX6_lack_0 : decode cX6_lack 0 = .ok (.aload_n 0, 1) := by decide +kernel
theorem dX6_lack_1 : decode cX6_lack 1 = .ok (.getfield 69, 3) := by decide +kernel
theorem dX6_lack_4 : decode cX6_lack 4 = .ok (.iload_n 2, 1) := by decide +kernel
theorem dX6_lack_5 : decode cX6_lack 5 = .ok (.iaload, 1) := by decide +kernel
theorem dX6_lack_6 : decode cX6_lack 6 = .ok (.istore_n 3, 1) := by decide +kernel
theorem dX6_lack_7 : decode cX6_lack 7 = .ok (.iconst 0, 1) := by decide +kernel
theorem dX6_lack_8 : decode cX6_lack 8 = .ok (.istore 4, 2) := by decide +kernel
theorem dX6_lack_10 : decode cX6_lack 10 = .ok (.iload 4, 2) := by decide +kernel
theorem dX6_lack_12 : decode cX6_lack 12 = .ok (.aload_n 0, 1) := by decide +kernel
theorem dX6_lack_13 : decode cX6_lack 13 = .ok (.getfield 153, 3) := by decide +kernel
theorem dX6_lack_16 : decode cX6_lack 16 = .ok (.if_icmp .ge 44, 3) := by decide +kernel
theorem dX6_lack_19 : decode cX6_lack 19 = .ok (.iload_n 3, 1) := by decide +kernel
theorem dX6_lack_20 : decode cX6_lack 20 = .ok (.iload_n 1, 1) := by decide +kernel
theorem dX6_lack_21 : decode cX6_lack 21 = .ok (.iload 4, 2) := by decide +kernel
theorem dX6_lack_23 : decode cX6_lack 23 = .ok (.ishr, 1) := by decide +kernel
theorem dX6_lack_24 : decode cX6_lack 24 = .ok (.iconst 1, 1) := by decide +kernel
theorem dX6_lack_25 : decode cX6_lack 25 = .ok (.iand, 1) := by decide +kernel
theorem dX6_lack_26 : decode cX6_lack 26 = .ok (.iconst 1, 1) := by decide +kernel
theorem dX6_lack_27 : decode cX6_lack 27 = .ok (.if_icmp .ne 24, 3) := by decide +kernel
theorem dX6_lack_30 : decode cX6_lack 30 = .ok (.aload_n 0, 1) := by decide +kernel
theorem dX6_lack_31 : decode cX6_lack 31 = .ok (.getfield 63, 3) := by decide +kernel
theorem dX6_lack_34 : decode cX6_lack 34 = .ok (.iload 4, 2) := by decide +kernel
theorem dX6_lack_36 : decode cX6_lack 36 = .ok (.iaload, 1) := by decide +kernel
theorem dX6_lack_37 : decode cX6_lack 37 = .ok (.iload_n 2, 1) := by decide +kernel
theorem dX6_lack_38 : decode cX6_lack 38 = .ok (.if_icmp .gt 13, 3) := by decide +kernel
theorem dX6_lack_41 : decode cX6_lack 41 = .ok (.aload_n 0, 1) := by decide +kernel
theorem dX6_lack_42 : decode cX6_lack 42 = .ok (.getfield 66, 3) := by decide +kernel
theorem dX6_lack_45 : decode cX6_lack 45 = .ok (.iload 4, 2) := by decide +kernel
theorem dX6_lack_47 : decode cX6_lack 47 = .ok (.iaload, 1) := by decide +kernel
theorem dX6_lack_48 : decode cX6_lack 48 = .ok (.goto 4, 3) := by decide +kernel
theorem dX6_lack_51 : decode cX6_lack 51 = .ok (.iconst 0, 1) := by decide +kernel
theorem dX6_lack_52 : decode cX6_lack 52 = .ok (.isub, 1) := by decide +kernel
theorem dX6_lack_53 : decode cX6_lack 53 = .ok (.istore_n 3, 1) := by decide +kernel
theorem dX6_lack_54 : decode cX6_lack 54 = .ok (.iinc 4 1, 3) := by decide +kernel
theorem dX6_lack_57 : decode cX6_lack 57 = .ok (.goto (-47), 3) := by decide +kernel
theorem dX6_lack_60 : decode cX6_lack 60 = .ok (.iload_n 3, 1) := by decide +kernel
theorem dX6_lack_61 : decode cX6_lack 61 = .ok (.ifCond .ge 7, 3) := by decide +kernel
theorem dX6_lack_64 : decode cX6_lack 64 = .ok (.iconst 0, 1) := by decide +kernel
theorem dX6_lack_65 : decode cX6_lack 65 = .ok (.goto 4, 3) := by decide +kernel
theorem dX6_lack_68 : decode cX6_lack 68 = .ok (.iload_n 3, 1) := by decide +kernel
theorem dX6_lack_69 : decode cX6_lack 69 = .ok (.ireturn, 1) := by decide +kernel
theorem dX6_costOf_0 : decode cX6_costOf 0 = .ok (.iconst 0, 1) := by decide +kernel
theorem dX6_costOf_1 : decode cX6_costOf 1 = .ok (.istore_n 2, 1) := by decide +kernel
theorem dX6_costOf_2 : decode cX6_costOf 2 = .ok (.iconst 0, 1) := by decide +kernel
theorem dX6_costOf_3 : decode cX6_costOf 3 = .ok (.istore_n 3, 1) := by decide +kernel
theorem dX6_costOf_4 : decode cX6_costOf 4 = .ok (.iload_n 3, 1) := by decide +kernel
theorem dX6_costOf_5 : decode cX6_costOf 5 = .ok (.aload_n 0, 1) := by decide +kernel
theorem dX6_costOf_6 : decode cX6_costOf 6 = .ok (.getfield 153, 3) := by decide +kernel
theorem dX6_costOf_9 : decode cX6_costOf 9 = .ok (.if_icmp .ge 31, 3) := by decide +kernel
theorem dX6_costOf_12 : decode cX6_costOf 12 = .ok (.iload_n 2, 1) := by decide +kernel
theorem dX6_costOf_13 : decode cX6_costOf 13 = .ok (.iload_n 1, 1) := by decide +kernel
theorem dX6_costOf_14 : decode cX6_costOf 14 = .ok (.iload_n 3, 1) := by decide +kernel
theorem dX6_costOf_15 : decode cX6_costOf 15 = .ok (.ishr, 1) := by decide +kernel
theorem dX6_costOf_16 : decode cX6_costOf 16 = .ok (.iconst 1, 1) := by decide +kernel
theorem dX6_costOf_17 : decode cX6_costOf 17 = .ok (.iand, 1) := by decide +kernel
theorem dX6_costOf_18 : decode cX6_costOf 18 = .ok (.iconst 1, 1) := by decide +kernel
theorem dX6_costOf_19 : decode cX6_costOf 19 = .ok (.if_icmp .ne 12, 3) := by decide +kernel
theorem dX6_costOf_22 : decode cX6_costOf 22 = .ok (.aload_n 0, 1) := by decide +kernel
theorem dX6_costOf_23 : decode cX6_costOf 23 = .ok (.getfield 60, 3) := by decide +kernel
theorem dX6_costOf_26 : decode cX6_costOf 26 = .ok (.iload_n 3, 1) := by decide +kernel
theorem dX6_costOf_27 : decode cX6_costOf 27 = .ok (.iaload, 1) := by decide +kernel
theorem dX6_costOf_28 : decode cX6_costOf 28 = .ok (.goto 4, 3) := by decide +kernel
theorem dX6_costOf_31 : decode cX6_costOf 31 = .ok (.iconst 0, 1) := by decide +kernel
theorem dX6_costOf_32 : decode cX6_costOf 32 = .ok (.iadd, 1) := by decide +kernel
theorem dX6_costOf_33 : decode cX6_costOf 33 = .ok (.istore_n 2, 1) := by decide +kernel
theorem dX6_costOf_34 : decode cX6_costOf 34 = .ok (.iinc 3 1, 3) := by decide +kernel
theorem dX6_costOf_37 : decode cX6_costOf 37 = .ok (.goto (-33), 3) := by decide +kernel
theorem dX6_costOf_40 : decode cX6_costOf 40 = .ok (.iload_n 2, 1) := by decide +kernel
theorem dX6_costOf_41 : decode cX6_costOf 41 = .ok (.ireturn, 1) := by decide +kernel
set_option maxRecDepth 20000 in
theorem ggX6_plan_X6_in : GoodIn wsX6_plan wsX6_in := goodIn_r _ [5] (by decide +kernel) (by decide +kernel)
set_option maxRecDepth 20000 in
theorem gX6_plan_X6_in : GoodIn wsX6_plan (va_wsS RX6 76 yX6_in wsX6_in) := goodIn_app (goodIn_of _ (by decide +kernel)) ggX6_plan_X6_in
set_option maxRecDepth 20000 in
theorem ggX6_plan_X6_lack : GoodIn wsX6_plan wsX6_lack := goodIn_r _ [9, 10, 1, 11, 12, 18, 19, 20, 21, 22, 23, 24, 25, 26, 27, 28, 29, 30, 31, 32, 33, 34, 35, 36, 37, 38, 39, 40, 41, 42, 43, 44] (by decide +kernel) (by decide +kernel)
set_option maxRecDepth 20000 in
theorem gX6_plan_X6_lack : GoodIn wsX6_plan (wsV RX6 156 RX6 yX6_lack wsX6_lack) := goodIn_app (goodIn_of _ (by decide +kernel)) ggX6_plan_X6_lack
set_option maxRecDepth 20000 in
theorem ggX6_plan_X6_costOf : GoodIn wsX6_plan wsX6_costOf := goodIn_r _ [16, 1, 17, 18, 19, 20, 21, 22, 23, 24, 25, 26, 27, 28, 29, 30, 31, 32, 33, 34, 35, 36, 37, 38, 39, 40, 41, 42, 43, 44] (by decide +kernel) (by decide +kernel)
set_option maxRecDepth 20000 in
theorem gX6_plan_X6_costOf : GoodIn wsX6_plan (wsV RX6 159 RX6 yX6_costOf wsX6_costOf) := goodIn_app (goodIn_of _ (by decide +kernel)) ggX6_plan_X6_costOf
theorem dX6_plan_0 : decode cX6_plan 0 = .ok (.iload_n 1, 1) := by decide +kernel
theorem dX6_plan_1 : decode cX6_plan 1 = .ok (.iconst 0, 1) := by decide +kernel
theorem dX6_plan_2 : decode cX6_plan 2 = .ok (.iconst 1, 1) := by decide +kernel
theorem dX6_plan_3 : decode cX6_plan 3 = .ok (.invokestatic 76, 3) := by decide +kernel
theorem dX6_plan_6 : decode cX6_plan 6 = .ok (.ifCond .ne 5, 3) := by decide +kernel
theorem dX6_plan_9 : decode cX6_plan 9 = .ok (.iconst (-1), 1) := by decide +kernel
theorem dX6_plan_10 : decode cX6_plan 10 = .ok (.ireturn, 1) := by decide +kernel
theorem dX6_plan_11 : decode cX6_plan 11 = .ok (.bipush (-9), 2) := by decide +kernel
theorem dX6_plan_13 : decode cX6_plan 13 = .ok (.istore_n 2, 1) := by decide +kernel
theorem dX6_plan_14 : decode cX6_plan 14 = .ok (.iconst 0, 1) := by decide +kernel
theorem dX6_plan_15 : decode cX6_plan 15 = .ok (.istore_n 3, 1) := by decide +kernel
theorem dX6_plan_16 : decode cX6_plan 16 = .ok (.iload_n 3, 1) := by decide +kernel
theorem dX6_plan_17 : decode cX6_plan 17 = .ok (.iconst 1, 1) := by decide +kernel
theorem dX6_plan_18 : decode cX6_plan 18 = .ok (.aload_n 0, 1) := by decide +kernel
theorem dX6_plan_19 : decode cX6_plan 19 = .ok (.getfield 153, 3) := by decide +kernel
theorem dX6_plan_22 : decode cX6_plan 22 = .ok (.ishl, 1) := by decide +kernel
theorem dX6_plan_23 : decode cX6_plan 23 = .ok (.if_icmp .ge 74, 3) := by decide +kernel
theorem dX6_plan_26 : decode cX6_plan 26 = .ok (.iconst 1, 1) := by decide +kernel
theorem dX6_plan_27 : decode cX6_plan 27 = .ok (.istore 4, 2) := by decide +kernel
theorem dX6_plan_29 : decode cX6_plan 29 = .ok (.iconst 0, 1) := by decide +kernel
theorem dX6_plan_30 : decode cX6_plan 30 = .ok (.istore 5, 2) := by decide +kernel
theorem dX6_plan_32 : decode cX6_plan 32 = .ok (.iload 5, 2) := by decide +kernel
theorem dX6_plan_34 : decode cX6_plan 34 = .ok (.bipush 6, 2) := by decide +kernel
theorem dX6_plan_36 : decode cX6_plan 36 = .ok (.if_icmp .ge 31, 3) := by decide +kernel
theorem dX6_plan_39 : decode cX6_plan 39 = .ok (.iload 4, 2) := by decide +kernel
theorem dX6_plan_41 : decode cX6_plan 41 = .ok (.ifCond .eq 17, 3) := by decide +kernel
theorem dX6_plan_44 : decode cX6_plan 44 = .ok (.aload_n 0, 1) := by decide +kernel
theorem dX6_plan_45 : decode cX6_plan 45 = .ok (.iload_n 3, 1) := by decide +kernel
theorem dX6_plan_46 : decode cX6_plan 46 = .ok (.iload 5, 2) := by decide +kernel
theorem dX6_plan_48 : decode cX6_plan 48 = .ok (.invokevirtual 156, 3) := by decide +kernel
theorem dX6_plan_51 : decode cX6_plan 51 = .ok (.ifCond .ne 7, 3) := by decide +kernel
theorem dX6_plan_54 : decode cX6_plan 54 = .ok (.iconst 1, 1) := by decide +kernel
theorem dX6_plan_55 : decode cX6_plan 55 = .ok (.goto 4, 3) := by decide +kernel
theorem dX6_plan_58 : decode cX6_plan 58 = .ok (.iconst 0, 1) := by decide +kernel
theorem dX6_plan_59 : decode cX6_plan 59 = .ok (.istore 4, 2) := by decide +kernel
theorem dX6_plan_61 : decode cX6_plan 61 = .ok (.iinc 5 1, 3) := by decide +kernel
theorem dX6_plan_64 : decode cX6_plan 64 = .ok (.goto (-32), 3) := by decide +kernel
theorem dX6_plan_67 : decode cX6_plan 67 = .ok (.iload 4, 2) := by decide +kernel
theorem dX6_plan_69 : decode cX6_plan 69 = .ok (.ifCond .eq 22, 3) := by decide +kernel
theorem dX6_plan_72 : decode cX6_plan 72 = .ok (.iload_n 2, 1) := by decide +kernel
theorem dX6_plan_73 : decode cX6_plan 73 = .ok (.ifCond .lt 16, 3) := by decide +kernel
theorem dX6_plan_76 : decode cX6_plan 76 = .ok (.aload_n 0, 1) := by decide +kernel
theorem dX6_plan_77 : decode cX6_plan 77 = .ok (.iload_n 3, 1) := by decide +kernel
theorem dX6_plan_78 : decode cX6_plan 78 = .ok (.invokevirtual 159, 3) := by decide +kernel
theorem dX6_plan_81 : decode cX6_plan 81 = .ok (.aload_n 0, 1) := by decide +kernel
theorem dX6_plan_82 : decode cX6_plan 82 = .ok (.iload_n 2, 1) := by decide +kernel
theorem dX6_plan_83 : decode cX6_plan 83 = .ok (.invokevirtual 159, 3) := by decide +kernel
theorem dX6_plan_86 : decode cX6_plan 86 = .ok (.if_icmp .ge 5, 3) := by decide +kernel
theorem dX6_plan_89 : decode cX6_plan 89 = .ok (.iload_n 3, 1) := by decide +kernel
theorem dX6_plan_90 : decode cX6_plan 90 = .ok (.istore_n 2, 1) := by decide +kernel
theorem dX6_plan_91 : decode cX6_plan 91 = .ok (.iinc 3 1, 3) := by decide +kernel
theorem dX6_plan_94 : decode cX6_plan 94 = .ok (.goto (-78), 3) := by decide +kernel
theorem dX6_plan_97 : decode cX6_plan 97 = .ok (.iload_n 2, 1) := by decide +kernel
theorem dX6_plan_98 : decode cX6_plan 98 = .ok (.ifCond .ge 8, 3) := by decide +kernel
theorem dX6_plan_101 : decode cX6_plan 101 = .ok (.bipush (-9), 2) := by decide +kernel
theorem dX6_plan_103 : decode cX6_plan 103 = .ok (.goto 16, 3) := by decide +kernel
theorem dX6_plan_106 : decode cX6_plan 106 = .ok (.iload_n 1, 1) := by decide +kernel
theorem dX6_plan_107 : decode cX6_plan 107 = .ok (.ifCond .ne 7, 3) := by decide +kernel
theorem dX6_plan_110 : decode cX6_plan 110 = .ok (.iload_n 2, 1) := by decide +kernel
theorem dX6_plan_111 : decode cX6_plan 111 = .ok (.goto 8, 3) := by decide +kernel
theorem dX6_plan_114 : decode cX6_plan 114 = .ok (.aload_n 0, 1) := by decide +kernel
theorem dX6_plan_115 : decode cX6_plan 115 = .ok (.iload_n 2, 1) := by decide +kernel
theorem dX6_plan_116 : decode cX6_plan 116 = .ok (.invokevirtual 159, 3) := by decide +kernel
theorem dX6_plan_119 : decode cX6_plan 119 = .ok (.ireturn, 1) := by decide +kernel
set_option maxRecDepth 20000 in
theorem ggX6_lacks_X6_in : GoodIn wsX6_lacks wsX6_in := goodIn_r _ [5] (by decide +kernel) (by decide +kernel)
set_option maxRecDepth 20000 in
theorem gX6_lacks_X6_in : GoodIn wsX6_lacks (va_wsS RX6 76 yX6_in wsX6_in) := goodIn_app (goodIn_of _ (by decide +kernel)) ggX6_lacks_X6_in
set_option maxRecDepth 20000 in
theorem ggX6_lacks_X6_lack : GoodIn wsX6_lacks wsX6_lack := goodIn_r _ [9, 10, 1, 11, 12, 13, 14, 15, 16, 17, 18, 19, 20, 21, 22, 23, 24, 25, 26, 27, 28, 29, 30, 31, 32, 33, 34, 35, 36, 37, 38, 39] (by decide +kernel) (by decide +kernel)
set_option maxRecDepth 20000 in
theorem gX6_lacks_X6_lack : GoodIn wsX6_lacks (wsV RX6 156 RX6 yX6_lack wsX6_lack) := goodIn_app (goodIn_of _ (by decide +kernel)) ggX6_lacks_X6_lack
theorem dX6_lacks_0 : decode cX6_lacks 0 = .ok (.iload_n 1, 1) := by decide +kernel
theorem dX6_lacks_1 : decode cX6_lacks 1 = .ok (.iconst 0, 1) := by decide +kernel
theorem dX6_lacks_2 : decode cX6_lacks 2 = .ok (.iconst 1, 1) := by decide +kernel
theorem dX6_lacks_3 : decode cX6_lacks 3 = .ok (.aload_n 0, 1) := by decide +kernel
theorem dX6_lacks_4 : decode cX6_lacks 4 = .ok (.getfield 153, 3) := by decide +kernel
theorem dX6_lacks_7 : decode cX6_lacks 7 = .ok (.ishl, 1) := by decide +kernel
theorem dX6_lacks_8 : decode cX6_lacks 8 = .ok (.iconst 1, 1) := by decide +kernel
theorem dX6_lacks_9 : decode cX6_lacks 9 = .ok (.isub, 1) := by decide +kernel
theorem dX6_lacks_10 : decode cX6_lacks 10 = .ok (.invokestatic 76, 3) := by decide +kernel
theorem dX6_lacks_13 : decode cX6_lacks 13 = .ok (.ifCond .eq 12, 3) := by decide +kernel
theorem dX6_lacks_16 : decode cX6_lacks 16 = .ok (.iload_n 2, 1) := by decide +kernel
theorem dX6_lacks_17 : decode cX6_lacks 17 = .ok (.iconst 0, 1) := by decide +kernel
theorem dX6_lacks_18 : decode cX6_lacks 18 = .ok (.iconst 5, 1) := by decide +kernel
theorem dX6_lacks_19 : decode cX6_lacks 19 = .ok (.invokestatic 76, 3) := by decide +kernel
theorem dX6_lacks_22 : decode cX6_lacks 22 = .ok (.ifCond .ne 7, 3) := by decide +kernel
theorem dX6_lacks_25 : decode cX6_lacks 25 = .ok (.iconst (-1), 1) := by decide +kernel
theorem dX6_lacks_26 : decode cX6_lacks 26 = .ok (.goto 9, 3) := by decide +kernel
theorem dX6_lacks_29 : decode cX6_lacks 29 = .ok (.aload_n 0, 1) := by decide +kernel
theorem dX6_lacks_30 : decode cX6_lacks 30 = .ok (.iload_n 1, 1) := by decide +kernel
theorem dX6_lacks_31 : decode cX6_lacks 31 = .ok (.iload_n 2, 1) := by decide +kernel
theorem dX6_lacks_32 : decode cX6_lacks 32 = .ok (.invokevirtual 156, 3) := by decide +kernel
theorem dX6_lacks_35 : decode cX6_lacks 35 = .ok (.ireturn, 1) := by decide +kernel
theorem dX6_count_0 : decode cX6_count 0 = .ok (.iconst 0, 1) := by decide +kernel
theorem dX6_count_1 : decode cX6_count 1 = .ok (.istore_n 2, 1) := by decide +kernel
theorem dX6_count_2 : decode cX6_count 2 = .ok (.iload_n 1, 1) := by decide +kernel
theorem dX6_count_3 : decode cX6_count 3 = .ok (.tableswitch 127 0 5 #[37, 42, 47, 52, 57, 92], 37) := by decide +kernel
theorem dX6_count_40 : decode cX6_count 40 = .ok (.aload_n 0, 1) := by decide +kernel
theorem dX6_count_41 : decode cX6_count 41 = .ok (.getfield 72, 3) := by decide +kernel
theorem dX6_count_44 : decode cX6_count 44 = .ok (.ireturn, 1) := by decide +kernel
theorem dX6_count_45 : decode cX6_count 45 = .ok (.aload_n 0, 1) := by decide +kernel
theorem dX6_count_46 : decode cX6_count 46 = .ok (.getfield 96, 3) := by decide +kernel
theorem dX6_count_49 : decode cX6_count 49 = .ok (.ireturn, 1) := by decide +kernel
theorem dX6_count_50 : decode cX6_count 50 = .ok (.aload_n 0, 1) := by decide +kernel
theorem dX6_count_51 : decode cX6_count 51 = .ok (.getfield 153, 3) := by decide +kernel
theorem dX6_count_54 : decode cX6_count 54 = .ok (.ireturn, 1) := by decide +kernel
theorem dX6_count_55 : decode cX6_count 55 = .ok (.aload_n 0, 1) := by decide +kernel
theorem dX6_count_56 : decode cX6_count 56 = .ok (.getfield 150, 3) := by decide +kernel
theorem dX6_count_59 : decode cX6_count 59 = .ok (.ireturn, 1) := by decide +kernel
theorem dX6_count_60 : decode cX6_count 60 = .ok (.iconst 0, 1) := by decide +kernel
theorem dX6_count_61 : decode cX6_count 61 = .ok (.istore_n 3, 1) := by decide +kernel
theorem dX6_count_62 : decode cX6_count 62 = .ok (.iload_n 3, 1) := by decide +kernel
theorem dX6_count_63 : decode cX6_count 63 = .ok (.aload_n 0, 1) := by decide +kernel
theorem dX6_count_64 : decode cX6_count 64 = .ok (.getfield 72, 3) := by decide +kernel
theorem dX6_count_67 : decode cX6_count 67 = .ok (.if_icmp .ge 26, 3) := by decide +kernel
theorem dX6_count_70 : decode cX6_count 70 = .ok (.iload_n 2, 1) := by decide +kernel
theorem dX6_count_71 : decode cX6_count 71 = .ok (.aload_n 0, 1) := by decide +kernel
theorem dX6_count_72 : decode cX6_count 72 = .ok (.getfield 19, 3) := by decide +kernel
theorem dX6_count_75 : decode cX6_count 75 = .ok (.iload_n 3, 1) := by decide +kernel
theorem dX6_count_76 : decode cX6_count 76 = .ok (.baload, 1) := by decide +kernel
theorem dX6_count_77 : decode cX6_count 77 = .ok (.ifCond .eq 7, 3) := by decide +kernel
theorem dX6_count_80 : decode cX6_count 80 = .ok (.iconst 1, 1) := by decide +kernel
theorem dX6_count_81 : decode cX6_count 81 = .ok (.goto 4, 3) := by decide +kernel
theorem dX6_count_84 : decode cX6_count 84 = .ok (.iconst 0, 1) := by decide +kernel
theorem dX6_count_85 : decode cX6_count 85 = .ok (.iadd, 1) := by decide +kernel
theorem dX6_count_86 : decode cX6_count 86 = .ok (.istore_n 2, 1) := by decide +kernel
theorem dX6_count_87 : decode cX6_count 87 = .ok (.iinc 3 1, 3) := by decide +kernel
theorem dX6_count_90 : decode cX6_count 90 = .ok (.goto (-28), 3) := by decide +kernel
theorem dX6_count_93 : decode cX6_count 93 = .ok (.iload_n 2, 1) := by decide +kernel
theorem dX6_count_94 : decode cX6_count 94 = .ok (.ireturn, 1) := by decide +kernel
theorem dX6_count_95 : decode cX6_count 95 = .ok (.iconst 0, 1) := by decide +kernel
theorem dX6_count_96 : decode cX6_count 96 = .ok (.istore_n 3, 1) := by decide +kernel
theorem dX6_count_97 : decode cX6_count 97 = .ok (.iload_n 3, 1) := by decide +kernel
theorem dX6_count_98 : decode cX6_count 98 = .ok (.aload_n 0, 1) := by decide +kernel
theorem dX6_count_99 : decode cX6_count 99 = .ok (.getfield 96, 3) := by decide +kernel
theorem dX6_count_102 : decode cX6_count 102 = .ok (.if_icmp .ge 26, 3) := by decide +kernel
theorem dX6_count_105 : decode cX6_count 105 = .ok (.iload_n 2, 1) := by decide +kernel
theorem dX6_count_106 : decode cX6_count 106 = .ok (.aload_n 0, 1) := by decide +kernel
theorem dX6_count_107 : decode cX6_count 107 = .ok (.getfield 35, 3) := by decide +kernel
theorem dX6_count_110 : decode cX6_count 110 = .ok (.iload_n 3, 1) := by decide +kernel
theorem dX6_count_111 : decode cX6_count 111 = .ok (.baload, 1) := by decide +kernel
theorem dX6_count_112 : decode cX6_count 112 = .ok (.ifCond .eq 7, 3) := by decide +kernel
theorem dX6_count_115 : decode cX6_count 115 = .ok (.iconst 1, 1) := by decide +kernel
theorem dX6_count_116 : decode cX6_count 116 = .ok (.goto 4, 3) := by decide +kernel
theorem dX6_count_119 : decode cX6_count 119 = .ok (.iconst 0, 1) := by decide +kernel
theorem dX6_count_120 : decode cX6_count 120 = .ok (.iadd, 1) := by decide +kernel
theorem dX6_count_121 : decode cX6_count 121 = .ok (.istore_n 2, 1) := by decide +kernel
theorem dX6_count_122 : decode cX6_count 122 = .ok (.iinc 3 1, 3) := by decide +kernel
theorem dX6_count_125 : decode cX6_count 125 = .ok (.goto (-28), 3) := by decide +kernel
theorem dX6_count_128 : decode cX6_count 128 = .ok (.iload_n 2, 1) := by decide +kernel
theorem dX6_count_129 : decode cX6_count 129 = .ok (.ireturn, 1) := by decide +kernel
theorem dX6_count_130 : decode cX6_count 130 = .ok (.iconst (-1), 1) := by decide +kernel
theorem dX6_count_131 : decode cX6_count 131 = .ok (.ireturn, 1) := by decide +kernel
theorem dX6_trace_0 : decode cX6_trace 0 = .ok (.aload_n 0, 1) := by decide +kernel
theorem dX6_trace_1 : decode cX6_trace 1 = .ok (.getfield 84, 3) := by decide +kernel
theorem dX6_trace_4 : decode cX6_trace 4 = .ok (.lreturn, 1) := by decide +kernel
theorem dJ9_max_7cf53_0 : decode cJ9_max_7cf53 0 = .ok (.iload_n 0, 1) := by decide +kernel
theorem dJ9_max_7cf53_1 : decode cJ9_max_7cf53 1 = .ok (.iload_n 1, 1) := by decide +kernel
theorem dJ9_max_7cf53_2 : decode cJ9_max_7cf53 2 = .ok (.if_icmp .lt 7, 3) := by decide +kernel
theorem dJ9_max_7cf53_5 : decode cJ9_max_7cf53 5 = .ok (.iload_n 0, 1) := by decide +kernel
theorem dJ9_max_7cf53_6 : decode cJ9_max_7cf53 6 = .ok (.goto 4, 3) := by decide +kernel
theorem dJ9_max_7cf53_9 : decode cJ9_max_7cf53 9 = .ok (.iload_n 1, 1) := by decide +kernel
theorem dJ9_max_7cf53_10 : decode cJ9_max_7cf53 10 = .ok (.ireturn, 1) := by decide +kernel
theorem dJ9_min_7cf53_0 : decode cJ9_min_7cf53 0 = .ok (.iload_n 0, 1) := by decide +kernel
theorem dJ9_min_7cf53_1 : decode cJ9_min_7cf53 1 = .ok (.iload_n 1, 1) := by decide +kernel
theorem dJ9_min_7cf53_2 : decode cJ9_min_7cf53 2 = .ok (.if_icmp .gt 7, 3) := by decide +kernel
theorem dJ9_min_7cf53_5 : decode cJ9_min_7cf53 5 = .ok (.iload_n 0, 1) := by decide +kernel
theorem dJ9_min_7cf53_6 : decode cJ9_min_7cf53 6 = .ok (.goto 4, 3) := by decide +kernel
theorem dJ9_min_7cf53_9 : decode cJ9_min_7cf53 9 = .ok (.iload_n 1, 1) := by decide +kernel
theorem dJ9_min_7cf53_10 : decode cJ9_min_7cf53 10 = .ok (.ireturn, 1) := by decide +kernel
theorem dJ9_min_f86c9_0 : decode cJ9_min_f86c9 0 = .ok (.lload_n 0, 1) := by decide +kernel
theorem dJ9_min_f86c9_1 : decode cJ9_min_f86c9 1 = .ok (.lload_n 2, 1) := by decide +kernel
theorem dJ9_min_f86c9_2 : decode cJ9_min_f86c9 2 = .ok (.lcmp, 1) := by decide +kernel
theorem dJ9_min_f86c9_3 : decode cJ9_min_f86c9 3 = .ok (.ifCond .gt 7, 3) := by decide +kernel
theorem dJ9_min_f86c9_6 : decode cJ9_min_f86c9 6 = .ok (.lload_n 0, 1) := by decide +kernel
theorem dJ9_min_f86c9_7 : decode cJ9_min_f86c9 7 = .ok (.goto 4, 3) := by decide +kernel
theorem dJ9_min_f86c9_10 : decode cJ9_min_f86c9 10 = .ok (.lload_n 2, 1) := by decide +kernel
end
