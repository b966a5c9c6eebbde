section
-- ===== PART A: goes FIRST, ahead of the names: the tables' words, and 'selects' of the private methods out of them =====
/-- a private method of a class that the tables say can be made, by its rows of tables_1 -/
def lw_okq (q : MethodName × Nat) : Prop := (q.1.cls ≠ "java/lang/invoke/MethodHandle" ∧ q.1.cls ≠ "java/lang/invoke/VarHandle") ∧ Cond.instantiable q.1.cls q.2 ∈ tables_1 ∧ Cond.privateMethod q.1 ∈ tables_1 ∧ Cond.instanceMethod q.1 ∈ tables_1
theorem lw_p0 : lw_okq (⟨"MediaCatalog", "settle", "()V"⟩, 8) := ⟨⟨by decide +kernel, by decide +kernel⟩, List.mem_of_getElem? (i := 15) (by decide +kernel), List.mem_of_getElem? (i := 268) (by decide +kernel), List.mem_of_getElem? (i := 269) (by decide +kernel)⟩
theorem lw_p1 : lw_okq (⟨"MediaCatalog$FileTable", "settleFile", "(I)V"⟩, 6) := ⟨⟨by decide +kernel, by decide +kernel⟩, List.mem_of_getElem? (i := 23) (by decide +kernel), List.mem_of_getElem? (i := 276) (by decide +kernel), List.mem_of_getElem? (i := 277) (by decide +kernel)⟩
theorem lw_p2 : lw_okq (⟨"MediaCatalog$GroupTable", "preferred", "(J)I"⟩, 3) := ⟨⟨by decide +kernel, by decide +kernel⟩, List.mem_of_getElem? (i := 49) (by decide +kernel), List.mem_of_getElem? (i := 304) (by decide +kernel), List.mem_of_getElem? (i := 305) (by decide +kernel)⟩
theorem lw_p3 : lw_okq (⟨"MediaCatalog$GroupTable", "beats", "(II)Z"⟩, 3) := ⟨⟨by decide +kernel, by decide +kernel⟩, List.mem_of_getElem? (i := 49) (by decide +kernel), List.mem_of_getElem? (i := 308) (by decide +kernel), List.mem_of_getElem? (i := 309) (by decide +kernel)⟩
theorem lw_p4 : lw_okq (⟨"MediaCatalog$GroupTable", "yearOf", "(I)I"⟩, 3) := ⟨⟨by decide +kernel, by decide +kernel⟩, List.mem_of_getElem? (i := 49) (by decide +kernel), List.mem_of_getElem? (i := 316) (by decide +kernel), List.mem_of_getElem? (i := 317) (by decide +kernel)⟩
theorem lw_p5 : lw_okq (⟨"MediaCatalog", "hasAlbum", "(I)Z"⟩, 8) := ⟨⟨by decide +kernel, by decide +kernel⟩, List.mem_of_getElem? (i := 15) (by decide +kernel), List.mem_of_getElem? (i := 346) (by decide +kernel), List.mem_of_getElem? (i := 347) (by decide +kernel)⟩
theorem lw_p6 : lw_okq (⟨"MediaCatalog$RuleJudge", "beginLevel", "()V"⟩, 8) := ⟨⟨by decide +kernel, by decide +kernel⟩, List.mem_of_getElem? (i := 145) (by decide +kernel), List.mem_of_getElem? (i := 362) (by decide +kernel), List.mem_of_getElem? (i := 363) (by decide +kernel)⟩
theorem lw_p7 : lw_okq (⟨"MediaCatalog$RuleJudge", "condition", "(LMediaCatalog$RuleText;I)J"⟩, 8) := ⟨⟨by decide +kernel, by decide +kernel⟩, List.mem_of_getElem? (i := 145) (by decide +kernel), List.mem_of_getElem? (i := 375) (by decide +kernel), List.mem_of_getElem? (i := 376) (by decide +kernel)⟩
theorem lw_p8 : lw_okq (⟨"MediaCatalog$RuleJudge", "tagged", "(I)J"⟩, 8) := ⟨⟨by decide +kernel, by decide +kernel⟩, List.mem_of_getElem? (i := 145) (by decide +kernel), List.mem_of_getElem? (i := 387) (by decide +kernel), List.mem_of_getElem? (i := 388) (by decide +kernel)⟩
theorem lw_p9 : lw_okq (⟨"MediaCatalog$RuleJudge", "membersOf", "(I)J"⟩, 8) := ⟨⟨by decide +kernel, by decide +kernel⟩, List.mem_of_getElem? (i := 145) (by decide +kernel), List.mem_of_getElem? (i := 394) (by decide +kernel), List.mem_of_getElem? (i := 395) (by decide +kernel)⟩
theorem lw_p10 : lw_okq (⟨"MediaCatalog$RuleJudge", "comparing", "(LMediaCatalog$RuleText;I)J"⟩, 8) := ⟨⟨by decide +kernel, by decide +kernel⟩, List.mem_of_getElem? (i := 145) (by decide +kernel), List.mem_of_getElem? (i := 419) (by decide +kernel), List.mem_of_getElem? (i := 420) (by decide +kernel)⟩
theorem lw_p11 : lw_okq (⟨"MediaCatalog$RuleJudge", "take", "(J)V"⟩, 8) := ⟨⟨by decide +kernel, by decide +kernel⟩, List.mem_of_getElem? (i := 145) (by decide +kernel), List.mem_of_getElem? (i := 429) (by decide +kernel), List.mem_of_getElem? (i := 430) (by decide +kernel)⟩
theorem lw_p12 : lw_okq (⟨"MediaCatalog$RuleJudge", "operate", "(C)V"⟩, 8) := ⟨⟨by decide +kernel, by decide +kernel⟩, List.mem_of_getElem? (i := 145) (by decide +kernel), List.mem_of_getElem? (i := 434) (by decide +kernel), List.mem_of_getElem? (i := 435) (by decide +kernel)⟩
theorem lw_p13 : lw_okq (⟨"MediaCatalog$RuleJudge", "openLevel", "()V"⟩, 8) := ⟨⟨by decide +kernel, by decide +kernel⟩, List.mem_of_getElem? (i := 145) (by decide +kernel), List.mem_of_getElem? (i := 438) (by decide +kernel), List.mem_of_getElem? (i := 439) (by decide +kernel)⟩
theorem lw_p14 : lw_okq (⟨"MediaCatalog$RuleJudge", "closeLevel", "()V"⟩, 8) := ⟨⟨by decide +kernel, by decide +kernel⟩, List.mem_of_getElem? (i := 145) (by decide +kernel), List.mem_of_getElem? (i := 442) (by decide +kernel), List.mem_of_getElem? (i := 443) (by decide +kernel)⟩
theorem lw_p15 : lw_okq (⟨"MediaCatalog", "discard", "(I)V"⟩, 8) := ⟨⟨by decide +kernel, by decide +kernel⟩, List.mem_of_getElem? (i := 15) (by decide +kernel), List.mem_of_getElem? (i := 467) (by decide +kernel), List.mem_of_getElem? (i := 468) (by decide +kernel)⟩
def lw_privs_1 : List (MethodName × Nat) := [(⟨"MediaCatalog", "settle", "()V"⟩, 8), (⟨"MediaCatalog$FileTable", "settleFile", "(I)V"⟩, 6), (⟨"MediaCatalog$GroupTable", "preferred", "(J)I"⟩, 3), (⟨"MediaCatalog$GroupTable", "beats", "(II)Z"⟩, 3), (⟨"MediaCatalog$GroupTable", "yearOf", "(I)I"⟩, 3), (⟨"MediaCatalog", "hasAlbum", "(I)Z"⟩, 8), (⟨"MediaCatalog$RuleJudge", "beginLevel", "()V"⟩, 8), (⟨"MediaCatalog$RuleJudge", "condition", "(LMediaCatalog$RuleText;I)J"⟩, 8), (⟨"MediaCatalog$RuleJudge", "tagged", "(I)J"⟩, 8), (⟨"MediaCatalog$RuleJudge", "membersOf", "(I)J"⟩, 8), (⟨"MediaCatalog$RuleJudge", "comparing", "(LMediaCatalog$RuleText;I)J"⟩, 8), (⟨"MediaCatalog$RuleJudge", "take", "(J)V"⟩, 8), (⟨"MediaCatalog$RuleJudge", "operate", "(C)V"⟩, 8), (⟨"MediaCatalog$RuleJudge", "openLevel", "()V"⟩, 8), (⟨"MediaCatalog$RuleJudge", "closeLevel", "()V"⟩, 8), (⟨"MediaCatalog", "discard", "(I)V"⟩, 8)]
theorem lw_r1 : ∀ q ∈ lw_privs_1, lw_okq q := List.forall_mem_cons.mpr ⟨lw_p0, List.forall_mem_cons.mpr ⟨lw_p1, List.forall_mem_cons.mpr ⟨lw_p2, List.forall_mem_cons.mpr ⟨lw_p3, List.forall_mem_cons.mpr ⟨lw_p4, List.forall_mem_cons.mpr ⟨lw_p5, List.forall_mem_cons.mpr ⟨lw_p6, List.forall_mem_cons.mpr ⟨lw_p7, List.forall_mem_cons.mpr ⟨lw_p8, List.forall_mem_cons.mpr ⟨lw_p9, List.forall_mem_cons.mpr ⟨lw_p10, List.forall_mem_cons.mpr ⟨lw_p11, List.forall_mem_cons.mpr ⟨lw_p12, List.forall_mem_cons.mpr ⟨lw_p13, List.forall_mem_cons.mpr ⟨lw_p14, List.forall_mem_cons.mpr ⟨lw_p15, fun _ h => absurd h List.not_mem_nil⟩⟩⟩⟩⟩⟩⟩⟩⟩⟩⟩⟩⟩⟩⟩⟩
theorem lw_p16 : lw_okq (⟨"MediaCatalog$StackTable", "closeGap", "(II)V"⟩, 8) := ⟨⟨by decide +kernel, by decide +kernel⟩, List.mem_of_getElem? (i := 65) (by decide +kernel), List.mem_of_getElem? (i := 475) (by decide +kernel), List.mem_of_getElem? (i := 476) (by decide +kernel)⟩
theorem lw_p17 : lw_okq (⟨"MediaCatalog$StackTable", "leave", "(I)V"⟩, 8) := ⟨⟨by decide +kernel, by decide +kernel⟩, List.mem_of_getElem? (i := 65) (by decide +kernel), List.mem_of_getElem? (i := 479) (by decide +kernel), List.mem_of_getElem? (i := 480) (by decide +kernel)⟩
theorem lw_p18 : lw_okq (⟨"MediaCatalog", "freeAlbum", "()I"⟩, 8) := ⟨⟨by decide +kernel, by decide +kernel⟩, List.mem_of_getElem? (i := 15) (by decide +kernel), List.mem_of_getElem? (i := 510) (by decide +kernel), List.mem_of_getElem? (i := 511) (by decide +kernel)⟩
theorem lw_p19 : lw_okq (⟨"MediaCatalog", "isTextUsable", "(I)Z"⟩, 8) := ⟨⟨by decide +kernel, by decide +kernel⟩, List.mem_of_getElem? (i := 15) (by decide +kernel), List.mem_of_getElem? (i := 514) (by decide +kernel), List.mem_of_getElem? (i := 515) (by decide +kernel)⟩
theorem lw_p20 : lw_okq (⟨"MediaCatalog", "albumCount", "()I"⟩, 8) := ⟨⟨by decide +kernel, by decide +kernel⟩, List.mem_of_getElem? (i := 15) (by decide +kernel), List.mem_of_getElem? (i := 587) (by decide +kernel), List.mem_of_getElem? (i := 588) (by decide +kernel)⟩
theorem lw_p21 : lw_okq (⟨"MediaCatalog", "isSlot", "(III)Z"⟩, 8) := ⟨⟨by decide +kernel, by decide +kernel⟩, List.mem_of_getElem? (i := 15) (by decide +kernel), List.mem_of_getElem? (i := 640) (by decide +kernel), List.mem_of_getElem? (i := 641) (by decide +kernel)⟩
theorem lw_p22 : lw_okq (⟨"MediaCatalog$FileTable", "absorbOne", "(II)V"⟩, 6) := ⟨⟨by decide +kernel, by decide +kernel⟩, List.mem_of_getElem? (i := 23) (by decide +kernel), List.mem_of_getElem? (i := 729) (by decide +kernel), List.mem_of_getElem? (i := 730) (by decide +kernel)⟩
theorem lw_p23 : lw_okq (⟨"MediaCatalog$View", "placeOf", "(LMediaCatalog$Album;JI)I"⟩, 2) := ⟨⟨by decide +kernel, by decide +kernel⟩, List.mem_of_getElem? (i := 177) (by decide +kernel), List.mem_of_getElem? (i := 803) (by decide +kernel), List.mem_of_getElem? (i := 804) (by decide +kernel)⟩
theorem lw_p24 : lw_okq (⟨"MediaCatalog$View", "comesBefore", "(LMediaCatalog$Album;II)Z"⟩, 2) := ⟨⟨by decide +kernel, by decide +kernel⟩, List.mem_of_getElem? (i := 177) (by decide +kernel), List.mem_of_getElem? (i := 807) (by decide +kernel), List.mem_of_getElem? (i := 808) (by decide +kernel)⟩
def lw_privs_2 : List (MethodName × Nat) := [(⟨"MediaCatalog$StackTable", "closeGap", "(II)V"⟩, 8), (⟨"MediaCatalog$StackTable", "leave", "(I)V"⟩, 8), (⟨"MediaCatalog", "freeAlbum", "()I"⟩, 8), (⟨"MediaCatalog", "isTextUsable", "(I)Z"⟩, 8), (⟨"MediaCatalog", "albumCount", "()I"⟩, 8), (⟨"MediaCatalog", "isSlot", "(III)Z"⟩, 8), (⟨"MediaCatalog$FileTable", "absorbOne", "(II)V"⟩, 6), (⟨"MediaCatalog$View", "placeOf", "(LMediaCatalog$Album;JI)I"⟩, 2), (⟨"MediaCatalog$View", "comesBefore", "(LMediaCatalog$Album;II)Z"⟩, 2)]
theorem lw_r2 : ∀ q ∈ lw_privs_2, lw_okq q := List.forall_mem_cons.mpr ⟨lw_p16, List.forall_mem_cons.mpr ⟨lw_p17, List.forall_mem_cons.mpr ⟨lw_p18, List.forall_mem_cons.mpr ⟨lw_p19, List.forall_mem_cons.mpr ⟨lw_p20, List.forall_mem_cons.mpr ⟨lw_p21, List.forall_mem_cons.mpr ⟨lw_p22, List.forall_mem_cons.mpr ⟨lw_p23, List.forall_mem_cons.mpr ⟨lw_p24, fun _ h => absurd h List.not_mem_nil⟩⟩⟩⟩⟩⟩⟩⟩⟩
def lw_privs : List (MethodName × Nat) := lw_privs_1 ++ (lw_privs_2)
def lw_tbl : List Cond := k2_sels lw_privs ++ tables_1
theorem lw_privs_ok : ∀ q ∈ lw_privs, lw_okq q := by
  show ∀ q ∈ lw_privs_1 ++ (lw_privs_2), lw_okq q
  exact List.forall_mem_append.mpr ⟨lw_r1, lw_r2⟩
-- ===== end of PART A; then your names; then what follows =====
end
section
/-! ===== BEGIN words of one list among another's, by their places ===== -/
theorem goodIn_r {big : List Cond} (ws : List Cond) (ps : List Nat) (hp : ws = ps.filterMap (fun i => big[i]?)) (h : ws.all goodWord = true) : GoodIn big ws := by
  intro w hw
  have h1 := List.all_eq_true.mp h w hw
  rw [hp] at hw
  obtain ⟨i, -, hi⟩ := List.mem_filterMap.mp hw
  have hm : w ∈ big := by first | exact List.mem_of_getElem? hi | exact List.getElem?_mem hi
  exact ⟨hm, good_of_word h1⟩
theorem goodIn_app {big a b : List Cond} (ha : GoodIn big a) (hb : GoodIn big b) : GoodIn big (a ++ b) := fun w h => (List.mem_append.mp h).elim (ha w) (hb w)
theorem goodIn_ca {big a b : List Cond} {c : Cond} (ha : GoodIn big (c :: a)) (hb : GoodIn big b) : GoodIn big (c :: (a ++ b)) := fun w h => (List.mem_cons.mp h).elim (fun e => ha w (List.mem_cons.mpr (Or.inl e))) (fun h => (List.mem_append.mp h).elim (fun h => ha w (List.mem_cons.mpr (Or.inr h))) (hb w))
theorem goodIn_sub {big ws : List Cond} (hm : ∀ w ∈ ws, w ∈ big) (h : ws.all goodWord = true) : GoodIn big ws := fun w hw => ⟨hm w hw, good_of_word (List.all_eq_true.mp h w hw)⟩
/-! ===== END ===== -/

/-! ===== BEGIN printed: names, fields, word lists, decode rows ===== -/
def RX0 : String := "MediaCatalog$Album"
def TX0 : u_T := fun k => match k with
  | 0 => ("MediaCatalog$Album", "rule", "LMediaCatalog$RuleText;", true)
  | 1 => ("MediaCatalog$Album", "exists", "Z", false)
  | 2 => ("MediaCatalog$Album", "members", "J", false)
  | 3 => ("MediaCatalog$Album", "sortField", "I", false)
  | 4 => ("MediaCatalog$Album", "descending", "Z", false)
  | 5 => ("MediaCatalog$Album", "joined", "I", false)
  | _ => ("MediaCatalog$Album", "left", "I", false)
def tyX0 : Nat → FieldType := fun k => match k with
  | 0 => .object "MediaCatalog$RuleText"
  | 1 => .boolean
  | 2 => .long
  | 3 => .int
  | 4 => .boolean
  | 5 => .int
  | _ => .int
abbrev wsX00 : List Cond := u_ws RX0 TX0 7
theorem nmX0 : ∀ a, a < 7 → ∀ b, b < 7 → a ≠ b → (TX0 a).2.1 ≠ (TX0 b).2.1 := by decide +kernel
theorem tyX0_ok : ∀ k, k < 7 → parseFieldDescriptor (TX0 k).2.2.1 = some (tyX0 k) := by decide +kernel
abbrev cX0_init : ByteArray := prog_2_method_1_code
def yX0_init : MethodName := ⟨RX0, "<init>", "()V"⟩
abbrev cX0_exists : ByteArray := prog_2_method_2_code
def yX0_exists : MethodName := ⟨RX0, "exists", "()Z"⟩
abbrev cX0_rule : ByteArray := prog_2_method_3_code
def yX0_rule : MethodName := ⟨RX0, "rule", "()LMediaCatalog$RuleText;"⟩
abbrev cX0_members : ByteArray := prog_2_method_4_code
def yX0_members : MethodName := ⟨RX0, "members", "()J"⟩
abbrev cX0_joined : ByteArray := prog_2_method_5_code
def yX0_joined : MethodName := ⟨RX0, "joined", "()I"⟩
abbrev cX0_left : ByteArray := prog_2_method_6_code
def yX0_left : MethodName := ⟨RX0, "left", "()I"⟩
abbrev cX0_sortField : ByteArray := prog_2_method_7_code
def yX0_sortField : MethodName := ⟨RX0, "sortField", "()I"⟩
abbrev cX0_isDescending : ByteArray := prog_2_method_8_code
def yX0_isDescending : MethodName := ⟨RX0, "isDescending", "()Z"⟩
abbrev cX0_begin : ByteArray := prog_2_method_11_code
def yX0_begin : MethodName := ⟨RX0, "begin", "(LMediaCatalog$RuleText;)V"⟩
abbrev cX0_follow : ByteArray := prog_2_method_13_code
def yX0_follow : MethodName := ⟨RX0, "follow", "(LMediaCatalog$RuleText;)V"⟩
abbrev cX0_sort : ByteArray := prog_2_method_14_code
def yX0_sort : MethodName := ⟨RX0, "sort", "(IZ)V"⟩
abbrev cX0_become : ByteArray := prog_2_method_15_code
def yX0_become : MethodName := ⟨RX0, "become", "(JILMediaCatalog$Journal;)V"⟩
def RX1 : String := "MediaCatalog$FileTable"
def TX1 : u_T := fun k => match k with
  | 0 => ("MediaCatalog$FileTable", "present", "J", false)
  | 1 => ("MediaCatalog$FileTable", "digests", "[I", true)
  | 2 => ("MediaCatalog$FileTable", "sizes", "[I", true)
  | 3 => ("MediaCatalog$FileTable", "values", "[I", true)
  | 4 => ("MediaCatalog$FileTable", "settled", "[I", true)
  | _ => ("MediaCatalog$FileTable", "order", "[I", true)
def tyX1 : Nat → FieldType := fun k => match k with
  | 0 => .long
  | 1 => .array .int
  | 2 => .array .int
  | 3 => .array .int
  | 4 => .array .int
  | _ => .array .int
abbrev wsX10 : List Cond := u_ws RX1 TX1 6
theorem nmX1 : ∀ a, a < 6 → ∀ b, b < 6 → a ≠ b → (TX1 a).2.1 ≠ (TX1 b).2.1 := by decide +kernel
theorem tyX1_ok : ∀ k, k < 6 → parseFieldDescriptor (TX1 k).2.2.1 = some (tyX1 k) := by decide +kernel
abbrev cX1_init : ByteArray := prog_3_method_1_code
def yX1_init : MethodName := ⟨RX1, "<init>", "()V"⟩
abbrev cX1_has : ByteArray := prog_3_method_2_code
def yX1_has : MethodName := ⟨RX1, "has", "(I)Z"⟩
abbrev cX1_all : ByteArray := prog_3_method_3_code
def yX1_all : MethodName := ⟨RX1, "all", "()J"⟩
abbrev cX1_howMany : ByteArray := prog_3_method_4_code
def yX1_howMany : MethodName := ⟨RX1, "howMany", "()I"⟩
abbrev cX1_freeNumber : ByteArray := prog_3_method_5_code
def yX1_freeNumber : MethodName := ⟨RX1, "freeNumber", "()I"⟩
abbrev cX1_enter : ByteArray := prog_3_method_6_code
def yX1_enter : MethodName := ⟨RX1, "enter", "(III)V"⟩
abbrev cX1_drop : ByteArray := prog_3_method_7_code
def yX1_drop : MethodName := ⟨RX1, "drop", "(I)V"⟩
abbrev cX1_digest : ByteArray := prog_3_method_8_code
def yX1_digest : MethodName := ⟨RX1, "digest", "(I)I"⟩
abbrev cX1_changeDigest : ByteArray := prog_3_method_9_code
def yX1_changeDigest : MethodName := ⟨RX1, "changeDigest", "(II)V"⟩
abbrev cX1_bytes : ByteArray := prog_3_method_10_code
def yX1_bytes : MethodName := ⟨RX1, "bytes", "(I)I"⟩
abbrev cX1_told : ByteArray := prog_3_method_11_code
def yX1_told : MethodName := ⟨RX1, "told", "(III)I"⟩
abbrev cX1_tell : ByteArray := prog_3_method_12_code
def yX1_tell : MethodName := ⟨RX1, "tell", "(IIII)V"⟩
abbrev cX1_firstTeller : ByteArray := prog_3_method_13_code
def yX1_firstTeller : MethodName := ⟨RX1, "firstTeller", "(II)I"⟩
abbrev cX1_settledValue : ByteArray := prog_3_method_14_code
def yX1_settledValue : MethodName := ⟨RX1, "settledValue", "(II)I"⟩
abbrev cX1_settleValues : ByteArray := prog_3_method_15_code
def yX1_settleValues : MethodName := ⟨RX1, "settleValues", "()V"⟩
abbrev cX1_settleFile : ByteArray := prog_3_method_16_code
def yX1_settleFile : MethodName := ⟨RX1, "settleFile", "(I)V"⟩
abbrev cX1_orderCode : ByteArray := prog_3_method_17_code
def yX1_orderCode : MethodName := ⟨RX1, "orderCode", "()I"⟩
abbrev cX1_reorder : ByteArray := prog_3_method_18_code
def yX1_reorder : MethodName := ⟨RX1, "reorder", "(III)V"⟩
abbrev cX1_alike : ByteArray := prog_3_method_19_code
def yX1_alike : MethodName := ⟨RX1, "alike", "(I)J"⟩
abbrev cX1_sumOfSizes : ByteArray := prog_3_method_20_code
def yX1_sumOfSizes : MethodName := ⟨RX1, "sumOfSizes", "(J)I"⟩
abbrev cX1_absorb : ByteArray := prog_3_method_21_code
def yX1_absorb : MethodName := ⟨RX1, "absorb", "(IJ)V"⟩
abbrev cX1_absorbOne : ByteArray := prog_3_method_22_code
def yX1_absorbOne : MethodName := ⟨RX1, "absorbOne", "(II)V"⟩
abbrev cX1_union : ByteArray := prog_3_method_23_code
def yX1_union : MethodName := ⟨RX1, "union", "(II)I"⟩
abbrev cX1_slot : ByteArray := prog_3_method_24_code
def yX1_slot : MethodName := ⟨RX1, "slot", "(III)I"⟩
def RX2 : String := "MediaCatalog$GroupTable"
def TX2 : u_T := fun k => match k with
  | 0 => ("MediaCatalog$GroupTable", "files", "LMediaCatalog$FileTable;", true)
  | 1 => ("MediaCatalog$GroupTable", "keepers", "J", false)
  | _ => ("MediaCatalog$GroupTable", "duplicates", "J", false)
def tyX2 : Nat → FieldType := fun k => match k with
  | 0 => .object "MediaCatalog$FileTable"
  | 1 => .long
  | _ => .long
abbrev wsX20 : List Cond := u_ws RX2 TX2 3
theorem nmX2 : ∀ a, a < 3 → ∀ b, b < 3 → a ≠ b → (TX2 a).2.1 ≠ (TX2 b).2.1 := by decide +kernel
theorem tyX2_ok : ∀ k, k < 3 → parseFieldDescriptor (TX2 k).2.2.1 = some (tyX2 k) := by decide +kernel
abbrev cX2_init : ByteArray := prog_4_method_1_code
def yX2_init : MethodName := ⟨RX2, "<init>", "(LMediaCatalog$FileTable;)V"⟩
abbrev cX2_keepers : ByteArray := prog_4_method_2_code
def yX2_keepers : MethodName := ⟨RX2, "keepers", "()J"⟩
abbrev cX2_duplicates : ByteArray := prog_4_method_3_code
def yX2_duplicates : MethodName := ⟨RX2, "duplicates", "()J"⟩
abbrev cX2_keeper : ByteArray := prog_4_method_4_code
def yX2_keeper : MethodName := ⟨RX2, "keeper", "(I)I"⟩
abbrev cX2_regroup : ByteArray := prog_4_method_5_code
def yX2_regroup : MethodName := ⟨RX2, "regroup", "()V"⟩
abbrev cX2_preferred : ByteArray := prog_4_method_6_code
def yX2_preferred : MethodName := ⟨RX2, "preferred", "(J)I"⟩
abbrev cX2_beats : ByteArray := prog_4_method_7_code
def yX2_beats : MethodName := ⟨RX2, "beats", "(II)Z"⟩
abbrev cX2_yearOf : ByteArray := prog_4_method_8_code
def yX2_yearOf : MethodName := ⟨RX2, "yearOf", "(I)I"⟩
def RX3 : String := "MediaCatalog$Journal"
def TX3 : u_T := fun k => match k with
  | 0 => ("MediaCatalog$Journal", "albums", "[I", true)
  | 1 => ("MediaCatalog$Journal", "files", "[I", true)
  | 2 => ("MediaCatalog$Journal", "joins", "[Z", true)
  | 3 => ("MediaCatalog$Journal", "length", "I", false)
  | _ => ("MediaCatalog$Journal", "latest", "I", false)
def tyX3 : Nat → FieldType := fun k => match k with
  | 0 => .array .int
  | 1 => .array .int
  | 2 => .array .boolean
  | 3 => .int
  | _ => .int
abbrev wsX30 : List Cond := u_ws RX3 TX3 5
theorem nmX3 : ∀ a, a < 5 → ∀ b, b < 5 → a ≠ b → (TX3 a).2.1 ≠ (TX3 b).2.1 := by decide +kernel
theorem tyX3_ok : ∀ k, k < 5 → parseFieldDescriptor (TX3 k).2.2.1 = some (tyX3 k) := by decide +kernel
abbrev cX3_init : ByteArray := prog_5_method_1_code
def yX3_init : MethodName := ⟨RX3, "<init>", "()V"⟩
abbrev cX3_length : ByteArray := prog_5_method_2_code
def yX3_length : MethodName := ⟨RX3, "length", "()I"⟩
abbrev cX3_note : ByteArray := prog_5_method_3_code
def yX3_note : MethodName := ⟨RX3, "note", "(IIZ)V"⟩
def RX4 : String := "MediaCatalog$RuleJudge"
def TX4 : u_T := fun k => match k with
  | 0 => ("MediaCatalog$RuleJudge", "files", "LMediaCatalog$FileTable;", true)
  | 1 => ("MediaCatalog$RuleJudge", "groups", "LMediaCatalog$GroupTable;", true)
  | 2 => ("MediaCatalog$RuleJudge", "stacks", "LMediaCatalog$StackTable;", true)
  | 3 => ("MediaCatalog$RuleJudge", "albums", "[LMediaCatalog$Album;", true)
  | 4 => ("MediaCatalog$RuleJudge", "ended", "[J", true)
  | 5 => ("MediaCatalog$RuleJudge", "running", "[J", true)
  | 6 => ("MediaCatalog$RuleJudge", "negated", "[Z", true)
  | _ => ("MediaCatalog$RuleJudge", "open", "I", false)
def tyX4 : Nat → FieldType := fun k => match k with
  | 0 => .object "MediaCatalog$FileTable"
  | 1 => .object "MediaCatalog$GroupTable"
  | 2 => .object "MediaCatalog$StackTable"
  | 3 => .array (.object "MediaCatalog$Album")
  | 4 => .array .long
  | 5 => .array .long
  | 6 => .array .boolean
  | _ => .int
abbrev wsX40 : List Cond := u_ws RX4 TX4 8
theorem nmX4 : ∀ a, a < 8 → ∀ b, b < 8 → a ≠ b → (TX4 a).2.1 ≠ (TX4 b).2.1 := by decide +kernel
theorem tyX4_ok : ∀ k, k < 8 → parseFieldDescriptor (TX4 k).2.2.1 = some (tyX4 k) := by decide +kernel
abbrev cX4_init : ByteArray := prog_6_method_1_code
def yX4_init : MethodName := ⟨RX4, "<init>", "(LMediaCatalog$FileTable;LMediaCatalog$GroupTable;LMediaCatalog$StackTable;[LMediaCatalog$Album;)V"⟩
abbrev cX4_filesFor : ByteArray := prog_6_method_2_code
def yX4_filesFor : MethodName := ⟨RX4, "filesFor", "(LMediaCatalog$RuleText;)J"⟩
abbrev cX4_operate : ByteArray := prog_6_method_3_code
def yX4_operate : MethodName := ⟨RX4, "operate", "(C)V"⟩
abbrev cX4_openLevel : ByteArray := prog_6_method_4_code
def yX4_openLevel : MethodName := ⟨RX4, "openLevel", "()V"⟩
abbrev cX4_closeLevel : ByteArray := prog_6_method_5_code
def yX4_closeLevel : MethodName := ⟨RX4, "closeLevel", "()V"⟩
abbrev cX4_beginLevel : ByteArray := prog_6_method_6_code
def yX4_beginLevel : MethodName := ⟨RX4, "beginLevel", "()V"⟩
abbrev cX4_take : ByteArray := prog_6_method_7_code
def yX4_take : MethodName := ⟨RX4, "take", "(J)V"⟩
abbrev cX4_condition : ByteArray := prog_6_method_8_code
def yX4_condition : MethodName := ⟨RX4, "condition", "(LMediaCatalog$RuleText;I)J"⟩
abbrev cX4_tagged : ByteArray := prog_6_method_9_code
def yX4_tagged : MethodName := ⟨RX4, "tagged", "(I)J"⟩
abbrev cX4_membersOf : ByteArray := prog_6_method_10_code
def yX4_membersOf : MethodName := ⟨RX4, "membersOf", "(I)J"⟩
abbrev cX4_comparing : ByteArray := prog_6_method_11_code
def yX4_comparing : MethodName := ⟨RX4, "comparing", "(LMediaCatalog$RuleText;I)J"⟩
abbrev cX4_agrees : ByteArray := prog_6_method_12_code
def yX4_agrees : MethodName := ⟨RX4, "agrees", "(ICI)Z"⟩
def RX5 : String := "MediaCatalog$RuleText"
def TX5 : u_T := fun k => match k with
  | 0 => ("MediaCatalog$RuleText", "characters", "[C", true)
  | _ => ("MediaCatalog$RuleText", "length", "I", false)
def tyX5 : Nat → FieldType := fun k => match k with
  | 0 => .array .char
  | _ => .int
abbrev wsX50 : List Cond := u_ws RX5 TX5 2
theorem nmX5 : ∀ a, a < 2 → ∀ b, b < 2 → a ≠ b → (TX5 a).2.1 ≠ (TX5 b).2.1 := by decide +kernel
theorem tyX5_ok : ∀ k, k < 2 → parseFieldDescriptor (TX5 k).2.2.1 = some (tyX5 k) := by decide +kernel
abbrev cX5_init : ByteArray := prog_7_method_1_code
def yX5_init : MethodName := ⟨RX5, "<init>", "()V"⟩
abbrev cX5_length : ByteArray := prog_7_method_2_code
def yX5_length : MethodName := ⟨RX5, "length", "()I"⟩
abbrev cX5_append : ByteArray := prog_7_method_3_code
def yX5_append : MethodName := ⟨RX5, "append", "(C)V"⟩
abbrev cX5_empty : ByteArray := prog_7_method_4_code
def yX5_empty : MethodName := ⟨RX5, "empty", "()V"⟩
abbrev cX5_copy : ByteArray := prog_7_method_5_code
def yX5_copy : MethodName := ⟨RX5, "copy", "(LMediaCatalog$RuleText;)V"⟩
abbrev cX5_at : ByteArray := prog_7_method_6_code
def yX5_at : MethodName := ⟨RX5, "at", "(I)C"⟩
abbrev cX5_numberAt : ByteArray := prog_7_method_7_code
def yX5_numberAt : MethodName := ⟨RX5, "numberAt", "(I)I"⟩
abbrev cX5_names : ByteArray := prog_7_method_8_code
def yX5_names : MethodName := ⟨RX5, "names", "(I)Z"⟩
abbrev cX5_firstFault : ByteArray := prog_7_method_9_code
def yX5_firstFault : MethodName := ⟨RX5, "firstFault", "()I"⟩
abbrev cX5_next : ByteArray := prog_7_method_10_code
def yX5_next : MethodName := ⟨RX5, "next", "(ICI)I"⟩
abbrev cX5_inItem : ByteArray := prog_7_method_11_code
def yX5_inItem : MethodName := ⟨RX5, "inItem", "(CI)I"⟩
abbrev cX5_afterField : ByteArray := prog_7_method_12_code
def yX5_afterField : MethodName := ⟨RX5, "afterField", "(C)I"⟩
abbrev cX5_inNumber : ByteArray := prog_7_method_13_code
def yX5_inNumber : MethodName := ⟨RX5, "inNumber", "(ICI)I"⟩
abbrev cX5_afterItem : ByteArray := prog_7_method_14_code
def yX5_afterItem : MethodName := ⟨RX5, "afterItem", "(CI)I"⟩
abbrev cX5_isDigit : ByteArray := prog_7_method_15_code
def yX5_isDigit : MethodName := ⟨RX5, "isDigit", "(C)Z"⟩
abbrev cX5_fieldNamed : ByteArray := prog_7_method_16_code
def yX5_fieldNamed : MethodName := ⟨RX5, "fieldNamed", "(C)I"⟩
def RX6 : String := "MediaCatalog$StackTable"
def TX6 : u_T := fun k => match k with
  | 0 => ("MediaCatalog$StackTable", "files", "LMediaCatalog$FileTable;", true)
  | 1 => ("MediaCatalog$StackTable", "places", "[I", true)
  | 2 => ("MediaCatalog$StackTable", "heights", "[I", true)
  | 3 => ("MediaCatalog$StackTable", "chosen", "[I", true)
  | 4 => ("MediaCatalog$StackTable", "collapsed", "[Z", true)
  | 5 => ("MediaCatalog$StackTable", "homes", "[I", true)
  | 6 => ("MediaCatalog$StackTable", "stacked", "J", false)
  | _ => ("MediaCatalog$StackTable", "covers", "J", false)
def tyX6 : Nat → FieldType := fun k => match k with
  | 0 => .object "MediaCatalog$FileTable"
  | 1 => .array .int
  | 2 => .array .int
  | 3 => .array .int
  | 4 => .array .boolean
  | 5 => .array .int
  | 6 => .long
  | _ => .long
abbrev wsX60 : List Cond := u_ws RX6 TX6 8
theorem nmX6 : ∀ a, a < 8 → ∀ b, b < 8 → a ≠ b → (TX6 a).2.1 ≠ (TX6 b).2.1 := by decide +kernel
theorem tyX6_ok : ∀ k, k < 8 → parseFieldDescriptor (TX6 k).2.2.1 = some (tyX6 k) := by decide +kernel
abbrev cX6_init : ByteArray := prog_8_method_1_code
def yX6_init : MethodName := ⟨RX6, "<init>", "(LMediaCatalog$FileTable;)V"⟩
abbrev cX6_has : ByteArray := prog_8_method_2_code
def yX6_has : MethodName := ⟨RX6, "has", "(I)Z"⟩
abbrev cX6_howMany : ByteArray := prog_8_method_3_code
def yX6_howMany : MethodName := ⟨RX6, "howMany", "()I"⟩
abbrev cX6_freeNumber : ByteArray := prog_8_method_4_code
def yX6_freeNumber : MethodName := ⟨RX6, "freeNumber", "()I"⟩
abbrev cX6_stacked : ByteArray := prog_8_method_5_code
def yX6_stacked : MethodName := ⟨RX6, "stacked", "()J"⟩
abbrev cX6_covers : ByteArray := prog_8_method_6_code
def yX6_covers : MethodName := ⟨RX6, "covers", "()J"⟩
abbrev cX6_home : ByteArray := prog_8_method_7_code
def yX6_home : MethodName := ⟨RX6, "home", "(I)I"⟩
abbrev cX6_height : ByteArray := prog_8_method_8_code
def yX6_height : MethodName := ⟨RX6, "height", "(I)I"⟩
abbrev cX6_isCollapsed : ByteArray := prog_8_method_9_code
def yX6_isCollapsed : MethodName := ⟨RX6, "isCollapsed", "(I)Z"⟩
abbrev cX6_fold : ByteArray := prog_8_method_10_code
def yX6_fold : MethodName := ⟨RX6, "fold", "(IZ)V"⟩
abbrev cX6_choose : ByteArray := prog_8_method_11_code
def yX6_choose : MethodName := ⟨RX6, "choose", "(II)V"⟩
abbrev cX6_begin : ByteArray := prog_8_method_12_code
def yX6_begin : MethodName := ⟨RX6, "begin", "(III)V"⟩
abbrev cX6_insert : ByteArray := prog_8_method_13_code
def yX6_insert : MethodName := ⟨RX6, "insert", "(III)V"⟩
abbrev cX6_release : ByteArray := prog_8_method_14_code
def yX6_release : MethodName := ⟨RX6, "release", "(I)V"⟩
abbrev cX6_closeGap : ByteArray := prog_8_method_15_code
def yX6_closeGap : MethodName := ⟨RX6, "closeGap", "(II)V"⟩
abbrev cX6_leave : ByteArray := prog_8_method_16_code
def yX6_leave : MethodName := ⟨RX6, "leave", "(I)V"⟩
abbrev cX6_fileAt : ByteArray := prog_8_method_17_code
def yX6_fileAt : MethodName := ⟨RX6, "fileAt", "(II)I"⟩
abbrev cX6_cover : ByteArray := prog_8_method_18_code
def yX6_cover : MethodName := ⟨RX6, "cover", "(I)I"⟩
abbrev cX6_findCovers : ByteArray := prog_8_method_19_code
def yX6_findCovers : MethodName := ⟨RX6, "findCovers", "()V"⟩
abbrev cX6_withoutHidden : ByteArray := prog_8_method_20_code
def yX6_withoutHidden : MethodName := ⟨RX6, "withoutHidden", "(IJ)J"⟩
abbrev cX6_spot : ByteArray := prog_8_method_21_code
def yX6_spot : MethodName := ⟨RX6, "spot", "(II)I"⟩
def RX7 : String := "MediaCatalog$View"
def TX7 : u_T := fun k => match k with
  | 0 => ("MediaCatalog$View", "files", "LMediaCatalog$FileTable;", true)
  | _ => ("MediaCatalog$View", "stacks", "LMediaCatalog$StackTable;", true)
def tyX7 : Nat → FieldType := fun k => match k with
  | 0 => .object "MediaCatalog$FileTable"
  | _ => .object "MediaCatalog$StackTable"
abbrev wsX70 : List Cond := u_ws RX7 TX7 2
theorem nmX7 : ∀ a, a < 2 → ∀ b, b < 2 → a ≠ b → (TX7 a).2.1 ≠ (TX7 b).2.1 := by decide +kernel
theorem tyX7_ok : ∀ k, k < 2 → parseFieldDescriptor (TX7 k).2.2.1 = some (tyX7 k) := by decide +kernel
abbrev cX7_init : ByteArray := prog_9_method_1_code
def yX7_init : MethodName := ⟨RX7, "<init>", "(LMediaCatalog$FileTable;LMediaCatalog$StackTable;)V"⟩
abbrev cX7_shown : ByteArray := prog_9_method_2_code
def yX7_shown : MethodName := ⟨RX7, "shown", "(LMediaCatalog$Album;)J"⟩
abbrev cX7_fileAt : ByteArray := prog_9_method_3_code
def yX7_fileAt : MethodName := ⟨RX7, "fileAt", "(LMediaCatalog$Album;I)I"⟩
abbrev cX7_placeOf : ByteArray := prog_9_method_4_code
def yX7_placeOf : MethodName := ⟨RX7, "placeOf", "(LMediaCatalog$Album;JI)I"⟩
abbrev cX7_comesBefore : ByteArray := prog_9_method_5_code
def yX7_comesBefore : MethodName := ⟨RX7, "comesBefore", "(LMediaCatalog$Album;II)Z"⟩
def RX8 : String := "MediaCatalog"
def TX8 : u_T := fun k => match k with
  | 0 => ("MediaCatalog", "files", "LMediaCatalog$FileTable;", true)
  | 1 => ("MediaCatalog", "groups", "LMediaCatalog$GroupTable;", true)
  | 2 => ("MediaCatalog", "stacks", "LMediaCatalog$StackTable;", true)
  | 3 => ("MediaCatalog", "text", "LMediaCatalog$RuleText;", true)
  | 4 => ("MediaCatalog", "albums", "[LMediaCatalog$Album;", true)
  | 5 => ("MediaCatalog", "judge", "LMediaCatalog$RuleJudge;", true)
  | 6 => ("MediaCatalog", "view", "LMediaCatalog$View;", true)
  | _ => ("MediaCatalog", "journal", "LMediaCatalog$Journal;", true)
def tyX8 : Nat → FieldType := fun k => match k with
  | 0 => .object "MediaCatalog$FileTable"
  | 1 => .object "MediaCatalog$GroupTable"
  | 2 => .object "MediaCatalog$StackTable"
  | 3 => .object "MediaCatalog$RuleText"
  | 4 => .array (.object "MediaCatalog$Album")
  | 5 => .object "MediaCatalog$RuleJudge"
  | 6 => .object "MediaCatalog$View"
  | _ => .object "MediaCatalog$Journal"
abbrev wsX80 : List Cond := u_ws RX8 TX8 8
theorem nmX8 : ∀ a, a < 8 → ∀ b, b < 8 → a ≠ b → (TX8 a).2.1 ≠ (TX8 b).2.1 := by decide +kernel
theorem tyX8_ok : ∀ k, k < 8 → parseFieldDescriptor (TX8 k).2.2.1 = some (tyX8 k) := by decide +kernel
abbrev cX8_init : ByteArray := prog_1_method_1_code
def yX8_init : MethodName := ⟨RX8, "<init>", "()V"⟩
abbrev cX8_add : ByteArray := prog_1_method_2_code
def yX8_add : MethodName := ⟨RX8, "add", "(II)I"⟩
abbrev cX8_remove : ByteArray := prog_1_method_3_code
def yX8_remove : MethodName := ⟨RX8, "remove", "(I)I"⟩
abbrev cX8_fileCount : ByteArray := prog_1_method_4_code
def yX8_fileCount : MethodName := ⟨RX8, "fileCount", "()I"⟩
abbrev cX8_setDigest : ByteArray := prog_1_method_5_code
def yX8_setDigest : MethodName := ⟨RX8, "setDigest", "(II)I"⟩
abbrev cX8_setValue : ByteArray := prog_1_method_6_code
def yX8_setValue : MethodName := ⟨RX8, "setValue", "(IIII)I"⟩
abbrev cX8_clearValue : ByteArray := prog_1_method_7_code
def yX8_clearValue : MethodName := ⟨RX8, "clearValue", "(III)I"⟩
abbrev cX8_value : ByteArray := prog_1_method_8_code
def yX8_value : MethodName := ⟨RX8, "value", "(II)I"⟩
abbrev cX8_setOrder : ByteArray := prog_1_method_10_code
def yX8_setOrder : MethodName := ⟨RX8, "setOrder", "(III)I"⟩
abbrev cX8_keeperOf : ByteArray := prog_1_method_11_code
def yX8_keeperOf : MethodName := ⟨RX8, "keeperOf", "(I)I"⟩
abbrev cX8_groupSize : ByteArray := prog_1_method_12_code
def yX8_groupSize : MethodName := ⟨RX8, "groupSize", "(I)I"⟩
abbrev cX8_wasted : ByteArray := prog_1_method_13_code
def yX8_wasted : MethodName := ⟨RX8, "wasted", "()I"⟩
abbrev cX8_merge : ByteArray := prog_1_method_14_code
def yX8_merge : MethodName := ⟨RX8, "merge", "(I)I"⟩
abbrev cX8_stack : ByteArray := prog_1_method_15_code
def yX8_stack : MethodName := ⟨RX8, "stack", "(II)I"⟩
abbrev cX8_putInto : ByteArray := prog_1_method_16_code
def yX8_putInto : MethodName := ⟨RX8, "putInto", "(III)I"⟩
abbrev cX8_takeOut : ByteArray := prog_1_method_17_code
def yX8_takeOut : MethodName := ⟨RX8, "takeOut", "(I)I"⟩
abbrev cX8_chooseCover : ByteArray := prog_1_method_18_code
def yX8_chooseCover : MethodName := ⟨RX8, "chooseCover", "(II)I"⟩
abbrev cX8_collapse : ByteArray := prog_1_method_19_code
def yX8_collapse : MethodName := ⟨RX8, "collapse", "(II)I"⟩
abbrev cX8_stackOf : ByteArray := prog_1_method_20_code
def yX8_stackOf : MethodName := ⟨RX8, "stackOf", "(I)I"⟩
abbrev cX8_coverOf : ByteArray := prog_1_method_21_code
def yX8_coverOf : MethodName := ⟨RX8, "coverOf", "(I)I"⟩
abbrev cX8_stackAt : ByteArray := prog_1_method_22_code
def yX8_stackAt : MethodName := ⟨RX8, "stackAt", "(II)I"⟩
abbrev cX8_type : ByteArray := prog_1_method_23_code
def yX8_type : MethodName := ⟨RX8, "type", "(I)I"⟩
abbrev cX8_clearRule : ByteArray := prog_1_method_24_code
def yX8_clearRule : MethodName := ⟨RX8, "clearRule", "()I"⟩
abbrev cX8_satisfies : ByteArray := prog_1_method_26_code
def yX8_satisfies : MethodName := ⟨RX8, "satisfies", "(I)I"⟩
abbrev cX8_select : ByteArray := prog_1_method_27_code
def yX8_select : MethodName := ⟨RX8, "select", "()I"⟩
abbrev cX8_makeAlbum : ByteArray := prog_1_method_28_code
def yX8_makeAlbum : MethodName := ⟨RX8, "makeAlbum", "()I"⟩
abbrev cX8_albumSize : ByteArray := prog_1_method_31_code
def yX8_albumSize : MethodName := ⟨RX8, "albumSize", "(I)I"⟩
abbrev cX8_isIn : ByteArray := prog_1_method_32_code
def yX8_isIn : MethodName := ⟨RX8, "isIn", "(II)I"⟩
abbrev cX8_viewSize : ByteArray := prog_1_method_34_code
def yX8_viewSize : MethodName := ⟨RX8, "viewSize", "(I)I"⟩
abbrev cX8_viewAt : ByteArray := prog_1_method_35_code
def yX8_viewAt : MethodName := ⟨RX8, "viewAt", "(II)I"⟩
abbrev cX8_journalSize : ByteArray := prog_1_method_36_code
def yX8_journalSize : MethodName := ⟨RX8, "journalSize", "()I"⟩
abbrev cX8_turnover : ByteArray := prog_1_method_38_code
def yX8_turnover : MethodName := ⟨RX8, "turnover", "(II)I"⟩
abbrev cX8_count : ByteArray := prog_1_method_39_code
def yX8_count : MethodName := ⟨RX8, "count", "(I)I"⟩
abbrev cX8_isWithin : ByteArray := prog_1_method_40_code
def yX8_isWithin : MethodName := ⟨RX8, "isWithin", "(III)Z"⟩
abbrev cX8_isSource : ByteArray := prog_1_method_41_code
def yX8_isSource : MethodName := ⟨RX8, "isSource", "(I)Z"⟩
abbrev cX8_orNotFound : ByteArray := prog_1_method_42_code
def yX8_orNotFound : MethodName := ⟨RX8, "orNotFound", "(I)I"⟩
abbrev cX8_holds : ByteArray := prog_1_method_43_code
def yX8_holds : MethodName := ⟨RX8, "holds", "(JI)Z"⟩
abbrev cX8_only : ByteArray := prog_1_method_44_code
def yX8_only : MethodName := ⟨RX8, "only", "(I)J"⟩
abbrev cX8_isSlot : ByteArray := prog_1_method_45_code
def yX8_isSlot : MethodName := ⟨RX8, "isSlot", "(III)Z"⟩
abbrev cX8_discard : ByteArray := prog_1_method_46_code
def yX8_discard : MethodName := ⟨RX8, "discard", "(I)V"⟩
abbrev cX8_hasAlbum : ByteArray := prog_1_method_47_code
def yX8_hasAlbum : MethodName := ⟨RX8, "hasAlbum", "(I)Z"⟩
abbrev cX8_albumCount : ByteArray := prog_1_method_48_code
def yX8_albumCount : MethodName := ⟨RX8, "albumCount", "()I"⟩
abbrev cX8_freeAlbum : ByteArray := prog_1_method_49_code
def yX8_freeAlbum : MethodName := ⟨RX8, "freeAlbum", "()I"⟩
abbrev cX8_isTextUsable : ByteArray := prog_1_method_51_code
def yX8_isTextUsable : MethodName := ⟨RX8, "isTextUsable", "(I)Z"⟩
abbrev cX8_settle : ByteArray := prog_1_method_52_code
def yX8_settle : MethodName := ⟨RX8, "settle", "()V"⟩
def RX9 : String := "MediaCatalogModel"
def TX9 : u_T := fun k => match k with
  | _ => ("", "", "", false)
def tyX9 : Nat → FieldType := fun k => match k with
  | _ => .int
abbrev wsX90 : List Cond := u_ws RX9 TX9 0
theorem nmX9 : ∀ a, a < 0 → ∀ b, b < 0 → a ≠ b → (TX9 a).2.1 ≠ (TX9 b).2.1 := by decide +kernel
theorem tyX9_ok : ∀ k, k < 0 → parseFieldDescriptor (TX9 k).2.2.1 = some (tyX9 k) := by decide +kernel
def RJ13 : String := "java/lang/Long"
def TJ13 : u_T := fun k => match k with
  | _ => ("", "", "", false)
def tyJ13 : Nat → FieldType := fun k => match k with
  | _ => .int
abbrev wsJ130 : List Cond := u_ws RJ13 TJ13 0
theorem nmJ13 : ∀ a, a < 0 → ∀ b, b < 0 → a ≠ b → (TJ13 a).2.1 ≠ (TJ13 b).2.1 := by decide +kernel
theorem tyJ13_ok : ∀ k, k < 0 → parseFieldDescriptor (TJ13 k).2.2.1 = some (tyJ13 k) := by decide +kernel
abbrev cJ13_bitCount_95d88 : ByteArray := prog_12_method_50_code
def yJ13_bitCount_95d88 : MethodName := ⟨RJ13, "bitCount", "(J)I"⟩
def RJ9 : String := "java/lang/Math"
def TJ9 : u_T := fun k => match k with
  | _ => ("", "", "", false)
def tyJ9 : Nat → FieldType := fun k => match k with
  | _ => .int
abbrev wsJ90 : List Cond := u_ws RJ9 TJ9 0
theorem nmJ9 : ∀ a, a < 0 → ∀ b, b < 0 → a ≠ b → (TJ9 a).2.1 ≠ (TJ9 b).2.1 := by decide +kernel
theorem tyJ9_ok : ∀ k, k < 0 → parseFieldDescriptor (TJ9 k).2.2.1 = some (tyJ9 k) := by decide +kernel
abbrev cJ9_max_7cf53 : ByteArray := prog_13_method_65_code
def yJ9_max_7cf53 : MethodName := ⟨RJ9, "max", "(II)I"⟩
abbrev cJ9_min_7cf53 : ByteArray := prog_13_method_69_code
def yJ9_min_7cf53 : MethodName := ⟨RJ9, "min", "(II)I"⟩
def RJ10 : String := "java/lang/System"
def TJ10 : u_T := fun k => match k with
  | _ => ("", "", "", false)
def tyJ10 : Nat → FieldType := fun k => match k with
  | _ => .int
abbrev wsJ100 : List Cond := u_ws RJ10 TJ10 0
theorem nmJ10 : ∀ a, a < 0 → ∀ b, b < 0 → a ≠ b → (TJ10 a).2.1 ≠ (TJ10 b).2.1 := by decide +kernel
theorem tyJ10_ok : ∀ k, k < 0 → parseFieldDescriptor (TJ10 k).2.2.1 = some (tyJ10 k) := by decide +kernel
def RJ7 : String := "java/util/Arrays"
def TJ7 : u_T := fun k => match k with
  | _ => ("", "", "", false)
def tyJ7 : Nat → FieldType := fun k => match k with
  | _ => .int
abbrev wsJ70 : List Cond := u_ws RJ7 TJ7 0
theorem nmJ7 : ∀ a, a < 0 → ∀ b, b < 0 → a ≠ b → (TJ7 a).2.1 ≠ (TJ7 b).2.1 := by decide +kernel
theorem tyJ7_ok : ∀ k, k < 0 → parseFieldDescriptor (TJ7 k).2.2.1 = some (tyJ7 k) := by decide +kernel
abbrev cJ7_rangeCheck_23922 : ByteArray := prog_15_method_30_code
def yJ7_rangeCheck_23922 : MethodName := ⟨RJ7, "rangeCheck", "(III)V"⟩
abbrev cJ7_fill_53178 : ByteArray := prog_15_method_103_code
def yJ7_fill_53178 : MethodName := ⟨RJ7, "fill", "([II)V"⟩
abbrev cJ7_fill_fda19 : ByteArray := prog_15_method_104_code
def yJ7_fill_fda19 : MethodName := ⟨RJ7, "fill", "([IIII)V"⟩
def RL : String := "MediaCatalogLaw"
abbrev cL_cell : ByteArray := method_2_code
def yL_cell : MethodName := ⟨RL, "cell", "([II)I"⟩
abbrev cL_types : ByteArray := method_3_code
def yL_types : MethodName := ⟨RL, "types", "(LMediaCatalog;J)Z"⟩
abbrev cL_text : ByteArray := method_4_code
def yL_text : MethodName := ⟨RL, "text", "(I)J"⟩
abbrev cL_acts : ByteArray := method_5_code
def yL_acts : MethodName := ⟨RL, "acts", "(LMediaCatalog;I)Z"⟩
abbrev cL_albums : ByteArray := method_6_code
def yL_albums : MethodName := ⟨RL, "albums", "(LMediaCatalog;)Z"⟩
abbrev cL_groups : ByteArray := method_7_code
def yL_groups : MethodName := ⟨RL, "groups", "(LMediaCatalog;)Z"⟩
abbrev cL_law : ByteArray := code
def yL_law : MethodName := ⟨RL, "law", "([I)Z"⟩
def wsX5_init : List Cond := .code yX5_init cX5_init 1 none :: ([.methodLink RX5 3 objectInit, .instanceMethod objectInit, .code objectInit ⟨#[0xb1]⟩ 1 none, .arrayClass .char, .fieldLink RX5 9 "MediaCatalog$RuleText" "characters" "[C"] ++ wsX50)
def wsX0_init : List Cond := .code yX0_init cX0_init 1 none :: ([.methodLink RX0 3 objectInit, .instanceMethod objectInit, .code objectInit ⟨#[0xb1]⟩ 1 none, .classLink RX0 9 RX5, .instantiable RX5 2, .initialized RX5, .fieldLink RX0 12 "MediaCatalog$Album" "rule" "LMediaCatalog$RuleText;", .methodLink RX0 11 yX5_init, .instanceMethod yX5_init, .code yX5_init cX5_init 1 none, .methodLink RX5 3 objectInit, .arrayClass .char, .fieldLink RX5 9 "MediaCatalog$RuleText" "characters" "[C"] ++ wsX50 ++ wsX00)
def wsX0_exists : List Cond := .code yX0_exists cX0_exists 1 (some .boolean) :: ([.fieldLink RX0 18 "MediaCatalog$Album" "exists" "Z"] ++ wsX00)
def wsX0_rule : List Cond := .code yX0_rule cX0_rule 1 (some (.object "MediaCatalog$RuleText")) :: ([.fieldLink RX0 12 "MediaCatalog$Album" "rule" "LMediaCatalog$RuleText;"] ++ wsX00)
def wsX0_members : List Cond := .code yX0_members cX0_members 1 (some .long) :: ([.fieldLink RX0 22 "MediaCatalog$Album" "members" "J"] ++ wsX00)
def wsX0_joined : List Cond := .code yX0_joined cX0_joined 1 (some .int) :: ([.fieldLink RX0 26 "MediaCatalog$Album" "joined" "I"] ++ wsX00)
def wsX0_left : List Cond := .code yX0_left cX0_left 1 (some .int) :: ([.fieldLink RX0 30 "MediaCatalog$Album" "left" "I"] ++ wsX00)
def wsX0_sortField : List Cond := .code yX0_sortField cX0_sortField 1 (some .int) :: ([.fieldLink RX0 33 "MediaCatalog$Album" "sortField" "I"] ++ wsX00)
def wsX0_isDescending : List Cond := .code yX0_isDescending cX0_isDescending 1 (some .boolean) :: ([.fieldLink RX0 36 "MediaCatalog$Album" "descending" "Z"] ++ wsX00)
def wsX0_sort : List Cond := .code yX0_sort cX0_sort 3 none :: ([.fieldLink RX0 33 "MediaCatalog$Album" "sortField" "I", .fieldLink RX0 36 "MediaCatalog$Album" "descending" "Z"] ++ wsX00)
def wsX5_copy : List Cond := .code yX5_copy cX5_copy 2 none :: ([.fieldLink RX5 9 "MediaCatalog$RuleText" "characters" "[C", .fieldLink RX5 15 "MediaCatalog$RuleText" "length" "I", .methodLink RX5 19 arraycopyName, .native arraycopyName, .static arraycopyName, .initialized "java/lang/System"] ++ wsX50)
def wsX0_follow : List Cond := .code yX0_follow cX0_follow 2 none :: ([.fieldLink RX0 12 "MediaCatalog$Album" "rule" "LMediaCatalog$RuleText;", .methodLink RX0 51 yX5_copy, .instanceMethod yX5_copy, .selects RX5 yX5_copy yX5_copy, .initialized RX5, .code yX5_copy cX5_copy 2 none, .fieldLink RX5 9 "MediaCatalog$RuleText" "characters" "[C", .fieldLink RX5 15 "MediaCatalog$RuleText" "length" "I", .methodLink RX5 19 arraycopyName, .native arraycopyName, .static arraycopyName, .initialized "java/lang/System"] ++ wsX00 ++ wsX50)
def wsX0_begin_r1 : List Cond := [Cond.fieldLink RX0 18 "MediaCatalog$Album" "exists" "Z", Cond.fieldLink RX0 22 "MediaCatalog$Album" "members" "J", Cond.fieldLink RX0 26 "MediaCatalog$Album" "joined" "I", Cond.fieldLink RX0 30 "MediaCatalog$Album" "left" "I", Cond.methodLink RX0 43 yX0_sort, Cond.instanceMethod yX0_sort, Cond.selects RX0 yX0_sort yX0_sort, Cond.initialized RX0, Cond.code yX0_sort cX0_sort 3 none, Cond.fieldLink RX0 33 "MediaCatalog$Album" "sortField" "I", Cond.fieldLink RX0 36 "MediaCatalog$Album" "descending" "Z", Cond.methodLink RX0 47 yX0_follow, Cond.instanceMethod yX0_follow, Cond.selects RX0 yX0_follow yX0_follow, Cond.code yX0_follow cX0_follow 2 none, Cond.fieldLink RX0 12 "MediaCatalog$Album" "rule" "LMediaCatalog$RuleText;", Cond.methodLink RX0 51 yX5_copy, Cond.instanceMethod yX5_copy, Cond.selects RX5 yX5_copy yX5_copy, Cond.initialized RX5, Cond.code yX5_copy cX5_copy 2 none, Cond.fieldLink RX5 9 "MediaCatalog$RuleText" "characters" "[C", Cond.fieldLink RX5 15 "MediaCatalog$RuleText" "length" "I", Cond.methodLink RX5 19 arraycopyName]
def wsX0_begin_r2 : List Cond := [Cond.native arraycopyName, Cond.static arraycopyName, Cond.initialized "java/lang/System"]
def wsX0_begin : List Cond := .code yX0_begin cX0_begin 2 none :: ((wsX0_begin_r1 ++ wsX0_begin_r2) ++ wsX00 ++ wsX50)
def wsX8_holds : List Cond := .code yX8_holds cX8_holds 3 (some .boolean) :: ([])
def wsX3_note : List Cond := .code yX3_note cX3_note 4 none :: ([.fieldLink RX3 26 "MediaCatalog$Journal" "latest" "I", .fieldLink RX3 9 "MediaCatalog$Journal" "albums" "[I", .fieldLink RX3 15 "MediaCatalog$Journal" "files" "[I", .fieldLink RX3 18 "MediaCatalog$Journal" "joins" "[Z", .fieldLink RX3 22 "MediaCatalog$Journal" "length" "I", .methodLink RX3 29 Lib.Math.min.name, .static Lib.Math.min.name, .initialized "java/lang/Math", .code Lib.Math.min.name Lib.Math.min.code 2 (some .int)] ++ wsX30)
def wsX0_become : List Cond := .code yX0_become cX0_become 9 none :: ([.fieldLink RX0 22 "MediaCatalog$Album" "members" "J", .fieldLink RX0 26 "MediaCatalog$Album" "joined" "I", .fieldLink RX0 30 "MediaCatalog$Album" "left" "I", .static yX8_holds, .initialized RX8, .code yX8_holds cX8_holds 3 (some .boolean), .methodLink RX0 58 yX3_note, .instanceMethod yX3_note, .selects RX3 yX3_note yX3_note, .initialized RX3, .code yX3_note cX3_note 4 none, .fieldLink RX3 26 "MediaCatalog$Journal" "latest" "I", .fieldLink RX3 9 "MediaCatalog$Journal" "albums" "[I", .fieldLink RX3 15 "MediaCatalog$Journal" "files" "[I", .fieldLink RX3 18 "MediaCatalog$Journal" "joins" "[Z", .fieldLink RX3 22 "MediaCatalog$Journal" "length" "I", .methodLink RX3 29 Lib.Math.min.name, .static Lib.Math.min.name, .initialized "java/lang/Math", .code Lib.Math.min.name Lib.Math.min.code 2 (some .int)] ++ wsX00 ++ wsX30)
def wsX1_init : List Cond := .code yX1_init cX1_init 2 none :: ([.methodLink RX1 3 objectInit, .instanceMethod objectInit, .code objectInit ⟨#[0xb1]⟩ 1 none, .arrayClass .int, .fieldLink RX1 9 "MediaCatalog$FileTable" "digests" "[I", .fieldLink RX1 15 "MediaCatalog$FileTable" "sizes" "[I", .fieldLink RX1 18 "MediaCatalog$FileTable" "values" "[I", .fieldLink RX1 21 "MediaCatalog$FileTable" "settled" "[I", .fieldLink RX1 24 "MediaCatalog$FileTable" "order" "[I"] ++ wsX10)
def wsX8_isWithin : List Cond := .code yX8_isWithin cX8_isWithin 3 (some .boolean) :: ([])
def wsX1_has : List Cond := .code yX1_has cX1_has 2 (some .boolean) :: ([.fieldLink RX1 31 "MediaCatalog$FileTable" "present" "J", .static yX8_isWithin, .initialized RX8, .code yX8_isWithin cX8_isWithin 3 (some .boolean), .static yX8_holds, .code yX8_holds cX8_holds 3 (some .boolean)] ++ wsX10)
def wsX1_all : List Cond := .code yX1_all cX1_all 1 (some .long) :: ([.fieldLink RX1 31 "MediaCatalog$FileTable" "present" "J"] ++ wsX10)
def wsJ13_bitCount_95d88 : List Cond := .code yJ13_bitCount_95d88 cJ13_bitCount_95d88 2 (some .int) :: ([.constantLong RJ13 314 (6148914691236517205), .constantLong RJ13 316 (3689348814741910323), .constantLong RJ13 318 (1085102592571150095)])
def wsX1_howMany : List Cond := .code yX1_howMany cX1_howMany 1 (some .int) :: ([.fieldLink RX1 31 "MediaCatalog$FileTable" "present" "J", .methodLink RX1 39 yJ13_bitCount_95d88, .static yJ13_bitCount_95d88, .initialized RJ13, .code yJ13_bitCount_95d88 cJ13_bitCount_95d88 2 (some .int), .constantLong RJ13 314 (6148914691236517205), .constantLong RJ13 316 (3689348814741910323), .constantLong RJ13 318 (1085102592571150095)] ++ wsX10)
def wsX1_freeNumber : List Cond := .code yX1_freeNumber cX1_freeNumber 2 (some .int) :: ([.fieldLink RX1 31 "MediaCatalog$FileTable" "present" "J", .static yX8_holds, .initialized RX8, .code yX8_holds cX8_holds 3 (some .boolean)] ++ wsX10)
def wsX8_only : List Cond := .code yX8_only cX8_only 1 (some .long) :: ([])
def wsX1_slot : List Cond := .code yX1_slot cX1_slot 3 (some .int) :: ([])
def wsJ7_rangeCheck_23922 : List Cond := .code yJ7_rangeCheck_23922 cJ7_rangeCheck_23922 3 none :: ([])
def wsJ7_fill_fda19 : List Cond := .code yJ7_fill_fda19 cJ7_fill_fda19 5 none :: ([.methodLink RJ7 13 yJ7_rangeCheck_23922, .static yJ7_rangeCheck_23922, .initialized RJ7, .code yJ7_rangeCheck_23922 cJ7_rangeCheck_23922 3 none])
def wsX1_enter : List Cond := .code yX1_enter cX1_enter 4 none :: ([.fieldLink RX1 31 "MediaCatalog$FileTable" "present" "J", .fieldLink RX1 9 "MediaCatalog$FileTable" "digests" "[I", .fieldLink RX1 15 "MediaCatalog$FileTable" "sizes" "[I", .fieldLink RX1 18 "MediaCatalog$FileTable" "values" "[I", .static yX8_only, .initialized RX8, .code yX8_only cX8_only 1 (some .long), .methodLink RX1 49 yX1_slot, .static yX1_slot, .initialized RX1, .code yX1_slot cX1_slot 3 (some .int), .methodLink RX1 53 yJ7_fill_fda19, .static yJ7_fill_fda19, .initialized RJ7, .code yJ7_fill_fda19 cJ7_fill_fda19 5 none, .methodLink RJ7 13 yJ7_rangeCheck_23922, .static yJ7_rangeCheck_23922, .code yJ7_rangeCheck_23922 cJ7_rangeCheck_23922 3 none] ++ wsX10)
def wsX1_drop : List Cond := .code yX1_drop cX1_drop 2 none :: ([.fieldLink RX1 31 "MediaCatalog$FileTable" "present" "J", .constantLong RX1 59 (-1), .static yX8_only, .initialized RX8, .code yX8_only cX8_only 1 (some .long)] ++ wsX10)
def wsX1_digest : List Cond := .code yX1_digest cX1_digest 2 (some .int) :: ([.fieldLink RX1 9 "MediaCatalog$FileTable" "digests" "[I"] ++ wsX10)
def wsX1_changeDigest : List Cond := .code yX1_changeDigest cX1_changeDigest 3 none :: ([.fieldLink RX1 9 "MediaCatalog$FileTable" "digests" "[I"] ++ wsX10)
def wsX1_bytes : List Cond := .code yX1_bytes cX1_bytes 2 (some .int) :: ([.fieldLink RX1 15 "MediaCatalog$FileTable" "sizes" "[I"] ++ wsX10)
def wsX1_told : List Cond := .code yX1_told cX1_told 4 (some .int) :: ([.fieldLink RX1 18 "MediaCatalog$FileTable" "values" "[I", .methodLink RX1 49 yX1_slot, .static yX1_slot, .initialized RX1, .code yX1_slot cX1_slot 3 (some .int)] ++ wsX10)
def wsX1_tell : List Cond := .code yX1_tell cX1_tell 5 none :: ([.fieldLink RX1 18 "MediaCatalog$FileTable" "values" "[I", .methodLink RX1 49 yX1_slot, .static yX1_slot, .initialized RX1, .code yX1_slot cX1_slot 3 (some .int)] ++ wsX10)
def wsX1_firstTeller : List Cond := .code yX1_firstTeller cX1_firstTeller 4 (some .int) :: ([.fieldLink RX1 24 "MediaCatalog$FileTable" "order" "[I", .methodLink RX1 61 yX1_told, .instanceMethod yX1_told, .selects RX1 yX1_told yX1_told, .initialized RX1, .code yX1_told cX1_told 4 (some .int), .fieldLink RX1 18 "MediaCatalog$FileTable" "values" "[I", .methodLink RX1 49 yX1_slot, .static yX1_slot, .code yX1_slot cX1_slot 3 (some .int)] ++ wsX10)
def wsX1_settledValue : List Cond := .code yX1_settledValue cX1_settledValue 3 (some .int) :: ([.fieldLink RX1 21 "MediaCatalog$FileTable" "settled" "[I"] ++ wsX10)
def wsX1_settleFile : List Cond := .code yX1_settleFile cX1_settleFile 4 none :: ([.fieldLink RX1 21 "MediaCatalog$FileTable" "settled" "[I", .methodLink RX1 72 Lib.Math.max.name, .static Lib.Math.max.name, .initialized "java/lang/Math", .code Lib.Math.max.name Lib.Math.max.code 2 (some .int), .methodLink RX1 68 yX1_firstTeller, .instanceMethod yX1_firstTeller, .selects RX1 yX1_firstTeller yX1_firstTeller, .initialized RX1, .code yX1_firstTeller cX1_firstTeller 4 (some .int), .fieldLink RX1 24 "MediaCatalog$FileTable" "order" "[I", .methodLink RX1 61 yX1_told, .instanceMethod yX1_told, .selects RX1 yX1_told yX1_told, .code yX1_told cX1_told 4 (some .int), .fieldLink RX1 18 "MediaCatalog$FileTable" "values" "[I", .methodLink RX1 49 yX1_slot, .static yX1_slot, .code yX1_slot cX1_slot 3 (some .int)] ++ wsX10)
def wsX1_settleValues_r1 : List Cond := [Cond.fieldLink RX1 31 "MediaCatalog$FileTable" "present" "J", Cond.static yX8_holds, Cond.initialized RX8, Cond.code yX8_holds cX8_holds 3 (some .boolean), Cond.methodLink RX1 64 yX1_settleFile, Cond.instanceMethod yX1_settleFile, Cond.selects RX1 yX1_settleFile yX1_settleFile, Cond.initialized RX1, Cond.code yX1_settleFile cX1_settleFile 4 none, Cond.fieldLink RX1 21 "MediaCatalog$FileTable" "settled" "[I", Cond.methodLink RX1 72 Lib.Math.max.name, Cond.static Lib.Math.max.name, Cond.initialized "java/lang/Math", Cond.code Lib.Math.max.name Lib.Math.max.code 2 (some .int), Cond.methodLink RX1 68 yX1_firstTeller, Cond.instanceMethod yX1_firstTeller, Cond.selects RX1 yX1_firstTeller yX1_firstTeller, Cond.code yX1_firstTeller cX1_firstTeller 4 (some .int), Cond.fieldLink RX1 24 "MediaCatalog$FileTable" "order" "[I", Cond.methodLink RX1 61 yX1_told, Cond.instanceMethod yX1_told, Cond.selects RX1 yX1_told yX1_told, Cond.code yX1_told cX1_told 4 (some .int), Cond.fieldLink RX1 18 "MediaCatalog$FileTable" "values" "[I"]
def wsX1_settleValues_r2 : List Cond := [Cond.methodLink RX1 49 yX1_slot, Cond.static yX1_slot, Cond.code yX1_slot cX1_slot 3 (some .int)]
def wsX1_settleValues : List Cond := .code yX1_settleValues cX1_settleValues 2 none :: ((wsX1_settleValues_r1 ++ wsX1_settleValues_r2) ++ wsX10)
def wsX1_orderCode : List Cond := .code yX1_orderCode cX1_orderCode 1 (some .int) :: ([.fieldLink RX1 24 "MediaCatalog$FileTable" "order" "[I"] ++ wsX10)
def wsX1_reorder : List Cond := .code yX1_reorder cX1_reorder 4 none :: ([.fieldLink RX1 24 "MediaCatalog$FileTable" "order" "[I"] ++ wsX10)
def wsX1_alike : List Cond := .code yX1_alike cX1_alike 5 (some .long) :: ([.fieldLink RX1 31 "MediaCatalog$FileTable" "present" "J", .fieldLink RX1 9 "MediaCatalog$FileTable" "digests" "[I", .static yX8_holds, .initialized RX8, .code yX8_holds cX8_holds 3 (some .boolean), .static yX8_only, .code yX8_only cX8_only 1 (some .long)] ++ wsX10)
def wsX1_sumOfSizes : List Cond := .code yX1_sumOfSizes cX1_sumOfSizes 5 (some .int) :: ([.fieldLink RX1 15 "MediaCatalog$FileTable" "sizes" "[I", .static yX8_holds, .initialized RX8, .code yX8_holds cX8_holds 3 (some .boolean)] ++ wsX10)
def wsX1_union : List Cond := .code yX1_union cX1_union 2 (some .int) :: ([])
def wsX1_absorbOne : List Cond := .code yX1_absorbOne cX1_absorbOne 5 none :: ([.methodLink RX1 61 yX1_told, .instanceMethod yX1_told, .selects RX1 yX1_told yX1_told, .initialized RX1, .code yX1_told cX1_told 4 (some .int), .fieldLink RX1 18 "MediaCatalog$FileTable" "values" "[I", .methodLink RX1 49 yX1_slot, .static yX1_slot, .code yX1_slot cX1_slot 3 (some .int), .methodLink RX1 81 yX1_tell, .instanceMethod yX1_tell, .selects RX1 yX1_tell yX1_tell, .code yX1_tell cX1_tell 5 none, .methodLink RX1 85 yX1_union, .static yX1_union, .code yX1_union cX1_union 2 (some .int)] ++ wsX10)
def wsX1_absorb : List Cond := .code yX1_absorb cX1_absorb 5 none :: ([.static yX8_holds, .initialized RX8, .code yX8_holds cX8_holds 3 (some .boolean), .methodLink RX1 77 yX1_absorbOne, .instanceMethod yX1_absorbOne, .selects RX1 yX1_absorbOne yX1_absorbOne, .initialized RX1, .code yX1_absorbOne cX1_absorbOne 5 none, .methodLink RX1 61 yX1_told, .instanceMethod yX1_told, .selects RX1 yX1_told yX1_told, .code yX1_told cX1_told 4 (some .int), .fieldLink RX1 18 "MediaCatalog$FileTable" "values" "[I", .methodLink RX1 49 yX1_slot, .static yX1_slot, .code yX1_slot cX1_slot 3 (some .int), .methodLink RX1 81 yX1_tell, .instanceMethod yX1_tell, .selects RX1 yX1_tell yX1_tell, .code yX1_tell cX1_tell 5 none, .methodLink RX1 85 yX1_union, .static yX1_union, .code yX1_union cX1_union 2 (some .int)] ++ wsX10)
def wsX2_init : List Cond := .code yX2_init cX2_init 2 none :: ([.methodLink RX2 3 objectInit, .instanceMethod objectInit, .code objectInit ⟨#[0xb1]⟩ 1 none, .fieldLink RX2 9 "MediaCatalog$GroupTable" "files" "LMediaCatalog$FileTable;"] ++ wsX20)
def wsX2_keepers : List Cond := .code yX2_keepers cX2_keepers 1 (some .long) :: ([.fieldLink RX2 15 "MediaCatalog$GroupTable" "keepers" "J"] ++ wsX20)
def wsX2_duplicates : List Cond := .code yX2_duplicates cX2_duplicates 1 (some .long) :: ([.fieldLink RX2 19 "MediaCatalog$GroupTable" "duplicates" "J"] ++ wsX20)
def wsX2_yearOf : List Cond := .code yX2_yearOf cX2_yearOf 3 (some .int) :: ([.fieldLink RX2 9 "MediaCatalog$GroupTable" "files" "LMediaCatalog$FileTable;", .methodLink RX2 54 yX1_settledValue, .instanceMethod yX1_settledValue, .selects RX1 yX1_settledValue yX1_settledValue, .initialized RX1, .code yX1_settledValue cX1_settledValue 3 (some .int), .fieldLink RX1 21 "MediaCatalog$FileTable" "settled" "[I"] ++ wsX20 ++ wsX10)
def wsX2_beats : List Cond := .code yX2_beats cX2_beats 5 (some .boolean) :: ([.fieldLink RX2 9 "MediaCatalog$GroupTable" "files" "LMediaCatalog$FileTable;", .methodLink RX2 54 yX1_settledValue, .instanceMethod yX1_settledValue, .selects RX1 yX1_settledValue yX1_settledValue, .initialized RX1, .code yX1_settledValue cX1_settledValue 3 (some .int), .fieldLink RX1 21 "MediaCatalog$FileTable" "settled" "[I", .methodLink RX2 58 yX2_yearOf, .instanceMethod yX2_yearOf, .selects RX2 yX2_yearOf yX2_yearOf, .initialized RX2, .code yX2_yearOf cX2_yearOf 3 (some .int)] ++ wsX20 ++ wsX10)
def wsX2_preferred : List Cond := .code yX2_preferred cX2_preferred 5 (some .int) :: ([.static yX8_holds, .initialized RX8, .code yX8_holds cX8_holds 3 (some .boolean), .methodLink RX2 50 yX2_beats, .instanceMethod yX2_beats, .selects RX2 yX2_beats yX2_beats, .initialized RX2, .code yX2_beats cX2_beats 5 (some .boolean), .fieldLink RX2 9 "MediaCatalog$GroupTable" "files" "LMediaCatalog$FileTable;", .methodLink RX2 54 yX1_settledValue, .instanceMethod yX1_settledValue, .selects RX1 yX1_settledValue yX1_settledValue, .initialized RX1, .code yX1_settledValue cX1_settledValue 3 (some .int), .fieldLink RX1 21 "MediaCatalog$FileTable" "settled" "[I", .methodLink RX2 58 yX2_yearOf, .instanceMethod yX2_yearOf, .selects RX2 yX2_yearOf yX2_yearOf, .code yX2_yearOf cX2_yearOf 3 (some .int)] ++ wsX20 ++ wsX10)
def wsX2_keeper_r1 : List Cond := [Cond.fieldLink RX2 9 "MediaCatalog$GroupTable" "files" "LMediaCatalog$FileTable;", Cond.methodLink RX2 22 yX1_alike, Cond.instanceMethod yX1_alike, Cond.selects RX1 yX1_alike yX1_alike, Cond.initialized RX1, Cond.code yX1_alike cX1_alike 5 (some .long), Cond.fieldLink RX1 31 "MediaCatalog$FileTable" "present" "J", Cond.fieldLink RX1 9 "MediaCatalog$FileTable" "digests" "[I", Cond.static yX8_holds, Cond.initialized RX8, Cond.code yX8_holds cX8_holds 3 (some .boolean), Cond.static yX8_only, Cond.code yX8_only cX8_only 1 (some .long), Cond.methodLink RX2 28 yX2_preferred, Cond.instanceMethod yX2_preferred, Cond.selects RX2 yX2_preferred yX2_preferred, Cond.initialized RX2, Cond.code yX2_preferred cX2_preferred 5 (some .int), Cond.methodLink RX2 50 yX2_beats, Cond.instanceMethod yX2_beats, Cond.selects RX2 yX2_beats yX2_beats, Cond.code yX2_beats cX2_beats 5 (some .boolean), Cond.methodLink RX2 54 yX1_settledValue, Cond.instanceMethod yX1_settledValue]
def wsX2_keeper_r2 : List Cond := [Cond.selects RX1 yX1_settledValue yX1_settledValue, Cond.code yX1_settledValue cX1_settledValue 3 (some .int), Cond.fieldLink RX1 21 "MediaCatalog$FileTable" "settled" "[I", Cond.methodLink RX2 58 yX2_yearOf, Cond.instanceMethod yX2_yearOf, Cond.selects RX2 yX2_yearOf yX2_yearOf, Cond.code yX2_yearOf cX2_yearOf 3 (some .int)]
def wsX2_keeper : List Cond := .code yX2_keeper cX2_keeper 2 (some .int) :: ((wsX2_keeper_r1 ++ wsX2_keeper_r2) ++ wsX20 ++ wsX10)
def wsX2_regroup_r1 : List Cond := [Cond.fieldLink RX2 15 "MediaCatalog$GroupTable" "keepers" "J", Cond.fieldLink RX2 19 "MediaCatalog$GroupTable" "duplicates" "J", Cond.fieldLink RX2 9 "MediaCatalog$GroupTable" "files" "LMediaCatalog$FileTable;", Cond.constantLong RX2 48 (-1), Cond.methodLink RX2 32 yX1_all, Cond.instanceMethod yX1_all, Cond.selects RX1 yX1_all yX1_all, Cond.initialized RX1, Cond.code yX1_all cX1_all 1 (some .long), Cond.fieldLink RX1 31 "MediaCatalog$FileTable" "present" "J", Cond.static yX8_holds, Cond.initialized RX8, Cond.code yX8_holds cX8_holds 3 (some .boolean), Cond.methodLink RX2 22 yX1_alike, Cond.instanceMethod yX1_alike, Cond.selects RX1 yX1_alike yX1_alike, Cond.code yX1_alike cX1_alike 5 (some .long), Cond.fieldLink RX1 9 "MediaCatalog$FileTable" "digests" "[I", Cond.static yX8_only, Cond.code yX8_only cX8_only 1 (some .long), Cond.methodLink RX2 28 yX2_preferred, Cond.instanceMethod yX2_preferred, Cond.selects RX2 yX2_preferred yX2_preferred, Cond.initialized RX2]
def wsX2_regroup_r2 : List Cond := [Cond.code yX2_preferred cX2_preferred 5 (some .int), Cond.methodLink RX2 50 yX2_beats, Cond.instanceMethod yX2_beats, Cond.selects RX2 yX2_beats yX2_beats, Cond.code yX2_beats cX2_beats 5 (some .boolean), Cond.methodLink RX2 54 yX1_settledValue, Cond.instanceMethod yX1_settledValue, Cond.selects RX1 yX1_settledValue yX1_settledValue, Cond.code yX1_settledValue cX1_settledValue 3 (some .int), Cond.fieldLink RX1 21 "MediaCatalog$FileTable" "settled" "[I", Cond.methodLink RX2 58 yX2_yearOf, Cond.instanceMethod yX2_yearOf, Cond.selects RX2 yX2_yearOf yX2_yearOf, Cond.code yX2_yearOf cX2_yearOf 3 (some .int), Cond.methodLink RX2 43 yJ13_bitCount_95d88, Cond.static yJ13_bitCount_95d88, Cond.initialized RJ13, Cond.code yJ13_bitCount_95d88 cJ13_bitCount_95d88 2 (some .int), Cond.constantLong RJ13 314 (6148914691236517205), Cond.constantLong RJ13 316 (3689348814741910323), Cond.constantLong RJ13 318 (1085102592571150095)]
def wsX2_regroup : List Cond := .code yX2_regroup cX2_regroup 6 none :: ((wsX2_regroup_r1 ++ wsX2_regroup_r2) ++ wsX20 ++ wsX10)
def wsX3_init : List Cond := .code yX3_init cX3_init 1 none :: ([.methodLink RX3 3 objectInit, .instanceMethod objectInit, .code objectInit ⟨#[0xb1]⟩ 1 none, .arrayClass .int, .fieldLink RX3 9 "MediaCatalog$Journal" "albums" "[I", .fieldLink RX3 15 "MediaCatalog$Journal" "files" "[I", .arrayClass .boolean, .fieldLink RX3 18 "MediaCatalog$Journal" "joins" "[Z"] ++ wsX30)
def wsX3_length : List Cond := .code yX3_length cX3_length 1 (some .int) :: ([.fieldLink RX3 22 "MediaCatalog$Journal" "length" "I"] ++ wsX30)
def wsX4_init : List Cond := .code yX4_init cX4_init 5 none :: ([.methodLink RX4 3 objectInit, .instanceMethod objectInit, .code objectInit ⟨#[0xb1]⟩ 1 none, .fieldLink RX4 9 "MediaCatalog$RuleJudge" "files" "LMediaCatalog$FileTable;", .fieldLink RX4 15 "MediaCatalog$RuleJudge" "groups" "LMediaCatalog$GroupTable;", .fieldLink RX4 19 "MediaCatalog$RuleJudge" "stacks" "LMediaCatalog$StackTable;", .fieldLink RX4 23 "MediaCatalog$RuleJudge" "albums" "[LMediaCatalog$Album;", .arrayClass .long, .fieldLink RX4 27 "MediaCatalog$RuleJudge" "ended" "[J", .fieldLink RX4 31 "MediaCatalog$RuleJudge" "running" "[J", .arrayClass .boolean, .fieldLink RX4 34 "MediaCatalog$RuleJudge" "negated" "[Z"] ++ wsX40)
def wsX4_beginLevel : List Cond := .code yX4_beginLevel cX4_beginLevel 1 none :: ([.fieldLink RX4 27 "MediaCatalog$RuleJudge" "ended" "[J", .fieldLink RX4 38 "MediaCatalog$RuleJudge" "open" "I", .fieldLink RX4 31 "MediaCatalog$RuleJudge" "running" "[J", .fieldLink RX4 9 "MediaCatalog$RuleJudge" "files" "LMediaCatalog$FileTable;", .fieldLink RX4 34 "MediaCatalog$RuleJudge" "negated" "[Z", .methodLink RX4 67 yX1_all, .instanceMethod yX1_all, .selects RX1 yX1_all yX1_all, .initialized RX1, .code yX1_all cX1_all 1 (some .long), .fieldLink RX1 31 "MediaCatalog$FileTable" "present" "J"] ++ wsX40 ++ wsX10)
def wsX5_length : List Cond := .code yX5_length cX5_length 1 (some .int) :: ([.fieldLink RX5 15 "MediaCatalog$RuleText" "length" "I"] ++ wsX50)
def wsX5_at : List Cond := .code yX5_at cX5_at 2 (some .char) :: ([.fieldLink RX5 15 "MediaCatalog$RuleText" "length" "I", .fieldLink RX5 9 "MediaCatalog$RuleText" "characters" "[C"] ++ wsX50)
def wsX5_isDigit : List Cond := .code yX5_isDigit cX5_isDigit 1 (some .boolean) :: ([])
def wsX5_numberAt : List Cond := .code yX5_numberAt cX5_numberAt 4 (some .int) :: ([.methodLink RX5 25 yX5_at, .instanceMethod yX5_at, .selects RX5 yX5_at yX5_at, .initialized RX5, .code yX5_at cX5_at 2 (some .char), .fieldLink RX5 15 "MediaCatalog$RuleText" "length" "I", .fieldLink RX5 9 "MediaCatalog$RuleText" "characters" "[C", .methodLink RX5 29 yX5_isDigit, .static yX5_isDigit, .code yX5_isDigit cX5_isDigit 1 (some .boolean)] ++ wsX50)
def wsX4_tagged : List Cond := .code yX4_tagged cX4_tagged 5 (some .long) :: ([.fieldLink RX4 9 "MediaCatalog$RuleJudge" "files" "LMediaCatalog$FileTable;", .methodLink RX4 67 yX1_all, .instanceMethod yX1_all, .selects RX1 yX1_all yX1_all, .initialized RX1, .code yX1_all cX1_all 1 (some .long), .fieldLink RX1 31 "MediaCatalog$FileTable" "present" "J", .static yX8_holds, .initialized RX8, .code yX8_holds cX8_holds 3 (some .boolean), .methodLink RX4 115 yX1_settledValue, .instanceMethod yX1_settledValue, .selects RX1 yX1_settledValue yX1_settledValue, .code yX1_settledValue cX1_settledValue 3 (some .int), .fieldLink RX1 21 "MediaCatalog$FileTable" "settled" "[I", .static yX8_only, .code yX8_only cX8_only 1 (some .long)] ++ wsX40 ++ wsX10)
def wsX4_membersOf : List Cond := .code yX4_membersOf cX4_membersOf 2 (some .long) :: ([.fieldLink RX4 23 "MediaCatalog$RuleJudge" "albums" "[LMediaCatalog$Album;", .static yX8_isWithin, .initialized RX8, .code yX8_isWithin cX8_isWithin 3 (some .boolean), .methodLink RX4 126 yX0_members, .instanceMethod yX0_members, .selects RX0 yX0_members yX0_members, .initialized RX0, .code yX0_members cX0_members 1 (some .long), .fieldLink RX0 22 "MediaCatalog$Album" "members" "J"] ++ wsX40 ++ wsX00)
def wsX6_stacked : List Cond := .code yX6_stacked cX6_stacked 1 (some .long) :: ([.fieldLink RX6 46 "MediaCatalog$StackTable" "stacked" "J"] ++ wsX60)
def wsX6_covers : List Cond := .code yX6_covers cX6_covers 1 (some .long) :: ([.fieldLink RX6 50 "MediaCatalog$StackTable" "covers" "J"] ++ wsX60)
def wsX5_fieldNamed : List Cond := .code yX5_fieldNamed cX5_fieldNamed 1 (some .int) :: ([])
def wsX4_agrees : List Cond := .code yX4_agrees cX4_agrees 3 (some .boolean) :: ([])
def wsX4_comparing_r1 : List Cond := [Cond.fieldLink RX4 9 "MediaCatalog$RuleJudge" "files" "LMediaCatalog$FileTable;", Cond.methodLink RX4 51 yX5_at, Cond.instanceMethod yX5_at, Cond.selects RX5 yX5_at yX5_at, Cond.initialized RX5, Cond.code yX5_at cX5_at 2 (some .char), Cond.fieldLink RX5 15 "MediaCatalog$RuleText" "length" "I", Cond.fieldLink RX5 9 "MediaCatalog$RuleText" "characters" "[C", Cond.methodLink RX4 131 yX5_fieldNamed, Cond.static yX5_fieldNamed, Cond.code yX5_fieldNamed cX5_fieldNamed 1 (some .int), Cond.methodLink RX4 81 yX5_numberAt, Cond.instanceMethod yX5_numberAt, Cond.selects RX5 yX5_numberAt yX5_numberAt, Cond.code yX5_numberAt cX5_numberAt 4 (some .int), Cond.methodLink RX5 25 yX5_at, Cond.methodLink RX5 29 yX5_isDigit, Cond.static yX5_isDigit, Cond.code yX5_isDigit cX5_isDigit 1 (some .boolean), Cond.methodLink RX4 115 yX1_settledValue, Cond.instanceMethod yX1_settledValue, Cond.selects RX1 yX1_settledValue yX1_settledValue, Cond.initialized RX1, Cond.code yX1_settledValue cX1_settledValue 3 (some .int)]
def wsX4_comparing_r2 : List Cond := [Cond.fieldLink RX1 21 "MediaCatalog$FileTable" "settled" "[I", Cond.methodLink RX4 67 yX1_all, Cond.instanceMethod yX1_all, Cond.selects RX1 yX1_all yX1_all, Cond.code yX1_all cX1_all 1 (some .long), Cond.fieldLink RX1 31 "MediaCatalog$FileTable" "present" "J", Cond.static yX8_holds, Cond.initialized RX8, Cond.code yX8_holds cX8_holds 3 (some .boolean), Cond.methodLink RX4 135 yX4_agrees, Cond.static yX4_agrees, Cond.initialized RX4, Cond.code yX4_agrees cX4_agrees 3 (some .boolean), Cond.static yX8_only, Cond.code yX8_only cX8_only 1 (some .long)]
def wsX4_comparing : List Cond := .code yX4_comparing cX4_comparing 10 (some .long) :: ((wsX4_comparing_r1 ++ wsX4_comparing_r2) ++ wsX40 ++ wsX50 ++ wsX10)
def wsX4_condition_r1 : List Cond := [Cond.fieldLink RX4 19 "MediaCatalog$RuleJudge" "stacks" "LMediaCatalog$StackTable;", Cond.fieldLink RX4 15 "MediaCatalog$RuleJudge" "groups" "LMediaCatalog$GroupTable;", Cond.methodLink RX4 51 yX5_at, Cond.instanceMethod yX5_at, Cond.selects RX5 yX5_at yX5_at, Cond.initialized RX5, Cond.code yX5_at cX5_at 2 (some .char), Cond.fieldLink RX5 15 "MediaCatalog$RuleText" "length" "I", Cond.fieldLink RX5 9 "MediaCatalog$RuleText" "characters" "[C", Cond.methodLink RX4 81 yX5_numberAt, Cond.instanceMethod yX5_numberAt, Cond.selects RX5 yX5_numberAt yX5_numberAt, Cond.code yX5_numberAt cX5_numberAt 4 (some .int), Cond.methodLink RX5 25 yX5_at, Cond.methodLink RX5 29 yX5_isDigit, Cond.static yX5_isDigit, Cond.code yX5_isDigit cX5_isDigit 1 (some .boolean), Cond.methodLink RX4 85 yX4_tagged, Cond.instanceMethod yX4_tagged, Cond.selects RX4 yX4_tagged yX4_tagged, Cond.initialized RX4, Cond.code yX4_tagged cX4_tagged 5 (some .long), Cond.fieldLink RX4 9 "MediaCatalog$RuleJudge" "files" "LMediaCatalog$FileTable;", Cond.methodLink RX4 67 yX1_all]
def wsX4_condition_r2 : List Cond := [Cond.instanceMethod yX1_all, Cond.selects RX1 yX1_all yX1_all, Cond.initialized RX1, Cond.code yX1_all cX1_all 1 (some .long), Cond.fieldLink RX1 31 "MediaCatalog$FileTable" "present" "J", Cond.static yX8_holds, Cond.initialized RX8, Cond.code yX8_holds cX8_holds 3 (some .boolean), Cond.methodLink RX4 115 yX1_settledValue, Cond.instanceMethod yX1_settledValue, Cond.selects RX1 yX1_settledValue yX1_settledValue, Cond.code yX1_settledValue cX1_settledValue 3 (some .int), Cond.fieldLink RX1 21 "MediaCatalog$FileTable" "settled" "[I", Cond.static yX8_only, Cond.code yX8_only cX8_only 1 (some .long), Cond.methodLink RX4 89 yX4_membersOf, Cond.instanceMethod yX4_membersOf, Cond.selects RX4 yX4_membersOf yX4_membersOf, Cond.code yX4_membersOf cX4_membersOf 2 (some .long), Cond.fieldLink RX4 23 "MediaCatalog$RuleJudge" "albums" "[LMediaCatalog$Album;", Cond.static yX8_isWithin, Cond.code yX8_isWithin cX8_isWithin 3 (some .boolean), Cond.methodLink RX4 126 yX0_members, Cond.instanceMethod yX0_members]
def wsX4_condition_r3 : List Cond := [Cond.selects RX0 yX0_members yX0_members, Cond.initialized RX0, Cond.code yX0_members cX0_members 1 (some .long), Cond.fieldLink RX0 22 "MediaCatalog$Album" "members" "J", Cond.methodLink RX4 92 yX6_stacked, Cond.instanceMethod yX6_stacked, Cond.selects RX6 yX6_stacked yX6_stacked, Cond.initialized RX6, Cond.code yX6_stacked cX6_stacked 1 (some .long), Cond.fieldLink RX6 46 "MediaCatalog$StackTable" "stacked" "J", Cond.methodLink RX4 97 yX6_covers, Cond.instanceMethod yX6_covers, Cond.selects RX6 yX6_covers yX6_covers, Cond.code yX6_covers cX6_covers 1 (some .long), Cond.fieldLink RX6 50 "MediaCatalog$StackTable" "covers" "J", Cond.methodLink RX4 100 yX2_duplicates, Cond.instanceMethod yX2_duplicates, Cond.selects RX2 yX2_duplicates yX2_duplicates, Cond.initialized RX2, Cond.code yX2_duplicates cX2_duplicates 1 (some .long), Cond.fieldLink RX2 19 "MediaCatalog$GroupTable" "duplicates" "J", Cond.methodLink RX4 105 yX2_keepers, Cond.instanceMethod yX2_keepers, Cond.selects RX2 yX2_keepers yX2_keepers]
def wsX4_condition_r4 : List Cond := [Cond.code yX2_keepers cX2_keepers 1 (some .long), Cond.fieldLink RX2 15 "MediaCatalog$GroupTable" "keepers" "J", Cond.methodLink RX4 108 yX4_comparing, Cond.instanceMethod yX4_comparing, Cond.selects RX4 yX4_comparing yX4_comparing, Cond.code yX4_comparing cX4_comparing 10 (some .long), Cond.methodLink RX4 131 yX5_fieldNamed, Cond.static yX5_fieldNamed, Cond.code yX5_fieldNamed cX5_fieldNamed 1 (some .int), Cond.methodLink RX4 135 yX4_agrees, Cond.static yX4_agrees, Cond.code yX4_agrees cX4_agrees 3 (some .boolean)]
def wsX4_condition : List Cond := .code yX4_condition cX4_condition 3 (some .long) :: ((wsX4_condition_r1 ++ (wsX4_condition_r2 ++ (wsX4_condition_r3 ++ wsX4_condition_r4))) ++ wsX40 ++ wsX50 ++ wsX10 ++ wsX00 ++ wsX60 ++ wsX20)
def wsX4_take : List Cond := .code yX4_take cX4_take 3 none :: ([.fieldLink RX4 31 "MediaCatalog$RuleJudge" "running" "[J", .fieldLink RX4 38 "MediaCatalog$RuleJudge" "open" "I", .fieldLink RX4 34 "MediaCatalog$RuleJudge" "negated" "[Z", .constantLong RX4 79 (-1)] ++ wsX40)
def wsX4_openLevel : List Cond := .code yX4_openLevel cX4_openLevel 1 none :: ([.fieldLink RX4 38 "MediaCatalog$RuleJudge" "open" "I", .methodLink RX4 42 yX4_beginLevel, .instanceMethod yX4_beginLevel, .selects RX4 yX4_beginLevel yX4_beginLevel, .initialized RX4, .code yX4_beginLevel cX4_beginLevel 1 none, .fieldLink RX4 27 "MediaCatalog$RuleJudge" "ended" "[J", .fieldLink RX4 31 "MediaCatalog$RuleJudge" "running" "[J", .fieldLink RX4 9 "MediaCatalog$RuleJudge" "files" "LMediaCatalog$FileTable;", .fieldLink RX4 34 "MediaCatalog$RuleJudge" "negated" "[Z", .methodLink RX4 67 yX1_all, .instanceMethod yX1_all, .selects RX1 yX1_all yX1_all, .initialized RX1, .code yX1_all cX1_all 1 (some .long), .fieldLink RX1 31 "MediaCatalog$FileTable" "present" "J"] ++ wsX40 ++ wsX10)
def wsX4_closeLevel : List Cond := .code yX4_closeLevel cX4_closeLevel 3 none :: ([.fieldLink RX4 38 "MediaCatalog$RuleJudge" "open" "I", .fieldLink RX4 27 "MediaCatalog$RuleJudge" "ended" "[J", .fieldLink RX4 31 "MediaCatalog$RuleJudge" "running" "[J", .methodLink RX4 59 yX4_take, .instanceMethod yX4_take, .selects RX4 yX4_take yX4_take, .initialized RX4, .code yX4_take cX4_take 3 none, .fieldLink RX4 34 "MediaCatalog$RuleJudge" "negated" "[Z", .constantLong RX4 79 (-1)] ++ wsX40)
def wsX4_operate_r1 : List Cond := [Cond.fieldLink RX4 34 "MediaCatalog$RuleJudge" "negated" "[Z", Cond.fieldLink RX4 38 "MediaCatalog$RuleJudge" "open" "I", Cond.fieldLink RX4 27 "MediaCatalog$RuleJudge" "ended" "[J", Cond.fieldLink RX4 31 "MediaCatalog$RuleJudge" "running" "[J", Cond.fieldLink RX4 9 "MediaCatalog$RuleJudge" "files" "LMediaCatalog$FileTable;", Cond.methodLink RX4 67 yX1_all, Cond.instanceMethod yX1_all, Cond.selects RX1 yX1_all yX1_all, Cond.initialized RX1, Cond.code yX1_all cX1_all 1 (some .long), Cond.fieldLink RX1 31 "MediaCatalog$FileTable" "present" "J", Cond.methodLink RX4 73 yX4_openLevel, Cond.instanceMethod yX4_openLevel, Cond.selects RX4 yX4_openLevel yX4_openLevel, Cond.initialized RX4, Cond.code yX4_openLevel cX4_openLevel 1 none, Cond.methodLink RX4 42 yX4_beginLevel, Cond.instanceMethod yX4_beginLevel, Cond.selects RX4 yX4_beginLevel yX4_beginLevel, Cond.code yX4_beginLevel cX4_beginLevel 1 none, Cond.methodLink RX4 76 yX4_closeLevel, Cond.instanceMethod yX4_closeLevel, Cond.selects RX4 yX4_closeLevel yX4_closeLevel, Cond.code yX4_closeLevel cX4_closeLevel 3 none]
def wsX4_operate_r2 : List Cond := [Cond.methodLink RX4 59 yX4_take, Cond.instanceMethod yX4_take, Cond.selects RX4 yX4_take yX4_take, Cond.code yX4_take cX4_take 3 none, Cond.constantLong RX4 79 (-1)]
def wsX4_operate : List Cond := .code yX4_operate cX4_operate 2 none :: ((wsX4_operate_r1 ++ wsX4_operate_r2) ++ wsX40 ++ wsX10)
def wsX4_filesFor_r1 : List Cond := [Cond.fieldLink RX4 38 "MediaCatalog$RuleJudge" "open" "I", Cond.fieldLink RX4 27 "MediaCatalog$RuleJudge" "ended" "[J", Cond.fieldLink RX4 31 "MediaCatalog$RuleJudge" "running" "[J", Cond.methodLink RX4 42 yX4_beginLevel, Cond.instanceMethod yX4_beginLevel, Cond.selects RX4 yX4_beginLevel yX4_beginLevel, Cond.initialized RX4, Cond.code yX4_beginLevel cX4_beginLevel 1 none, Cond.fieldLink RX4 9 "MediaCatalog$RuleJudge" "files" "LMediaCatalog$FileTable;", Cond.fieldLink RX4 34 "MediaCatalog$RuleJudge" "negated" "[Z", Cond.methodLink RX4 67 yX1_all, Cond.instanceMethod yX1_all, Cond.selects RX1 yX1_all yX1_all, Cond.initialized RX1, Cond.code yX1_all cX1_all 1 (some .long), Cond.fieldLink RX1 31 "MediaCatalog$FileTable" "present" "J", Cond.methodLink RX4 45 yX5_length, Cond.instanceMethod yX5_length, Cond.selects RX5 yX5_length yX5_length, Cond.initialized RX5, Cond.code yX5_length cX5_length 1 (some .int), Cond.fieldLink RX5 15 "MediaCatalog$RuleText" "length" "I", Cond.methodLink RX4 51 yX5_at, Cond.instanceMethod yX5_at]
def wsX4_filesFor_r2 : List Cond := [Cond.selects RX5 yX5_at yX5_at, Cond.code yX5_at cX5_at 2 (some .char), Cond.fieldLink RX5 9 "MediaCatalog$RuleText" "characters" "[C", Cond.methodLink RX4 55 yX4_condition, Cond.instanceMethod yX4_condition, Cond.selects RX4 yX4_condition yX4_condition, Cond.code yX4_condition cX4_condition 3 (some .long), Cond.fieldLink RX4 19 "MediaCatalog$RuleJudge" "stacks" "LMediaCatalog$StackTable;", Cond.fieldLink RX4 15 "MediaCatalog$RuleJudge" "groups" "LMediaCatalog$GroupTable;", Cond.methodLink RX4 81 yX5_numberAt, Cond.instanceMethod yX5_numberAt, Cond.selects RX5 yX5_numberAt yX5_numberAt, Cond.code yX5_numberAt cX5_numberAt 4 (some .int), Cond.methodLink RX5 25 yX5_at, Cond.methodLink RX5 29 yX5_isDigit, Cond.static yX5_isDigit, Cond.code yX5_isDigit cX5_isDigit 1 (some .boolean), Cond.methodLink RX4 85 yX4_tagged, Cond.instanceMethod yX4_tagged, Cond.selects RX4 yX4_tagged yX4_tagged, Cond.code yX4_tagged cX4_tagged 5 (some .long), Cond.static yX8_holds, Cond.initialized RX8, Cond.code yX8_holds cX8_holds 3 (some .boolean)]
def wsX4_filesFor_r3 : List Cond := [Cond.methodLink RX4 115 yX1_settledValue, Cond.instanceMethod yX1_settledValue, Cond.selects RX1 yX1_settledValue yX1_settledValue, Cond.code yX1_settledValue cX1_settledValue 3 (some .int), Cond.fieldLink RX1 21 "MediaCatalog$FileTable" "settled" "[I", Cond.static yX8_only, Cond.code yX8_only cX8_only 1 (some .long), Cond.methodLink RX4 89 yX4_membersOf, Cond.instanceMethod yX4_membersOf, Cond.selects RX4 yX4_membersOf yX4_membersOf, Cond.code yX4_membersOf cX4_membersOf 2 (some .long), Cond.fieldLink RX4 23 "MediaCatalog$RuleJudge" "albums" "[LMediaCatalog$Album;", Cond.static yX8_isWithin, Cond.code yX8_isWithin cX8_isWithin 3 (some .boolean), Cond.methodLink RX4 126 yX0_members, Cond.instanceMethod yX0_members, Cond.selects RX0 yX0_members yX0_members, Cond.initialized RX0, Cond.code yX0_members cX0_members 1 (some .long), Cond.fieldLink RX0 22 "MediaCatalog$Album" "members" "J", Cond.methodLink RX4 92 yX6_stacked, Cond.instanceMethod yX6_stacked, Cond.selects RX6 yX6_stacked yX6_stacked, Cond.initialized RX6]
def wsX4_filesFor_r4 : List Cond := [Cond.code yX6_stacked cX6_stacked 1 (some .long), Cond.fieldLink RX6 46 "MediaCatalog$StackTable" "stacked" "J", Cond.methodLink RX4 97 yX6_covers, Cond.instanceMethod yX6_covers, Cond.selects RX6 yX6_covers yX6_covers, Cond.code yX6_covers cX6_covers 1 (some .long), Cond.fieldLink RX6 50 "MediaCatalog$StackTable" "covers" "J", Cond.methodLink RX4 100 yX2_duplicates, Cond.instanceMethod yX2_duplicates, Cond.selects RX2 yX2_duplicates yX2_duplicates, Cond.initialized RX2, Cond.code yX2_duplicates cX2_duplicates 1 (some .long), Cond.fieldLink RX2 19 "MediaCatalog$GroupTable" "duplicates" "J", Cond.methodLink RX4 105 yX2_keepers, Cond.instanceMethod yX2_keepers, Cond.selects RX2 yX2_keepers yX2_keepers, Cond.code yX2_keepers cX2_keepers 1 (some .long), Cond.fieldLink RX2 15 "MediaCatalog$GroupTable" "keepers" "J", Cond.methodLink RX4 108 yX4_comparing, Cond.instanceMethod yX4_comparing, Cond.selects RX4 yX4_comparing yX4_comparing, Cond.code yX4_comparing cX4_comparing 10 (some .long), Cond.methodLink RX4 131 yX5_fieldNamed, Cond.static yX5_fieldNamed]
def wsX4_filesFor_r5 : List Cond := [Cond.code yX5_fieldNamed cX5_fieldNamed 1 (some .int), Cond.methodLink RX4 135 yX4_agrees, Cond.static yX4_agrees, Cond.code yX4_agrees cX4_agrees 3 (some .boolean), Cond.methodLink RX4 59 yX4_take, Cond.instanceMethod yX4_take, Cond.selects RX4 yX4_take yX4_take, Cond.code yX4_take cX4_take 3 none, Cond.constantLong RX4 79 (-1), Cond.methodLink RX4 63 yX4_operate, Cond.instanceMethod yX4_operate, Cond.selects RX4 yX4_operate yX4_operate, Cond.code yX4_operate cX4_operate 2 none, Cond.methodLink RX4 73 yX4_openLevel, Cond.instanceMethod yX4_openLevel, Cond.selects RX4 yX4_openLevel yX4_openLevel, Cond.code yX4_openLevel cX4_openLevel 1 none, Cond.methodLink RX4 76 yX4_closeLevel, Cond.instanceMethod yX4_closeLevel, Cond.selects RX4 yX4_closeLevel yX4_closeLevel, Cond.code yX4_closeLevel cX4_closeLevel 3 none]
def wsX4_filesFor : List Cond := .code yX4_filesFor cX4_filesFor 4 (some .long) :: ((wsX4_filesFor_r1 ++ (wsX4_filesFor_r2 ++ (wsX4_filesFor_r3 ++ (wsX4_filesFor_r4 ++ wsX4_filesFor_r5)))) ++ wsX40 ++ wsX10 ++ wsX50 ++ wsX00 ++ wsX60 ++ wsX20)
def wsX5_append : List Cond := .code yX5_append cX5_append 2 none :: ([.fieldLink RX5 15 "MediaCatalog$RuleText" "length" "I", .fieldLink RX5 9 "MediaCatalog$RuleText" "characters" "[C"] ++ wsX50)
def wsX5_empty : List Cond := .code yX5_empty cX5_empty 1 none :: ([.fieldLink RX5 15 "MediaCatalog$RuleText" "length" "I"] ++ wsX50)
def wsX5_names : List Cond := .code yX5_names cX5_names 3 (some .boolean) :: ([.fieldLink RX5 15 "MediaCatalog$RuleText" "length" "I", .methodLink RX5 25 yX5_at, .instanceMethod yX5_at, .selects RX5 yX5_at yX5_at, .initialized RX5, .code yX5_at cX5_at 2 (some .char), .fieldLink RX5 9 "MediaCatalog$RuleText" "characters" "[C"] ++ wsX50)
def wsX5_inItem : List Cond := .code yX5_inItem cX5_inItem 2 (some .int) :: ([.methodLink RX5 51 yX5_fieldNamed, .static yX5_fieldNamed, .initialized RX5, .code yX5_fieldNamed cX5_fieldNamed 1 (some .int)])
def wsX5_afterField : List Cond := .code yX5_afterField cX5_afterField 1 (some .int) :: ([])
def wsX5_afterItem : List Cond := .code yX5_afterItem cX5_afterItem 2 (some .int) :: ([])
def wsX5_inNumber : List Cond := .code yX5_inNumber cX5_inNumber 4 (some .int) :: ([.methodLink RX5 29 yX5_isDigit, .static yX5_isDigit, .initialized RX5, .code yX5_isDigit cX5_isDigit 1 (some .boolean), .methodLink RX5 45 yX5_afterItem, .static yX5_afterItem, .code yX5_afterItem cX5_afterItem 2 (some .int)])
def wsX5_next : List Cond := .code yX5_next cX5_next 3 (some .int) :: ([.methodLink RX5 37 yX5_inItem, .static yX5_inItem, .initialized RX5, .code yX5_inItem cX5_inItem 2 (some .int), .methodLink RX5 51 yX5_fieldNamed, .static yX5_fieldNamed, .code yX5_fieldNamed cX5_fieldNamed 1 (some .int), .methodLink RX5 41 yX5_afterField, .static yX5_afterField, .code yX5_afterField cX5_afterField 1 (some .int), .methodLink RX5 29 yX5_isDigit, .static yX5_isDigit, .code yX5_isDigit cX5_isDigit 1 (some .boolean), .methodLink RX5 45 yX5_afterItem, .static yX5_afterItem, .code yX5_afterItem cX5_afterItem 2 (some .int), .methodLink RX5 48 yX5_inNumber, .static yX5_inNumber, .code yX5_inNumber cX5_inNumber 4 (some .int)])
def wsX5_firstFault : List Cond := .code yX5_firstFault cX5_firstFault 5 (some .int) :: ([.fieldLink RX5 15 "MediaCatalog$RuleText" "length" "I", .fieldLink RX5 9 "MediaCatalog$RuleText" "characters" "[C", .methodLink RX5 33 yX5_next, .static yX5_next, .initialized RX5, .code yX5_next cX5_next 3 (some .int), .methodLink RX5 37 yX5_inItem, .static yX5_inItem, .code yX5_inItem cX5_inItem 2 (some .int), .methodLink RX5 51 yX5_fieldNamed, .static yX5_fieldNamed, .code yX5_fieldNamed cX5_fieldNamed 1 (some .int), .methodLink RX5 41 yX5_afterField, .static yX5_afterField, .code yX5_afterField cX5_afterField 1 (some .int), .methodLink RX5 29 yX5_isDigit, .static yX5_isDigit, .code yX5_isDigit cX5_isDigit 1 (some .boolean), .methodLink RX5 45 yX5_afterItem, .static yX5_afterItem, .code yX5_afterItem cX5_afterItem 2 (some .int), .methodLink RX5 48 yX5_inNumber, .static yX5_inNumber, .code yX5_inNumber cX5_inNumber 4 (some .int)] ++ wsX50)
def wsJ7_fill_53178 : List Cond := .code yJ7_fill_53178 cJ7_fill_53178 4 none :: ([])
def wsX6_init : List Cond := .code yX6_init cX6_init 2 none :: ([.methodLink RX6 3 objectInit, .instanceMethod objectInit, .code objectInit ⟨#[0xb1]⟩ 1 none, .fieldLink RX6 9 "MediaCatalog$StackTable" "files" "LMediaCatalog$FileTable;", .arrayClass .int, .fieldLink RX6 15 "MediaCatalog$StackTable" "places" "[I", .fieldLink RX6 19 "MediaCatalog$StackTable" "heights" "[I", .fieldLink RX6 22 "MediaCatalog$StackTable" "chosen" "[I", .arrayClass .boolean, .fieldLink RX6 25 "MediaCatalog$StackTable" "collapsed" "[Z", .fieldLink RX6 29 "MediaCatalog$StackTable" "homes" "[I", .methodLink RX6 32 yJ7_fill_53178, .static yJ7_fill_53178, .initialized RJ7, .code yJ7_fill_53178 cJ7_fill_53178 4 none] ++ wsX60)
def wsX6_has : List Cond := .code yX6_has cX6_has 2 (some .boolean) :: ([.fieldLink RX6 19 "MediaCatalog$StackTable" "heights" "[I", .static yX8_isWithin, .initialized RX8, .code yX8_isWithin cX8_isWithin 3 (some .boolean)] ++ wsX60)
def wsX6_howMany : List Cond := .code yX6_howMany cX6_howMany 3 (some .int) :: ([.methodLink RX6 42 yX6_has, .instanceMethod yX6_has, .selects RX6 yX6_has yX6_has, .initialized RX6, .code yX6_has cX6_has 2 (some .boolean), .fieldLink RX6 19 "MediaCatalog$StackTable" "heights" "[I", .static yX8_isWithin, .initialized RX8, .code yX8_isWithin cX8_isWithin 3 (some .boolean)] ++ wsX60)
def wsX6_freeNumber : List Cond := .code yX6_freeNumber cX6_freeNumber 2 (some .int) :: ([.methodLink RX6 42 yX6_has, .instanceMethod yX6_has, .selects RX6 yX6_has yX6_has, .initialized RX6, .code yX6_has cX6_has 2 (some .boolean), .fieldLink RX6 19 "MediaCatalog$StackTable" "heights" "[I", .static yX8_isWithin, .initialized RX8, .code yX8_isWithin cX8_isWithin 3 (some .boolean)] ++ wsX60)
def wsX6_home : List Cond := .code yX6_home cX6_home 2 (some .int) :: ([.fieldLink RX6 29 "MediaCatalog$StackTable" "homes" "[I"] ++ wsX60)
def wsX6_height : List Cond := .code yX6_height cX6_height 2 (some .int) :: ([.fieldLink RX6 19 "MediaCatalog$StackTable" "heights" "[I"] ++ wsX60)
def wsX6_isCollapsed : List Cond := .code yX6_isCollapsed cX6_isCollapsed 2 (some .boolean) :: ([.fieldLink RX6 25 "MediaCatalog$StackTable" "collapsed" "[Z"] ++ wsX60)
def wsX6_fold : List Cond := .code yX6_fold cX6_fold 3 none :: ([.fieldLink RX6 25 "MediaCatalog$StackTable" "collapsed" "[Z"] ++ wsX60)
def wsX6_choose : List Cond := .code yX6_choose cX6_choose 3 none :: ([.fieldLink RX6 22 "MediaCatalog$StackTable" "chosen" "[I"] ++ wsX60)
def wsX6_spot : List Cond := .code yX6_spot cX6_spot 2 (some .int) :: ([])
def wsX6_insert : List Cond := .code yX6_insert cX6_insert 5 none :: ([.fieldLink RX6 19 "MediaCatalog$StackTable" "heights" "[I", .fieldLink RX6 15 "MediaCatalog$StackTable" "places" "[I", .fieldLink RX6 29 "MediaCatalog$StackTable" "homes" "[I", .fieldLink RX6 46 "MediaCatalog$StackTable" "stacked" "J", .methodLink RX6 57 yX6_spot, .static yX6_spot, .initialized RX6, .code yX6_spot cX6_spot 2 (some .int), .static yX8_only, .initialized RX8, .code yX8_only cX8_only 1 (some .long)] ++ wsX60)
def wsX6_begin : List Cond := .code yX6_begin cX6_begin 4 none :: ([.fieldLink RX6 22 "MediaCatalog$StackTable" "chosen" "[I", .fieldLink RX6 25 "MediaCatalog$StackTable" "collapsed" "[Z", .methodLink RX6 53 yX6_insert, .instanceMethod yX6_insert, .selects RX6 yX6_insert yX6_insert, .initialized RX6, .code yX6_insert cX6_insert 5 none, .fieldLink RX6 19 "MediaCatalog$StackTable" "heights" "[I", .fieldLink RX6 15 "MediaCatalog$StackTable" "places" "[I", .fieldLink RX6 29 "MediaCatalog$StackTable" "homes" "[I", .fieldLink RX6 46 "MediaCatalog$StackTable" "stacked" "J", .methodLink RX6 57 yX6_spot, .static yX6_spot, .code yX6_spot cX6_spot 2 (some .int), .static yX8_only, .initialized RX8, .code yX8_only cX8_only 1 (some .long)] ++ wsX60)
def wsX6_closeGap : List Cond := .code yX6_closeGap cX6_closeGap 6 none :: ([.fieldLink RX6 19 "MediaCatalog$StackTable" "heights" "[I", .fieldLink RX6 15 "MediaCatalog$StackTable" "places" "[I", .methodLink RX6 57 yX6_spot, .static yX6_spot, .initialized RX6, .code yX6_spot cX6_spot 2 (some .int)] ++ wsX60)
def wsX6_leave : List Cond := .code yX6_leave cX6_leave 2 none :: ([.fieldLink RX6 29 "MediaCatalog$StackTable" "homes" "[I", .fieldLink RX6 46 "MediaCatalog$StackTable" "stacked" "J", .constantLong RX6 73 (-1), .static yX8_only, .initialized RX8, .code yX8_only cX8_only 1 (some .long)] ++ wsX60)
def wsX6_release : List Cond := .code yX6_release cX6_release 3 none :: ([.fieldLink RX6 29 "MediaCatalog$StackTable" "homes" "[I", .fieldLink RX6 22 "MediaCatalog$StackTable" "chosen" "[I", .fieldLink RX6 19 "MediaCatalog$StackTable" "heights" "[I", .fieldLink RX6 15 "MediaCatalog$StackTable" "places" "[I", .methodLink RX6 65 yX6_closeGap, .instanceMethod yX6_closeGap, .selects RX6 yX6_closeGap yX6_closeGap, .initialized RX6, .code yX6_closeGap cX6_closeGap 6 none, .methodLink RX6 57 yX6_spot, .static yX6_spot, .code yX6_spot cX6_spot 2 (some .int), .methodLink RX6 69 yX6_leave, .instanceMethod yX6_leave, .selects RX6 yX6_leave yX6_leave, .code yX6_leave cX6_leave 2 none, .fieldLink RX6 46 "MediaCatalog$StackTable" "stacked" "J", .constantLong RX6 73 (-1), .static yX8_only, .initialized RX8, .code yX8_only cX8_only 1 (some .long)] ++ wsX60)
def wsX6_fileAt : List Cond := .code yX6_fileAt cX6_fileAt 3 (some .int) :: ([.fieldLink RX6 19 "MediaCatalog$StackTable" "heights" "[I", .fieldLink RX6 15 "MediaCatalog$StackTable" "places" "[I", .methodLink RX6 57 yX6_spot, .static yX6_spot, .initialized RX6, .code yX6_spot cX6_spot 2 (some .int)] ++ wsX60)
def wsX6_cover : List Cond := .code yX6_cover cX6_cover 5 (some .int) :: ([.fieldLink RX6 22 "MediaCatalog$StackTable" "chosen" "[I", .fieldLink RX6 15 "MediaCatalog$StackTable" "places" "[I", .fieldLink RX6 19 "MediaCatalog$StackTable" "heights" "[I", .fieldLink RX6 9 "MediaCatalog$StackTable" "files" "LMediaCatalog$FileTable;", .methodLink RX6 57 yX6_spot, .static yX6_spot, .initialized RX6, .code yX6_spot cX6_spot 2 (some .int), .methodLink RX6 75 yX1_settledValue, .instanceMethod yX1_settledValue, .selects RX1 yX1_settledValue yX1_settledValue, .initialized RX1, .code yX1_settledValue cX1_settledValue 3 (some .int), .fieldLink RX1 21 "MediaCatalog$FileTable" "settled" "[I"] ++ wsX60 ++ wsX10)
def wsX6_findCovers_r1 : List Cond := [Cond.fieldLink RX6 50 "MediaCatalog$StackTable" "covers" "J", Cond.methodLink RX6 42 yX6_has, Cond.instanceMethod yX6_has, Cond.selects RX6 yX6_has yX6_has, Cond.initialized RX6, Cond.code yX6_has cX6_has 2 (some .boolean), Cond.fieldLink RX6 19 "MediaCatalog$StackTable" "heights" "[I", Cond.static yX8_isWithin, Cond.initialized RX8, Cond.code yX8_isWithin cX8_isWithin 3 (some .boolean), Cond.methodLink RX6 80 yX6_cover, Cond.instanceMethod yX6_cover, Cond.selects RX6 yX6_cover yX6_cover, Cond.code yX6_cover cX6_cover 5 (some .int), Cond.fieldLink RX6 22 "MediaCatalog$StackTable" "chosen" "[I", Cond.fieldLink RX6 15 "MediaCatalog$StackTable" "places" "[I", Cond.fieldLink RX6 9 "MediaCatalog$StackTable" "files" "LMediaCatalog$FileTable;", Cond.methodLink RX6 57 yX6_spot, Cond.static yX6_spot, Cond.code yX6_spot cX6_spot 2 (some .int), Cond.methodLink RX6 75 yX1_settledValue, Cond.instanceMethod yX1_settledValue, Cond.selects RX1 yX1_settledValue yX1_settledValue, Cond.initialized RX1]
def wsX6_findCovers_r2 : List Cond := [Cond.code yX1_settledValue cX1_settledValue 3 (some .int), Cond.fieldLink RX1 21 "MediaCatalog$FileTable" "settled" "[I", Cond.static yX8_only, Cond.code yX8_only cX8_only 1 (some .long)]
def wsX6_findCovers : List Cond := .code yX6_findCovers cX6_findCovers 2 none :: ((wsX6_findCovers_r1 ++ wsX6_findCovers_r2) ++ wsX60 ++ wsX10)
def wsX6_withoutHidden : List Cond := .code yX6_withoutHidden cX6_withoutHidden 9 (some .long) :: ([.fieldLink RX6 19 "MediaCatalog$StackTable" "heights" "[I", .fieldLink RX6 15 "MediaCatalog$StackTable" "places" "[I", .constantLong RX6 73 (-1), .methodLink RX6 57 yX6_spot, .static yX6_spot, .initialized RX6, .code yX6_spot cX6_spot 2 (some .int), .static yX8_holds, .initialized RX8, .code yX8_holds cX8_holds 3 (some .boolean), .static yX8_only, .code yX8_only cX8_only 1 (some .long), .methodLink RX6 80 yX6_cover, .instanceMethod yX6_cover, .selects RX6 yX6_cover yX6_cover, .code yX6_cover cX6_cover 5 (some .int), .fieldLink RX6 22 "MediaCatalog$StackTable" "chosen" "[I", .fieldLink RX6 9 "MediaCatalog$StackTable" "files" "LMediaCatalog$FileTable;", .methodLink RX6 75 yX1_settledValue, .instanceMethod yX1_settledValue, .selects RX1 yX1_settledValue yX1_settledValue, .initialized RX1, .code yX1_settledValue cX1_settledValue 3 (some .int), .fieldLink RX1 21 "MediaCatalog$FileTable" "settled" "[I"] ++ wsX60 ++ wsX10)
def wsX7_init : List Cond := .code yX7_init cX7_init 3 none :: ([.methodLink RX7 3 objectInit, .instanceMethod objectInit, .code objectInit ⟨#[0xb1]⟩ 1 none, .fieldLink RX7 9 "MediaCatalog$View" "files" "LMediaCatalog$FileTable;", .fieldLink RX7 15 "MediaCatalog$View" "stacks" "LMediaCatalog$StackTable;"] ++ wsX70)
def wsX7_shown_r1 : List Cond := [Cond.fieldLink RX7 15 "MediaCatalog$View" "stacks" "LMediaCatalog$StackTable;", Cond.methodLink RX7 19 yX0_members, Cond.instanceMethod yX0_members, Cond.selects RX0 yX0_members yX0_members, Cond.initialized RX0, Cond.code yX0_members cX0_members 1 (some .long), Cond.fieldLink RX0 22 "MediaCatalog$Album" "members" "J", Cond.methodLink RX7 25 yX6_has, Cond.instanceMethod yX6_has, Cond.selects RX6 yX6_has yX6_has, Cond.initialized RX6, Cond.code yX6_has cX6_has 2 (some .boolean), Cond.fieldLink RX6 19 "MediaCatalog$StackTable" "heights" "[I", Cond.static yX8_isWithin, Cond.initialized RX8, Cond.code yX8_isWithin cX8_isWithin 3 (some .boolean), Cond.methodLink RX7 31 yX6_isCollapsed, Cond.instanceMethod yX6_isCollapsed, Cond.selects RX6 yX6_isCollapsed yX6_isCollapsed, Cond.code yX6_isCollapsed cX6_isCollapsed 2 (some .boolean), Cond.fieldLink RX6 25 "MediaCatalog$StackTable" "collapsed" "[Z", Cond.methodLink RX7 34 yX6_withoutHidden, Cond.instanceMethod yX6_withoutHidden, Cond.selects RX6 yX6_withoutHidden yX6_withoutHidden]
def wsX7_shown_r2 : List Cond := [Cond.code yX6_withoutHidden cX6_withoutHidden 9 (some .long), Cond.fieldLink RX6 15 "MediaCatalog$StackTable" "places" "[I", Cond.constantLong RX6 73 (-1), Cond.methodLink RX6 57 yX6_spot, Cond.static yX6_spot, Cond.code yX6_spot cX6_spot 2 (some .int), Cond.static yX8_holds, Cond.code yX8_holds cX8_holds 3 (some .boolean), Cond.static yX8_only, Cond.code yX8_only cX8_only 1 (some .long), Cond.methodLink RX6 80 yX6_cover, Cond.instanceMethod yX6_cover, Cond.selects RX6 yX6_cover yX6_cover, Cond.code yX6_cover cX6_cover 5 (some .int), Cond.fieldLink RX6 22 "MediaCatalog$StackTable" "chosen" "[I", Cond.fieldLink RX6 9 "MediaCatalog$StackTable" "files" "LMediaCatalog$FileTable;", Cond.methodLink RX6 75 yX1_settledValue, Cond.instanceMethod yX1_settledValue, Cond.selects RX1 yX1_settledValue yX1_settledValue, Cond.initialized RX1, Cond.code yX1_settledValue cX1_settledValue 3 (some .int), Cond.fieldLink RX1 21 "MediaCatalog$FileTable" "settled" "[I"]
def wsX7_shown : List Cond := .code yX7_shown cX7_shown 5 (some .long) :: ((wsX7_shown_r1 ++ wsX7_shown_r2) ++ wsX70 ++ wsX00 ++ wsX60 ++ wsX10)
def wsX7_comesBefore : List Cond := .code yX7_comesBefore cX7_comesBefore 6 (some .boolean) :: ([.fieldLink RX7 9 "MediaCatalog$View" "files" "LMediaCatalog$FileTable;", .methodLink RX7 54 yX0_sortField, .instanceMethod yX0_sortField, .selects RX0 yX0_sortField yX0_sortField, .initialized RX0, .code yX0_sortField cX0_sortField 1 (some .int), .fieldLink RX0 33 "MediaCatalog$Album" "sortField" "I", .methodLink RX7 58 yX1_settledValue, .instanceMethod yX1_settledValue, .selects RX1 yX1_settledValue yX1_settledValue, .initialized RX1, .code yX1_settledValue cX1_settledValue 3 (some .int), .fieldLink RX1 21 "MediaCatalog$FileTable" "settled" "[I", .methodLink RX7 64 yX0_isDescending, .instanceMethod yX0_isDescending, .selects RX0 yX0_isDescending yX0_isDescending, .code yX0_isDescending cX0_isDescending 1 (some .boolean), .fieldLink RX0 36 "MediaCatalog$Album" "descending" "Z"] ++ wsX70 ++ wsX00 ++ wsX10)
def wsX7_placeOf_r1 : List Cond := [Cond.static yX8_holds, Cond.initialized RX8, Cond.code yX8_holds cX8_holds 3 (some .boolean), Cond.methodLink RX7 50 yX7_comesBefore, Cond.instanceMethod yX7_comesBefore, Cond.selects RX7 yX7_comesBefore yX7_comesBefore, Cond.initialized RX7, Cond.code yX7_comesBefore cX7_comesBefore 6 (some .boolean), Cond.fieldLink RX7 9 "MediaCatalog$View" "files" "LMediaCatalog$FileTable;", Cond.methodLink RX7 54 yX0_sortField, Cond.instanceMethod yX0_sortField, Cond.selects RX0 yX0_sortField yX0_sortField, Cond.initialized RX0, Cond.code yX0_sortField cX0_sortField 1 (some .int), Cond.fieldLink RX0 33 "MediaCatalog$Album" "sortField" "I", Cond.methodLink RX7 58 yX1_settledValue, Cond.instanceMethod yX1_settledValue, Cond.selects RX1 yX1_settledValue yX1_settledValue, Cond.initialized RX1, Cond.code yX1_settledValue cX1_settledValue 3 (some .int), Cond.fieldLink RX1 21 "MediaCatalog$FileTable" "settled" "[I", Cond.methodLink RX7 64 yX0_isDescending, Cond.instanceMethod yX0_isDescending, Cond.selects RX0 yX0_isDescending yX0_isDescending]
def wsX7_placeOf_r2 : List Cond := [Cond.code yX0_isDescending cX0_isDescending 1 (some .boolean), Cond.fieldLink RX0 36 "MediaCatalog$Album" "descending" "Z"]
def wsX7_placeOf : List Cond := .code yX7_placeOf cX7_placeOf 7 (some .int) :: ((wsX7_placeOf_r1 ++ wsX7_placeOf_r2) ++ wsX70 ++ wsX00 ++ wsX10)
def wsX7_fileAt_r1 : List Cond := [Cond.methodLink RX7 38 yX7_shown, Cond.instanceMethod yX7_shown, Cond.selects RX7 yX7_shown yX7_shown, Cond.initialized RX7, Cond.code yX7_shown cX7_shown 5 (some .long), Cond.fieldLink RX7 15 "MediaCatalog$View" "stacks" "LMediaCatalog$StackTable;", Cond.methodLink RX7 19 yX0_members, Cond.instanceMethod yX0_members, Cond.selects RX0 yX0_members yX0_members, Cond.initialized RX0, Cond.code yX0_members cX0_members 1 (some .long), Cond.fieldLink RX0 22 "MediaCatalog$Album" "members" "J", Cond.methodLink RX7 25 yX6_has, Cond.instanceMethod yX6_has, Cond.selects RX6 yX6_has yX6_has, Cond.initialized RX6, Cond.code yX6_has cX6_has 2 (some .boolean), Cond.fieldLink RX6 19 "MediaCatalog$StackTable" "heights" "[I", Cond.static yX8_isWithin, Cond.initialized RX8, Cond.code yX8_isWithin cX8_isWithin 3 (some .boolean), Cond.methodLink RX7 31 yX6_isCollapsed, Cond.instanceMethod yX6_isCollapsed, Cond.selects RX6 yX6_isCollapsed yX6_isCollapsed]
def wsX7_fileAt_r2 : List Cond := [Cond.code yX6_isCollapsed cX6_isCollapsed 2 (some .boolean), Cond.fieldLink RX6 25 "MediaCatalog$StackTable" "collapsed" "[Z", Cond.methodLink RX7 34 yX6_withoutHidden, Cond.instanceMethod yX6_withoutHidden, Cond.selects RX6 yX6_withoutHidden yX6_withoutHidden, Cond.code yX6_withoutHidden cX6_withoutHidden 9 (some .long), Cond.fieldLink RX6 15 "MediaCatalog$StackTable" "places" "[I", Cond.constantLong RX6 73 (-1), Cond.methodLink RX6 57 yX6_spot, Cond.static yX6_spot, Cond.code yX6_spot cX6_spot 2 (some .int), Cond.static yX8_holds, Cond.code yX8_holds cX8_holds 3 (some .boolean), Cond.static yX8_only, Cond.code yX8_only cX8_only 1 (some .long), Cond.methodLink RX6 80 yX6_cover, Cond.instanceMethod yX6_cover, Cond.selects RX6 yX6_cover yX6_cover, Cond.code yX6_cover cX6_cover 5 (some .int), Cond.fieldLink RX6 22 "MediaCatalog$StackTable" "chosen" "[I", Cond.fieldLink RX6 9 "MediaCatalog$StackTable" "files" "LMediaCatalog$FileTable;", Cond.methodLink RX6 75 yX1_settledValue, Cond.instanceMethod yX1_settledValue, Cond.selects RX1 yX1_settledValue yX1_settledValue]
def wsX7_fileAt_r3 : List Cond := [Cond.initialized RX1, Cond.code yX1_settledValue cX1_settledValue 3 (some .int), Cond.fieldLink RX1 21 "MediaCatalog$FileTable" "settled" "[I", Cond.methodLink RX7 46 yX7_placeOf, Cond.instanceMethod yX7_placeOf, Cond.selects RX7 yX7_placeOf yX7_placeOf, Cond.code yX7_placeOf cX7_placeOf 7 (some .int), Cond.methodLink RX7 50 yX7_comesBefore, Cond.instanceMethod yX7_comesBefore, Cond.selects RX7 yX7_comesBefore yX7_comesBefore, Cond.code yX7_comesBefore cX7_comesBefore 6 (some .boolean), Cond.fieldLink RX7 9 "MediaCatalog$View" "files" "LMediaCatalog$FileTable;", Cond.methodLink RX7 54 yX0_sortField, Cond.instanceMethod yX0_sortField, Cond.selects RX0 yX0_sortField yX0_sortField, Cond.code yX0_sortField cX0_sortField 1 (some .int), Cond.fieldLink RX0 33 "MediaCatalog$Album" "sortField" "I", Cond.methodLink RX7 58 yX1_settledValue, Cond.methodLink RX7 64 yX0_isDescending, Cond.instanceMethod yX0_isDescending, Cond.selects RX0 yX0_isDescending yX0_isDescending, Cond.code yX0_isDescending cX0_isDescending 1 (some .boolean), Cond.fieldLink RX0 36 "MediaCatalog$Album" "descending" "Z"]
def wsX7_fileAt : List Cond := .code yX7_fileAt cX7_fileAt 6 (some .int) :: ((wsX7_fileAt_r1 ++ (wsX7_fileAt_r2 ++ wsX7_fileAt_r3)) ++ wsX70 ++ wsX00 ++ wsX60 ++ wsX10)
def wsX8_init_r1 : List Cond := [Cond.methodLink RX8 1 objectInit, Cond.instanceMethod objectInit, Cond.code objectInit ⟨#[0xb1]⟩ 1 none, Cond.classLink RX8 7 RX1, Cond.instantiable RX1 6, Cond.initialized RX1, Cond.fieldLink RX8 10 "MediaCatalog" "files" "LMediaCatalog$FileTable;", Cond.classLink RX8 16 RX2, Cond.instantiable RX2 3, Cond.initialized RX2, Cond.fieldLink RX8 21 "MediaCatalog" "groups" "LMediaCatalog$GroupTable;", Cond.classLink RX8 25 RX6, Cond.instantiable RX6 8, Cond.initialized RX6, Cond.fieldLink RX8 28 "MediaCatalog" "stacks" "LMediaCatalog$StackTable;", Cond.classLink RX8 32 RX5, Cond.instantiable RX5 2, Cond.initialized RX5, Cond.fieldLink RX8 35 "MediaCatalog" "text" "LMediaCatalog$RuleText;", Cond.classLink RX8 39 RX0, Cond.fieldLink RX8 41 "MediaCatalog" "albums" "[LMediaCatalog$Album;", Cond.instantiable RX0 7, Cond.initialized RX0, Cond.classLink RX8 46 RX4]
def wsX8_init_r2 : List Cond := [Cond.instantiable RX4 8, Cond.initialized RX4, Cond.fieldLink RX8 51 "MediaCatalog" "judge" "LMediaCatalog$RuleJudge;", Cond.classLink RX8 55 RX7, Cond.instantiable RX7 2, Cond.initialized RX7, Cond.fieldLink RX8 60 "MediaCatalog" "view" "LMediaCatalog$View;", Cond.classLink RX8 64 RX3, Cond.instantiable RX3 5, Cond.initialized RX3, Cond.fieldLink RX8 67 "MediaCatalog" "journal" "LMediaCatalog$Journal;", Cond.methodLink RX8 9 yX1_init, Cond.instanceMethod yX1_init, Cond.code yX1_init cX1_init 2 none, Cond.methodLink RX1 3 objectInit, Cond.arrayClass .int, Cond.fieldLink RX1 9 "MediaCatalog$FileTable" "digests" "[I", Cond.fieldLink RX1 15 "MediaCatalog$FileTable" "sizes" "[I", Cond.fieldLink RX1 18 "MediaCatalog$FileTable" "values" "[I", Cond.fieldLink RX1 21 "MediaCatalog$FileTable" "settled" "[I", Cond.fieldLink RX1 24 "MediaCatalog$FileTable" "order" "[I", Cond.methodLink RX8 18 yX2_init, Cond.instanceMethod yX2_init, Cond.code yX2_init cX2_init 2 none]
def wsX8_init_r3 : List Cond := [Cond.methodLink RX2 3 objectInit, Cond.fieldLink RX2 9 "MediaCatalog$GroupTable" "files" "LMediaCatalog$FileTable;", Cond.methodLink RX8 27 yX6_init, Cond.instanceMethod yX6_init, Cond.code yX6_init cX6_init 2 none, Cond.methodLink RX6 3 objectInit, Cond.fieldLink RX6 9 "MediaCatalog$StackTable" "files" "LMediaCatalog$FileTable;", Cond.fieldLink RX6 15 "MediaCatalog$StackTable" "places" "[I", Cond.fieldLink RX6 19 "MediaCatalog$StackTable" "heights" "[I", Cond.fieldLink RX6 22 "MediaCatalog$StackTable" "chosen" "[I", Cond.arrayClass .boolean, Cond.fieldLink RX6 25 "MediaCatalog$StackTable" "collapsed" "[Z", Cond.fieldLink RX6 29 "MediaCatalog$StackTable" "homes" "[I", Cond.methodLink RX6 32 yJ7_fill_53178, Cond.static yJ7_fill_53178, Cond.initialized RJ7, Cond.code yJ7_fill_53178 cJ7_fill_53178 4 none, Cond.methodLink RX8 34 yX5_init, Cond.instanceMethod yX5_init, Cond.code yX5_init cX5_init 1 none, Cond.methodLink RX5 3 objectInit, Cond.arrayClass .char, Cond.fieldLink RX5 9 "MediaCatalog$RuleText" "characters" "[C", Cond.methodLink RX8 45 yX0_init]
def wsX8_init_r4 : List Cond := [Cond.instanceMethod yX0_init, Cond.code yX0_init cX0_init 1 none, Cond.methodLink RX0 3 objectInit, Cond.classLink RX0 9 RX5, Cond.fieldLink RX0 12 "MediaCatalog$Album" "rule" "LMediaCatalog$RuleText;", Cond.methodLink RX0 11 yX5_init, Cond.methodLink RX8 48 yX4_init, Cond.instanceMethod yX4_init, Cond.code yX4_init cX4_init 5 none, Cond.methodLink RX4 3 objectInit, Cond.fieldLink RX4 9 "MediaCatalog$RuleJudge" "files" "LMediaCatalog$FileTable;", Cond.fieldLink RX4 15 "MediaCatalog$RuleJudge" "groups" "LMediaCatalog$GroupTable;", Cond.fieldLink RX4 19 "MediaCatalog$RuleJudge" "stacks" "LMediaCatalog$StackTable;", Cond.fieldLink RX4 23 "MediaCatalog$RuleJudge" "albums" "[LMediaCatalog$Album;", Cond.arrayClass .long, Cond.fieldLink RX4 27 "MediaCatalog$RuleJudge" "ended" "[J", Cond.fieldLink RX4 31 "MediaCatalog$RuleJudge" "running" "[J", Cond.fieldLink RX4 34 "MediaCatalog$RuleJudge" "negated" "[Z", Cond.methodLink RX8 57 yX7_init, Cond.instanceMethod yX7_init, Cond.code yX7_init cX7_init 3 none, Cond.methodLink RX7 3 objectInit, Cond.fieldLink RX7 9 "MediaCatalog$View" "files" "LMediaCatalog$FileTable;", Cond.fieldLink RX7 15 "MediaCatalog$View" "stacks" "LMediaCatalog$StackTable;"]
def wsX8_init_r5 : List Cond := [Cond.methodLink RX8 66 yX3_init, Cond.instanceMethod yX3_init, Cond.code yX3_init cX3_init 1 none, Cond.methodLink RX3 3 objectInit, Cond.fieldLink RX3 9 "MediaCatalog$Journal" "albums" "[I", Cond.fieldLink RX3 15 "MediaCatalog$Journal" "files" "[I", Cond.fieldLink RX3 18 "MediaCatalog$Journal" "joins" "[Z"]
def wsX8_init : List Cond := .code yX8_init cX8_init 2 none :: ((wsX8_init_r1 ++ (wsX8_init_r2 ++ (wsX8_init_r3 ++ (wsX8_init_r4 ++ wsX8_init_r5)))) ++ wsX10 ++ wsX80 ++ wsX20 ++ wsX60 ++ wsX50 ++ wsX00 ++ wsX40 ++ wsX70 ++ wsX30)
def wsX8_hasAlbum : List Cond := .code yX8_hasAlbum cX8_hasAlbum 2 (some .boolean) :: ([.fieldLink RX8 41 "MediaCatalog" "albums" "[LMediaCatalog$Album;", .methodLink RX8 71 yX8_isWithin, .static yX8_isWithin, .initialized RX8, .code yX8_isWithin cX8_isWithin 3 (some .boolean), .methodLink RX8 298 yX0_exists, .instanceMethod yX0_exists, .selects RX0 yX0_exists yX0_exists, .initialized RX0, .code yX0_exists cX0_exists 1 (some .boolean), .fieldLink RX0 18 "MediaCatalog$Album" "exists" "Z"] ++ wsX80 ++ wsX00)
def wsX8_settle_r1 : List Cond := [Cond.fieldLink RX8 10 "MediaCatalog" "files" "LMediaCatalog$FileTable;", Cond.fieldLink RX8 21 "MediaCatalog" "groups" "LMediaCatalog$GroupTable;", Cond.fieldLink RX8 28 "MediaCatalog" "stacks" "LMediaCatalog$StackTable;", Cond.fieldLink RX8 51 "MediaCatalog" "judge" "LMediaCatalog$RuleJudge;", Cond.fieldLink RX8 41 "MediaCatalog" "albums" "[LMediaCatalog$Album;", Cond.fieldLink RX8 67 "MediaCatalog" "journal" "LMediaCatalog$Journal;", Cond.methodLink RX8 306 yX1_settleValues, Cond.instanceMethod yX1_settleValues, Cond.selects RX1 yX1_settleValues yX1_settleValues, Cond.initialized RX1, Cond.code yX1_settleValues cX1_settleValues 2 none, Cond.fieldLink RX1 31 "MediaCatalog$FileTable" "present" "J", Cond.static yX8_holds, Cond.initialized RX8, Cond.code yX8_holds cX8_holds 3 (some .boolean), Cond.methodLink RX1 64 yX1_settleFile, Cond.instanceMethod yX1_settleFile, Cond.selects RX1 yX1_settleFile yX1_settleFile, Cond.code yX1_settleFile cX1_settleFile 4 none, Cond.fieldLink RX1 21 "MediaCatalog$FileTable" "settled" "[I", Cond.methodLink RX1 72 Lib.Math.max.name, Cond.static Lib.Math.max.name, Cond.initialized "java/lang/Math", Cond.code Lib.Math.max.name Lib.Math.max.code 2 (some .int)]
def wsX8_settle_r2 : List Cond := [Cond.methodLink RX1 68 yX1_firstTeller, Cond.instanceMethod yX1_firstTeller, Cond.selects RX1 yX1_firstTeller yX1_firstTeller, Cond.code yX1_firstTeller cX1_firstTeller 4 (some .int), Cond.fieldLink RX1 24 "MediaCatalog$FileTable" "order" "[I", Cond.methodLink RX1 61 yX1_told, Cond.instanceMethod yX1_told, Cond.selects RX1 yX1_told yX1_told, Cond.code yX1_told cX1_told 4 (some .int), Cond.fieldLink RX1 18 "MediaCatalog$FileTable" "values" "[I", Cond.methodLink RX1 49 yX1_slot, Cond.static yX1_slot, Cond.code yX1_slot cX1_slot 3 (some .int), Cond.methodLink RX8 309 yX2_regroup, Cond.instanceMethod yX2_regroup, Cond.selects RX2 yX2_regroup yX2_regroup, Cond.initialized RX2, Cond.code yX2_regroup cX2_regroup 6 none, Cond.fieldLink RX2 15 "MediaCatalog$GroupTable" "keepers" "J", Cond.fieldLink RX2 19 "MediaCatalog$GroupTable" "duplicates" "J", Cond.fieldLink RX2 9 "MediaCatalog$GroupTable" "files" "LMediaCatalog$FileTable;", Cond.constantLong RX2 48 (-1), Cond.methodLink RX2 32 yX1_all, Cond.instanceMethod yX1_all]
def wsX8_settle_r3 : List Cond := [Cond.selects RX1 yX1_all yX1_all, Cond.code yX1_all cX1_all 1 (some .long), Cond.methodLink RX2 22 yX1_alike, Cond.instanceMethod yX1_alike, Cond.selects RX1 yX1_alike yX1_alike, Cond.code yX1_alike cX1_alike 5 (some .long), Cond.fieldLink RX1 9 "MediaCatalog$FileTable" "digests" "[I", Cond.static yX8_only, Cond.code yX8_only cX8_only 1 (some .long), Cond.methodLink RX2 28 yX2_preferred, Cond.instanceMethod yX2_preferred, Cond.selects RX2 yX2_preferred yX2_preferred, Cond.code yX2_preferred cX2_preferred 5 (some .int), Cond.methodLink RX2 50 yX2_beats, Cond.instanceMethod yX2_beats, Cond.selects RX2 yX2_beats yX2_beats, Cond.code yX2_beats cX2_beats 5 (some .boolean), Cond.methodLink RX2 54 yX1_settledValue, Cond.instanceMethod yX1_settledValue, Cond.selects RX1 yX1_settledValue yX1_settledValue, Cond.code yX1_settledValue cX1_settledValue 3 (some .int), Cond.methodLink RX2 58 yX2_yearOf, Cond.instanceMethod yX2_yearOf, Cond.selects RX2 yX2_yearOf yX2_yearOf]
def wsX8_settle_r4 : List Cond := [Cond.code yX2_yearOf cX2_yearOf 3 (some .int), Cond.methodLink RX2 43 yJ13_bitCount_95d88, Cond.static yJ13_bitCount_95d88, Cond.initialized RJ13, Cond.code yJ13_bitCount_95d88 cJ13_bitCount_95d88 2 (some .int), Cond.constantLong RJ13 314 (6148914691236517205), Cond.constantLong RJ13 316 (3689348814741910323), Cond.constantLong RJ13 318 (1085102592571150095), Cond.methodLink RX8 312 yX6_findCovers, Cond.instanceMethod yX6_findCovers, Cond.selects RX6 yX6_findCovers yX6_findCovers, Cond.initialized RX6, Cond.code yX6_findCovers cX6_findCovers 2 none, Cond.fieldLink RX6 50 "MediaCatalog$StackTable" "covers" "J", Cond.methodLink RX6 42 yX6_has, Cond.instanceMethod yX6_has, Cond.selects RX6 yX6_has yX6_has, Cond.code yX6_has cX6_has 2 (some .boolean), Cond.fieldLink RX6 19 "MediaCatalog$StackTable" "heights" "[I", Cond.static yX8_isWithin, Cond.code yX8_isWithin cX8_isWithin 3 (some .boolean), Cond.methodLink RX6 80 yX6_cover, Cond.instanceMethod yX6_cover, Cond.selects RX6 yX6_cover yX6_cover]
def wsX8_settle_r5 : List Cond := [Cond.code yX6_cover cX6_cover 5 (some .int), Cond.fieldLink RX6 22 "MediaCatalog$StackTable" "chosen" "[I", Cond.fieldLink RX6 15 "MediaCatalog$StackTable" "places" "[I", Cond.fieldLink RX6 9 "MediaCatalog$StackTable" "files" "LMediaCatalog$FileTable;", Cond.methodLink RX6 57 yX6_spot, Cond.static yX6_spot, Cond.code yX6_spot cX6_spot 2 (some .int), Cond.methodLink RX6 75 yX1_settledValue, Cond.methodLink RX8 241 yX8_hasAlbum, Cond.instanceMethod yX8_hasAlbum, Cond.selects RX8 yX8_hasAlbum yX8_hasAlbum, Cond.code yX8_hasAlbum cX8_hasAlbum 2 (some .boolean), Cond.methodLink RX8 71 yX8_isWithin, Cond.methodLink RX8 298 yX0_exists, Cond.instanceMethod yX0_exists, Cond.selects RX0 yX0_exists yX0_exists, Cond.initialized RX0, Cond.code yX0_exists cX0_exists 1 (some .boolean), Cond.fieldLink RX0 18 "MediaCatalog$Album" "exists" "Z", Cond.methodLink RX8 315 yX0_rule, Cond.instanceMethod yX0_rule, Cond.selects RX0 yX0_rule yX0_rule, Cond.code yX0_rule cX0_rule 1 (some (.object "MediaCatalog$RuleText")), Cond.fieldLink RX0 12 "MediaCatalog$Album" "rule" "LMediaCatalog$RuleText;"]
def wsX8_settle_r6 : List Cond := [Cond.methodLink RX8 231 yX4_filesFor, Cond.instanceMethod yX4_filesFor, Cond.selects RX4 yX4_filesFor yX4_filesFor, Cond.initialized RX4, Cond.code yX4_filesFor cX4_filesFor 4 (some .long), Cond.fieldLink RX4 38 "MediaCatalog$RuleJudge" "open" "I", Cond.fieldLink RX4 27 "MediaCatalog$RuleJudge" "ended" "[J", Cond.fieldLink RX4 31 "MediaCatalog$RuleJudge" "running" "[J", Cond.methodLink RX4 42 yX4_beginLevel, Cond.instanceMethod yX4_beginLevel, Cond.selects RX4 yX4_beginLevel yX4_beginLevel, Cond.code yX4_beginLevel cX4_beginLevel 1 none, Cond.fieldLink RX4 9 "MediaCatalog$RuleJudge" "files" "LMediaCatalog$FileTable;", Cond.fieldLink RX4 34 "MediaCatalog$RuleJudge" "negated" "[Z", Cond.methodLink RX4 67 yX1_all, Cond.methodLink RX4 45 yX5_length, Cond.instanceMethod yX5_length, Cond.selects RX5 yX5_length yX5_length, Cond.initialized RX5, Cond.code yX5_length cX5_length 1 (some .int), Cond.fieldLink RX5 15 "MediaCatalog$RuleText" "length" "I", Cond.methodLink RX4 51 yX5_at, Cond.instanceMethod yX5_at, Cond.selects RX5 yX5_at yX5_at]
def wsX8_settle_r7 : List Cond := [Cond.code yX5_at cX5_at 2 (some .char), Cond.fieldLink RX5 9 "MediaCatalog$RuleText" "characters" "[C", Cond.methodLink RX4 55 yX4_condition, Cond.instanceMethod yX4_condition, Cond.selects RX4 yX4_condition yX4_condition, Cond.code yX4_condition cX4_condition 3 (some .long), Cond.fieldLink RX4 19 "MediaCatalog$RuleJudge" "stacks" "LMediaCatalog$StackTable;", Cond.fieldLink RX4 15 "MediaCatalog$RuleJudge" "groups" "LMediaCatalog$GroupTable;", Cond.methodLink RX4 81 yX5_numberAt, Cond.instanceMethod yX5_numberAt, Cond.selects RX5 yX5_numberAt yX5_numberAt, Cond.code yX5_numberAt cX5_numberAt 4 (some .int), Cond.methodLink RX5 25 yX5_at, Cond.methodLink RX5 29 yX5_isDigit, Cond.static yX5_isDigit, Cond.code yX5_isDigit cX5_isDigit 1 (some .boolean), Cond.methodLink RX4 85 yX4_tagged, Cond.instanceMethod yX4_tagged, Cond.selects RX4 yX4_tagged yX4_tagged, Cond.code yX4_tagged cX4_tagged 5 (some .long), Cond.methodLink RX4 115 yX1_settledValue, Cond.methodLink RX4 89 yX4_membersOf, Cond.instanceMethod yX4_membersOf, Cond.selects RX4 yX4_membersOf yX4_membersOf]
def wsX8_settle_r8 : List Cond := [Cond.code yX4_membersOf cX4_membersOf 2 (some .long), Cond.fieldLink RX4 23 "MediaCatalog$RuleJudge" "albums" "[LMediaCatalog$Album;", Cond.methodLink RX4 126 yX0_members, Cond.instanceMethod yX0_members, Cond.selects RX0 yX0_members yX0_members, Cond.code yX0_members cX0_members 1 (some .long), Cond.fieldLink RX0 22 "MediaCatalog$Album" "members" "J", Cond.methodLink RX4 92 yX6_stacked, Cond.instanceMethod yX6_stacked, Cond.selects RX6 yX6_stacked yX6_stacked, Cond.code yX6_stacked cX6_stacked 1 (some .long), Cond.fieldLink RX6 46 "MediaCatalog$StackTable" "stacked" "J", Cond.methodLink RX4 97 yX6_covers, Cond.instanceMethod yX6_covers, Cond.selects RX6 yX6_covers yX6_covers, Cond.code yX6_covers cX6_covers 1 (some .long), Cond.methodLink RX4 100 yX2_duplicates, Cond.instanceMethod yX2_duplicates, Cond.selects RX2 yX2_duplicates yX2_duplicates, Cond.code yX2_duplicates cX2_duplicates 1 (some .long), Cond.methodLink RX4 105 yX2_keepers, Cond.instanceMethod yX2_keepers, Cond.selects RX2 yX2_keepers yX2_keepers, Cond.code yX2_keepers cX2_keepers 1 (some .long)]
def wsX8_settle_r9 : List Cond := [Cond.methodLink RX4 108 yX4_comparing, Cond.instanceMethod yX4_comparing, Cond.selects RX4 yX4_comparing yX4_comparing, Cond.code yX4_comparing cX4_comparing 10 (some .long), Cond.methodLink RX4 131 yX5_fieldNamed, Cond.static yX5_fieldNamed, Cond.code yX5_fieldNamed cX5_fieldNamed 1 (some .int), Cond.methodLink RX4 135 yX4_agrees, Cond.static yX4_agrees, Cond.code yX4_agrees cX4_agrees 3 (some .boolean), Cond.methodLink RX4 59 yX4_take, Cond.instanceMethod yX4_take, Cond.selects RX4 yX4_take yX4_take, Cond.code yX4_take cX4_take 3 none, Cond.constantLong RX4 79 (-1), Cond.methodLink RX4 63 yX4_operate, Cond.instanceMethod yX4_operate, Cond.selects RX4 yX4_operate yX4_operate, Cond.code yX4_operate cX4_operate 2 none, Cond.methodLink RX4 73 yX4_openLevel, Cond.instanceMethod yX4_openLevel, Cond.selects RX4 yX4_openLevel yX4_openLevel, Cond.code yX4_openLevel cX4_openLevel 1 none, Cond.methodLink RX4 76 yX4_closeLevel]
def wsX8_settle_r10 : List Cond := [Cond.instanceMethod yX4_closeLevel, Cond.selects RX4 yX4_closeLevel yX4_closeLevel, Cond.code yX4_closeLevel cX4_closeLevel 3 none, Cond.methodLink RX8 319 yX0_become, Cond.instanceMethod yX0_become, Cond.selects RX0 yX0_become yX0_become, Cond.code yX0_become cX0_become 9 none, Cond.fieldLink RX0 26 "MediaCatalog$Album" "joined" "I", Cond.fieldLink RX0 30 "MediaCatalog$Album" "left" "I", Cond.methodLink RX0 58 yX3_note, Cond.instanceMethod yX3_note, Cond.selects RX3 yX3_note yX3_note, Cond.initialized RX3, Cond.code yX3_note cX3_note 4 none, Cond.fieldLink RX3 26 "MediaCatalog$Journal" "latest" "I", Cond.fieldLink RX3 9 "MediaCatalog$Journal" "albums" "[I", Cond.fieldLink RX3 15 "MediaCatalog$Journal" "files" "[I", Cond.fieldLink RX3 18 "MediaCatalog$Journal" "joins" "[Z", Cond.fieldLink RX3 22 "MediaCatalog$Journal" "length" "I", Cond.methodLink RX3 29 Lib.Math.min.name, Cond.static Lib.Math.min.name, Cond.code Lib.Math.min.name Lib.Math.min.code 2 (some .int)]
def wsX8_settle : List Cond := .code yX8_settle cX8_settle 4 none :: ((wsX8_settle_r1 ++ (wsX8_settle_r2 ++ (wsX8_settle_r3 ++ (wsX8_settle_r4 ++ (wsX8_settle_r5 ++ (wsX8_settle_r6 ++ (wsX8_settle_r7 ++ (wsX8_settle_r8 ++ (wsX8_settle_r9 ++ wsX8_settle_r10))))))))) ++ wsX80 ++ wsX10 ++ wsX20 ++ wsX60 ++ wsX00 ++ wsX40 ++ wsX50 ++ wsX30)
def wsX8_add_r1 : List Cond := [Cond.constant RX8 75 (100000), Cond.fieldLink RX8 10 "MediaCatalog" "files" "LMediaCatalog$FileTable;", Cond.methodLink RX8 71 yX8_isWithin, Cond.static yX8_isWithin, Cond.initialized RX8, Cond.code yX8_isWithin cX8_isWithin 3 (some .boolean), Cond.methodLink RX8 76 yX1_freeNumber, Cond.instanceMethod yX1_freeNumber, Cond.selects RX1 yX1_freeNumber yX1_freeNumber, Cond.initialized RX1, Cond.code yX1_freeNumber cX1_freeNumber 2 (some .int), Cond.fieldLink RX1 31 "MediaCatalog$FileTable" "present" "J", Cond.static yX8_holds, Cond.code yX8_holds cX8_holds 3 (some .boolean), Cond.methodLink RX8 80 yX1_enter, Cond.instanceMethod yX1_enter, Cond.selects RX1 yX1_enter yX1_enter, Cond.code yX1_enter cX1_enter 4 none, Cond.fieldLink RX1 9 "MediaCatalog$FileTable" "digests" "[I", Cond.fieldLink RX1 15 "MediaCatalog$FileTable" "sizes" "[I", Cond.fieldLink RX1 18 "MediaCatalog$FileTable" "values" "[I", Cond.static yX8_only, Cond.code yX8_only cX8_only 1 (some .long), Cond.methodLink RX1 49 yX1_slot]
def wsX8_add_r2 : List Cond := [Cond.static yX1_slot, Cond.code yX1_slot cX1_slot 3 (some .int), Cond.methodLink RX1 53 yJ7_fill_fda19, Cond.static yJ7_fill_fda19, Cond.initialized RJ7, Cond.code yJ7_fill_fda19 cJ7_fill_fda19 5 none, Cond.methodLink RJ7 13 yJ7_rangeCheck_23922, Cond.static yJ7_rangeCheck_23922, Cond.code yJ7_rangeCheck_23922 cJ7_rangeCheck_23922 3 none, Cond.methodLink RX8 84 yX8_settle, Cond.instanceMethod yX8_settle, Cond.selects RX8 yX8_settle yX8_settle, Cond.code yX8_settle cX8_settle 4 none, Cond.fieldLink RX8 21 "MediaCatalog" "groups" "LMediaCatalog$GroupTable;", Cond.fieldLink RX8 28 "MediaCatalog" "stacks" "LMediaCatalog$StackTable;", Cond.fieldLink RX8 51 "MediaCatalog" "judge" "LMediaCatalog$RuleJudge;", Cond.fieldLink RX8 41 "MediaCatalog" "albums" "[LMediaCatalog$Album;", Cond.fieldLink RX8 67 "MediaCatalog" "journal" "LMediaCatalog$Journal;", Cond.methodLink RX8 306 yX1_settleValues, Cond.instanceMethod yX1_settleValues, Cond.selects RX1 yX1_settleValues yX1_settleValues, Cond.code yX1_settleValues cX1_settleValues 2 none, Cond.methodLink RX1 64 yX1_settleFile, Cond.instanceMethod yX1_settleFile]
def wsX8_add_r3 : List Cond := [Cond.selects RX1 yX1_settleFile yX1_settleFile, Cond.code yX1_settleFile cX1_settleFile 4 none, Cond.fieldLink RX1 21 "MediaCatalog$FileTable" "settled" "[I", Cond.methodLink RX1 72 Lib.Math.max.name, Cond.static Lib.Math.max.name, Cond.initialized "java/lang/Math", Cond.code Lib.Math.max.name Lib.Math.max.code 2 (some .int), Cond.methodLink RX1 68 yX1_firstTeller, Cond.instanceMethod yX1_firstTeller, Cond.selects RX1 yX1_firstTeller yX1_firstTeller, Cond.code yX1_firstTeller cX1_firstTeller 4 (some .int), Cond.fieldLink RX1 24 "MediaCatalog$FileTable" "order" "[I", Cond.methodLink RX1 61 yX1_told, Cond.instanceMethod yX1_told, Cond.selects RX1 yX1_told yX1_told, Cond.code yX1_told cX1_told 4 (some .int), Cond.methodLink RX8 309 yX2_regroup, Cond.instanceMethod yX2_regroup, Cond.selects RX2 yX2_regroup yX2_regroup, Cond.initialized RX2, Cond.code yX2_regroup cX2_regroup 6 none, Cond.fieldLink RX2 15 "MediaCatalog$GroupTable" "keepers" "J", Cond.fieldLink RX2 19 "MediaCatalog$GroupTable" "duplicates" "J", Cond.fieldLink RX2 9 "MediaCatalog$GroupTable" "files" "LMediaCatalog$FileTable;"]
def wsX8_add_r4 : List Cond := [Cond.constantLong RX2 48 (-1), Cond.methodLink RX2 32 yX1_all, Cond.instanceMethod yX1_all, Cond.selects RX1 yX1_all yX1_all, Cond.code yX1_all cX1_all 1 (some .long), Cond.methodLink RX2 22 yX1_alike, Cond.instanceMethod yX1_alike, Cond.selects RX1 yX1_alike yX1_alike, Cond.code yX1_alike cX1_alike 5 (some .long), Cond.methodLink RX2 28 yX2_preferred, Cond.instanceMethod yX2_preferred, Cond.selects RX2 yX2_preferred yX2_preferred, Cond.code yX2_preferred cX2_preferred 5 (some .int), Cond.methodLink RX2 50 yX2_beats, Cond.instanceMethod yX2_beats, Cond.selects RX2 yX2_beats yX2_beats, Cond.code yX2_beats cX2_beats 5 (some .boolean), Cond.methodLink RX2 54 yX1_settledValue, Cond.instanceMethod yX1_settledValue, Cond.selects RX1 yX1_settledValue yX1_settledValue, Cond.code yX1_settledValue cX1_settledValue 3 (some .int), Cond.methodLink RX2 58 yX2_yearOf, Cond.instanceMethod yX2_yearOf, Cond.selects RX2 yX2_yearOf yX2_yearOf]
def wsX8_add_r5 : List Cond := [Cond.code yX2_yearOf cX2_yearOf 3 (some .int), Cond.methodLink RX2 43 yJ13_bitCount_95d88, Cond.static yJ13_bitCount_95d88, Cond.initialized RJ13, Cond.code yJ13_bitCount_95d88 cJ13_bitCount_95d88 2 (some .int), Cond.constantLong RJ13 314 (6148914691236517205), Cond.constantLong RJ13 316 (3689348814741910323), Cond.constantLong RJ13 318 (1085102592571150095), Cond.methodLink RX8 312 yX6_findCovers, Cond.instanceMethod yX6_findCovers, Cond.selects RX6 yX6_findCovers yX6_findCovers, Cond.initialized RX6, Cond.code yX6_findCovers cX6_findCovers 2 none, Cond.fieldLink RX6 50 "MediaCatalog$StackTable" "covers" "J", Cond.methodLink RX6 42 yX6_has, Cond.instanceMethod yX6_has, Cond.selects RX6 yX6_has yX6_has, Cond.code yX6_has cX6_has 2 (some .boolean), Cond.fieldLink RX6 19 "MediaCatalog$StackTable" "heights" "[I", Cond.methodLink RX6 80 yX6_cover, Cond.instanceMethod yX6_cover, Cond.selects RX6 yX6_cover yX6_cover, Cond.code yX6_cover cX6_cover 5 (some .int), Cond.fieldLink RX6 22 "MediaCatalog$StackTable" "chosen" "[I"]
def wsX8_add_r6 : List Cond := [Cond.fieldLink RX6 15 "MediaCatalog$StackTable" "places" "[I", Cond.fieldLink RX6 9 "MediaCatalog$StackTable" "files" "LMediaCatalog$FileTable;", Cond.methodLink RX6 57 yX6_spot, Cond.static yX6_spot, Cond.code yX6_spot cX6_spot 2 (some .int), Cond.methodLink RX6 75 yX1_settledValue, Cond.methodLink RX8 241 yX8_hasAlbum, Cond.instanceMethod yX8_hasAlbum, Cond.selects RX8 yX8_hasAlbum yX8_hasAlbum, Cond.code yX8_hasAlbum cX8_hasAlbum 2 (some .boolean), Cond.methodLink RX8 298 yX0_exists, Cond.instanceMethod yX0_exists, Cond.selects RX0 yX0_exists yX0_exists, Cond.initialized RX0, Cond.code yX0_exists cX0_exists 1 (some .boolean), Cond.fieldLink RX0 18 "MediaCatalog$Album" "exists" "Z", Cond.methodLink RX8 315 yX0_rule, Cond.instanceMethod yX0_rule, Cond.selects RX0 yX0_rule yX0_rule, Cond.code yX0_rule cX0_rule 1 (some (.object "MediaCatalog$RuleText")), Cond.fieldLink RX0 12 "MediaCatalog$Album" "rule" "LMediaCatalog$RuleText;", Cond.methodLink RX8 231 yX4_filesFor, Cond.instanceMethod yX4_filesFor, Cond.selects RX4 yX4_filesFor yX4_filesFor]
def wsX8_add_r7 : List Cond := [Cond.initialized RX4, Cond.code yX4_filesFor cX4_filesFor 4 (some .long), Cond.fieldLink RX4 38 "MediaCatalog$RuleJudge" "open" "I", Cond.fieldLink RX4 27 "MediaCatalog$RuleJudge" "ended" "[J", Cond.fieldLink RX4 31 "MediaCatalog$RuleJudge" "running" "[J", Cond.methodLink RX4 42 yX4_beginLevel, Cond.instanceMethod yX4_beginLevel, Cond.selects RX4 yX4_beginLevel yX4_beginLevel, Cond.code yX4_beginLevel cX4_beginLevel 1 none, Cond.fieldLink RX4 9 "MediaCatalog$RuleJudge" "files" "LMediaCatalog$FileTable;", Cond.fieldLink RX4 34 "MediaCatalog$RuleJudge" "negated" "[Z", Cond.methodLink RX4 67 yX1_all, Cond.methodLink RX4 45 yX5_length, Cond.instanceMethod yX5_length, Cond.selects RX5 yX5_length yX5_length, Cond.initialized RX5, Cond.code yX5_length cX5_length 1 (some .int), Cond.fieldLink RX5 15 "MediaCatalog$RuleText" "length" "I", Cond.methodLink RX4 51 yX5_at, Cond.instanceMethod yX5_at, Cond.selects RX5 yX5_at yX5_at, Cond.code yX5_at cX5_at 2 (some .char), Cond.fieldLink RX5 9 "MediaCatalog$RuleText" "characters" "[C", Cond.methodLink RX4 55 yX4_condition]
def wsX8_add_r8 : List Cond := [Cond.instanceMethod yX4_condition, Cond.selects RX4 yX4_condition yX4_condition, Cond.code yX4_condition cX4_condition 3 (some .long), Cond.fieldLink RX4 19 "MediaCatalog$RuleJudge" "stacks" "LMediaCatalog$StackTable;", Cond.fieldLink RX4 15 "MediaCatalog$RuleJudge" "groups" "LMediaCatalog$GroupTable;", Cond.methodLink RX4 81 yX5_numberAt, Cond.instanceMethod yX5_numberAt, Cond.selects RX5 yX5_numberAt yX5_numberAt, Cond.code yX5_numberAt cX5_numberAt 4 (some .int), Cond.methodLink RX5 25 yX5_at, Cond.methodLink RX5 29 yX5_isDigit, Cond.static yX5_isDigit, Cond.code yX5_isDigit cX5_isDigit 1 (some .boolean), Cond.methodLink RX4 85 yX4_tagged, Cond.instanceMethod yX4_tagged, Cond.selects RX4 yX4_tagged yX4_tagged, Cond.code yX4_tagged cX4_tagged 5 (some .long), Cond.methodLink RX4 115 yX1_settledValue, Cond.methodLink RX4 89 yX4_membersOf, Cond.instanceMethod yX4_membersOf, Cond.selects RX4 yX4_membersOf yX4_membersOf, Cond.code yX4_membersOf cX4_membersOf 2 (some .long), Cond.fieldLink RX4 23 "MediaCatalog$RuleJudge" "albums" "[LMediaCatalog$Album;", Cond.methodLink RX4 126 yX0_members]
def wsX8_add_r9 : List Cond := [Cond.instanceMethod yX0_members, Cond.selects RX0 yX0_members yX0_members, Cond.code yX0_members cX0_members 1 (some .long), Cond.fieldLink RX0 22 "MediaCatalog$Album" "members" "J", Cond.methodLink RX4 92 yX6_stacked, Cond.instanceMethod yX6_stacked, Cond.selects RX6 yX6_stacked yX6_stacked, Cond.code yX6_stacked cX6_stacked 1 (some .long), Cond.fieldLink RX6 46 "MediaCatalog$StackTable" "stacked" "J", Cond.methodLink RX4 97 yX6_covers, Cond.instanceMethod yX6_covers, Cond.selects RX6 yX6_covers yX6_covers, Cond.code yX6_covers cX6_covers 1 (some .long), Cond.methodLink RX4 100 yX2_duplicates, Cond.instanceMethod yX2_duplicates, Cond.selects RX2 yX2_duplicates yX2_duplicates, Cond.code yX2_duplicates cX2_duplicates 1 (some .long), Cond.methodLink RX4 105 yX2_keepers, Cond.instanceMethod yX2_keepers, Cond.selects RX2 yX2_keepers yX2_keepers, Cond.code yX2_keepers cX2_keepers 1 (some .long), Cond.methodLink RX4 108 yX4_comparing, Cond.instanceMethod yX4_comparing, Cond.selects RX4 yX4_comparing yX4_comparing]
def wsX8_add_r10 : List Cond := [Cond.code yX4_comparing cX4_comparing 10 (some .long), Cond.methodLink RX4 131 yX5_fieldNamed, Cond.static yX5_fieldNamed, Cond.code yX5_fieldNamed cX5_fieldNamed 1 (some .int), Cond.methodLink RX4 135 yX4_agrees, Cond.static yX4_agrees, Cond.code yX4_agrees cX4_agrees 3 (some .boolean), Cond.methodLink RX4 59 yX4_take, Cond.instanceMethod yX4_take, Cond.selects RX4 yX4_take yX4_take, Cond.code yX4_take cX4_take 3 none, Cond.constantLong RX4 79 (-1), Cond.methodLink RX4 63 yX4_operate, Cond.instanceMethod yX4_operate, Cond.selects RX4 yX4_operate yX4_operate, Cond.code yX4_operate cX4_operate 2 none, Cond.methodLink RX4 73 yX4_openLevel, Cond.instanceMethod yX4_openLevel, Cond.selects RX4 yX4_openLevel yX4_openLevel, Cond.code yX4_openLevel cX4_openLevel 1 none, Cond.methodLink RX4 76 yX4_closeLevel, Cond.instanceMethod yX4_closeLevel, Cond.selects RX4 yX4_closeLevel yX4_closeLevel, Cond.code yX4_closeLevel cX4_closeLevel 3 none]
def wsX8_add_r11 : List Cond := [Cond.methodLink RX8 319 yX0_become, Cond.instanceMethod yX0_become, Cond.selects RX0 yX0_become yX0_become, Cond.code yX0_become cX0_become 9 none, Cond.fieldLink RX0 26 "MediaCatalog$Album" "joined" "I", Cond.fieldLink RX0 30 "MediaCatalog$Album" "left" "I", Cond.methodLink RX0 58 yX3_note, Cond.instanceMethod yX3_note, Cond.selects RX3 yX3_note yX3_note, Cond.initialized RX3, Cond.code yX3_note cX3_note 4 none, Cond.fieldLink RX3 26 "MediaCatalog$Journal" "latest" "I", Cond.fieldLink RX3 9 "MediaCatalog$Journal" "albums" "[I", Cond.fieldLink RX3 15 "MediaCatalog$Journal" "files" "[I", Cond.fieldLink RX3 18 "MediaCatalog$Journal" "joins" "[Z", Cond.fieldLink RX3 22 "MediaCatalog$Journal" "length" "I", Cond.methodLink RX3 29 Lib.Math.min.name, Cond.static Lib.Math.min.name, Cond.code Lib.Math.min.name Lib.Math.min.code 2 (some .int)]
def wsX8_add : List Cond := .code yX8_add cX8_add 4 (some .int) :: ((wsX8_add_r1 ++ (wsX8_add_r2 ++ (wsX8_add_r3 ++ (wsX8_add_r4 ++ (wsX8_add_r5 ++ (wsX8_add_r6 ++ (wsX8_add_r7 ++ (wsX8_add_r8 ++ (wsX8_add_r9 ++ (wsX8_add_r10 ++ wsX8_add_r11)))))))))) ++ wsX80 ++ wsX10 ++ wsX20 ++ wsX60 ++ wsX00 ++ wsX40 ++ wsX50 ++ wsX30)
def wsX8_discard_r1 : List Cond := [Cond.fieldLink RX8 28 "MediaCatalog" "stacks" "LMediaCatalog$StackTable;", Cond.fieldLink RX8 10 "MediaCatalog" "files" "LMediaCatalog$FileTable;", Cond.methodLink RX8 196 yX6_release, Cond.instanceMethod yX6_release, Cond.selects RX6 yX6_release yX6_release, Cond.initialized RX6, Cond.code yX6_release cX6_release 3 none, Cond.fieldLink RX6 29 "MediaCatalog$StackTable" "homes" "[I", Cond.fieldLink RX6 22 "MediaCatalog$StackTable" "chosen" "[I", Cond.fieldLink RX6 19 "MediaCatalog$StackTable" "heights" "[I", Cond.fieldLink RX6 15 "MediaCatalog$StackTable" "places" "[I", Cond.methodLink RX6 65 yX6_closeGap, Cond.instanceMethod yX6_closeGap, Cond.selects RX6 yX6_closeGap yX6_closeGap, Cond.code yX6_closeGap cX6_closeGap 6 none, Cond.methodLink RX6 57 yX6_spot, Cond.static yX6_spot, Cond.code yX6_spot cX6_spot 2 (some .int), Cond.methodLink RX6 69 yX6_leave, Cond.instanceMethod yX6_leave, Cond.selects RX6 yX6_leave yX6_leave, Cond.code yX6_leave cX6_leave 2 none, Cond.fieldLink RX6 46 "MediaCatalog$StackTable" "stacked" "J", Cond.constantLong RX6 73 (-1)]
def wsX8_discard_r2 : List Cond := [Cond.static yX8_only, Cond.initialized RX8, Cond.code yX8_only cX8_only 1 (some .long), Cond.methodLink RX8 295 yX1_drop, Cond.instanceMethod yX1_drop, Cond.selects RX1 yX1_drop yX1_drop, Cond.initialized RX1, Cond.code yX1_drop cX1_drop 2 none, Cond.fieldLink RX1 31 "MediaCatalog$FileTable" "present" "J", Cond.constantLong RX1 59 (-1)]
def wsX8_discard : List Cond := .code yX8_discard cX8_discard 2 none :: ((wsX8_discard_r1 ++ wsX8_discard_r2) ++ wsX80 ++ wsX60 ++ wsX10)
def wsX8_remove_r1 : List Cond := [Cond.fieldLink RX8 10 "MediaCatalog" "files" "LMediaCatalog$FileTable;", Cond.methodLink RX8 87 yX1_has, Cond.instanceMethod yX1_has, Cond.selects RX1 yX1_has yX1_has, Cond.initialized RX1, Cond.code yX1_has cX1_has 2 (some .boolean), Cond.fieldLink RX1 31 "MediaCatalog$FileTable" "present" "J", Cond.static yX8_isWithin, Cond.initialized RX8, Cond.code yX8_isWithin cX8_isWithin 3 (some .boolean), Cond.static yX8_holds, Cond.code yX8_holds cX8_holds 3 (some .boolean), Cond.methodLink RX8 91 yX8_discard, Cond.instanceMethod yX8_discard, Cond.selects RX8 yX8_discard yX8_discard, Cond.code yX8_discard cX8_discard 2 none, Cond.fieldLink RX8 28 "MediaCatalog" "stacks" "LMediaCatalog$StackTable;", Cond.methodLink RX8 196 yX6_release, Cond.instanceMethod yX6_release, Cond.selects RX6 yX6_release yX6_release, Cond.initialized RX6, Cond.code yX6_release cX6_release 3 none, Cond.fieldLink RX6 29 "MediaCatalog$StackTable" "homes" "[I", Cond.fieldLink RX6 22 "MediaCatalog$StackTable" "chosen" "[I"]
def wsX8_remove_r2 : List Cond := [Cond.fieldLink RX6 19 "MediaCatalog$StackTable" "heights" "[I", Cond.fieldLink RX6 15 "MediaCatalog$StackTable" "places" "[I", Cond.methodLink RX6 65 yX6_closeGap, Cond.instanceMethod yX6_closeGap, Cond.selects RX6 yX6_closeGap yX6_closeGap, Cond.code yX6_closeGap cX6_closeGap 6 none, Cond.methodLink RX6 57 yX6_spot, Cond.static yX6_spot, Cond.code yX6_spot cX6_spot 2 (some .int), Cond.methodLink RX6 69 yX6_leave, Cond.instanceMethod yX6_leave, Cond.selects RX6 yX6_leave yX6_leave, Cond.code yX6_leave cX6_leave 2 none, Cond.fieldLink RX6 46 "MediaCatalog$StackTable" "stacked" "J", Cond.constantLong RX6 73 (-1), Cond.static yX8_only, Cond.code yX8_only cX8_only 1 (some .long), Cond.methodLink RX8 295 yX1_drop, Cond.instanceMethod yX1_drop, Cond.selects RX1 yX1_drop yX1_drop, Cond.code yX1_drop cX1_drop 2 none, Cond.constantLong RX1 59 (-1), Cond.methodLink RX8 84 yX8_settle, Cond.instanceMethod yX8_settle]
def wsX8_remove_r3 : List Cond := [Cond.selects RX8 yX8_settle yX8_settle, Cond.code yX8_settle cX8_settle 4 none, Cond.fieldLink RX8 21 "MediaCatalog" "groups" "LMediaCatalog$GroupTable;", Cond.fieldLink RX8 51 "MediaCatalog" "judge" "LMediaCatalog$RuleJudge;", Cond.fieldLink RX8 41 "MediaCatalog" "albums" "[LMediaCatalog$Album;", Cond.fieldLink RX8 67 "MediaCatalog" "journal" "LMediaCatalog$Journal;", Cond.methodLink RX8 306 yX1_settleValues, Cond.instanceMethod yX1_settleValues, Cond.selects RX1 yX1_settleValues yX1_settleValues, Cond.code yX1_settleValues cX1_settleValues 2 none, Cond.methodLink RX1 64 yX1_settleFile, Cond.instanceMethod yX1_settleFile, Cond.selects RX1 yX1_settleFile yX1_settleFile, Cond.code yX1_settleFile cX1_settleFile 4 none, Cond.fieldLink RX1 21 "MediaCatalog$FileTable" "settled" "[I", Cond.methodLink RX1 72 Lib.Math.max.name, Cond.static Lib.Math.max.name, Cond.initialized "java/lang/Math", Cond.code Lib.Math.max.name Lib.Math.max.code 2 (some .int), Cond.methodLink RX1 68 yX1_firstTeller, Cond.instanceMethod yX1_firstTeller, Cond.selects RX1 yX1_firstTeller yX1_firstTeller, Cond.code yX1_firstTeller cX1_firstTeller 4 (some .int), Cond.fieldLink RX1 24 "MediaCatalog$FileTable" "order" "[I"]
def wsX8_remove_r4 : List Cond := [Cond.methodLink RX1 61 yX1_told, Cond.instanceMethod yX1_told, Cond.selects RX1 yX1_told yX1_told, Cond.code yX1_told cX1_told 4 (some .int), Cond.fieldLink RX1 18 "MediaCatalog$FileTable" "values" "[I", Cond.methodLink RX1 49 yX1_slot, Cond.static yX1_slot, Cond.code yX1_slot cX1_slot 3 (some .int), Cond.methodLink RX8 309 yX2_regroup, Cond.instanceMethod yX2_regroup, Cond.selects RX2 yX2_regroup yX2_regroup, Cond.initialized RX2, Cond.code yX2_regroup cX2_regroup 6 none, Cond.fieldLink RX2 15 "MediaCatalog$GroupTable" "keepers" "J", Cond.fieldLink RX2 19 "MediaCatalog$GroupTable" "duplicates" "J", Cond.fieldLink RX2 9 "MediaCatalog$GroupTable" "files" "LMediaCatalog$FileTable;", Cond.constantLong RX2 48 (-1), Cond.methodLink RX2 32 yX1_all, Cond.instanceMethod yX1_all, Cond.selects RX1 yX1_all yX1_all, Cond.code yX1_all cX1_all 1 (some .long), Cond.methodLink RX2 22 yX1_alike, Cond.instanceMethod yX1_alike, Cond.selects RX1 yX1_alike yX1_alike]
def wsX8_remove_r5 : List Cond := [Cond.code yX1_alike cX1_alike 5 (some .long), Cond.fieldLink RX1 9 "MediaCatalog$FileTable" "digests" "[I", Cond.methodLink RX2 28 yX2_preferred, Cond.instanceMethod yX2_preferred, Cond.selects RX2 yX2_preferred yX2_preferred, Cond.code yX2_preferred cX2_preferred 5 (some .int), Cond.methodLink RX2 50 yX2_beats, Cond.instanceMethod yX2_beats, Cond.selects RX2 yX2_beats yX2_beats, Cond.code yX2_beats cX2_beats 5 (some .boolean), Cond.methodLink RX2 54 yX1_settledValue, Cond.instanceMethod yX1_settledValue, Cond.selects RX1 yX1_settledValue yX1_settledValue, Cond.code yX1_settledValue cX1_settledValue 3 (some .int), Cond.methodLink RX2 58 yX2_yearOf, Cond.instanceMethod yX2_yearOf, Cond.selects RX2 yX2_yearOf yX2_yearOf, Cond.code yX2_yearOf cX2_yearOf 3 (some .int), Cond.methodLink RX2 43 yJ13_bitCount_95d88, Cond.static yJ13_bitCount_95d88, Cond.initialized RJ13, Cond.code yJ13_bitCount_95d88 cJ13_bitCount_95d88 2 (some .int), Cond.constantLong RJ13 314 (6148914691236517205), Cond.constantLong RJ13 316 (3689348814741910323)]
def wsX8_remove_r6 : List Cond := [Cond.constantLong RJ13 318 (1085102592571150095), Cond.methodLink RX8 312 yX6_findCovers, Cond.instanceMethod yX6_findCovers, Cond.selects RX6 yX6_findCovers yX6_findCovers, Cond.code yX6_findCovers cX6_findCovers 2 none, Cond.fieldLink RX6 50 "MediaCatalog$StackTable" "covers" "J", Cond.methodLink RX6 42 yX6_has, Cond.instanceMethod yX6_has, Cond.selects RX6 yX6_has yX6_has, Cond.code yX6_has cX6_has 2 (some .boolean), Cond.methodLink RX6 80 yX6_cover, Cond.instanceMethod yX6_cover, Cond.selects RX6 yX6_cover yX6_cover, Cond.code yX6_cover cX6_cover 5 (some .int), Cond.fieldLink RX6 9 "MediaCatalog$StackTable" "files" "LMediaCatalog$FileTable;", Cond.methodLink RX6 75 yX1_settledValue, Cond.methodLink RX8 241 yX8_hasAlbum, Cond.instanceMethod yX8_hasAlbum, Cond.selects RX8 yX8_hasAlbum yX8_hasAlbum, Cond.code yX8_hasAlbum cX8_hasAlbum 2 (some .boolean), Cond.methodLink RX8 71 yX8_isWithin, Cond.methodLink RX8 298 yX0_exists, Cond.instanceMethod yX0_exists, Cond.selects RX0 yX0_exists yX0_exists]
def wsX8_remove_r7 : List Cond := [Cond.initialized RX0, Cond.code yX0_exists cX0_exists 1 (some .boolean), Cond.fieldLink RX0 18 "MediaCatalog$Album" "exists" "Z", Cond.methodLink RX8 315 yX0_rule, Cond.instanceMethod yX0_rule, Cond.selects RX0 yX0_rule yX0_rule, Cond.code yX0_rule cX0_rule 1 (some (.object "MediaCatalog$RuleText")), Cond.fieldLink RX0 12 "MediaCatalog$Album" "rule" "LMediaCatalog$RuleText;", Cond.methodLink RX8 231 yX4_filesFor, Cond.instanceMethod yX4_filesFor, Cond.selects RX4 yX4_filesFor yX4_filesFor, Cond.initialized RX4, Cond.code yX4_filesFor cX4_filesFor 4 (some .long), Cond.fieldLink RX4 38 "MediaCatalog$RuleJudge" "open" "I", Cond.fieldLink RX4 27 "MediaCatalog$RuleJudge" "ended" "[J", Cond.fieldLink RX4 31 "MediaCatalog$RuleJudge" "running" "[J", Cond.methodLink RX4 42 yX4_beginLevel, Cond.instanceMethod yX4_beginLevel, Cond.selects RX4 yX4_beginLevel yX4_beginLevel, Cond.code yX4_beginLevel cX4_beginLevel 1 none, Cond.fieldLink RX4 9 "MediaCatalog$RuleJudge" "files" "LMediaCatalog$FileTable;", Cond.fieldLink RX4 34 "MediaCatalog$RuleJudge" "negated" "[Z", Cond.methodLink RX4 67 yX1_all, Cond.methodLink RX4 45 yX5_length]
def wsX8_remove_r8 : List Cond := [Cond.instanceMethod yX5_length, Cond.selects RX5 yX5_length yX5_length, Cond.initialized RX5, Cond.code yX5_length cX5_length 1 (some .int), Cond.fieldLink RX5 15 "MediaCatalog$RuleText" "length" "I", Cond.methodLink RX4 51 yX5_at, Cond.instanceMethod yX5_at, Cond.selects RX5 yX5_at yX5_at, Cond.code yX5_at cX5_at 2 (some .char), Cond.fieldLink RX5 9 "MediaCatalog$RuleText" "characters" "[C", Cond.methodLink RX4 55 yX4_condition, Cond.instanceMethod yX4_condition, Cond.selects RX4 yX4_condition yX4_condition, Cond.code yX4_condition cX4_condition 3 (some .long), Cond.fieldLink RX4 19 "MediaCatalog$RuleJudge" "stacks" "LMediaCatalog$StackTable;", Cond.fieldLink RX4 15 "MediaCatalog$RuleJudge" "groups" "LMediaCatalog$GroupTable;", Cond.methodLink RX4 81 yX5_numberAt, Cond.instanceMethod yX5_numberAt, Cond.selects RX5 yX5_numberAt yX5_numberAt, Cond.code yX5_numberAt cX5_numberAt 4 (some .int), Cond.methodLink RX5 25 yX5_at, Cond.methodLink RX5 29 yX5_isDigit, Cond.static yX5_isDigit, Cond.code yX5_isDigit cX5_isDigit 1 (some .boolean)]
def wsX8_remove_r9 : List Cond := [Cond.methodLink RX4 85 yX4_tagged, Cond.instanceMethod yX4_tagged, Cond.selects RX4 yX4_tagged yX4_tagged, Cond.code yX4_tagged cX4_tagged 5 (some .long), Cond.methodLink RX4 115 yX1_settledValue, Cond.methodLink RX4 89 yX4_membersOf, Cond.instanceMethod yX4_membersOf, Cond.selects RX4 yX4_membersOf yX4_membersOf, Cond.code yX4_membersOf cX4_membersOf 2 (some .long), Cond.fieldLink RX4 23 "MediaCatalog$RuleJudge" "albums" "[LMediaCatalog$Album;", Cond.methodLink RX4 126 yX0_members, Cond.instanceMethod yX0_members, Cond.selects RX0 yX0_members yX0_members, Cond.code yX0_members cX0_members 1 (some .long), Cond.fieldLink RX0 22 "MediaCatalog$Album" "members" "J", Cond.methodLink RX4 92 yX6_stacked, Cond.instanceMethod yX6_stacked, Cond.selects RX6 yX6_stacked yX6_stacked, Cond.code yX6_stacked cX6_stacked 1 (some .long), Cond.methodLink RX4 97 yX6_covers, Cond.instanceMethod yX6_covers, Cond.selects RX6 yX6_covers yX6_covers, Cond.code yX6_covers cX6_covers 1 (some .long), Cond.methodLink RX4 100 yX2_duplicates]
def wsX8_remove_r10 : List Cond := [Cond.instanceMethod yX2_duplicates, Cond.selects RX2 yX2_duplicates yX2_duplicates, Cond.code yX2_duplicates cX2_duplicates 1 (some .long), Cond.methodLink RX4 105 yX2_keepers, Cond.instanceMethod yX2_keepers, Cond.selects RX2 yX2_keepers yX2_keepers, Cond.code yX2_keepers cX2_keepers 1 (some .long), Cond.methodLink RX4 108 yX4_comparing, Cond.instanceMethod yX4_comparing, Cond.selects RX4 yX4_comparing yX4_comparing, Cond.code yX4_comparing cX4_comparing 10 (some .long), Cond.methodLink RX4 131 yX5_fieldNamed, Cond.static yX5_fieldNamed, Cond.code yX5_fieldNamed cX5_fieldNamed 1 (some .int), Cond.methodLink RX4 135 yX4_agrees, Cond.static yX4_agrees, Cond.code yX4_agrees cX4_agrees 3 (some .boolean), Cond.methodLink RX4 59 yX4_take, Cond.instanceMethod yX4_take, Cond.selects RX4 yX4_take yX4_take, Cond.code yX4_take cX4_take 3 none, Cond.constantLong RX4 79 (-1), Cond.methodLink RX4 63 yX4_operate, Cond.instanceMethod yX4_operate]
def wsX8_remove_r11 : List Cond := [Cond.selects RX4 yX4_operate yX4_operate, Cond.code yX4_operate cX4_operate 2 none, Cond.methodLink RX4 73 yX4_openLevel, Cond.instanceMethod yX4_openLevel, Cond.selects RX4 yX4_openLevel yX4_openLevel, Cond.code yX4_openLevel cX4_openLevel 1 none, Cond.methodLink RX4 76 yX4_closeLevel, Cond.instanceMethod yX4_closeLevel, Cond.selects RX4 yX4_closeLevel yX4_closeLevel, Cond.code yX4_closeLevel cX4_closeLevel 3 none, Cond.methodLink RX8 319 yX0_become, Cond.instanceMethod yX0_become, Cond.selects RX0 yX0_become yX0_become, Cond.code yX0_become cX0_become 9 none, Cond.fieldLink RX0 26 "MediaCatalog$Album" "joined" "I", Cond.fieldLink RX0 30 "MediaCatalog$Album" "left" "I", Cond.methodLink RX0 58 yX3_note, Cond.instanceMethod yX3_note, Cond.selects RX3 yX3_note yX3_note, Cond.initialized RX3, Cond.code yX3_note cX3_note 4 none, Cond.fieldLink RX3 26 "MediaCatalog$Journal" "latest" "I", Cond.fieldLink RX3 9 "MediaCatalog$Journal" "albums" "[I", Cond.fieldLink RX3 15 "MediaCatalog$Journal" "files" "[I"]
def wsX8_remove_r12 : List Cond := [Cond.fieldLink RX3 18 "MediaCatalog$Journal" "joins" "[Z", Cond.fieldLink RX3 22 "MediaCatalog$Journal" "length" "I", Cond.methodLink RX3 29 Lib.Math.min.name, Cond.static Lib.Math.min.name, Cond.code Lib.Math.min.name Lib.Math.min.code 2 (some .int), Cond.methodLink RX8 95 yX1_howMany, Cond.instanceMethod yX1_howMany, Cond.selects RX1 yX1_howMany yX1_howMany, Cond.code yX1_howMany cX1_howMany 1 (some .int), Cond.methodLink RX1 39 yJ13_bitCount_95d88]
def wsX8_remove : List Cond := .code yX8_remove cX8_remove 2 (some .int) :: ((wsX8_remove_r1 ++ (wsX8_remove_r2 ++ (wsX8_remove_r3 ++ (wsX8_remove_r4 ++ (wsX8_remove_r5 ++ (wsX8_remove_r6 ++ (wsX8_remove_r7 ++ (wsX8_remove_r8 ++ (wsX8_remove_r9 ++ (wsX8_remove_r10 ++ (wsX8_remove_r11 ++ wsX8_remove_r12))))))))))) ++ wsX80 ++ wsX10 ++ wsX60 ++ wsX20 ++ wsX00 ++ wsX40 ++ wsX50 ++ wsX30)
def wsX8_fileCount : List Cond := .code yX8_fileCount cX8_fileCount 1 (some .int) :: ([.fieldLink RX8 10 "MediaCatalog" "files" "LMediaCatalog$FileTable;", .methodLink RX8 95 yX1_howMany, .instanceMethod yX1_howMany, .selects RX1 yX1_howMany yX1_howMany, .initialized RX1, .code yX1_howMany cX1_howMany 1 (some .int), .fieldLink RX1 31 "MediaCatalog$FileTable" "present" "J", .methodLink RX1 39 yJ13_bitCount_95d88, .static yJ13_bitCount_95d88, .initialized RJ13, .code yJ13_bitCount_95d88 cJ13_bitCount_95d88 2 (some .int), .constantLong RJ13 314 (6148914691236517205), .constantLong RJ13 316 (3689348814741910323), .constantLong RJ13 318 (1085102592571150095)] ++ wsX80 ++ wsX10)
def wsX8_setDigest_r1 : List Cond := [Cond.fieldLink RX8 10 "MediaCatalog" "files" "LMediaCatalog$FileTable;", Cond.methodLink RX8 87 yX1_has, Cond.instanceMethod yX1_has, Cond.selects RX1 yX1_has yX1_has, Cond.initialized RX1, Cond.code yX1_has cX1_has 2 (some .boolean), Cond.fieldLink RX1 31 "MediaCatalog$FileTable" "present" "J", Cond.static yX8_isWithin, Cond.initialized RX8, Cond.code yX8_isWithin cX8_isWithin 3 (some .boolean), Cond.static yX8_holds, Cond.code yX8_holds cX8_holds 3 (some .boolean), Cond.methodLink RX8 71 yX8_isWithin, Cond.methodLink RX8 98 yX1_digest, Cond.instanceMethod yX1_digest, Cond.selects RX1 yX1_digest yX1_digest, Cond.code yX1_digest cX1_digest 2 (some .int), Cond.fieldLink RX1 9 "MediaCatalog$FileTable" "digests" "[I", Cond.methodLink RX8 102 yX1_changeDigest, Cond.instanceMethod yX1_changeDigest, Cond.selects RX1 yX1_changeDigest yX1_changeDigest, Cond.code yX1_changeDigest cX1_changeDigest 3 none, Cond.methodLink RX8 84 yX8_settle, Cond.instanceMethod yX8_settle]
def wsX8_setDigest_r2 : List Cond := [Cond.selects RX8 yX8_settle yX8_settle, Cond.code yX8_settle cX8_settle 4 none, Cond.fieldLink RX8 21 "MediaCatalog" "groups" "LMediaCatalog$GroupTable;", Cond.fieldLink RX8 28 "MediaCatalog" "stacks" "LMediaCatalog$StackTable;", Cond.fieldLink RX8 51 "MediaCatalog" "judge" "LMediaCatalog$RuleJudge;", Cond.fieldLink RX8 41 "MediaCatalog" "albums" "[LMediaCatalog$Album;", Cond.fieldLink RX8 67 "MediaCatalog" "journal" "LMediaCatalog$Journal;", Cond.methodLink RX8 306 yX1_settleValues, Cond.instanceMethod yX1_settleValues, Cond.selects RX1 yX1_settleValues yX1_settleValues, Cond.code yX1_settleValues cX1_settleValues 2 none, Cond.methodLink RX1 64 yX1_settleFile, Cond.instanceMethod yX1_settleFile, Cond.selects RX1 yX1_settleFile yX1_settleFile, Cond.code yX1_settleFile cX1_settleFile 4 none, Cond.fieldLink RX1 21 "MediaCatalog$FileTable" "settled" "[I", Cond.methodLink RX1 72 Lib.Math.max.name, Cond.static Lib.Math.max.name, Cond.initialized "java/lang/Math", Cond.code Lib.Math.max.name Lib.Math.max.code 2 (some .int), Cond.methodLink RX1 68 yX1_firstTeller, Cond.instanceMethod yX1_firstTeller, Cond.selects RX1 yX1_firstTeller yX1_firstTeller, Cond.code yX1_firstTeller cX1_firstTeller 4 (some .int)]
def wsX8_setDigest_r3 : List Cond := [Cond.fieldLink RX1 24 "MediaCatalog$FileTable" "order" "[I", Cond.methodLink RX1 61 yX1_told, Cond.instanceMethod yX1_told, Cond.selects RX1 yX1_told yX1_told, Cond.code yX1_told cX1_told 4 (some .int), Cond.fieldLink RX1 18 "MediaCatalog$FileTable" "values" "[I", Cond.methodLink RX1 49 yX1_slot, Cond.static yX1_slot, Cond.code yX1_slot cX1_slot 3 (some .int), Cond.methodLink RX8 309 yX2_regroup, Cond.instanceMethod yX2_regroup, Cond.selects RX2 yX2_regroup yX2_regroup, Cond.initialized RX2, Cond.code yX2_regroup cX2_regroup 6 none, Cond.fieldLink RX2 15 "MediaCatalog$GroupTable" "keepers" "J", Cond.fieldLink RX2 19 "MediaCatalog$GroupTable" "duplicates" "J", Cond.fieldLink RX2 9 "MediaCatalog$GroupTable" "files" "LMediaCatalog$FileTable;", Cond.constantLong RX2 48 (-1), Cond.methodLink RX2 32 yX1_all, Cond.instanceMethod yX1_all, Cond.selects RX1 yX1_all yX1_all, Cond.code yX1_all cX1_all 1 (some .long), Cond.methodLink RX2 22 yX1_alike, Cond.instanceMethod yX1_alike]
def wsX8_setDigest_r4 : List Cond := [Cond.selects RX1 yX1_alike yX1_alike, Cond.code yX1_alike cX1_alike 5 (some .long), Cond.static yX8_only, Cond.code yX8_only cX8_only 1 (some .long), Cond.methodLink RX2 28 yX2_preferred, Cond.instanceMethod yX2_preferred, Cond.selects RX2 yX2_preferred yX2_preferred, Cond.code yX2_preferred cX2_preferred 5 (some .int), Cond.methodLink RX2 50 yX2_beats, Cond.instanceMethod yX2_beats, Cond.selects RX2 yX2_beats yX2_beats, Cond.code yX2_beats cX2_beats 5 (some .boolean), Cond.methodLink RX2 54 yX1_settledValue, Cond.instanceMethod yX1_settledValue, Cond.selects RX1 yX1_settledValue yX1_settledValue, Cond.code yX1_settledValue cX1_settledValue 3 (some .int), Cond.methodLink RX2 58 yX2_yearOf, Cond.instanceMethod yX2_yearOf, Cond.selects RX2 yX2_yearOf yX2_yearOf, Cond.code yX2_yearOf cX2_yearOf 3 (some .int), Cond.methodLink RX2 43 yJ13_bitCount_95d88, Cond.static yJ13_bitCount_95d88, Cond.initialized RJ13, Cond.code yJ13_bitCount_95d88 cJ13_bitCount_95d88 2 (some .int)]
def wsX8_setDigest_r5 : List Cond := [Cond.constantLong RJ13 314 (6148914691236517205), Cond.constantLong RJ13 316 (3689348814741910323), Cond.constantLong RJ13 318 (1085102592571150095), Cond.methodLink RX8 312 yX6_findCovers, Cond.instanceMethod yX6_findCovers, Cond.selects RX6 yX6_findCovers yX6_findCovers, Cond.initialized RX6, Cond.code yX6_findCovers cX6_findCovers 2 none, Cond.fieldLink RX6 50 "MediaCatalog$StackTable" "covers" "J", Cond.methodLink RX6 42 yX6_has, Cond.instanceMethod yX6_has, Cond.selects RX6 yX6_has yX6_has, Cond.code yX6_has cX6_has 2 (some .boolean), Cond.fieldLink RX6 19 "MediaCatalog$StackTable" "heights" "[I", Cond.methodLink RX6 80 yX6_cover, Cond.instanceMethod yX6_cover, Cond.selects RX6 yX6_cover yX6_cover, Cond.code yX6_cover cX6_cover 5 (some .int), Cond.fieldLink RX6 22 "MediaCatalog$StackTable" "chosen" "[I", Cond.fieldLink RX6 15 "MediaCatalog$StackTable" "places" "[I", Cond.fieldLink RX6 9 "MediaCatalog$StackTable" "files" "LMediaCatalog$FileTable;", Cond.methodLink RX6 57 yX6_spot, Cond.static yX6_spot, Cond.code yX6_spot cX6_spot 2 (some .int)]
def wsX8_setDigest_r6 : List Cond := [Cond.methodLink RX6 75 yX1_settledValue, Cond.methodLink RX8 241 yX8_hasAlbum, Cond.instanceMethod yX8_hasAlbum, Cond.selects RX8 yX8_hasAlbum yX8_hasAlbum, Cond.code yX8_hasAlbum cX8_hasAlbum 2 (some .boolean), Cond.methodLink RX8 298 yX0_exists, Cond.instanceMethod yX0_exists, Cond.selects RX0 yX0_exists yX0_exists, Cond.initialized RX0, Cond.code yX0_exists cX0_exists 1 (some .boolean), Cond.fieldLink RX0 18 "MediaCatalog$Album" "exists" "Z", Cond.methodLink RX8 315 yX0_rule, Cond.instanceMethod yX0_rule, Cond.selects RX0 yX0_rule yX0_rule, Cond.code yX0_rule cX0_rule 1 (some (.object "MediaCatalog$RuleText")), Cond.fieldLink RX0 12 "MediaCatalog$Album" "rule" "LMediaCatalog$RuleText;", Cond.methodLink RX8 231 yX4_filesFor, Cond.instanceMethod yX4_filesFor, Cond.selects RX4 yX4_filesFor yX4_filesFor, Cond.initialized RX4, Cond.code yX4_filesFor cX4_filesFor 4 (some .long), Cond.fieldLink RX4 38 "MediaCatalog$RuleJudge" "open" "I", Cond.fieldLink RX4 27 "MediaCatalog$RuleJudge" "ended" "[J", Cond.fieldLink RX4 31 "MediaCatalog$RuleJudge" "running" "[J"]
def wsX8_setDigest_r7 : List Cond := [Cond.methodLink RX4 42 yX4_beginLevel, Cond.instanceMethod yX4_beginLevel, Cond.selects RX4 yX4_beginLevel yX4_beginLevel, Cond.code yX4_beginLevel cX4_beginLevel 1 none, Cond.fieldLink RX4 9 "MediaCatalog$RuleJudge" "files" "LMediaCatalog$FileTable;", Cond.fieldLink RX4 34 "MediaCatalog$RuleJudge" "negated" "[Z", Cond.methodLink RX4 67 yX1_all, Cond.methodLink RX4 45 yX5_length, Cond.instanceMethod yX5_length, Cond.selects RX5 yX5_length yX5_length, Cond.initialized RX5, Cond.code yX5_length cX5_length 1 (some .int), Cond.fieldLink RX5 15 "MediaCatalog$RuleText" "length" "I", Cond.methodLink RX4 51 yX5_at, Cond.instanceMethod yX5_at, Cond.selects RX5 yX5_at yX5_at, Cond.code yX5_at cX5_at 2 (some .char), Cond.fieldLink RX5 9 "MediaCatalog$RuleText" "characters" "[C", Cond.methodLink RX4 55 yX4_condition, Cond.instanceMethod yX4_condition, Cond.selects RX4 yX4_condition yX4_condition, Cond.code yX4_condition cX4_condition 3 (some .long), Cond.fieldLink RX4 19 "MediaCatalog$RuleJudge" "stacks" "LMediaCatalog$StackTable;", Cond.fieldLink RX4 15 "MediaCatalog$RuleJudge" "groups" "LMediaCatalog$GroupTable;"]
def wsX8_setDigest_r8 : List Cond := [Cond.methodLink RX4 81 yX5_numberAt, Cond.instanceMethod yX5_numberAt, Cond.selects RX5 yX5_numberAt yX5_numberAt, Cond.code yX5_numberAt cX5_numberAt 4 (some .int), Cond.methodLink RX5 25 yX5_at, Cond.methodLink RX5 29 yX5_isDigit, Cond.static yX5_isDigit, Cond.code yX5_isDigit cX5_isDigit 1 (some .boolean), Cond.methodLink RX4 85 yX4_tagged, Cond.instanceMethod yX4_tagged, Cond.selects RX4 yX4_tagged yX4_tagged, Cond.code yX4_tagged cX4_tagged 5 (some .long), Cond.methodLink RX4 115 yX1_settledValue, Cond.methodLink RX4 89 yX4_membersOf, Cond.instanceMethod yX4_membersOf, Cond.selects RX4 yX4_membersOf yX4_membersOf, Cond.code yX4_membersOf cX4_membersOf 2 (some .long), Cond.fieldLink RX4 23 "MediaCatalog$RuleJudge" "albums" "[LMediaCatalog$Album;", Cond.methodLink RX4 126 yX0_members, Cond.instanceMethod yX0_members, Cond.selects RX0 yX0_members yX0_members, Cond.code yX0_members cX0_members 1 (some .long), Cond.fieldLink RX0 22 "MediaCatalog$Album" "members" "J", Cond.methodLink RX4 92 yX6_stacked]
def wsX8_setDigest_r9 : List Cond := [Cond.instanceMethod yX6_stacked, Cond.selects RX6 yX6_stacked yX6_stacked, Cond.code yX6_stacked cX6_stacked 1 (some .long), Cond.fieldLink RX6 46 "MediaCatalog$StackTable" "stacked" "J", Cond.methodLink RX4 97 yX6_covers, Cond.instanceMethod yX6_covers, Cond.selects RX6 yX6_covers yX6_covers, Cond.code yX6_covers cX6_covers 1 (some .long), Cond.methodLink RX4 100 yX2_duplicates, Cond.instanceMethod yX2_duplicates, Cond.selects RX2 yX2_duplicates yX2_duplicates, Cond.code yX2_duplicates cX2_duplicates 1 (some .long), Cond.methodLink RX4 105 yX2_keepers, Cond.instanceMethod yX2_keepers, Cond.selects RX2 yX2_keepers yX2_keepers, Cond.code yX2_keepers cX2_keepers 1 (some .long), Cond.methodLink RX4 108 yX4_comparing, Cond.instanceMethod yX4_comparing, Cond.selects RX4 yX4_comparing yX4_comparing, Cond.code yX4_comparing cX4_comparing 10 (some .long), Cond.methodLink RX4 131 yX5_fieldNamed, Cond.static yX5_fieldNamed, Cond.code yX5_fieldNamed cX5_fieldNamed 1 (some .int), Cond.methodLink RX4 135 yX4_agrees]
def wsX8_setDigest_r10 : List Cond := [Cond.static yX4_agrees, Cond.code yX4_agrees cX4_agrees 3 (some .boolean), Cond.methodLink RX4 59 yX4_take, Cond.instanceMethod yX4_take, Cond.selects RX4 yX4_take yX4_take, Cond.code yX4_take cX4_take 3 none, Cond.constantLong RX4 79 (-1), Cond.methodLink RX4 63 yX4_operate, Cond.instanceMethod yX4_operate, Cond.selects RX4 yX4_operate yX4_operate, Cond.code yX4_operate cX4_operate 2 none, Cond.methodLink RX4 73 yX4_openLevel, Cond.instanceMethod yX4_openLevel, Cond.selects RX4 yX4_openLevel yX4_openLevel, Cond.code yX4_openLevel cX4_openLevel 1 none, Cond.methodLink RX4 76 yX4_closeLevel, Cond.instanceMethod yX4_closeLevel, Cond.selects RX4 yX4_closeLevel yX4_closeLevel, Cond.code yX4_closeLevel cX4_closeLevel 3 none, Cond.methodLink RX8 319 yX0_become, Cond.instanceMethod yX0_become, Cond.selects RX0 yX0_become yX0_become, Cond.code yX0_become cX0_become 9 none, Cond.fieldLink RX0 26 "MediaCatalog$Album" "joined" "I"]
def wsX8_setDigest_r11 : List Cond := [Cond.fieldLink RX0 30 "MediaCatalog$Album" "left" "I", Cond.methodLink RX0 58 yX3_note, Cond.instanceMethod yX3_note, Cond.selects RX3 yX3_note yX3_note, Cond.initialized RX3, Cond.code yX3_note cX3_note 4 none, Cond.fieldLink RX3 26 "MediaCatalog$Journal" "latest" "I", Cond.fieldLink RX3 9 "MediaCatalog$Journal" "albums" "[I", Cond.fieldLink RX3 15 "MediaCatalog$Journal" "files" "[I", Cond.fieldLink RX3 18 "MediaCatalog$Journal" "joins" "[Z", Cond.fieldLink RX3 22 "MediaCatalog$Journal" "length" "I", Cond.methodLink RX3 29 Lib.Math.min.name, Cond.static Lib.Math.min.name, Cond.code Lib.Math.min.name Lib.Math.min.code 2 (some .int)]
def wsX8_setDigest : List Cond := .code yX8_setDigest cX8_setDigest 4 (some .int) :: ((wsX8_setDigest_r1 ++ (wsX8_setDigest_r2 ++ (wsX8_setDigest_r3 ++ (wsX8_setDigest_r4 ++ (wsX8_setDigest_r5 ++ (wsX8_setDigest_r6 ++ (wsX8_setDigest_r7 ++ (wsX8_setDigest_r8 ++ (wsX8_setDigest_r9 ++ (wsX8_setDigest_r10 ++ wsX8_setDigest_r11)))))))))) ++ wsX80 ++ wsX10 ++ wsX20 ++ wsX60 ++ wsX00 ++ wsX40 ++ wsX50 ++ wsX30)
def wsX8_isSource : List Cond := .code yX8_isSource cX8_isSource 1 (some .boolean) :: ([.methodLink RX8 71 yX8_isWithin, .static yX8_isWithin, .initialized RX8, .code yX8_isWithin cX8_isWithin 3 (some .boolean)])
def wsX8_isSlot : List Cond := .code yX8_isSlot cX8_isSlot 4 (some .boolean) :: ([.fieldLink RX8 10 "MediaCatalog" "files" "LMediaCatalog$FileTable;", .methodLink RX8 87 yX1_has, .instanceMethod yX1_has, .selects RX1 yX1_has yX1_has, .initialized RX1, .code yX1_has cX1_has 2 (some .boolean), .fieldLink RX1 31 "MediaCatalog$FileTable" "present" "J", .static yX8_isWithin, .initialized RX8, .code yX8_isWithin cX8_isWithin 3 (some .boolean), .static yX8_holds, .code yX8_holds cX8_holds 3 (some .boolean), .methodLink RX8 137 yX8_isSource, .static yX8_isSource, .code yX8_isSource cX8_isSource 1 (some .boolean), .methodLink RX8 71 yX8_isWithin] ++ wsX80 ++ wsX10)
def wsX8_orNotFound : List Cond := .code yX8_orNotFound cX8_orNotFound 1 (some .int) :: ([])
def wsX8_setValue_r1 : List Cond := [Cond.fieldLink RX8 109 "MediaCatalog" "LEAST_VALUES" "[I", Cond.fieldLink RX8 113 "MediaCatalog" "GREATEST_VALUES" "[I", Cond.fieldLink RX8 10 "MediaCatalog" "files" "LMediaCatalog$FileTable;", Cond.methodLink RX8 106 yX8_isSlot, Cond.instanceMethod yX8_isSlot, Cond.selects RX8 yX8_isSlot yX8_isSlot, Cond.initialized RX8, Cond.code yX8_isSlot cX8_isSlot 4 (some .boolean), Cond.methodLink RX8 87 yX1_has, Cond.instanceMethod yX1_has, Cond.selects RX1 yX1_has yX1_has, Cond.initialized RX1, Cond.code yX1_has cX1_has 2 (some .boolean), Cond.fieldLink RX1 31 "MediaCatalog$FileTable" "present" "J", Cond.static yX8_isWithin, Cond.code yX8_isWithin cX8_isWithin 3 (some .boolean), Cond.static yX8_holds, Cond.code yX8_holds cX8_holds 3 (some .boolean), Cond.methodLink RX8 137 yX8_isSource, Cond.static yX8_isSource, Cond.code yX8_isSource cX8_isSource 1 (some .boolean), Cond.methodLink RX8 71 yX8_isWithin, Cond.methodLink RX8 116 yX1_told, Cond.instanceMethod yX1_told]
def wsX8_setValue_r2 : List Cond := [Cond.selects RX1 yX1_told yX1_told, Cond.code yX1_told cX1_told 4 (some .int), Cond.fieldLink RX1 18 "MediaCatalog$FileTable" "values" "[I", Cond.methodLink RX1 49 yX1_slot, Cond.static yX1_slot, Cond.code yX1_slot cX1_slot 3 (some .int), Cond.methodLink RX8 120 yX1_tell, Cond.instanceMethod yX1_tell, Cond.selects RX1 yX1_tell yX1_tell, Cond.code yX1_tell cX1_tell 5 none, Cond.methodLink RX8 84 yX8_settle, Cond.instanceMethod yX8_settle, Cond.selects RX8 yX8_settle yX8_settle, Cond.code yX8_settle cX8_settle 4 none, Cond.fieldLink RX8 21 "MediaCatalog" "groups" "LMediaCatalog$GroupTable;", Cond.fieldLink RX8 28 "MediaCatalog" "stacks" "LMediaCatalog$StackTable;", Cond.fieldLink RX8 51 "MediaCatalog" "judge" "LMediaCatalog$RuleJudge;", Cond.fieldLink RX8 41 "MediaCatalog" "albums" "[LMediaCatalog$Album;", Cond.fieldLink RX8 67 "MediaCatalog" "journal" "LMediaCatalog$Journal;", Cond.methodLink RX8 306 yX1_settleValues, Cond.instanceMethod yX1_settleValues, Cond.selects RX1 yX1_settleValues yX1_settleValues, Cond.code yX1_settleValues cX1_settleValues 2 none, Cond.methodLink RX1 64 yX1_settleFile]
def wsX8_setValue_r3 : List Cond := [Cond.instanceMethod yX1_settleFile, Cond.selects RX1 yX1_settleFile yX1_settleFile, Cond.code yX1_settleFile cX1_settleFile 4 none, Cond.fieldLink RX1 21 "MediaCatalog$FileTable" "settled" "[I", Cond.methodLink RX1 72 Lib.Math.max.name, Cond.static Lib.Math.max.name, Cond.initialized "java/lang/Math", Cond.code Lib.Math.max.name Lib.Math.max.code 2 (some .int), Cond.methodLink RX1 68 yX1_firstTeller, Cond.instanceMethod yX1_firstTeller, Cond.selects RX1 yX1_firstTeller yX1_firstTeller, Cond.code yX1_firstTeller cX1_firstTeller 4 (some .int), Cond.fieldLink RX1 24 "MediaCatalog$FileTable" "order" "[I", Cond.methodLink RX1 61 yX1_told, Cond.methodLink RX8 309 yX2_regroup, Cond.instanceMethod yX2_regroup, Cond.selects RX2 yX2_regroup yX2_regroup, Cond.initialized RX2, Cond.code yX2_regroup cX2_regroup 6 none, Cond.fieldLink RX2 15 "MediaCatalog$GroupTable" "keepers" "J", Cond.fieldLink RX2 19 "MediaCatalog$GroupTable" "duplicates" "J", Cond.fieldLink RX2 9 "MediaCatalog$GroupTable" "files" "LMediaCatalog$FileTable;", Cond.constantLong RX2 48 (-1), Cond.methodLink RX2 32 yX1_all]
def wsX8_setValue_r4 : List Cond := [Cond.instanceMethod yX1_all, Cond.selects RX1 yX1_all yX1_all, Cond.code yX1_all cX1_all 1 (some .long), Cond.methodLink RX2 22 yX1_alike, Cond.instanceMethod yX1_alike, Cond.selects RX1 yX1_alike yX1_alike, Cond.code yX1_alike cX1_alike 5 (some .long), Cond.fieldLink RX1 9 "MediaCatalog$FileTable" "digests" "[I", Cond.static yX8_only, Cond.code yX8_only cX8_only 1 (some .long), Cond.methodLink RX2 28 yX2_preferred, Cond.instanceMethod yX2_preferred, Cond.selects RX2 yX2_preferred yX2_preferred, Cond.code yX2_preferred cX2_preferred 5 (some .int), Cond.methodLink RX2 50 yX2_beats, Cond.instanceMethod yX2_beats, Cond.selects RX2 yX2_beats yX2_beats, Cond.code yX2_beats cX2_beats 5 (some .boolean), Cond.methodLink RX2 54 yX1_settledValue, Cond.instanceMethod yX1_settledValue, Cond.selects RX1 yX1_settledValue yX1_settledValue, Cond.code yX1_settledValue cX1_settledValue 3 (some .int), Cond.methodLink RX2 58 yX2_yearOf, Cond.instanceMethod yX2_yearOf]
def wsX8_setValue_r5 : List Cond := [Cond.selects RX2 yX2_yearOf yX2_yearOf, Cond.code yX2_yearOf cX2_yearOf 3 (some .int), Cond.methodLink RX2 43 yJ13_bitCount_95d88, Cond.static yJ13_bitCount_95d88, Cond.initialized RJ13, Cond.code yJ13_bitCount_95d88 cJ13_bitCount_95d88 2 (some .int), Cond.constantLong RJ13 314 (6148914691236517205), Cond.constantLong RJ13 316 (3689348814741910323), Cond.constantLong RJ13 318 (1085102592571150095), Cond.methodLink RX8 312 yX6_findCovers, Cond.instanceMethod yX6_findCovers, Cond.selects RX6 yX6_findCovers yX6_findCovers, Cond.initialized RX6, Cond.code yX6_findCovers cX6_findCovers 2 none, Cond.fieldLink RX6 50 "MediaCatalog$StackTable" "covers" "J", Cond.methodLink RX6 42 yX6_has, Cond.instanceMethod yX6_has, Cond.selects RX6 yX6_has yX6_has, Cond.code yX6_has cX6_has 2 (some .boolean), Cond.fieldLink RX6 19 "MediaCatalog$StackTable" "heights" "[I", Cond.methodLink RX6 80 yX6_cover, Cond.instanceMethod yX6_cover, Cond.selects RX6 yX6_cover yX6_cover, Cond.code yX6_cover cX6_cover 5 (some .int)]
def wsX8_setValue_r6 : List Cond := [Cond.fieldLink RX6 22 "MediaCatalog$StackTable" "chosen" "[I", Cond.fieldLink RX6 15 "MediaCatalog$StackTable" "places" "[I", Cond.fieldLink RX6 9 "MediaCatalog$StackTable" "files" "LMediaCatalog$FileTable;", Cond.methodLink RX6 57 yX6_spot, Cond.static yX6_spot, Cond.code yX6_spot cX6_spot 2 (some .int), Cond.methodLink RX6 75 yX1_settledValue, Cond.methodLink RX8 241 yX8_hasAlbum, Cond.instanceMethod yX8_hasAlbum, Cond.selects RX8 yX8_hasAlbum yX8_hasAlbum, Cond.code yX8_hasAlbum cX8_hasAlbum 2 (some .boolean), Cond.methodLink RX8 298 yX0_exists, Cond.instanceMethod yX0_exists, Cond.selects RX0 yX0_exists yX0_exists, Cond.initialized RX0, Cond.code yX0_exists cX0_exists 1 (some .boolean), Cond.fieldLink RX0 18 "MediaCatalog$Album" "exists" "Z", Cond.methodLink RX8 315 yX0_rule, Cond.instanceMethod yX0_rule, Cond.selects RX0 yX0_rule yX0_rule, Cond.code yX0_rule cX0_rule 1 (some (.object "MediaCatalog$RuleText")), Cond.fieldLink RX0 12 "MediaCatalog$Album" "rule" "LMediaCatalog$RuleText;", Cond.methodLink RX8 231 yX4_filesFor, Cond.instanceMethod yX4_filesFor]
def wsX8_setValue_r7 : List Cond := [Cond.selects RX4 yX4_filesFor yX4_filesFor, Cond.initialized RX4, Cond.code yX4_filesFor cX4_filesFor 4 (some .long), Cond.fieldLink RX4 38 "MediaCatalog$RuleJudge" "open" "I", Cond.fieldLink RX4 27 "MediaCatalog$RuleJudge" "ended" "[J", Cond.fieldLink RX4 31 "MediaCatalog$RuleJudge" "running" "[J", Cond.methodLink RX4 42 yX4_beginLevel, Cond.instanceMethod yX4_beginLevel, Cond.selects RX4 yX4_beginLevel yX4_beginLevel, Cond.code yX4_beginLevel cX4_beginLevel 1 none, Cond.fieldLink RX4 9 "MediaCatalog$RuleJudge" "files" "LMediaCatalog$FileTable;", Cond.fieldLink RX4 34 "MediaCatalog$RuleJudge" "negated" "[Z", Cond.methodLink RX4 67 yX1_all, Cond.methodLink RX4 45 yX5_length, Cond.instanceMethod yX5_length, Cond.selects RX5 yX5_length yX5_length, Cond.initialized RX5, Cond.code yX5_length cX5_length 1 (some .int), Cond.fieldLink RX5 15 "MediaCatalog$RuleText" "length" "I", Cond.methodLink RX4 51 yX5_at, Cond.instanceMethod yX5_at, Cond.selects RX5 yX5_at yX5_at, Cond.code yX5_at cX5_at 2 (some .char), Cond.fieldLink RX5 9 "MediaCatalog$RuleText" "characters" "[C"]
def wsX8_setValue_r8 : List Cond := [Cond.methodLink RX4 55 yX4_condition, Cond.instanceMethod yX4_condition, Cond.selects RX4 yX4_condition yX4_condition, Cond.code yX4_condition cX4_condition 3 (some .long), Cond.fieldLink RX4 19 "MediaCatalog$RuleJudge" "stacks" "LMediaCatalog$StackTable;", Cond.fieldLink RX4 15 "MediaCatalog$RuleJudge" "groups" "LMediaCatalog$GroupTable;", Cond.methodLink RX4 81 yX5_numberAt, Cond.instanceMethod yX5_numberAt, Cond.selects RX5 yX5_numberAt yX5_numberAt, Cond.code yX5_numberAt cX5_numberAt 4 (some .int), Cond.methodLink RX5 25 yX5_at, Cond.methodLink RX5 29 yX5_isDigit, Cond.static yX5_isDigit, Cond.code yX5_isDigit cX5_isDigit 1 (some .boolean), Cond.methodLink RX4 85 yX4_tagged, Cond.instanceMethod yX4_tagged, Cond.selects RX4 yX4_tagged yX4_tagged, Cond.code yX4_tagged cX4_tagged 5 (some .long), Cond.methodLink RX4 115 yX1_settledValue, Cond.methodLink RX4 89 yX4_membersOf, Cond.instanceMethod yX4_membersOf, Cond.selects RX4 yX4_membersOf yX4_membersOf, Cond.code yX4_membersOf cX4_membersOf 2 (some .long), Cond.fieldLink RX4 23 "MediaCatalog$RuleJudge" "albums" "[LMediaCatalog$Album;"]
def wsX8_setValue_r9 : List Cond := [Cond.methodLink RX4 126 yX0_members, Cond.instanceMethod yX0_members, Cond.selects RX0 yX0_members yX0_members, Cond.code yX0_members cX0_members 1 (some .long), Cond.fieldLink RX0 22 "MediaCatalog$Album" "members" "J", Cond.methodLink RX4 92 yX6_stacked, Cond.instanceMethod yX6_stacked, Cond.selects RX6 yX6_stacked yX6_stacked, Cond.code yX6_stacked cX6_stacked 1 (some .long), Cond.fieldLink RX6 46 "MediaCatalog$StackTable" "stacked" "J", Cond.methodLink RX4 97 yX6_covers, Cond.instanceMethod yX6_covers, Cond.selects RX6 yX6_covers yX6_covers, Cond.code yX6_covers cX6_covers 1 (some .long), Cond.methodLink RX4 100 yX2_duplicates, Cond.instanceMethod yX2_duplicates, Cond.selects RX2 yX2_duplicates yX2_duplicates, Cond.code yX2_duplicates cX2_duplicates 1 (some .long), Cond.methodLink RX4 105 yX2_keepers, Cond.instanceMethod yX2_keepers, Cond.selects RX2 yX2_keepers yX2_keepers, Cond.code yX2_keepers cX2_keepers 1 (some .long), Cond.methodLink RX4 108 yX4_comparing, Cond.instanceMethod yX4_comparing]
def wsX8_setValue_r10 : List Cond := [Cond.selects RX4 yX4_comparing yX4_comparing, Cond.code yX4_comparing cX4_comparing 10 (some .long), Cond.methodLink RX4 131 yX5_fieldNamed, Cond.static yX5_fieldNamed, Cond.code yX5_fieldNamed cX5_fieldNamed 1 (some .int), Cond.methodLink RX4 135 yX4_agrees, Cond.static yX4_agrees, Cond.code yX4_agrees cX4_agrees 3 (some .boolean), Cond.methodLink RX4 59 yX4_take, Cond.instanceMethod yX4_take, Cond.selects RX4 yX4_take yX4_take, Cond.code yX4_take cX4_take 3 none, Cond.constantLong RX4 79 (-1), Cond.methodLink RX4 63 yX4_operate, Cond.instanceMethod yX4_operate, Cond.selects RX4 yX4_operate yX4_operate, Cond.code yX4_operate cX4_operate 2 none, Cond.methodLink RX4 73 yX4_openLevel, Cond.instanceMethod yX4_openLevel, Cond.selects RX4 yX4_openLevel yX4_openLevel, Cond.code yX4_openLevel cX4_openLevel 1 none, Cond.methodLink RX4 76 yX4_closeLevel, Cond.instanceMethod yX4_closeLevel, Cond.selects RX4 yX4_closeLevel yX4_closeLevel]
def wsX8_setValue_r11 : List Cond := [Cond.code yX4_closeLevel cX4_closeLevel 3 none, Cond.methodLink RX8 319 yX0_become, Cond.instanceMethod yX0_become, Cond.selects RX0 yX0_become yX0_become, Cond.code yX0_become cX0_become 9 none, Cond.fieldLink RX0 26 "MediaCatalog$Album" "joined" "I", Cond.fieldLink RX0 30 "MediaCatalog$Album" "left" "I", Cond.methodLink RX0 58 yX3_note, Cond.instanceMethod yX3_note, Cond.selects RX3 yX3_note yX3_note, Cond.initialized RX3, Cond.code yX3_note cX3_note 4 none, Cond.fieldLink RX3 26 "MediaCatalog$Journal" "latest" "I", Cond.fieldLink RX3 9 "MediaCatalog$Journal" "albums" "[I", Cond.fieldLink RX3 15 "MediaCatalog$Journal" "files" "[I", Cond.fieldLink RX3 18 "MediaCatalog$Journal" "joins" "[Z", Cond.fieldLink RX3 22 "MediaCatalog$Journal" "length" "I", Cond.methodLink RX3 29 Lib.Math.min.name, Cond.static Lib.Math.min.name, Cond.code Lib.Math.min.name Lib.Math.min.code 2 (some .int), Cond.methodLink RX8 124 yX8_orNotFound, Cond.static yX8_orNotFound, Cond.code yX8_orNotFound cX8_orNotFound 1 (some .int)]
def wsX8_setValue : List Cond := .code yX8_setValue cX8_setValue 6 (some .int) :: ((wsX8_setValue_r1 ++ (wsX8_setValue_r2 ++ (wsX8_setValue_r3 ++ (wsX8_setValue_r4 ++ (wsX8_setValue_r5 ++ (wsX8_setValue_r6 ++ (wsX8_setValue_r7 ++ (wsX8_setValue_r8 ++ (wsX8_setValue_r9 ++ (wsX8_setValue_r10 ++ wsX8_setValue_r11)))))))))) ++ wsX80 ++ wsX10 ++ wsX20 ++ wsX60 ++ wsX00 ++ wsX40 ++ wsX50 ++ wsX30)
def wsX8_clearValue_r1 : List Cond := [Cond.fieldLink RX8 10 "MediaCatalog" "files" "LMediaCatalog$FileTable;", Cond.methodLink RX8 106 yX8_isSlot, Cond.instanceMethod yX8_isSlot, Cond.selects RX8 yX8_isSlot yX8_isSlot, Cond.initialized RX8, Cond.code yX8_isSlot cX8_isSlot 4 (some .boolean), Cond.methodLink RX8 87 yX1_has, Cond.instanceMethod yX1_has, Cond.selects RX1 yX1_has yX1_has, Cond.initialized RX1, Cond.code yX1_has cX1_has 2 (some .boolean), Cond.fieldLink RX1 31 "MediaCatalog$FileTable" "present" "J", Cond.static yX8_isWithin, Cond.code yX8_isWithin cX8_isWithin 3 (some .boolean), Cond.static yX8_holds, Cond.code yX8_holds cX8_holds 3 (some .boolean), Cond.methodLink RX8 137 yX8_isSource, Cond.static yX8_isSource, Cond.code yX8_isSource cX8_isSource 1 (some .boolean), Cond.methodLink RX8 71 yX8_isWithin, Cond.methodLink RX8 116 yX1_told, Cond.instanceMethod yX1_told, Cond.selects RX1 yX1_told yX1_told, Cond.code yX1_told cX1_told 4 (some .int)]
def wsX8_clearValue_r2 : List Cond := [Cond.fieldLink RX1 18 "MediaCatalog$FileTable" "values" "[I", Cond.methodLink RX1 49 yX1_slot, Cond.static yX1_slot, Cond.code yX1_slot cX1_slot 3 (some .int), Cond.methodLink RX8 120 yX1_tell, Cond.instanceMethod yX1_tell, Cond.selects RX1 yX1_tell yX1_tell, Cond.code yX1_tell cX1_tell 5 none, Cond.methodLink RX8 84 yX8_settle, Cond.instanceMethod yX8_settle, Cond.selects RX8 yX8_settle yX8_settle, Cond.code yX8_settle cX8_settle 4 none, Cond.fieldLink RX8 21 "MediaCatalog" "groups" "LMediaCatalog$GroupTable;", Cond.fieldLink RX8 28 "MediaCatalog" "stacks" "LMediaCatalog$StackTable;", Cond.fieldLink RX8 51 "MediaCatalog" "judge" "LMediaCatalog$RuleJudge;", Cond.fieldLink RX8 41 "MediaCatalog" "albums" "[LMediaCatalog$Album;", Cond.fieldLink RX8 67 "MediaCatalog" "journal" "LMediaCatalog$Journal;", Cond.methodLink RX8 306 yX1_settleValues, Cond.instanceMethod yX1_settleValues, Cond.selects RX1 yX1_settleValues yX1_settleValues, Cond.code yX1_settleValues cX1_settleValues 2 none, Cond.methodLink RX1 64 yX1_settleFile, Cond.instanceMethod yX1_settleFile, Cond.selects RX1 yX1_settleFile yX1_settleFile]
def wsX8_clearValue_r3 : List Cond := [Cond.code yX1_settleFile cX1_settleFile 4 none, Cond.fieldLink RX1 21 "MediaCatalog$FileTable" "settled" "[I", Cond.methodLink RX1 72 Lib.Math.max.name, Cond.static Lib.Math.max.name, Cond.initialized "java/lang/Math", Cond.code Lib.Math.max.name Lib.Math.max.code 2 (some .int), Cond.methodLink RX1 68 yX1_firstTeller, Cond.instanceMethod yX1_firstTeller, Cond.selects RX1 yX1_firstTeller yX1_firstTeller, Cond.code yX1_firstTeller cX1_firstTeller 4 (some .int), Cond.fieldLink RX1 24 "MediaCatalog$FileTable" "order" "[I", Cond.methodLink RX1 61 yX1_told, Cond.methodLink RX8 309 yX2_regroup, Cond.instanceMethod yX2_regroup, Cond.selects RX2 yX2_regroup yX2_regroup, Cond.initialized RX2, Cond.code yX2_regroup cX2_regroup 6 none, Cond.fieldLink RX2 15 "MediaCatalog$GroupTable" "keepers" "J", Cond.fieldLink RX2 19 "MediaCatalog$GroupTable" "duplicates" "J", Cond.fieldLink RX2 9 "MediaCatalog$GroupTable" "files" "LMediaCatalog$FileTable;", Cond.constantLong RX2 48 (-1), Cond.methodLink RX2 32 yX1_all, Cond.instanceMethod yX1_all, Cond.selects RX1 yX1_all yX1_all]
def wsX8_clearValue_r4 : List Cond := [Cond.code yX1_all cX1_all 1 (some .long), Cond.methodLink RX2 22 yX1_alike, Cond.instanceMethod yX1_alike, Cond.selects RX1 yX1_alike yX1_alike, Cond.code yX1_alike cX1_alike 5 (some .long), Cond.fieldLink RX1 9 "MediaCatalog$FileTable" "digests" "[I", Cond.static yX8_only, Cond.code yX8_only cX8_only 1 (some .long), Cond.methodLink RX2 28 yX2_preferred, Cond.instanceMethod yX2_preferred, Cond.selects RX2 yX2_preferred yX2_preferred, Cond.code yX2_preferred cX2_preferred 5 (some .int), Cond.methodLink RX2 50 yX2_beats, Cond.instanceMethod yX2_beats, Cond.selects RX2 yX2_beats yX2_beats, Cond.code yX2_beats cX2_beats 5 (some .boolean), Cond.methodLink RX2 54 yX1_settledValue, Cond.instanceMethod yX1_settledValue, Cond.selects RX1 yX1_settledValue yX1_settledValue, Cond.code yX1_settledValue cX1_settledValue 3 (some .int), Cond.methodLink RX2 58 yX2_yearOf, Cond.instanceMethod yX2_yearOf, Cond.selects RX2 yX2_yearOf yX2_yearOf, Cond.code yX2_yearOf cX2_yearOf 3 (some .int)]
def wsX8_clearValue_r5 : List Cond := [Cond.methodLink RX2 43 yJ13_bitCount_95d88, Cond.static yJ13_bitCount_95d88, Cond.initialized RJ13, Cond.code yJ13_bitCount_95d88 cJ13_bitCount_95d88 2 (some .int), Cond.constantLong RJ13 314 (6148914691236517205), Cond.constantLong RJ13 316 (3689348814741910323), Cond.constantLong RJ13 318 (1085102592571150095), Cond.methodLink RX8 312 yX6_findCovers, Cond.instanceMethod yX6_findCovers, Cond.selects RX6 yX6_findCovers yX6_findCovers, Cond.initialized RX6, Cond.code yX6_findCovers cX6_findCovers 2 none, Cond.fieldLink RX6 50 "MediaCatalog$StackTable" "covers" "J", Cond.methodLink RX6 42 yX6_has, Cond.instanceMethod yX6_has, Cond.selects RX6 yX6_has yX6_has, Cond.code yX6_has cX6_has 2 (some .boolean), Cond.fieldLink RX6 19 "MediaCatalog$StackTable" "heights" "[I", Cond.methodLink RX6 80 yX6_cover, Cond.instanceMethod yX6_cover, Cond.selects RX6 yX6_cover yX6_cover, Cond.code yX6_cover cX6_cover 5 (some .int), Cond.fieldLink RX6 22 "MediaCatalog$StackTable" "chosen" "[I", Cond.fieldLink RX6 15 "MediaCatalog$StackTable" "places" "[I"]
def wsX8_clearValue_r6 : List Cond := [Cond.fieldLink RX6 9 "MediaCatalog$StackTable" "files" "LMediaCatalog$FileTable;", Cond.methodLink RX6 57 yX6_spot, Cond.static yX6_spot, Cond.code yX6_spot cX6_spot 2 (some .int), Cond.methodLink RX6 75 yX1_settledValue, Cond.methodLink RX8 241 yX8_hasAlbum, Cond.instanceMethod yX8_hasAlbum, Cond.selects RX8 yX8_hasAlbum yX8_hasAlbum, Cond.code yX8_hasAlbum cX8_hasAlbum 2 (some .boolean), Cond.methodLink RX8 298 yX0_exists, Cond.instanceMethod yX0_exists, Cond.selects RX0 yX0_exists yX0_exists, Cond.initialized RX0, Cond.code yX0_exists cX0_exists 1 (some .boolean), Cond.fieldLink RX0 18 "MediaCatalog$Album" "exists" "Z", Cond.methodLink RX8 315 yX0_rule, Cond.instanceMethod yX0_rule, Cond.selects RX0 yX0_rule yX0_rule, Cond.code yX0_rule cX0_rule 1 (some (.object "MediaCatalog$RuleText")), Cond.fieldLink RX0 12 "MediaCatalog$Album" "rule" "LMediaCatalog$RuleText;", Cond.methodLink RX8 231 yX4_filesFor, Cond.instanceMethod yX4_filesFor, Cond.selects RX4 yX4_filesFor yX4_filesFor, Cond.initialized RX4]
def wsX8_clearValue_r7 : List Cond := [Cond.code yX4_filesFor cX4_filesFor 4 (some .long), Cond.fieldLink RX4 38 "MediaCatalog$RuleJudge" "open" "I", Cond.fieldLink RX4 27 "MediaCatalog$RuleJudge" "ended" "[J", Cond.fieldLink RX4 31 "MediaCatalog$RuleJudge" "running" "[J", Cond.methodLink RX4 42 yX4_beginLevel, Cond.instanceMethod yX4_beginLevel, Cond.selects RX4 yX4_beginLevel yX4_beginLevel, Cond.code yX4_beginLevel cX4_beginLevel 1 none, Cond.fieldLink RX4 9 "MediaCatalog$RuleJudge" "files" "LMediaCatalog$FileTable;", Cond.fieldLink RX4 34 "MediaCatalog$RuleJudge" "negated" "[Z", Cond.methodLink RX4 67 yX1_all, Cond.methodLink RX4 45 yX5_length, Cond.instanceMethod yX5_length, Cond.selects RX5 yX5_length yX5_length, Cond.initialized RX5, Cond.code yX5_length cX5_length 1 (some .int), Cond.fieldLink RX5 15 "MediaCatalog$RuleText" "length" "I", Cond.methodLink RX4 51 yX5_at, Cond.instanceMethod yX5_at, Cond.selects RX5 yX5_at yX5_at, Cond.code yX5_at cX5_at 2 (some .char), Cond.fieldLink RX5 9 "MediaCatalog$RuleText" "characters" "[C", Cond.methodLink RX4 55 yX4_condition, Cond.instanceMethod yX4_condition]
def wsX8_clearValue_r8 : List Cond := [Cond.selects RX4 yX4_condition yX4_condition, Cond.code yX4_condition cX4_condition 3 (some .long), Cond.fieldLink RX4 19 "MediaCatalog$RuleJudge" "stacks" "LMediaCatalog$StackTable;", Cond.fieldLink RX4 15 "MediaCatalog$RuleJudge" "groups" "LMediaCatalog$GroupTable;", Cond.methodLink RX4 81 yX5_numberAt, Cond.instanceMethod yX5_numberAt, Cond.selects RX5 yX5_numberAt yX5_numberAt, Cond.code yX5_numberAt cX5_numberAt 4 (some .int), Cond.methodLink RX5 25 yX5_at, Cond.methodLink RX5 29 yX5_isDigit, Cond.static yX5_isDigit, Cond.code yX5_isDigit cX5_isDigit 1 (some .boolean), Cond.methodLink RX4 85 yX4_tagged, Cond.instanceMethod yX4_tagged, Cond.selects RX4 yX4_tagged yX4_tagged, Cond.code yX4_tagged cX4_tagged 5 (some .long), Cond.methodLink RX4 115 yX1_settledValue, Cond.methodLink RX4 89 yX4_membersOf, Cond.instanceMethod yX4_membersOf, Cond.selects RX4 yX4_membersOf yX4_membersOf, Cond.code yX4_membersOf cX4_membersOf 2 (some .long), Cond.fieldLink RX4 23 "MediaCatalog$RuleJudge" "albums" "[LMediaCatalog$Album;", Cond.methodLink RX4 126 yX0_members, Cond.instanceMethod yX0_members]
def wsX8_clearValue_r9 : List Cond := [Cond.selects RX0 yX0_members yX0_members, Cond.code yX0_members cX0_members 1 (some .long), Cond.fieldLink RX0 22 "MediaCatalog$Album" "members" "J", Cond.methodLink RX4 92 yX6_stacked, Cond.instanceMethod yX6_stacked, Cond.selects RX6 yX6_stacked yX6_stacked, Cond.code yX6_stacked cX6_stacked 1 (some .long), Cond.fieldLink RX6 46 "MediaCatalog$StackTable" "stacked" "J", Cond.methodLink RX4 97 yX6_covers, Cond.instanceMethod yX6_covers, Cond.selects RX6 yX6_covers yX6_covers, Cond.code yX6_covers cX6_covers 1 (some .long), Cond.methodLink RX4 100 yX2_duplicates, Cond.instanceMethod yX2_duplicates, Cond.selects RX2 yX2_duplicates yX2_duplicates, Cond.code yX2_duplicates cX2_duplicates 1 (some .long), Cond.methodLink RX4 105 yX2_keepers, Cond.instanceMethod yX2_keepers, Cond.selects RX2 yX2_keepers yX2_keepers, Cond.code yX2_keepers cX2_keepers 1 (some .long), Cond.methodLink RX4 108 yX4_comparing, Cond.instanceMethod yX4_comparing, Cond.selects RX4 yX4_comparing yX4_comparing, Cond.code yX4_comparing cX4_comparing 10 (some .long)]
def wsX8_clearValue_r10 : List Cond := [Cond.methodLink RX4 131 yX5_fieldNamed, Cond.static yX5_fieldNamed, Cond.code yX5_fieldNamed cX5_fieldNamed 1 (some .int), Cond.methodLink RX4 135 yX4_agrees, Cond.static yX4_agrees, Cond.code yX4_agrees cX4_agrees 3 (some .boolean), Cond.methodLink RX4 59 yX4_take, Cond.instanceMethod yX4_take, Cond.selects RX4 yX4_take yX4_take, Cond.code yX4_take cX4_take 3 none, Cond.constantLong RX4 79 (-1), Cond.methodLink RX4 63 yX4_operate, Cond.instanceMethod yX4_operate, Cond.selects RX4 yX4_operate yX4_operate, Cond.code yX4_operate cX4_operate 2 none, Cond.methodLink RX4 73 yX4_openLevel, Cond.instanceMethod yX4_openLevel, Cond.selects RX4 yX4_openLevel yX4_openLevel, Cond.code yX4_openLevel cX4_openLevel 1 none, Cond.methodLink RX4 76 yX4_closeLevel, Cond.instanceMethod yX4_closeLevel, Cond.selects RX4 yX4_closeLevel yX4_closeLevel, Cond.code yX4_closeLevel cX4_closeLevel 3 none, Cond.methodLink RX8 319 yX0_become]
def wsX8_clearValue_r11 : List Cond := [Cond.instanceMethod yX0_become, Cond.selects RX0 yX0_become yX0_become, Cond.code yX0_become cX0_become 9 none, Cond.fieldLink RX0 26 "MediaCatalog$Album" "joined" "I", Cond.fieldLink RX0 30 "MediaCatalog$Album" "left" "I", Cond.methodLink RX0 58 yX3_note, Cond.instanceMethod yX3_note, Cond.selects RX3 yX3_note yX3_note, Cond.initialized RX3, Cond.code yX3_note cX3_note 4 none, Cond.fieldLink RX3 26 "MediaCatalog$Journal" "latest" "I", Cond.fieldLink RX3 9 "MediaCatalog$Journal" "albums" "[I", Cond.fieldLink RX3 15 "MediaCatalog$Journal" "files" "[I", Cond.fieldLink RX3 18 "MediaCatalog$Journal" "joins" "[Z", Cond.fieldLink RX3 22 "MediaCatalog$Journal" "length" "I", Cond.methodLink RX3 29 Lib.Math.min.name, Cond.static Lib.Math.min.name, Cond.code Lib.Math.min.name Lib.Math.min.code 2 (some .int)]
def wsX8_clearValue : List Cond := .code yX8_clearValue cX8_clearValue 5 (some .int) :: ((wsX8_clearValue_r1 ++ (wsX8_clearValue_r2 ++ (wsX8_clearValue_r3 ++ (wsX8_clearValue_r4 ++ (wsX8_clearValue_r5 ++ (wsX8_clearValue_r6 ++ (wsX8_clearValue_r7 ++ (wsX8_clearValue_r8 ++ (wsX8_clearValue_r9 ++ (wsX8_clearValue_r10 ++ wsX8_clearValue_r11)))))))))) ++ wsX80 ++ wsX10 ++ wsX20 ++ wsX60 ++ wsX00 ++ wsX40 ++ wsX50 ++ wsX30)
def wsX8_value_r1 : List Cond := [Cond.fieldLink RX8 10 "MediaCatalog" "files" "LMediaCatalog$FileTable;", Cond.methodLink RX8 87 yX1_has, Cond.instanceMethod yX1_has, Cond.selects RX1 yX1_has yX1_has, Cond.initialized RX1, Cond.code yX1_has cX1_has 2 (some .boolean), Cond.fieldLink RX1 31 "MediaCatalog$FileTable" "present" "J", Cond.static yX8_isWithin, Cond.initialized RX8, Cond.code yX8_isWithin cX8_isWithin 3 (some .boolean), Cond.static yX8_holds, Cond.code yX8_holds cX8_holds 3 (some .boolean), Cond.methodLink RX8 71 yX8_isWithin, Cond.methodLink RX8 98 yX1_digest, Cond.instanceMethod yX1_digest, Cond.selects RX1 yX1_digest yX1_digest, Cond.code yX1_digest cX1_digest 2 (some .int), Cond.fieldLink RX1 9 "MediaCatalog$FileTable" "digests" "[I", Cond.methodLink RX8 127 yX1_bytes, Cond.instanceMethod yX1_bytes, Cond.selects RX1 yX1_bytes yX1_bytes, Cond.code yX1_bytes cX1_bytes 2 (some .int), Cond.fieldLink RX1 15 "MediaCatalog$FileTable" "sizes" "[I", Cond.methodLink RX8 130 yX1_settledValue]
def wsX8_value_r2 : List Cond := [Cond.instanceMethod yX1_settledValue, Cond.selects RX1 yX1_settledValue yX1_settledValue, Cond.code yX1_settledValue cX1_settledValue 3 (some .int), Cond.fieldLink RX1 21 "MediaCatalog$FileTable" "settled" "[I", Cond.methodLink RX8 124 yX8_orNotFound, Cond.static yX8_orNotFound, Cond.code yX8_orNotFound cX8_orNotFound 1 (some .int)]
def wsX8_value : List Cond := .code yX8_value cX8_value 3 (some .int) :: ((wsX8_value_r1 ++ wsX8_value_r2) ++ wsX80 ++ wsX10)
def wsX8_setOrder_r1 : List Cond := [Cond.fieldLink RX8 10 "MediaCatalog" "files" "LMediaCatalog$FileTable;", Cond.methodLink RX8 137 yX8_isSource, Cond.static yX8_isSource, Cond.initialized RX8, Cond.code yX8_isSource cX8_isSource 1 (some .boolean), Cond.methodLink RX8 71 yX8_isWithin, Cond.static yX8_isWithin, Cond.code yX8_isWithin cX8_isWithin 3 (some .boolean), Cond.methodLink RX8 140 yX1_orderCode, Cond.instanceMethod yX1_orderCode, Cond.selects RX1 yX1_orderCode yX1_orderCode, Cond.initialized RX1, Cond.code yX1_orderCode cX1_orderCode 1 (some .int), Cond.fieldLink RX1 24 "MediaCatalog$FileTable" "order" "[I", Cond.methodLink RX8 143 yX1_reorder, Cond.instanceMethod yX1_reorder, Cond.selects RX1 yX1_reorder yX1_reorder, Cond.code yX1_reorder cX1_reorder 4 none, Cond.methodLink RX8 84 yX8_settle, Cond.instanceMethod yX8_settle, Cond.selects RX8 yX8_settle yX8_settle, Cond.code yX8_settle cX8_settle 4 none, Cond.fieldLink RX8 21 "MediaCatalog" "groups" "LMediaCatalog$GroupTable;", Cond.fieldLink RX8 28 "MediaCatalog" "stacks" "LMediaCatalog$StackTable;"]
def wsX8_setOrder_r2 : List Cond := [Cond.fieldLink RX8 51 "MediaCatalog" "judge" "LMediaCatalog$RuleJudge;", Cond.fieldLink RX8 41 "MediaCatalog" "albums" "[LMediaCatalog$Album;", Cond.fieldLink RX8 67 "MediaCatalog" "journal" "LMediaCatalog$Journal;", Cond.methodLink RX8 306 yX1_settleValues, Cond.instanceMethod yX1_settleValues, Cond.selects RX1 yX1_settleValues yX1_settleValues, Cond.code yX1_settleValues cX1_settleValues 2 none, Cond.fieldLink RX1 31 "MediaCatalog$FileTable" "present" "J", Cond.static yX8_holds, Cond.code yX8_holds cX8_holds 3 (some .boolean), Cond.methodLink RX1 64 yX1_settleFile, Cond.instanceMethod yX1_settleFile, Cond.selects RX1 yX1_settleFile yX1_settleFile, Cond.code yX1_settleFile cX1_settleFile 4 none, Cond.fieldLink RX1 21 "MediaCatalog$FileTable" "settled" "[I", Cond.methodLink RX1 72 Lib.Math.max.name, Cond.static Lib.Math.max.name, Cond.initialized "java/lang/Math", Cond.code Lib.Math.max.name Lib.Math.max.code 2 (some .int), Cond.methodLink RX1 68 yX1_firstTeller, Cond.instanceMethod yX1_firstTeller, Cond.selects RX1 yX1_firstTeller yX1_firstTeller, Cond.code yX1_firstTeller cX1_firstTeller 4 (some .int), Cond.methodLink RX1 61 yX1_told]
def wsX8_setOrder_r3 : List Cond := [Cond.instanceMethod yX1_told, Cond.selects RX1 yX1_told yX1_told, Cond.code yX1_told cX1_told 4 (some .int), Cond.fieldLink RX1 18 "MediaCatalog$FileTable" "values" "[I", Cond.methodLink RX1 49 yX1_slot, Cond.static yX1_slot, Cond.code yX1_slot cX1_slot 3 (some .int), Cond.methodLink RX8 309 yX2_regroup, Cond.instanceMethod yX2_regroup, Cond.selects RX2 yX2_regroup yX2_regroup, Cond.initialized RX2, Cond.code yX2_regroup cX2_regroup 6 none, Cond.fieldLink RX2 15 "MediaCatalog$GroupTable" "keepers" "J", Cond.fieldLink RX2 19 "MediaCatalog$GroupTable" "duplicates" "J", Cond.fieldLink RX2 9 "MediaCatalog$GroupTable" "files" "LMediaCatalog$FileTable;", Cond.constantLong RX2 48 (-1), Cond.methodLink RX2 32 yX1_all, Cond.instanceMethod yX1_all, Cond.selects RX1 yX1_all yX1_all, Cond.code yX1_all cX1_all 1 (some .long), Cond.methodLink RX2 22 yX1_alike, Cond.instanceMethod yX1_alike, Cond.selects RX1 yX1_alike yX1_alike, Cond.code yX1_alike cX1_alike 5 (some .long)]
def wsX8_setOrder_r4 : List Cond := [Cond.fieldLink RX1 9 "MediaCatalog$FileTable" "digests" "[I", Cond.static yX8_only, Cond.code yX8_only cX8_only 1 (some .long), Cond.methodLink RX2 28 yX2_preferred, Cond.instanceMethod yX2_preferred, Cond.selects RX2 yX2_preferred yX2_preferred, Cond.code yX2_preferred cX2_preferred 5 (some .int), Cond.methodLink RX2 50 yX2_beats, Cond.instanceMethod yX2_beats, Cond.selects RX2 yX2_beats yX2_beats, Cond.code yX2_beats cX2_beats 5 (some .boolean), Cond.methodLink RX2 54 yX1_settledValue, Cond.instanceMethod yX1_settledValue, Cond.selects RX1 yX1_settledValue yX1_settledValue, Cond.code yX1_settledValue cX1_settledValue 3 (some .int), Cond.methodLink RX2 58 yX2_yearOf, Cond.instanceMethod yX2_yearOf, Cond.selects RX2 yX2_yearOf yX2_yearOf, Cond.code yX2_yearOf cX2_yearOf 3 (some .int), Cond.methodLink RX2 43 yJ13_bitCount_95d88, Cond.static yJ13_bitCount_95d88, Cond.initialized RJ13, Cond.code yJ13_bitCount_95d88 cJ13_bitCount_95d88 2 (some .int), Cond.constantLong RJ13 314 (6148914691236517205)]
def wsX8_setOrder_r5 : List Cond := [Cond.constantLong RJ13 316 (3689348814741910323), Cond.constantLong RJ13 318 (1085102592571150095), Cond.methodLink RX8 312 yX6_findCovers, Cond.instanceMethod yX6_findCovers, Cond.selects RX6 yX6_findCovers yX6_findCovers, Cond.initialized RX6, Cond.code yX6_findCovers cX6_findCovers 2 none, Cond.fieldLink RX6 50 "MediaCatalog$StackTable" "covers" "J", Cond.methodLink RX6 42 yX6_has, Cond.instanceMethod yX6_has, Cond.selects RX6 yX6_has yX6_has, Cond.code yX6_has cX6_has 2 (some .boolean), Cond.fieldLink RX6 19 "MediaCatalog$StackTable" "heights" "[I", Cond.methodLink RX6 80 yX6_cover, Cond.instanceMethod yX6_cover, Cond.selects RX6 yX6_cover yX6_cover, Cond.code yX6_cover cX6_cover 5 (some .int), Cond.fieldLink RX6 22 "MediaCatalog$StackTable" "chosen" "[I", Cond.fieldLink RX6 15 "MediaCatalog$StackTable" "places" "[I", Cond.fieldLink RX6 9 "MediaCatalog$StackTable" "files" "LMediaCatalog$FileTable;", Cond.methodLink RX6 57 yX6_spot, Cond.static yX6_spot, Cond.code yX6_spot cX6_spot 2 (some .int), Cond.methodLink RX6 75 yX1_settledValue]
def wsX8_setOrder_r6 : List Cond := [Cond.methodLink RX8 241 yX8_hasAlbum, Cond.instanceMethod yX8_hasAlbum, Cond.selects RX8 yX8_hasAlbum yX8_hasAlbum, Cond.code yX8_hasAlbum cX8_hasAlbum 2 (some .boolean), Cond.methodLink RX8 298 yX0_exists, Cond.instanceMethod yX0_exists, Cond.selects RX0 yX0_exists yX0_exists, Cond.initialized RX0, Cond.code yX0_exists cX0_exists 1 (some .boolean), Cond.fieldLink RX0 18 "MediaCatalog$Album" "exists" "Z", Cond.methodLink RX8 315 yX0_rule, Cond.instanceMethod yX0_rule, Cond.selects RX0 yX0_rule yX0_rule, Cond.code yX0_rule cX0_rule 1 (some (.object "MediaCatalog$RuleText")), Cond.fieldLink RX0 12 "MediaCatalog$Album" "rule" "LMediaCatalog$RuleText;", Cond.methodLink RX8 231 yX4_filesFor, Cond.instanceMethod yX4_filesFor, Cond.selects RX4 yX4_filesFor yX4_filesFor, Cond.initialized RX4, Cond.code yX4_filesFor cX4_filesFor 4 (some .long), Cond.fieldLink RX4 38 "MediaCatalog$RuleJudge" "open" "I", Cond.fieldLink RX4 27 "MediaCatalog$RuleJudge" "ended" "[J", Cond.fieldLink RX4 31 "MediaCatalog$RuleJudge" "running" "[J", Cond.methodLink RX4 42 yX4_beginLevel]
def wsX8_setOrder_r7 : List Cond := [Cond.instanceMethod yX4_beginLevel, Cond.selects RX4 yX4_beginLevel yX4_beginLevel, Cond.code yX4_beginLevel cX4_beginLevel 1 none, Cond.fieldLink RX4 9 "MediaCatalog$RuleJudge" "files" "LMediaCatalog$FileTable;", Cond.fieldLink RX4 34 "MediaCatalog$RuleJudge" "negated" "[Z", Cond.methodLink RX4 67 yX1_all, Cond.methodLink RX4 45 yX5_length, Cond.instanceMethod yX5_length, Cond.selects RX5 yX5_length yX5_length, Cond.initialized RX5, Cond.code yX5_length cX5_length 1 (some .int), Cond.fieldLink RX5 15 "MediaCatalog$RuleText" "length" "I", Cond.methodLink RX4 51 yX5_at, Cond.instanceMethod yX5_at, Cond.selects RX5 yX5_at yX5_at, Cond.code yX5_at cX5_at 2 (some .char), Cond.fieldLink RX5 9 "MediaCatalog$RuleText" "characters" "[C", Cond.methodLink RX4 55 yX4_condition, Cond.instanceMethod yX4_condition, Cond.selects RX4 yX4_condition yX4_condition, Cond.code yX4_condition cX4_condition 3 (some .long), Cond.fieldLink RX4 19 "MediaCatalog$RuleJudge" "stacks" "LMediaCatalog$StackTable;", Cond.fieldLink RX4 15 "MediaCatalog$RuleJudge" "groups" "LMediaCatalog$GroupTable;", Cond.methodLink RX4 81 yX5_numberAt]
def wsX8_setOrder_r8 : List Cond := [Cond.instanceMethod yX5_numberAt, Cond.selects RX5 yX5_numberAt yX5_numberAt, Cond.code yX5_numberAt cX5_numberAt 4 (some .int), Cond.methodLink RX5 25 yX5_at, Cond.methodLink RX5 29 yX5_isDigit, Cond.static yX5_isDigit, Cond.code yX5_isDigit cX5_isDigit 1 (some .boolean), Cond.methodLink RX4 85 yX4_tagged, Cond.instanceMethod yX4_tagged, Cond.selects RX4 yX4_tagged yX4_tagged, Cond.code yX4_tagged cX4_tagged 5 (some .long), Cond.methodLink RX4 115 yX1_settledValue, Cond.methodLink RX4 89 yX4_membersOf, Cond.instanceMethod yX4_membersOf, Cond.selects RX4 yX4_membersOf yX4_membersOf, Cond.code yX4_membersOf cX4_membersOf 2 (some .long), Cond.fieldLink RX4 23 "MediaCatalog$RuleJudge" "albums" "[LMediaCatalog$Album;", Cond.methodLink RX4 126 yX0_members, Cond.instanceMethod yX0_members, Cond.selects RX0 yX0_members yX0_members, Cond.code yX0_members cX0_members 1 (some .long), Cond.fieldLink RX0 22 "MediaCatalog$Album" "members" "J", Cond.methodLink RX4 92 yX6_stacked, Cond.instanceMethod yX6_stacked]
def wsX8_setOrder_r9 : List Cond := [Cond.selects RX6 yX6_stacked yX6_stacked, Cond.code yX6_stacked cX6_stacked 1 (some .long), Cond.fieldLink RX6 46 "MediaCatalog$StackTable" "stacked" "J", Cond.methodLink RX4 97 yX6_covers, Cond.instanceMethod yX6_covers, Cond.selects RX6 yX6_covers yX6_covers, Cond.code yX6_covers cX6_covers 1 (some .long), Cond.methodLink RX4 100 yX2_duplicates, Cond.instanceMethod yX2_duplicates, Cond.selects RX2 yX2_duplicates yX2_duplicates, Cond.code yX2_duplicates cX2_duplicates 1 (some .long), Cond.methodLink RX4 105 yX2_keepers, Cond.instanceMethod yX2_keepers, Cond.selects RX2 yX2_keepers yX2_keepers, Cond.code yX2_keepers cX2_keepers 1 (some .long), Cond.methodLink RX4 108 yX4_comparing, Cond.instanceMethod yX4_comparing, Cond.selects RX4 yX4_comparing yX4_comparing, Cond.code yX4_comparing cX4_comparing 10 (some .long), Cond.methodLink RX4 131 yX5_fieldNamed, Cond.static yX5_fieldNamed, Cond.code yX5_fieldNamed cX5_fieldNamed 1 (some .int), Cond.methodLink RX4 135 yX4_agrees, Cond.static yX4_agrees]
def wsX8_setOrder_r10 : List Cond := [Cond.code yX4_agrees cX4_agrees 3 (some .boolean), Cond.methodLink RX4 59 yX4_take, Cond.instanceMethod yX4_take, Cond.selects RX4 yX4_take yX4_take, Cond.code yX4_take cX4_take 3 none, Cond.constantLong RX4 79 (-1), Cond.methodLink RX4 63 yX4_operate, Cond.instanceMethod yX4_operate, Cond.selects RX4 yX4_operate yX4_operate, Cond.code yX4_operate cX4_operate 2 none, Cond.methodLink RX4 73 yX4_openLevel, Cond.instanceMethod yX4_openLevel, Cond.selects RX4 yX4_openLevel yX4_openLevel, Cond.code yX4_openLevel cX4_openLevel 1 none, Cond.methodLink RX4 76 yX4_closeLevel, Cond.instanceMethod yX4_closeLevel, Cond.selects RX4 yX4_closeLevel yX4_closeLevel, Cond.code yX4_closeLevel cX4_closeLevel 3 none, Cond.methodLink RX8 319 yX0_become, Cond.instanceMethod yX0_become, Cond.selects RX0 yX0_become yX0_become, Cond.code yX0_become cX0_become 9 none, Cond.fieldLink RX0 26 "MediaCatalog$Album" "joined" "I", Cond.fieldLink RX0 30 "MediaCatalog$Album" "left" "I"]
def wsX8_setOrder_r11 : List Cond := [Cond.methodLink RX0 58 yX3_note, Cond.instanceMethod yX3_note, Cond.selects RX3 yX3_note yX3_note, Cond.initialized RX3, Cond.code yX3_note cX3_note 4 none, Cond.fieldLink RX3 26 "MediaCatalog$Journal" "latest" "I", Cond.fieldLink RX3 9 "MediaCatalog$Journal" "albums" "[I", Cond.fieldLink RX3 15 "MediaCatalog$Journal" "files" "[I", Cond.fieldLink RX3 18 "MediaCatalog$Journal" "joins" "[Z", Cond.fieldLink RX3 22 "MediaCatalog$Journal" "length" "I", Cond.methodLink RX3 29 Lib.Math.min.name, Cond.static Lib.Math.min.name, Cond.code Lib.Math.min.name Lib.Math.min.code 2 (some .int)]
def wsX8_setOrder : List Cond := .code yX8_setOrder cX8_setOrder 5 (some .int) :: ((wsX8_setOrder_r1 ++ (wsX8_setOrder_r2 ++ (wsX8_setOrder_r3 ++ (wsX8_setOrder_r4 ++ (wsX8_setOrder_r5 ++ (wsX8_setOrder_r6 ++ (wsX8_setOrder_r7 ++ (wsX8_setOrder_r8 ++ (wsX8_setOrder_r9 ++ (wsX8_setOrder_r10 ++ wsX8_setOrder_r11)))))))))) ++ wsX80 ++ wsX10 ++ wsX20 ++ wsX60 ++ wsX00 ++ wsX40 ++ wsX50 ++ wsX30)
def wsX8_keeperOf_r1 : List Cond := [Cond.fieldLink RX8 10 "MediaCatalog" "files" "LMediaCatalog$FileTable;", Cond.fieldLink RX8 21 "MediaCatalog" "groups" "LMediaCatalog$GroupTable;", Cond.methodLink RX8 87 yX1_has, Cond.instanceMethod yX1_has, Cond.selects RX1 yX1_has yX1_has, Cond.initialized RX1, Cond.code yX1_has cX1_has 2 (some .boolean), Cond.fieldLink RX1 31 "MediaCatalog$FileTable" "present" "J", Cond.static yX8_isWithin, Cond.initialized RX8, Cond.code yX8_isWithin cX8_isWithin 3 (some .boolean), Cond.static yX8_holds, Cond.code yX8_holds cX8_holds 3 (some .boolean), Cond.methodLink RX8 146 yX2_keeper, Cond.instanceMethod yX2_keeper, Cond.selects RX2 yX2_keeper yX2_keeper, Cond.initialized RX2, Cond.code yX2_keeper cX2_keeper 2 (some .int), Cond.fieldLink RX2 9 "MediaCatalog$GroupTable" "files" "LMediaCatalog$FileTable;", Cond.methodLink RX2 22 yX1_alike, Cond.instanceMethod yX1_alike, Cond.selects RX1 yX1_alike yX1_alike, Cond.code yX1_alike cX1_alike 5 (some .long), Cond.fieldLink RX1 9 "MediaCatalog$FileTable" "digests" "[I"]
def wsX8_keeperOf_r2 : List Cond := [Cond.static yX8_only, Cond.code yX8_only cX8_only 1 (some .long), Cond.methodLink RX2 28 yX2_preferred, Cond.instanceMethod yX2_preferred, Cond.selects RX2 yX2_preferred yX2_preferred, Cond.code yX2_preferred cX2_preferred 5 (some .int), Cond.methodLink RX2 50 yX2_beats, Cond.instanceMethod yX2_beats, Cond.selects RX2 yX2_beats yX2_beats, Cond.code yX2_beats cX2_beats 5 (some .boolean), Cond.methodLink RX2 54 yX1_settledValue, Cond.instanceMethod yX1_settledValue, Cond.selects RX1 yX1_settledValue yX1_settledValue, Cond.code yX1_settledValue cX1_settledValue 3 (some .int), Cond.fieldLink RX1 21 "MediaCatalog$FileTable" "settled" "[I", Cond.methodLink RX2 58 yX2_yearOf, Cond.instanceMethod yX2_yearOf, Cond.selects RX2 yX2_yearOf yX2_yearOf, Cond.code yX2_yearOf cX2_yearOf 3 (some .int)]
def wsX8_keeperOf : List Cond := .code yX8_keeperOf cX8_keeperOf 2 (some .int) :: ((wsX8_keeperOf_r1 ++ wsX8_keeperOf_r2) ++ wsX80 ++ wsX10 ++ wsX20)
def wsX8_groupSize_r1 : List Cond := [Cond.fieldLink RX8 10 "MediaCatalog" "files" "LMediaCatalog$FileTable;", Cond.methodLink RX8 87 yX1_has, Cond.instanceMethod yX1_has, Cond.selects RX1 yX1_has yX1_has, Cond.initialized RX1, Cond.code yX1_has cX1_has 2 (some .boolean), Cond.fieldLink RX1 31 "MediaCatalog$FileTable" "present" "J", Cond.static yX8_isWithin, Cond.initialized RX8, Cond.code yX8_isWithin cX8_isWithin 3 (some .boolean), Cond.static yX8_holds, Cond.code yX8_holds cX8_holds 3 (some .boolean), Cond.methodLink RX8 149 yX1_alike, Cond.instanceMethod yX1_alike, Cond.selects RX1 yX1_alike yX1_alike, Cond.code yX1_alike cX1_alike 5 (some .long), Cond.fieldLink RX1 9 "MediaCatalog$FileTable" "digests" "[I", Cond.static yX8_only, Cond.code yX8_only cX8_only 1 (some .long), Cond.methodLink RX8 153 yJ13_bitCount_95d88, Cond.static yJ13_bitCount_95d88, Cond.initialized RJ13, Cond.code yJ13_bitCount_95d88 cJ13_bitCount_95d88 2 (some .int), Cond.constantLong RJ13 314 (6148914691236517205)]
def wsX8_groupSize_r2 : List Cond := [Cond.constantLong RJ13 316 (3689348814741910323), Cond.constantLong RJ13 318 (1085102592571150095)]
def wsX8_groupSize : List Cond := .code yX8_groupSize cX8_groupSize 2 (some .int) :: ((wsX8_groupSize_r1 ++ wsX8_groupSize_r2) ++ wsX80 ++ wsX10)
def wsX8_wasted : List Cond := .code yX8_wasted cX8_wasted 1 (some .int) :: ([.fieldLink RX8 10 "MediaCatalog" "files" "LMediaCatalog$FileTable;", .fieldLink RX8 21 "MediaCatalog" "groups" "LMediaCatalog$GroupTable;", .constantLong RX8 166 (-1), .methodLink RX8 159 yX1_all, .instanceMethod yX1_all, .selects RX1 yX1_all yX1_all, .initialized RX1, .code yX1_all cX1_all 1 (some .long), .fieldLink RX1 31 "MediaCatalog$FileTable" "present" "J", .methodLink RX8 163 yX2_keepers, .instanceMethod yX2_keepers, .selects RX2 yX2_keepers yX2_keepers, .initialized RX2, .code yX2_keepers cX2_keepers 1 (some .long), .fieldLink RX2 15 "MediaCatalog$GroupTable" "keepers" "J", .methodLink RX8 168 yX1_sumOfSizes, .instanceMethod yX1_sumOfSizes, .selects RX1 yX1_sumOfSizes yX1_sumOfSizes, .code yX1_sumOfSizes cX1_sumOfSizes 5 (some .int), .fieldLink RX1 15 "MediaCatalog$FileTable" "sizes" "[I", .static yX8_holds, .initialized RX8, .code yX8_holds cX8_holds 3 (some .boolean)] ++ wsX80 ++ wsX10 ++ wsX20)
def wsX8_merge_r1 : List Cond := [Cond.fieldLink RX8 10 "MediaCatalog" "files" "LMediaCatalog$FileTable;", Cond.fieldLink RX8 21 "MediaCatalog" "groups" "LMediaCatalog$GroupTable;", Cond.constantLong RX8 166 (-1), Cond.methodLink RX8 87 yX1_has, Cond.instanceMethod yX1_has, Cond.selects RX1 yX1_has yX1_has, Cond.initialized RX1, Cond.code yX1_has cX1_has 2 (some .boolean), Cond.fieldLink RX1 31 "MediaCatalog$FileTable" "present" "J", Cond.static yX8_isWithin, Cond.initialized RX8, Cond.code yX8_isWithin cX8_isWithin 3 (some .boolean), Cond.static yX8_holds, Cond.code yX8_holds cX8_holds 3 (some .boolean), Cond.methodLink RX8 146 yX2_keeper, Cond.instanceMethod yX2_keeper, Cond.selects RX2 yX2_keeper yX2_keeper, Cond.initialized RX2, Cond.code yX2_keeper cX2_keeper 2 (some .int), Cond.fieldLink RX2 9 "MediaCatalog$GroupTable" "files" "LMediaCatalog$FileTable;", Cond.methodLink RX2 22 yX1_alike, Cond.instanceMethod yX1_alike, Cond.selects RX1 yX1_alike yX1_alike, Cond.code yX1_alike cX1_alike 5 (some .long)]
def wsX8_merge_r2 : List Cond := [Cond.fieldLink RX1 9 "MediaCatalog$FileTable" "digests" "[I", Cond.static yX8_only, Cond.code yX8_only cX8_only 1 (some .long), Cond.methodLink RX2 28 yX2_preferred, Cond.instanceMethod yX2_preferred, Cond.selects RX2 yX2_preferred yX2_preferred, Cond.code yX2_preferred cX2_preferred 5 (some .int), Cond.methodLink RX2 50 yX2_beats, Cond.instanceMethod yX2_beats, Cond.selects RX2 yX2_beats yX2_beats, Cond.code yX2_beats cX2_beats 5 (some .boolean), Cond.methodLink RX2 54 yX1_settledValue, Cond.instanceMethod yX1_settledValue, Cond.selects RX1 yX1_settledValue yX1_settledValue, Cond.code yX1_settledValue cX1_settledValue 3 (some .int), Cond.fieldLink RX1 21 "MediaCatalog$FileTable" "settled" "[I", Cond.methodLink RX2 58 yX2_yearOf, Cond.instanceMethod yX2_yearOf, Cond.selects RX2 yX2_yearOf yX2_yearOf, Cond.code yX2_yearOf cX2_yearOf 3 (some .int), Cond.methodLink RX8 149 yX1_alike, Cond.methodLink RX8 171 yX8_only, Cond.methodLink RX8 174 yX1_absorb, Cond.instanceMethod yX1_absorb]
def wsX8_merge_r3 : List Cond := [Cond.selects RX1 yX1_absorb yX1_absorb, Cond.code yX1_absorb cX1_absorb 5 none, Cond.methodLink RX1 77 yX1_absorbOne, Cond.instanceMethod yX1_absorbOne, Cond.selects RX1 yX1_absorbOne yX1_absorbOne, Cond.code yX1_absorbOne cX1_absorbOne 5 none, Cond.methodLink RX1 61 yX1_told, Cond.instanceMethod yX1_told, Cond.selects RX1 yX1_told yX1_told, Cond.code yX1_told cX1_told 4 (some .int), Cond.fieldLink RX1 18 "MediaCatalog$FileTable" "values" "[I", Cond.methodLink RX1 49 yX1_slot, Cond.static yX1_slot, Cond.code yX1_slot cX1_slot 3 (some .int), Cond.methodLink RX1 81 yX1_tell, Cond.instanceMethod yX1_tell, Cond.selects RX1 yX1_tell yX1_tell, Cond.code yX1_tell cX1_tell 5 none, Cond.methodLink RX1 85 yX1_union, Cond.static yX1_union, Cond.code yX1_union cX1_union 2 (some .int), Cond.methodLink RX8 178 yX8_holds, Cond.methodLink RX8 91 yX8_discard, Cond.instanceMethod yX8_discard]
def wsX8_merge_r4 : List Cond := [Cond.selects RX8 yX8_discard yX8_discard, Cond.code yX8_discard cX8_discard 2 none, Cond.fieldLink RX8 28 "MediaCatalog" "stacks" "LMediaCatalog$StackTable;", Cond.methodLink RX8 196 yX6_release, Cond.instanceMethod yX6_release, Cond.selects RX6 yX6_release yX6_release, Cond.initialized RX6, Cond.code yX6_release cX6_release 3 none, Cond.fieldLink RX6 29 "MediaCatalog$StackTable" "homes" "[I", Cond.fieldLink RX6 22 "MediaCatalog$StackTable" "chosen" "[I", Cond.fieldLink RX6 19 "MediaCatalog$StackTable" "heights" "[I", Cond.fieldLink RX6 15 "MediaCatalog$StackTable" "places" "[I", Cond.methodLink RX6 65 yX6_closeGap, Cond.instanceMethod yX6_closeGap, Cond.selects RX6 yX6_closeGap yX6_closeGap, Cond.code yX6_closeGap cX6_closeGap 6 none, Cond.methodLink RX6 57 yX6_spot, Cond.static yX6_spot, Cond.code yX6_spot cX6_spot 2 (some .int), Cond.methodLink RX6 69 yX6_leave, Cond.instanceMethod yX6_leave, Cond.selects RX6 yX6_leave yX6_leave, Cond.code yX6_leave cX6_leave 2 none, Cond.fieldLink RX6 46 "MediaCatalog$StackTable" "stacked" "J"]
def wsX8_merge_r5 : List Cond := [Cond.constantLong RX6 73 (-1), Cond.methodLink RX8 295 yX1_drop, Cond.instanceMethod yX1_drop, Cond.selects RX1 yX1_drop yX1_drop, Cond.code yX1_drop cX1_drop 2 none, Cond.constantLong RX1 59 (-1), Cond.methodLink RX8 84 yX8_settle, Cond.instanceMethod yX8_settle, Cond.selects RX8 yX8_settle yX8_settle, Cond.code yX8_settle cX8_settle 4 none, Cond.fieldLink RX8 51 "MediaCatalog" "judge" "LMediaCatalog$RuleJudge;", Cond.fieldLink RX8 41 "MediaCatalog" "albums" "[LMediaCatalog$Album;", Cond.fieldLink RX8 67 "MediaCatalog" "journal" "LMediaCatalog$Journal;", Cond.methodLink RX8 306 yX1_settleValues, Cond.instanceMethod yX1_settleValues, Cond.selects RX1 yX1_settleValues yX1_settleValues, Cond.code yX1_settleValues cX1_settleValues 2 none, Cond.methodLink RX1 64 yX1_settleFile, Cond.instanceMethod yX1_settleFile, Cond.selects RX1 yX1_settleFile yX1_settleFile, Cond.code yX1_settleFile cX1_settleFile 4 none, Cond.methodLink RX1 72 Lib.Math.max.name, Cond.static Lib.Math.max.name, Cond.initialized "java/lang/Math"]
def wsX8_merge_r6 : List Cond := [Cond.code Lib.Math.max.name Lib.Math.max.code 2 (some .int), Cond.methodLink RX1 68 yX1_firstTeller, Cond.instanceMethod yX1_firstTeller, Cond.selects RX1 yX1_firstTeller yX1_firstTeller, Cond.code yX1_firstTeller cX1_firstTeller 4 (some .int), Cond.fieldLink RX1 24 "MediaCatalog$FileTable" "order" "[I", Cond.methodLink RX8 309 yX2_regroup, Cond.instanceMethod yX2_regroup, Cond.selects RX2 yX2_regroup yX2_regroup, Cond.code yX2_regroup cX2_regroup 6 none, Cond.fieldLink RX2 15 "MediaCatalog$GroupTable" "keepers" "J", Cond.fieldLink RX2 19 "MediaCatalog$GroupTable" "duplicates" "J", Cond.constantLong RX2 48 (-1), Cond.methodLink RX2 32 yX1_all, Cond.instanceMethod yX1_all, Cond.selects RX1 yX1_all yX1_all, Cond.code yX1_all cX1_all 1 (some .long), Cond.methodLink RX2 43 yJ13_bitCount_95d88, Cond.static yJ13_bitCount_95d88, Cond.initialized RJ13, Cond.code yJ13_bitCount_95d88 cJ13_bitCount_95d88 2 (some .int), Cond.constantLong RJ13 314 (6148914691236517205), Cond.constantLong RJ13 316 (3689348814741910323), Cond.constantLong RJ13 318 (1085102592571150095)]
def wsX8_merge_r7 : List Cond := [Cond.methodLink RX8 312 yX6_findCovers, Cond.instanceMethod yX6_findCovers, Cond.selects RX6 yX6_findCovers yX6_findCovers, Cond.code yX6_findCovers cX6_findCovers 2 none, Cond.fieldLink RX6 50 "MediaCatalog$StackTable" "covers" "J", Cond.methodLink RX6 42 yX6_has, Cond.instanceMethod yX6_has, Cond.selects RX6 yX6_has yX6_has, Cond.code yX6_has cX6_has 2 (some .boolean), Cond.methodLink RX6 80 yX6_cover, Cond.instanceMethod yX6_cover, Cond.selects RX6 yX6_cover yX6_cover, Cond.code yX6_cover cX6_cover 5 (some .int), Cond.fieldLink RX6 9 "MediaCatalog$StackTable" "files" "LMediaCatalog$FileTable;", Cond.methodLink RX6 75 yX1_settledValue, Cond.methodLink RX8 241 yX8_hasAlbum, Cond.instanceMethod yX8_hasAlbum, Cond.selects RX8 yX8_hasAlbum yX8_hasAlbum, Cond.code yX8_hasAlbum cX8_hasAlbum 2 (some .boolean), Cond.methodLink RX8 71 yX8_isWithin, Cond.methodLink RX8 298 yX0_exists, Cond.instanceMethod yX0_exists, Cond.selects RX0 yX0_exists yX0_exists, Cond.initialized RX0]
def wsX8_merge_r8 : List Cond := [Cond.code yX0_exists cX0_exists 1 (some .boolean), Cond.fieldLink RX0 18 "MediaCatalog$Album" "exists" "Z", Cond.methodLink RX8 315 yX0_rule, Cond.instanceMethod yX0_rule, Cond.selects RX0 yX0_rule yX0_rule, Cond.code yX0_rule cX0_rule 1 (some (.object "MediaCatalog$RuleText")), Cond.fieldLink RX0 12 "MediaCatalog$Album" "rule" "LMediaCatalog$RuleText;", Cond.methodLink RX8 231 yX4_filesFor, Cond.instanceMethod yX4_filesFor, Cond.selects RX4 yX4_filesFor yX4_filesFor, Cond.initialized RX4, Cond.code yX4_filesFor cX4_filesFor 4 (some .long), Cond.fieldLink RX4 38 "MediaCatalog$RuleJudge" "open" "I", Cond.fieldLink RX4 27 "MediaCatalog$RuleJudge" "ended" "[J", Cond.fieldLink RX4 31 "MediaCatalog$RuleJudge" "running" "[J", Cond.methodLink RX4 42 yX4_beginLevel, Cond.instanceMethod yX4_beginLevel, Cond.selects RX4 yX4_beginLevel yX4_beginLevel, Cond.code yX4_beginLevel cX4_beginLevel 1 none, Cond.fieldLink RX4 9 "MediaCatalog$RuleJudge" "files" "LMediaCatalog$FileTable;", Cond.fieldLink RX4 34 "MediaCatalog$RuleJudge" "negated" "[Z", Cond.methodLink RX4 67 yX1_all, Cond.methodLink RX4 45 yX5_length, Cond.instanceMethod yX5_length]
def wsX8_merge_r9 : List Cond := [Cond.selects RX5 yX5_length yX5_length, Cond.initialized RX5, Cond.code yX5_length cX5_length 1 (some .int), Cond.fieldLink RX5 15 "MediaCatalog$RuleText" "length" "I", Cond.methodLink RX4 51 yX5_at, Cond.instanceMethod yX5_at, Cond.selects RX5 yX5_at yX5_at, Cond.code yX5_at cX5_at 2 (some .char), Cond.fieldLink RX5 9 "MediaCatalog$RuleText" "characters" "[C", Cond.methodLink RX4 55 yX4_condition, Cond.instanceMethod yX4_condition, Cond.selects RX4 yX4_condition yX4_condition, Cond.code yX4_condition cX4_condition 3 (some .long), Cond.fieldLink RX4 19 "MediaCatalog$RuleJudge" "stacks" "LMediaCatalog$StackTable;", Cond.fieldLink RX4 15 "MediaCatalog$RuleJudge" "groups" "LMediaCatalog$GroupTable;", Cond.methodLink RX4 81 yX5_numberAt, Cond.instanceMethod yX5_numberAt, Cond.selects RX5 yX5_numberAt yX5_numberAt, Cond.code yX5_numberAt cX5_numberAt 4 (some .int), Cond.methodLink RX5 25 yX5_at, Cond.methodLink RX5 29 yX5_isDigit, Cond.static yX5_isDigit, Cond.code yX5_isDigit cX5_isDigit 1 (some .boolean), Cond.methodLink RX4 85 yX4_tagged]
def wsX8_merge_r10 : List Cond := [Cond.instanceMethod yX4_tagged, Cond.selects RX4 yX4_tagged yX4_tagged, Cond.code yX4_tagged cX4_tagged 5 (some .long), Cond.methodLink RX4 115 yX1_settledValue, Cond.methodLink RX4 89 yX4_membersOf, Cond.instanceMethod yX4_membersOf, Cond.selects RX4 yX4_membersOf yX4_membersOf, Cond.code yX4_membersOf cX4_membersOf 2 (some .long), Cond.fieldLink RX4 23 "MediaCatalog$RuleJudge" "albums" "[LMediaCatalog$Album;", Cond.methodLink RX4 126 yX0_members, Cond.instanceMethod yX0_members, Cond.selects RX0 yX0_members yX0_members, Cond.code yX0_members cX0_members 1 (some .long), Cond.fieldLink RX0 22 "MediaCatalog$Album" "members" "J", Cond.methodLink RX4 92 yX6_stacked, Cond.instanceMethod yX6_stacked, Cond.selects RX6 yX6_stacked yX6_stacked, Cond.code yX6_stacked cX6_stacked 1 (some .long), Cond.methodLink RX4 97 yX6_covers, Cond.instanceMethod yX6_covers, Cond.selects RX6 yX6_covers yX6_covers, Cond.code yX6_covers cX6_covers 1 (some .long), Cond.methodLink RX4 100 yX2_duplicates, Cond.instanceMethod yX2_duplicates]
def wsX8_merge_r11 : List Cond := [Cond.selects RX2 yX2_duplicates yX2_duplicates, Cond.code yX2_duplicates cX2_duplicates 1 (some .long), Cond.methodLink RX4 105 yX2_keepers, Cond.instanceMethod yX2_keepers, Cond.selects RX2 yX2_keepers yX2_keepers, Cond.code yX2_keepers cX2_keepers 1 (some .long), Cond.methodLink RX4 108 yX4_comparing, Cond.instanceMethod yX4_comparing, Cond.selects RX4 yX4_comparing yX4_comparing, Cond.code yX4_comparing cX4_comparing 10 (some .long), Cond.methodLink RX4 131 yX5_fieldNamed, Cond.static yX5_fieldNamed, Cond.code yX5_fieldNamed cX5_fieldNamed 1 (some .int), Cond.methodLink RX4 135 yX4_agrees, Cond.static yX4_agrees, Cond.code yX4_agrees cX4_agrees 3 (some .boolean), Cond.methodLink RX4 59 yX4_take, Cond.instanceMethod yX4_take, Cond.selects RX4 yX4_take yX4_take, Cond.code yX4_take cX4_take 3 none, Cond.constantLong RX4 79 (-1), Cond.methodLink RX4 63 yX4_operate, Cond.instanceMethod yX4_operate, Cond.selects RX4 yX4_operate yX4_operate]
def wsX8_merge_r12 : List Cond := [Cond.code yX4_operate cX4_operate 2 none, Cond.methodLink RX4 73 yX4_openLevel, Cond.instanceMethod yX4_openLevel, Cond.selects RX4 yX4_openLevel yX4_openLevel, Cond.code yX4_openLevel cX4_openLevel 1 none, Cond.methodLink RX4 76 yX4_closeLevel, Cond.instanceMethod yX4_closeLevel, Cond.selects RX4 yX4_closeLevel yX4_closeLevel, Cond.code yX4_closeLevel cX4_closeLevel 3 none, Cond.methodLink RX8 319 yX0_become, Cond.instanceMethod yX0_become, Cond.selects RX0 yX0_become yX0_become, Cond.code yX0_become cX0_become 9 none, Cond.fieldLink RX0 26 "MediaCatalog$Album" "joined" "I", Cond.fieldLink RX0 30 "MediaCatalog$Album" "left" "I", Cond.methodLink RX0 58 yX3_note, Cond.instanceMethod yX3_note, Cond.selects RX3 yX3_note yX3_note, Cond.initialized RX3, Cond.code yX3_note cX3_note 4 none, Cond.fieldLink RX3 26 "MediaCatalog$Journal" "latest" "I", Cond.fieldLink RX3 9 "MediaCatalog$Journal" "albums" "[I", Cond.fieldLink RX3 15 "MediaCatalog$Journal" "files" "[I", Cond.fieldLink RX3 18 "MediaCatalog$Journal" "joins" "[Z"]
def wsX8_merge_r13 : List Cond := [Cond.fieldLink RX3 22 "MediaCatalog$Journal" "length" "I", Cond.methodLink RX3 29 Lib.Math.min.name, Cond.static Lib.Math.min.name, Cond.code Lib.Math.min.name Lib.Math.min.code 2 (some .int), Cond.methodLink RX8 153 yJ13_bitCount_95d88]
def wsX8_merge : List Cond := .code yX8_merge cX8_merge 6 (some .int) :: ((wsX8_merge_r1 ++ (wsX8_merge_r2 ++ (wsX8_merge_r3 ++ (wsX8_merge_r4 ++ (wsX8_merge_r5 ++ (wsX8_merge_r6 ++ (wsX8_merge_r7 ++ (wsX8_merge_r8 ++ (wsX8_merge_r9 ++ (wsX8_merge_r10 ++ (wsX8_merge_r11 ++ (wsX8_merge_r12 ++ wsX8_merge_r13)))))))))))) ++ wsX80 ++ wsX10 ++ wsX20 ++ wsX60 ++ wsX00 ++ wsX40 ++ wsX50 ++ wsX30)
def wsX8_stack_r1 : List Cond := [Cond.fieldLink RX8 10 "MediaCatalog" "files" "LMediaCatalog$FileTable;", Cond.fieldLink RX8 28 "MediaCatalog" "stacks" "LMediaCatalog$StackTable;", Cond.methodLink RX8 87 yX1_has, Cond.instanceMethod yX1_has, Cond.selects RX1 yX1_has yX1_has, Cond.initialized RX1, Cond.code yX1_has cX1_has 2 (some .boolean), Cond.fieldLink RX1 31 "MediaCatalog$FileTable" "present" "J", Cond.static yX8_isWithin, Cond.initialized RX8, Cond.code yX8_isWithin cX8_isWithin 3 (some .boolean), Cond.static yX8_holds, Cond.code yX8_holds cX8_holds 3 (some .boolean), Cond.methodLink RX8 182 yX6_home, Cond.instanceMethod yX6_home, Cond.selects RX6 yX6_home yX6_home, Cond.initialized RX6, Cond.code yX6_home cX6_home 2 (some .int), Cond.fieldLink RX6 29 "MediaCatalog$StackTable" "homes" "[I", Cond.methodLink RX8 185 yX6_freeNumber, Cond.instanceMethod yX6_freeNumber, Cond.selects RX6 yX6_freeNumber yX6_freeNumber, Cond.code yX6_freeNumber cX6_freeNumber 2 (some .int), Cond.methodLink RX6 42 yX6_has]
def wsX8_stack_r2 : List Cond := [Cond.instanceMethod yX6_has, Cond.selects RX6 yX6_has yX6_has, Cond.code yX6_has cX6_has 2 (some .boolean), Cond.fieldLink RX6 19 "MediaCatalog$StackTable" "heights" "[I", Cond.methodLink RX8 186 yX6_begin, Cond.instanceMethod yX6_begin, Cond.selects RX6 yX6_begin yX6_begin, Cond.code yX6_begin cX6_begin 4 none, Cond.fieldLink RX6 22 "MediaCatalog$StackTable" "chosen" "[I", Cond.fieldLink RX6 25 "MediaCatalog$StackTable" "collapsed" "[Z", Cond.methodLink RX6 53 yX6_insert, Cond.instanceMethod yX6_insert, Cond.selects RX6 yX6_insert yX6_insert, Cond.code yX6_insert cX6_insert 5 none, Cond.fieldLink RX6 15 "MediaCatalog$StackTable" "places" "[I", Cond.fieldLink RX6 46 "MediaCatalog$StackTable" "stacked" "J", Cond.methodLink RX6 57 yX6_spot, Cond.static yX6_spot, Cond.code yX6_spot cX6_spot 2 (some .int), Cond.static yX8_only, Cond.code yX8_only cX8_only 1 (some .long), Cond.methodLink RX8 84 yX8_settle, Cond.instanceMethod yX8_settle, Cond.selects RX8 yX8_settle yX8_settle]
def wsX8_stack_r3 : List Cond := [Cond.code yX8_settle cX8_settle 4 none, Cond.fieldLink RX8 21 "MediaCatalog" "groups" "LMediaCatalog$GroupTable;", Cond.fieldLink RX8 51 "MediaCatalog" "judge" "LMediaCatalog$RuleJudge;", Cond.fieldLink RX8 41 "MediaCatalog" "albums" "[LMediaCatalog$Album;", Cond.fieldLink RX8 67 "MediaCatalog" "journal" "LMediaCatalog$Journal;", Cond.methodLink RX8 306 yX1_settleValues, Cond.instanceMethod yX1_settleValues, Cond.selects RX1 yX1_settleValues yX1_settleValues, Cond.code yX1_settleValues cX1_settleValues 2 none, Cond.methodLink RX1 64 yX1_settleFile, Cond.instanceMethod yX1_settleFile, Cond.selects RX1 yX1_settleFile yX1_settleFile, Cond.code yX1_settleFile cX1_settleFile 4 none, Cond.fieldLink RX1 21 "MediaCatalog$FileTable" "settled" "[I", Cond.methodLink RX1 72 Lib.Math.max.name, Cond.static Lib.Math.max.name, Cond.initialized "java/lang/Math", Cond.code Lib.Math.max.name Lib.Math.max.code 2 (some .int), Cond.methodLink RX1 68 yX1_firstTeller, Cond.instanceMethod yX1_firstTeller, Cond.selects RX1 yX1_firstTeller yX1_firstTeller, Cond.code yX1_firstTeller cX1_firstTeller 4 (some .int), Cond.fieldLink RX1 24 "MediaCatalog$FileTable" "order" "[I", Cond.methodLink RX1 61 yX1_told]
def wsX8_stack_r4 : List Cond := [Cond.instanceMethod yX1_told, Cond.selects RX1 yX1_told yX1_told, Cond.code yX1_told cX1_told 4 (some .int), Cond.fieldLink RX1 18 "MediaCatalog$FileTable" "values" "[I", Cond.methodLink RX1 49 yX1_slot, Cond.static yX1_slot, Cond.code yX1_slot cX1_slot 3 (some .int), Cond.methodLink RX8 309 yX2_regroup, Cond.instanceMethod yX2_regroup, Cond.selects RX2 yX2_regroup yX2_regroup, Cond.initialized RX2, Cond.code yX2_regroup cX2_regroup 6 none, Cond.fieldLink RX2 15 "MediaCatalog$GroupTable" "keepers" "J", Cond.fieldLink RX2 19 "MediaCatalog$GroupTable" "duplicates" "J", Cond.fieldLink RX2 9 "MediaCatalog$GroupTable" "files" "LMediaCatalog$FileTable;", Cond.constantLong RX2 48 (-1), Cond.methodLink RX2 32 yX1_all, Cond.instanceMethod yX1_all, Cond.selects RX1 yX1_all yX1_all, Cond.code yX1_all cX1_all 1 (some .long), Cond.methodLink RX2 22 yX1_alike, Cond.instanceMethod yX1_alike, Cond.selects RX1 yX1_alike yX1_alike, Cond.code yX1_alike cX1_alike 5 (some .long)]
def wsX8_stack_r5 : List Cond := [Cond.fieldLink RX1 9 "MediaCatalog$FileTable" "digests" "[I", Cond.methodLink RX2 28 yX2_preferred, Cond.instanceMethod yX2_preferred, Cond.selects RX2 yX2_preferred yX2_preferred, Cond.code yX2_preferred cX2_preferred 5 (some .int), Cond.methodLink RX2 50 yX2_beats, Cond.instanceMethod yX2_beats, Cond.selects RX2 yX2_beats yX2_beats, Cond.code yX2_beats cX2_beats 5 (some .boolean), Cond.methodLink RX2 54 yX1_settledValue, Cond.instanceMethod yX1_settledValue, Cond.selects RX1 yX1_settledValue yX1_settledValue, Cond.code yX1_settledValue cX1_settledValue 3 (some .int), Cond.methodLink RX2 58 yX2_yearOf, Cond.instanceMethod yX2_yearOf, Cond.selects RX2 yX2_yearOf yX2_yearOf, Cond.code yX2_yearOf cX2_yearOf 3 (some .int), Cond.methodLink RX2 43 yJ13_bitCount_95d88, Cond.static yJ13_bitCount_95d88, Cond.initialized RJ13, Cond.code yJ13_bitCount_95d88 cJ13_bitCount_95d88 2 (some .int), Cond.constantLong RJ13 314 (6148914691236517205), Cond.constantLong RJ13 316 (3689348814741910323), Cond.constantLong RJ13 318 (1085102592571150095)]
def wsX8_stack_r6 : List Cond := [Cond.methodLink RX8 312 yX6_findCovers, Cond.instanceMethod yX6_findCovers, Cond.selects RX6 yX6_findCovers yX6_findCovers, Cond.code yX6_findCovers cX6_findCovers 2 none, Cond.fieldLink RX6 50 "MediaCatalog$StackTable" "covers" "J", Cond.methodLink RX6 80 yX6_cover, Cond.instanceMethod yX6_cover, Cond.selects RX6 yX6_cover yX6_cover, Cond.code yX6_cover cX6_cover 5 (some .int), Cond.fieldLink RX6 9 "MediaCatalog$StackTable" "files" "LMediaCatalog$FileTable;", Cond.methodLink RX6 75 yX1_settledValue, Cond.methodLink RX8 241 yX8_hasAlbum, Cond.instanceMethod yX8_hasAlbum, Cond.selects RX8 yX8_hasAlbum yX8_hasAlbum, Cond.code yX8_hasAlbum cX8_hasAlbum 2 (some .boolean), Cond.methodLink RX8 71 yX8_isWithin, Cond.methodLink RX8 298 yX0_exists, Cond.instanceMethod yX0_exists, Cond.selects RX0 yX0_exists yX0_exists, Cond.initialized RX0, Cond.code yX0_exists cX0_exists 1 (some .boolean), Cond.fieldLink RX0 18 "MediaCatalog$Album" "exists" "Z", Cond.methodLink RX8 315 yX0_rule, Cond.instanceMethod yX0_rule]
def wsX8_stack_r7 : List Cond := [Cond.selects RX0 yX0_rule yX0_rule, Cond.code yX0_rule cX0_rule 1 (some (.object "MediaCatalog$RuleText")), Cond.fieldLink RX0 12 "MediaCatalog$Album" "rule" "LMediaCatalog$RuleText;", Cond.methodLink RX8 231 yX4_filesFor, Cond.instanceMethod yX4_filesFor, Cond.selects RX4 yX4_filesFor yX4_filesFor, Cond.initialized RX4, Cond.code yX4_filesFor cX4_filesFor 4 (some .long), Cond.fieldLink RX4 38 "MediaCatalog$RuleJudge" "open" "I", Cond.fieldLink RX4 27 "MediaCatalog$RuleJudge" "ended" "[J", Cond.fieldLink RX4 31 "MediaCatalog$RuleJudge" "running" "[J", Cond.methodLink RX4 42 yX4_beginLevel, Cond.instanceMethod yX4_beginLevel, Cond.selects RX4 yX4_beginLevel yX4_beginLevel, Cond.code yX4_beginLevel cX4_beginLevel 1 none, Cond.fieldLink RX4 9 "MediaCatalog$RuleJudge" "files" "LMediaCatalog$FileTable;", Cond.fieldLink RX4 34 "MediaCatalog$RuleJudge" "negated" "[Z", Cond.methodLink RX4 67 yX1_all, Cond.methodLink RX4 45 yX5_length, Cond.instanceMethod yX5_length, Cond.selects RX5 yX5_length yX5_length, Cond.initialized RX5, Cond.code yX5_length cX5_length 1 (some .int), Cond.fieldLink RX5 15 "MediaCatalog$RuleText" "length" "I"]
def wsX8_stack_r8 : List Cond := [Cond.methodLink RX4 51 yX5_at, Cond.instanceMethod yX5_at, Cond.selects RX5 yX5_at yX5_at, Cond.code yX5_at cX5_at 2 (some .char), Cond.fieldLink RX5 9 "MediaCatalog$RuleText" "characters" "[C", Cond.methodLink RX4 55 yX4_condition, Cond.instanceMethod yX4_condition, Cond.selects RX4 yX4_condition yX4_condition, Cond.code yX4_condition cX4_condition 3 (some .long), Cond.fieldLink RX4 19 "MediaCatalog$RuleJudge" "stacks" "LMediaCatalog$StackTable;", Cond.fieldLink RX4 15 "MediaCatalog$RuleJudge" "groups" "LMediaCatalog$GroupTable;", Cond.methodLink RX4 81 yX5_numberAt, Cond.instanceMethod yX5_numberAt, Cond.selects RX5 yX5_numberAt yX5_numberAt, Cond.code yX5_numberAt cX5_numberAt 4 (some .int), Cond.methodLink RX5 25 yX5_at, Cond.methodLink RX5 29 yX5_isDigit, Cond.static yX5_isDigit, Cond.code yX5_isDigit cX5_isDigit 1 (some .boolean), Cond.methodLink RX4 85 yX4_tagged, Cond.instanceMethod yX4_tagged, Cond.selects RX4 yX4_tagged yX4_tagged, Cond.code yX4_tagged cX4_tagged 5 (some .long), Cond.methodLink RX4 115 yX1_settledValue]
def wsX8_stack_r9 : List Cond := [Cond.methodLink RX4 89 yX4_membersOf, Cond.instanceMethod yX4_membersOf, Cond.selects RX4 yX4_membersOf yX4_membersOf, Cond.code yX4_membersOf cX4_membersOf 2 (some .long), Cond.fieldLink RX4 23 "MediaCatalog$RuleJudge" "albums" "[LMediaCatalog$Album;", Cond.methodLink RX4 126 yX0_members, Cond.instanceMethod yX0_members, Cond.selects RX0 yX0_members yX0_members, Cond.code yX0_members cX0_members 1 (some .long), Cond.fieldLink RX0 22 "MediaCatalog$Album" "members" "J", Cond.methodLink RX4 92 yX6_stacked, Cond.instanceMethod yX6_stacked, Cond.selects RX6 yX6_stacked yX6_stacked, Cond.code yX6_stacked cX6_stacked 1 (some .long), Cond.methodLink RX4 97 yX6_covers, Cond.instanceMethod yX6_covers, Cond.selects RX6 yX6_covers yX6_covers, Cond.code yX6_covers cX6_covers 1 (some .long), Cond.methodLink RX4 100 yX2_duplicates, Cond.instanceMethod yX2_duplicates, Cond.selects RX2 yX2_duplicates yX2_duplicates, Cond.code yX2_duplicates cX2_duplicates 1 (some .long), Cond.methodLink RX4 105 yX2_keepers, Cond.instanceMethod yX2_keepers]
def wsX8_stack_r10 : List Cond := [Cond.selects RX2 yX2_keepers yX2_keepers, Cond.code yX2_keepers cX2_keepers 1 (some .long), Cond.methodLink RX4 108 yX4_comparing, Cond.instanceMethod yX4_comparing, Cond.selects RX4 yX4_comparing yX4_comparing, Cond.code yX4_comparing cX4_comparing 10 (some .long), Cond.methodLink RX4 131 yX5_fieldNamed, Cond.static yX5_fieldNamed, Cond.code yX5_fieldNamed cX5_fieldNamed 1 (some .int), Cond.methodLink RX4 135 yX4_agrees, Cond.static yX4_agrees, Cond.code yX4_agrees cX4_agrees 3 (some .boolean), Cond.methodLink RX4 59 yX4_take, Cond.instanceMethod yX4_take, Cond.selects RX4 yX4_take yX4_take, Cond.code yX4_take cX4_take 3 none, Cond.constantLong RX4 79 (-1), Cond.methodLink RX4 63 yX4_operate, Cond.instanceMethod yX4_operate, Cond.selects RX4 yX4_operate yX4_operate, Cond.code yX4_operate cX4_operate 2 none, Cond.methodLink RX4 73 yX4_openLevel, Cond.instanceMethod yX4_openLevel, Cond.selects RX4 yX4_openLevel yX4_openLevel]
def wsX8_stack_r11 : List Cond := [Cond.code yX4_openLevel cX4_openLevel 1 none, Cond.methodLink RX4 76 yX4_closeLevel, Cond.instanceMethod yX4_closeLevel, Cond.selects RX4 yX4_closeLevel yX4_closeLevel, Cond.code yX4_closeLevel cX4_closeLevel 3 none, Cond.methodLink RX8 319 yX0_become, Cond.instanceMethod yX0_become, Cond.selects RX0 yX0_become yX0_become, Cond.code yX0_become cX0_become 9 none, Cond.fieldLink RX0 26 "MediaCatalog$Album" "joined" "I", Cond.fieldLink RX0 30 "MediaCatalog$Album" "left" "I", Cond.methodLink RX0 58 yX3_note, Cond.instanceMethod yX3_note, Cond.selects RX3 yX3_note yX3_note, Cond.initialized RX3, Cond.code yX3_note cX3_note 4 none, Cond.fieldLink RX3 26 "MediaCatalog$Journal" "latest" "I", Cond.fieldLink RX3 9 "MediaCatalog$Journal" "albums" "[I", Cond.fieldLink RX3 15 "MediaCatalog$Journal" "files" "[I", Cond.fieldLink RX3 18 "MediaCatalog$Journal" "joins" "[Z", Cond.fieldLink RX3 22 "MediaCatalog$Journal" "length" "I", Cond.methodLink RX3 29 Lib.Math.min.name, Cond.static Lib.Math.min.name, Cond.code Lib.Math.min.name Lib.Math.min.code 2 (some .int)]
def wsX8_stack : List Cond := .code yX8_stack cX8_stack 4 (some .int) :: ((wsX8_stack_r1 ++ (wsX8_stack_r2 ++ (wsX8_stack_r3 ++ (wsX8_stack_r4 ++ (wsX8_stack_r5 ++ (wsX8_stack_r6 ++ (wsX8_stack_r7 ++ (wsX8_stack_r8 ++ (wsX8_stack_r9 ++ (wsX8_stack_r10 ++ wsX8_stack_r11)))))))))) ++ wsX80 ++ wsX10 ++ wsX60 ++ wsX20 ++ wsX00 ++ wsX40 ++ wsX50 ++ wsX30)
def wsX8_putInto_r1 : List Cond := [Cond.fieldLink RX8 28 "MediaCatalog" "stacks" "LMediaCatalog$StackTable;", Cond.fieldLink RX8 10 "MediaCatalog" "files" "LMediaCatalog$FileTable;", Cond.methodLink RX8 189 yX6_has, Cond.instanceMethod yX6_has, Cond.selects RX6 yX6_has yX6_has, Cond.initialized RX6, Cond.code yX6_has cX6_has 2 (some .boolean), Cond.fieldLink RX6 19 "MediaCatalog$StackTable" "heights" "[I", Cond.static yX8_isWithin, Cond.initialized RX8, Cond.code yX8_isWithin cX8_isWithin 3 (some .boolean), Cond.methodLink RX8 87 yX1_has, Cond.instanceMethod yX1_has, Cond.selects RX1 yX1_has yX1_has, Cond.initialized RX1, Cond.code yX1_has cX1_has 2 (some .boolean), Cond.fieldLink RX1 31 "MediaCatalog$FileTable" "present" "J", Cond.static yX8_holds, Cond.code yX8_holds cX8_holds 3 (some .boolean), Cond.methodLink RX8 190 yX6_height, Cond.instanceMethod yX6_height, Cond.selects RX6 yX6_height yX6_height, Cond.code yX6_height cX6_height 2 (some .int), Cond.methodLink RX8 71 yX8_isWithin]
def wsX8_putInto_r2 : List Cond := [Cond.methodLink RX8 182 yX6_home, Cond.instanceMethod yX6_home, Cond.selects RX6 yX6_home yX6_home, Cond.code yX6_home cX6_home 2 (some .int), Cond.fieldLink RX6 29 "MediaCatalog$StackTable" "homes" "[I", Cond.methodLink RX8 193 yX6_insert, Cond.instanceMethod yX6_insert, Cond.selects RX6 yX6_insert yX6_insert, Cond.code yX6_insert cX6_insert 5 none, Cond.fieldLink RX6 15 "MediaCatalog$StackTable" "places" "[I", Cond.fieldLink RX6 46 "MediaCatalog$StackTable" "stacked" "J", Cond.methodLink RX6 57 yX6_spot, Cond.static yX6_spot, Cond.code yX6_spot cX6_spot 2 (some .int), Cond.static yX8_only, Cond.code yX8_only cX8_only 1 (some .long), Cond.methodLink RX8 84 yX8_settle, Cond.instanceMethod yX8_settle, Cond.selects RX8 yX8_settle yX8_settle, Cond.code yX8_settle cX8_settle 4 none, Cond.fieldLink RX8 21 "MediaCatalog" "groups" "LMediaCatalog$GroupTable;", Cond.fieldLink RX8 51 "MediaCatalog" "judge" "LMediaCatalog$RuleJudge;", Cond.fieldLink RX8 41 "MediaCatalog" "albums" "[LMediaCatalog$Album;", Cond.fieldLink RX8 67 "MediaCatalog" "journal" "LMediaCatalog$Journal;"]
def wsX8_putInto_r3 : List Cond := [Cond.methodLink RX8 306 yX1_settleValues, Cond.instanceMethod yX1_settleValues, Cond.selects RX1 yX1_settleValues yX1_settleValues, Cond.code yX1_settleValues cX1_settleValues 2 none, Cond.methodLink RX1 64 yX1_settleFile, Cond.instanceMethod yX1_settleFile, Cond.selects RX1 yX1_settleFile yX1_settleFile, Cond.code yX1_settleFile cX1_settleFile 4 none, Cond.fieldLink RX1 21 "MediaCatalog$FileTable" "settled" "[I", Cond.methodLink RX1 72 Lib.Math.max.name, Cond.static Lib.Math.max.name, Cond.initialized "java/lang/Math", Cond.code Lib.Math.max.name Lib.Math.max.code 2 (some .int), Cond.methodLink RX1 68 yX1_firstTeller, Cond.instanceMethod yX1_firstTeller, Cond.selects RX1 yX1_firstTeller yX1_firstTeller, Cond.code yX1_firstTeller cX1_firstTeller 4 (some .int), Cond.fieldLink RX1 24 "MediaCatalog$FileTable" "order" "[I", Cond.methodLink RX1 61 yX1_told, Cond.instanceMethod yX1_told, Cond.selects RX1 yX1_told yX1_told, Cond.code yX1_told cX1_told 4 (some .int), Cond.fieldLink RX1 18 "MediaCatalog$FileTable" "values" "[I", Cond.methodLink RX1 49 yX1_slot]
def wsX8_putInto_r4 : List Cond := [Cond.static yX1_slot, Cond.code yX1_slot cX1_slot 3 (some .int), Cond.methodLink RX8 309 yX2_regroup, Cond.instanceMethod yX2_regroup, Cond.selects RX2 yX2_regroup yX2_regroup, Cond.initialized RX2, Cond.code yX2_regroup cX2_regroup 6 none, Cond.fieldLink RX2 15 "MediaCatalog$GroupTable" "keepers" "J", Cond.fieldLink RX2 19 "MediaCatalog$GroupTable" "duplicates" "J", Cond.fieldLink RX2 9 "MediaCatalog$GroupTable" "files" "LMediaCatalog$FileTable;", Cond.constantLong RX2 48 (-1), Cond.methodLink RX2 32 yX1_all, Cond.instanceMethod yX1_all, Cond.selects RX1 yX1_all yX1_all, Cond.code yX1_all cX1_all 1 (some .long), Cond.methodLink RX2 22 yX1_alike, Cond.instanceMethod yX1_alike, Cond.selects RX1 yX1_alike yX1_alike, Cond.code yX1_alike cX1_alike 5 (some .long), Cond.fieldLink RX1 9 "MediaCatalog$FileTable" "digests" "[I", Cond.methodLink RX2 28 yX2_preferred, Cond.instanceMethod yX2_preferred, Cond.selects RX2 yX2_preferred yX2_preferred, Cond.code yX2_preferred cX2_preferred 5 (some .int)]
def wsX8_putInto_r5 : List Cond := [Cond.methodLink RX2 50 yX2_beats, Cond.instanceMethod yX2_beats, Cond.selects RX2 yX2_beats yX2_beats, Cond.code yX2_beats cX2_beats 5 (some .boolean), Cond.methodLink RX2 54 yX1_settledValue, Cond.instanceMethod yX1_settledValue, Cond.selects RX1 yX1_settledValue yX1_settledValue, Cond.code yX1_settledValue cX1_settledValue 3 (some .int), Cond.methodLink RX2 58 yX2_yearOf, Cond.instanceMethod yX2_yearOf, Cond.selects RX2 yX2_yearOf yX2_yearOf, Cond.code yX2_yearOf cX2_yearOf 3 (some .int), Cond.methodLink RX2 43 yJ13_bitCount_95d88, Cond.static yJ13_bitCount_95d88, Cond.initialized RJ13, Cond.code yJ13_bitCount_95d88 cJ13_bitCount_95d88 2 (some .int), Cond.constantLong RJ13 314 (6148914691236517205), Cond.constantLong RJ13 316 (3689348814741910323), Cond.constantLong RJ13 318 (1085102592571150095), Cond.methodLink RX8 312 yX6_findCovers, Cond.instanceMethod yX6_findCovers, Cond.selects RX6 yX6_findCovers yX6_findCovers, Cond.code yX6_findCovers cX6_findCovers 2 none, Cond.fieldLink RX6 50 "MediaCatalog$StackTable" "covers" "J"]
def wsX8_putInto_r6 : List Cond := [Cond.methodLink RX6 42 yX6_has, Cond.methodLink RX6 80 yX6_cover, Cond.instanceMethod yX6_cover, Cond.selects RX6 yX6_cover yX6_cover, Cond.code yX6_cover cX6_cover 5 (some .int), Cond.fieldLink RX6 22 "MediaCatalog$StackTable" "chosen" "[I", Cond.fieldLink RX6 9 "MediaCatalog$StackTable" "files" "LMediaCatalog$FileTable;", Cond.methodLink RX6 75 yX1_settledValue, Cond.methodLink RX8 241 yX8_hasAlbum, Cond.instanceMethod yX8_hasAlbum, Cond.selects RX8 yX8_hasAlbum yX8_hasAlbum, Cond.code yX8_hasAlbum cX8_hasAlbum 2 (some .boolean), Cond.methodLink RX8 298 yX0_exists, Cond.instanceMethod yX0_exists, Cond.selects RX0 yX0_exists yX0_exists, Cond.initialized RX0, Cond.code yX0_exists cX0_exists 1 (some .boolean), Cond.fieldLink RX0 18 "MediaCatalog$Album" "exists" "Z", Cond.methodLink RX8 315 yX0_rule, Cond.instanceMethod yX0_rule, Cond.selects RX0 yX0_rule yX0_rule, Cond.code yX0_rule cX0_rule 1 (some (.object "MediaCatalog$RuleText")), Cond.fieldLink RX0 12 "MediaCatalog$Album" "rule" "LMediaCatalog$RuleText;", Cond.methodLink RX8 231 yX4_filesFor]
def wsX8_putInto_r7 : List Cond := [Cond.instanceMethod yX4_filesFor, Cond.selects RX4 yX4_filesFor yX4_filesFor, Cond.initialized RX4, Cond.code yX4_filesFor cX4_filesFor 4 (some .long), Cond.fieldLink RX4 38 "MediaCatalog$RuleJudge" "open" "I", Cond.fieldLink RX4 27 "MediaCatalog$RuleJudge" "ended" "[J", Cond.fieldLink RX4 31 "MediaCatalog$RuleJudge" "running" "[J", Cond.methodLink RX4 42 yX4_beginLevel, Cond.instanceMethod yX4_beginLevel, Cond.selects RX4 yX4_beginLevel yX4_beginLevel, Cond.code yX4_beginLevel cX4_beginLevel 1 none, Cond.fieldLink RX4 9 "MediaCatalog$RuleJudge" "files" "LMediaCatalog$FileTable;", Cond.fieldLink RX4 34 "MediaCatalog$RuleJudge" "negated" "[Z", Cond.methodLink RX4 67 yX1_all, Cond.methodLink RX4 45 yX5_length, Cond.instanceMethod yX5_length, Cond.selects RX5 yX5_length yX5_length, Cond.initialized RX5, Cond.code yX5_length cX5_length 1 (some .int), Cond.fieldLink RX5 15 "MediaCatalog$RuleText" "length" "I", Cond.methodLink RX4 51 yX5_at, Cond.instanceMethod yX5_at, Cond.selects RX5 yX5_at yX5_at, Cond.code yX5_at cX5_at 2 (some .char)]
def wsX8_putInto_r8 : List Cond := [Cond.fieldLink RX5 9 "MediaCatalog$RuleText" "characters" "[C", Cond.methodLink RX4 55 yX4_condition, Cond.instanceMethod yX4_condition, Cond.selects RX4 yX4_condition yX4_condition, Cond.code yX4_condition cX4_condition 3 (some .long), Cond.fieldLink RX4 19 "MediaCatalog$RuleJudge" "stacks" "LMediaCatalog$StackTable;", Cond.fieldLink RX4 15 "MediaCatalog$RuleJudge" "groups" "LMediaCatalog$GroupTable;", Cond.methodLink RX4 81 yX5_numberAt, Cond.instanceMethod yX5_numberAt, Cond.selects RX5 yX5_numberAt yX5_numberAt, Cond.code yX5_numberAt cX5_numberAt 4 (some .int), Cond.methodLink RX5 25 yX5_at, Cond.methodLink RX5 29 yX5_isDigit, Cond.static yX5_isDigit, Cond.code yX5_isDigit cX5_isDigit 1 (some .boolean), Cond.methodLink RX4 85 yX4_tagged, Cond.instanceMethod yX4_tagged, Cond.selects RX4 yX4_tagged yX4_tagged, Cond.code yX4_tagged cX4_tagged 5 (some .long), Cond.methodLink RX4 115 yX1_settledValue, Cond.methodLink RX4 89 yX4_membersOf, Cond.instanceMethod yX4_membersOf, Cond.selects RX4 yX4_membersOf yX4_membersOf, Cond.code yX4_membersOf cX4_membersOf 2 (some .long)]
def wsX8_putInto_r9 : List Cond := [Cond.fieldLink RX4 23 "MediaCatalog$RuleJudge" "albums" "[LMediaCatalog$Album;", Cond.methodLink RX4 126 yX0_members, Cond.instanceMethod yX0_members, Cond.selects RX0 yX0_members yX0_members, Cond.code yX0_members cX0_members 1 (some .long), Cond.fieldLink RX0 22 "MediaCatalog$Album" "members" "J", Cond.methodLink RX4 92 yX6_stacked, Cond.instanceMethod yX6_stacked, Cond.selects RX6 yX6_stacked yX6_stacked, Cond.code yX6_stacked cX6_stacked 1 (some .long), Cond.methodLink RX4 97 yX6_covers, Cond.instanceMethod yX6_covers, Cond.selects RX6 yX6_covers yX6_covers, Cond.code yX6_covers cX6_covers 1 (some .long), Cond.methodLink RX4 100 yX2_duplicates, Cond.instanceMethod yX2_duplicates, Cond.selects RX2 yX2_duplicates yX2_duplicates, Cond.code yX2_duplicates cX2_duplicates 1 (some .long), Cond.methodLink RX4 105 yX2_keepers, Cond.instanceMethod yX2_keepers, Cond.selects RX2 yX2_keepers yX2_keepers, Cond.code yX2_keepers cX2_keepers 1 (some .long), Cond.methodLink RX4 108 yX4_comparing, Cond.instanceMethod yX4_comparing]
def wsX8_putInto_r10 : List Cond := [Cond.selects RX4 yX4_comparing yX4_comparing, Cond.code yX4_comparing cX4_comparing 10 (some .long), Cond.methodLink RX4 131 yX5_fieldNamed, Cond.static yX5_fieldNamed, Cond.code yX5_fieldNamed cX5_fieldNamed 1 (some .int), Cond.methodLink RX4 135 yX4_agrees, Cond.static yX4_agrees, Cond.code yX4_agrees cX4_agrees 3 (some .boolean), Cond.methodLink RX4 59 yX4_take, Cond.instanceMethod yX4_take, Cond.selects RX4 yX4_take yX4_take, Cond.code yX4_take cX4_take 3 none, Cond.constantLong RX4 79 (-1), Cond.methodLink RX4 63 yX4_operate, Cond.instanceMethod yX4_operate, Cond.selects RX4 yX4_operate yX4_operate, Cond.code yX4_operate cX4_operate 2 none, Cond.methodLink RX4 73 yX4_openLevel, Cond.instanceMethod yX4_openLevel, Cond.selects RX4 yX4_openLevel yX4_openLevel, Cond.code yX4_openLevel cX4_openLevel 1 none, Cond.methodLink RX4 76 yX4_closeLevel, Cond.instanceMethod yX4_closeLevel, Cond.selects RX4 yX4_closeLevel yX4_closeLevel]
def wsX8_putInto_r11 : List Cond := [Cond.code yX4_closeLevel cX4_closeLevel 3 none, Cond.methodLink RX8 319 yX0_become, Cond.instanceMethod yX0_become, Cond.selects RX0 yX0_become yX0_become, Cond.code yX0_become cX0_become 9 none, Cond.fieldLink RX0 26 "MediaCatalog$Album" "joined" "I", Cond.fieldLink RX0 30 "MediaCatalog$Album" "left" "I", Cond.methodLink RX0 58 yX3_note, Cond.instanceMethod yX3_note, Cond.selects RX3 yX3_note yX3_note, Cond.initialized RX3, Cond.code yX3_note cX3_note 4 none, Cond.fieldLink RX3 26 "MediaCatalog$Journal" "latest" "I", Cond.fieldLink RX3 9 "MediaCatalog$Journal" "albums" "[I", Cond.fieldLink RX3 15 "MediaCatalog$Journal" "files" "[I", Cond.fieldLink RX3 18 "MediaCatalog$Journal" "joins" "[Z", Cond.fieldLink RX3 22 "MediaCatalog$Journal" "length" "I", Cond.methodLink RX3 29 Lib.Math.min.name, Cond.static Lib.Math.min.name, Cond.code Lib.Math.min.name Lib.Math.min.code 2 (some .int)]
def wsX8_putInto : List Cond := .code yX8_putInto cX8_putInto 4 (some .int) :: ((wsX8_putInto_r1 ++ (wsX8_putInto_r2 ++ (wsX8_putInto_r3 ++ (wsX8_putInto_r4 ++ (wsX8_putInto_r5 ++ (wsX8_putInto_r6 ++ (wsX8_putInto_r7 ++ (wsX8_putInto_r8 ++ (wsX8_putInto_r9 ++ (wsX8_putInto_r10 ++ wsX8_putInto_r11)))))))))) ++ wsX80 ++ wsX60 ++ wsX10 ++ wsX20 ++ wsX00 ++ wsX40 ++ wsX50 ++ wsX30)
def wsX8_takeOut_r1 : List Cond := [Cond.fieldLink RX8 10 "MediaCatalog" "files" "LMediaCatalog$FileTable;", Cond.fieldLink RX8 28 "MediaCatalog" "stacks" "LMediaCatalog$StackTable;", Cond.methodLink RX8 87 yX1_has, Cond.instanceMethod yX1_has, Cond.selects RX1 yX1_has yX1_has, Cond.initialized RX1, Cond.code yX1_has cX1_has 2 (some .boolean), Cond.fieldLink RX1 31 "MediaCatalog$FileTable" "present" "J", Cond.static yX8_isWithin, Cond.initialized RX8, Cond.code yX8_isWithin cX8_isWithin 3 (some .boolean), Cond.static yX8_holds, Cond.code yX8_holds cX8_holds 3 (some .boolean), Cond.methodLink RX8 182 yX6_home, Cond.instanceMethod yX6_home, Cond.selects RX6 yX6_home yX6_home, Cond.initialized RX6, Cond.code yX6_home cX6_home 2 (some .int), Cond.fieldLink RX6 29 "MediaCatalog$StackTable" "homes" "[I", Cond.methodLink RX8 196 yX6_release, Cond.instanceMethod yX6_release, Cond.selects RX6 yX6_release yX6_release, Cond.code yX6_release cX6_release 3 none, Cond.fieldLink RX6 22 "MediaCatalog$StackTable" "chosen" "[I"]
def wsX8_takeOut_r2 : List Cond := [Cond.fieldLink RX6 19 "MediaCatalog$StackTable" "heights" "[I", Cond.fieldLink RX6 15 "MediaCatalog$StackTable" "places" "[I", Cond.methodLink RX6 65 yX6_closeGap, Cond.instanceMethod yX6_closeGap, Cond.selects RX6 yX6_closeGap yX6_closeGap, Cond.code yX6_closeGap cX6_closeGap 6 none, Cond.methodLink RX6 57 yX6_spot, Cond.static yX6_spot, Cond.code yX6_spot cX6_spot 2 (some .int), Cond.methodLink RX6 69 yX6_leave, Cond.instanceMethod yX6_leave, Cond.selects RX6 yX6_leave yX6_leave, Cond.code yX6_leave cX6_leave 2 none, Cond.fieldLink RX6 46 "MediaCatalog$StackTable" "stacked" "J", Cond.constantLong RX6 73 (-1), Cond.static yX8_only, Cond.code yX8_only cX8_only 1 (some .long), Cond.methodLink RX8 84 yX8_settle, Cond.instanceMethod yX8_settle, Cond.selects RX8 yX8_settle yX8_settle, Cond.code yX8_settle cX8_settle 4 none, Cond.fieldLink RX8 21 "MediaCatalog" "groups" "LMediaCatalog$GroupTable;", Cond.fieldLink RX8 51 "MediaCatalog" "judge" "LMediaCatalog$RuleJudge;", Cond.fieldLink RX8 41 "MediaCatalog" "albums" "[LMediaCatalog$Album;"]
def wsX8_takeOut_r3 : List Cond := [Cond.fieldLink RX8 67 "MediaCatalog" "journal" "LMediaCatalog$Journal;", Cond.methodLink RX8 306 yX1_settleValues, Cond.instanceMethod yX1_settleValues, Cond.selects RX1 yX1_settleValues yX1_settleValues, Cond.code yX1_settleValues cX1_settleValues 2 none, Cond.methodLink RX1 64 yX1_settleFile, Cond.instanceMethod yX1_settleFile, Cond.selects RX1 yX1_settleFile yX1_settleFile, Cond.code yX1_settleFile cX1_settleFile 4 none, Cond.fieldLink RX1 21 "MediaCatalog$FileTable" "settled" "[I", Cond.methodLink RX1 72 Lib.Math.max.name, Cond.static Lib.Math.max.name, Cond.initialized "java/lang/Math", Cond.code Lib.Math.max.name Lib.Math.max.code 2 (some .int), Cond.methodLink RX1 68 yX1_firstTeller, Cond.instanceMethod yX1_firstTeller, Cond.selects RX1 yX1_firstTeller yX1_firstTeller, Cond.code yX1_firstTeller cX1_firstTeller 4 (some .int), Cond.fieldLink RX1 24 "MediaCatalog$FileTable" "order" "[I", Cond.methodLink RX1 61 yX1_told, Cond.instanceMethod yX1_told, Cond.selects RX1 yX1_told yX1_told, Cond.code yX1_told cX1_told 4 (some .int), Cond.fieldLink RX1 18 "MediaCatalog$FileTable" "values" "[I"]
def wsX8_takeOut_r4 : List Cond := [Cond.methodLink RX1 49 yX1_slot, Cond.static yX1_slot, Cond.code yX1_slot cX1_slot 3 (some .int), Cond.methodLink RX8 309 yX2_regroup, Cond.instanceMethod yX2_regroup, Cond.selects RX2 yX2_regroup yX2_regroup, Cond.initialized RX2, Cond.code yX2_regroup cX2_regroup 6 none, Cond.fieldLink RX2 15 "MediaCatalog$GroupTable" "keepers" "J", Cond.fieldLink RX2 19 "MediaCatalog$GroupTable" "duplicates" "J", Cond.fieldLink RX2 9 "MediaCatalog$GroupTable" "files" "LMediaCatalog$FileTable;", Cond.constantLong RX2 48 (-1), Cond.methodLink RX2 32 yX1_all, Cond.instanceMethod yX1_all, Cond.selects RX1 yX1_all yX1_all, Cond.code yX1_all cX1_all 1 (some .long), Cond.methodLink RX2 22 yX1_alike, Cond.instanceMethod yX1_alike, Cond.selects RX1 yX1_alike yX1_alike, Cond.code yX1_alike cX1_alike 5 (some .long), Cond.fieldLink RX1 9 "MediaCatalog$FileTable" "digests" "[I", Cond.methodLink RX2 28 yX2_preferred, Cond.instanceMethod yX2_preferred, Cond.selects RX2 yX2_preferred yX2_preferred]
def wsX8_takeOut_r5 : List Cond := [Cond.code yX2_preferred cX2_preferred 5 (some .int), Cond.methodLink RX2 50 yX2_beats, Cond.instanceMethod yX2_beats, Cond.selects RX2 yX2_beats yX2_beats, Cond.code yX2_beats cX2_beats 5 (some .boolean), Cond.methodLink RX2 54 yX1_settledValue, Cond.instanceMethod yX1_settledValue, Cond.selects RX1 yX1_settledValue yX1_settledValue, Cond.code yX1_settledValue cX1_settledValue 3 (some .int), Cond.methodLink RX2 58 yX2_yearOf, Cond.instanceMethod yX2_yearOf, Cond.selects RX2 yX2_yearOf yX2_yearOf, Cond.code yX2_yearOf cX2_yearOf 3 (some .int), Cond.methodLink RX2 43 yJ13_bitCount_95d88, Cond.static yJ13_bitCount_95d88, Cond.initialized RJ13, Cond.code yJ13_bitCount_95d88 cJ13_bitCount_95d88 2 (some .int), Cond.constantLong RJ13 314 (6148914691236517205), Cond.constantLong RJ13 316 (3689348814741910323), Cond.constantLong RJ13 318 (1085102592571150095), Cond.methodLink RX8 312 yX6_findCovers, Cond.instanceMethod yX6_findCovers, Cond.selects RX6 yX6_findCovers yX6_findCovers, Cond.code yX6_findCovers cX6_findCovers 2 none]
def wsX8_takeOut_r6 : List Cond := [Cond.fieldLink RX6 50 "MediaCatalog$StackTable" "covers" "J", Cond.methodLink RX6 42 yX6_has, Cond.instanceMethod yX6_has, Cond.selects RX6 yX6_has yX6_has, Cond.code yX6_has cX6_has 2 (some .boolean), Cond.methodLink RX6 80 yX6_cover, Cond.instanceMethod yX6_cover, Cond.selects RX6 yX6_cover yX6_cover, Cond.code yX6_cover cX6_cover 5 (some .int), Cond.fieldLink RX6 9 "MediaCatalog$StackTable" "files" "LMediaCatalog$FileTable;", Cond.methodLink RX6 75 yX1_settledValue, Cond.methodLink RX8 241 yX8_hasAlbum, Cond.instanceMethod yX8_hasAlbum, Cond.selects RX8 yX8_hasAlbum yX8_hasAlbum, Cond.code yX8_hasAlbum cX8_hasAlbum 2 (some .boolean), Cond.methodLink RX8 71 yX8_isWithin, Cond.methodLink RX8 298 yX0_exists, Cond.instanceMethod yX0_exists, Cond.selects RX0 yX0_exists yX0_exists, Cond.initialized RX0, Cond.code yX0_exists cX0_exists 1 (some .boolean), Cond.fieldLink RX0 18 "MediaCatalog$Album" "exists" "Z", Cond.methodLink RX8 315 yX0_rule, Cond.instanceMethod yX0_rule]
def wsX8_takeOut_r7 : List Cond := [Cond.selects RX0 yX0_rule yX0_rule, Cond.code yX0_rule cX0_rule 1 (some (.object "MediaCatalog$RuleText")), Cond.fieldLink RX0 12 "MediaCatalog$Album" "rule" "LMediaCatalog$RuleText;", Cond.methodLink RX8 231 yX4_filesFor, Cond.instanceMethod yX4_filesFor, Cond.selects RX4 yX4_filesFor yX4_filesFor, Cond.initialized RX4, Cond.code yX4_filesFor cX4_filesFor 4 (some .long), Cond.fieldLink RX4 38 "MediaCatalog$RuleJudge" "open" "I", Cond.fieldLink RX4 27 "MediaCatalog$RuleJudge" "ended" "[J", Cond.fieldLink RX4 31 "MediaCatalog$RuleJudge" "running" "[J", Cond.methodLink RX4 42 yX4_beginLevel, Cond.instanceMethod yX4_beginLevel, Cond.selects RX4 yX4_beginLevel yX4_beginLevel, Cond.code yX4_beginLevel cX4_beginLevel 1 none, Cond.fieldLink RX4 9 "MediaCatalog$RuleJudge" "files" "LMediaCatalog$FileTable;", Cond.fieldLink RX4 34 "MediaCatalog$RuleJudge" "negated" "[Z", Cond.methodLink RX4 67 yX1_all, Cond.methodLink RX4 45 yX5_length, Cond.instanceMethod yX5_length, Cond.selects RX5 yX5_length yX5_length, Cond.initialized RX5, Cond.code yX5_length cX5_length 1 (some .int), Cond.fieldLink RX5 15 "MediaCatalog$RuleText" "length" "I"]
def wsX8_takeOut_r8 : List Cond := [Cond.methodLink RX4 51 yX5_at, Cond.instanceMethod yX5_at, Cond.selects RX5 yX5_at yX5_at, Cond.code yX5_at cX5_at 2 (some .char), Cond.fieldLink RX5 9 "MediaCatalog$RuleText" "characters" "[C", Cond.methodLink RX4 55 yX4_condition, Cond.instanceMethod yX4_condition, Cond.selects RX4 yX4_condition yX4_condition, Cond.code yX4_condition cX4_condition 3 (some .long), Cond.fieldLink RX4 19 "MediaCatalog$RuleJudge" "stacks" "LMediaCatalog$StackTable;", Cond.fieldLink RX4 15 "MediaCatalog$RuleJudge" "groups" "LMediaCatalog$GroupTable;", Cond.methodLink RX4 81 yX5_numberAt, Cond.instanceMethod yX5_numberAt, Cond.selects RX5 yX5_numberAt yX5_numberAt, Cond.code yX5_numberAt cX5_numberAt 4 (some .int), Cond.methodLink RX5 25 yX5_at, Cond.methodLink RX5 29 yX5_isDigit, Cond.static yX5_isDigit, Cond.code yX5_isDigit cX5_isDigit 1 (some .boolean), Cond.methodLink RX4 85 yX4_tagged, Cond.instanceMethod yX4_tagged, Cond.selects RX4 yX4_tagged yX4_tagged, Cond.code yX4_tagged cX4_tagged 5 (some .long), Cond.methodLink RX4 115 yX1_settledValue]
def wsX8_takeOut_r9 : List Cond := [Cond.methodLink RX4 89 yX4_membersOf, Cond.instanceMethod yX4_membersOf, Cond.selects RX4 yX4_membersOf yX4_membersOf, Cond.code yX4_membersOf cX4_membersOf 2 (some .long), Cond.fieldLink RX4 23 "MediaCatalog$RuleJudge" "albums" "[LMediaCatalog$Album;", Cond.methodLink RX4 126 yX0_members, Cond.instanceMethod yX0_members, Cond.selects RX0 yX0_members yX0_members, Cond.code yX0_members cX0_members 1 (some .long), Cond.fieldLink RX0 22 "MediaCatalog$Album" "members" "J", Cond.methodLink RX4 92 yX6_stacked, Cond.instanceMethod yX6_stacked, Cond.selects RX6 yX6_stacked yX6_stacked, Cond.code yX6_stacked cX6_stacked 1 (some .long), Cond.methodLink RX4 97 yX6_covers, Cond.instanceMethod yX6_covers, Cond.selects RX6 yX6_covers yX6_covers, Cond.code yX6_covers cX6_covers 1 (some .long), Cond.methodLink RX4 100 yX2_duplicates, Cond.instanceMethod yX2_duplicates, Cond.selects RX2 yX2_duplicates yX2_duplicates, Cond.code yX2_duplicates cX2_duplicates 1 (some .long), Cond.methodLink RX4 105 yX2_keepers, Cond.instanceMethod yX2_keepers]
def wsX8_takeOut_r10 : List Cond := [Cond.selects RX2 yX2_keepers yX2_keepers, Cond.code yX2_keepers cX2_keepers 1 (some .long), Cond.methodLink RX4 108 yX4_comparing, Cond.instanceMethod yX4_comparing, Cond.selects RX4 yX4_comparing yX4_comparing, Cond.code yX4_comparing cX4_comparing 10 (some .long), Cond.methodLink RX4 131 yX5_fieldNamed, Cond.static yX5_fieldNamed, Cond.code yX5_fieldNamed cX5_fieldNamed 1 (some .int), Cond.methodLink RX4 135 yX4_agrees, Cond.static yX4_agrees, Cond.code yX4_agrees cX4_agrees 3 (some .boolean), Cond.methodLink RX4 59 yX4_take, Cond.instanceMethod yX4_take, Cond.selects RX4 yX4_take yX4_take, Cond.code yX4_take cX4_take 3 none, Cond.constantLong RX4 79 (-1), Cond.methodLink RX4 63 yX4_operate, Cond.instanceMethod yX4_operate, Cond.selects RX4 yX4_operate yX4_operate, Cond.code yX4_operate cX4_operate 2 none, Cond.methodLink RX4 73 yX4_openLevel, Cond.instanceMethod yX4_openLevel, Cond.selects RX4 yX4_openLevel yX4_openLevel]
def wsX8_takeOut_r11 : List Cond := [Cond.code yX4_openLevel cX4_openLevel 1 none, Cond.methodLink RX4 76 yX4_closeLevel, Cond.instanceMethod yX4_closeLevel, Cond.selects RX4 yX4_closeLevel yX4_closeLevel, Cond.code yX4_closeLevel cX4_closeLevel 3 none, Cond.methodLink RX8 319 yX0_become, Cond.instanceMethod yX0_become, Cond.selects RX0 yX0_become yX0_become, Cond.code yX0_become cX0_become 9 none, Cond.fieldLink RX0 26 "MediaCatalog$Album" "joined" "I", Cond.fieldLink RX0 30 "MediaCatalog$Album" "left" "I", Cond.methodLink RX0 58 yX3_note, Cond.instanceMethod yX3_note, Cond.selects RX3 yX3_note yX3_note, Cond.initialized RX3, Cond.code yX3_note cX3_note 4 none, Cond.fieldLink RX3 26 "MediaCatalog$Journal" "latest" "I", Cond.fieldLink RX3 9 "MediaCatalog$Journal" "albums" "[I", Cond.fieldLink RX3 15 "MediaCatalog$Journal" "files" "[I", Cond.fieldLink RX3 18 "MediaCatalog$Journal" "joins" "[Z", Cond.fieldLink RX3 22 "MediaCatalog$Journal" "length" "I", Cond.methodLink RX3 29 Lib.Math.min.name, Cond.static Lib.Math.min.name, Cond.code Lib.Math.min.name Lib.Math.min.code 2 (some .int)]
def wsX8_takeOut_r12 : List Cond := [Cond.methodLink RX8 190 yX6_height, Cond.instanceMethod yX6_height, Cond.selects RX6 yX6_height yX6_height, Cond.code yX6_height cX6_height 2 (some .int)]
def wsX8_takeOut : List Cond := .code yX8_takeOut cX8_takeOut 3 (some .int) :: ((wsX8_takeOut_r1 ++ (wsX8_takeOut_r2 ++ (wsX8_takeOut_r3 ++ (wsX8_takeOut_r4 ++ (wsX8_takeOut_r5 ++ (wsX8_takeOut_r6 ++ (wsX8_takeOut_r7 ++ (wsX8_takeOut_r8 ++ (wsX8_takeOut_r9 ++ (wsX8_takeOut_r10 ++ (wsX8_takeOut_r11 ++ wsX8_takeOut_r12))))))))))) ++ wsX80 ++ wsX10 ++ wsX60 ++ wsX20 ++ wsX00 ++ wsX40 ++ wsX50 ++ wsX30)
def wsX8_chooseCover_r1 : List Cond := [Cond.fieldLink RX8 28 "MediaCatalog" "stacks" "LMediaCatalog$StackTable;", Cond.fieldLink RX8 10 "MediaCatalog" "files" "LMediaCatalog$FileTable;", Cond.methodLink RX8 189 yX6_has, Cond.instanceMethod yX6_has, Cond.selects RX6 yX6_has yX6_has, Cond.initialized RX6, Cond.code yX6_has cX6_has 2 (some .boolean), Cond.fieldLink RX6 19 "MediaCatalog$StackTable" "heights" "[I", Cond.static yX8_isWithin, Cond.initialized RX8, Cond.code yX8_isWithin cX8_isWithin 3 (some .boolean), Cond.methodLink RX8 87 yX1_has, Cond.instanceMethod yX1_has, Cond.selects RX1 yX1_has yX1_has, Cond.initialized RX1, Cond.code yX1_has cX1_has 2 (some .boolean), Cond.fieldLink RX1 31 "MediaCatalog$FileTable" "present" "J", Cond.static yX8_holds, Cond.code yX8_holds cX8_holds 3 (some .boolean), Cond.methodLink RX8 182 yX6_home, Cond.instanceMethod yX6_home, Cond.selects RX6 yX6_home yX6_home, Cond.code yX6_home cX6_home 2 (some .int), Cond.fieldLink RX6 29 "MediaCatalog$StackTable" "homes" "[I"]
def wsX8_chooseCover_r2 : List Cond := [Cond.methodLink RX8 199 yX6_choose, Cond.instanceMethod yX6_choose, Cond.selects RX6 yX6_choose yX6_choose, Cond.code yX6_choose cX6_choose 3 none, Cond.fieldLink RX6 22 "MediaCatalog$StackTable" "chosen" "[I", Cond.methodLink RX8 84 yX8_settle, Cond.instanceMethod yX8_settle, Cond.selects RX8 yX8_settle yX8_settle, Cond.code yX8_settle cX8_settle 4 none, Cond.fieldLink RX8 21 "MediaCatalog" "groups" "LMediaCatalog$GroupTable;", Cond.fieldLink RX8 51 "MediaCatalog" "judge" "LMediaCatalog$RuleJudge;", Cond.fieldLink RX8 41 "MediaCatalog" "albums" "[LMediaCatalog$Album;", Cond.fieldLink RX8 67 "MediaCatalog" "journal" "LMediaCatalog$Journal;", Cond.methodLink RX8 306 yX1_settleValues, Cond.instanceMethod yX1_settleValues, Cond.selects RX1 yX1_settleValues yX1_settleValues, Cond.code yX1_settleValues cX1_settleValues 2 none, Cond.methodLink RX1 64 yX1_settleFile, Cond.instanceMethod yX1_settleFile, Cond.selects RX1 yX1_settleFile yX1_settleFile, Cond.code yX1_settleFile cX1_settleFile 4 none, Cond.fieldLink RX1 21 "MediaCatalog$FileTable" "settled" "[I", Cond.methodLink RX1 72 Lib.Math.max.name, Cond.static Lib.Math.max.name]
def wsX8_chooseCover_r3 : List Cond := [Cond.initialized "java/lang/Math", Cond.code Lib.Math.max.name Lib.Math.max.code 2 (some .int), Cond.methodLink RX1 68 yX1_firstTeller, Cond.instanceMethod yX1_firstTeller, Cond.selects RX1 yX1_firstTeller yX1_firstTeller, Cond.code yX1_firstTeller cX1_firstTeller 4 (some .int), Cond.fieldLink RX1 24 "MediaCatalog$FileTable" "order" "[I", Cond.methodLink RX1 61 yX1_told, Cond.instanceMethod yX1_told, Cond.selects RX1 yX1_told yX1_told, Cond.code yX1_told cX1_told 4 (some .int), Cond.fieldLink RX1 18 "MediaCatalog$FileTable" "values" "[I", Cond.methodLink RX1 49 yX1_slot, Cond.static yX1_slot, Cond.code yX1_slot cX1_slot 3 (some .int), Cond.methodLink RX8 309 yX2_regroup, Cond.instanceMethod yX2_regroup, Cond.selects RX2 yX2_regroup yX2_regroup, Cond.initialized RX2, Cond.code yX2_regroup cX2_regroup 6 none, Cond.fieldLink RX2 15 "MediaCatalog$GroupTable" "keepers" "J", Cond.fieldLink RX2 19 "MediaCatalog$GroupTable" "duplicates" "J", Cond.fieldLink RX2 9 "MediaCatalog$GroupTable" "files" "LMediaCatalog$FileTable;", Cond.constantLong RX2 48 (-1)]
def wsX8_chooseCover_r4 : List Cond := [Cond.methodLink RX2 32 yX1_all, Cond.instanceMethod yX1_all, Cond.selects RX1 yX1_all yX1_all, Cond.code yX1_all cX1_all 1 (some .long), Cond.methodLink RX2 22 yX1_alike, Cond.instanceMethod yX1_alike, Cond.selects RX1 yX1_alike yX1_alike, Cond.code yX1_alike cX1_alike 5 (some .long), Cond.fieldLink RX1 9 "MediaCatalog$FileTable" "digests" "[I", Cond.static yX8_only, Cond.code yX8_only cX8_only 1 (some .long), Cond.methodLink RX2 28 yX2_preferred, Cond.instanceMethod yX2_preferred, Cond.selects RX2 yX2_preferred yX2_preferred, Cond.code yX2_preferred cX2_preferred 5 (some .int), Cond.methodLink RX2 50 yX2_beats, Cond.instanceMethod yX2_beats, Cond.selects RX2 yX2_beats yX2_beats, Cond.code yX2_beats cX2_beats 5 (some .boolean), Cond.methodLink RX2 54 yX1_settledValue, Cond.instanceMethod yX1_settledValue, Cond.selects RX1 yX1_settledValue yX1_settledValue, Cond.code yX1_settledValue cX1_settledValue 3 (some .int), Cond.methodLink RX2 58 yX2_yearOf]
def wsX8_chooseCover_r5 : List Cond := [Cond.instanceMethod yX2_yearOf, Cond.selects RX2 yX2_yearOf yX2_yearOf, Cond.code yX2_yearOf cX2_yearOf 3 (some .int), Cond.methodLink RX2 43 yJ13_bitCount_95d88, Cond.static yJ13_bitCount_95d88, Cond.initialized RJ13, Cond.code yJ13_bitCount_95d88 cJ13_bitCount_95d88 2 (some .int), Cond.constantLong RJ13 314 (6148914691236517205), Cond.constantLong RJ13 316 (3689348814741910323), Cond.constantLong RJ13 318 (1085102592571150095), Cond.methodLink RX8 312 yX6_findCovers, Cond.instanceMethod yX6_findCovers, Cond.selects RX6 yX6_findCovers yX6_findCovers, Cond.code yX6_findCovers cX6_findCovers 2 none, Cond.fieldLink RX6 50 "MediaCatalog$StackTable" "covers" "J", Cond.methodLink RX6 42 yX6_has, Cond.methodLink RX6 80 yX6_cover, Cond.instanceMethod yX6_cover, Cond.selects RX6 yX6_cover yX6_cover, Cond.code yX6_cover cX6_cover 5 (some .int), Cond.fieldLink RX6 15 "MediaCatalog$StackTable" "places" "[I", Cond.fieldLink RX6 9 "MediaCatalog$StackTable" "files" "LMediaCatalog$FileTable;", Cond.methodLink RX6 57 yX6_spot, Cond.static yX6_spot]
def wsX8_chooseCover_r6 : List Cond := [Cond.code yX6_spot cX6_spot 2 (some .int), Cond.methodLink RX6 75 yX1_settledValue, Cond.methodLink RX8 241 yX8_hasAlbum, Cond.instanceMethod yX8_hasAlbum, Cond.selects RX8 yX8_hasAlbum yX8_hasAlbum, Cond.code yX8_hasAlbum cX8_hasAlbum 2 (some .boolean), Cond.methodLink RX8 71 yX8_isWithin, Cond.methodLink RX8 298 yX0_exists, Cond.instanceMethod yX0_exists, Cond.selects RX0 yX0_exists yX0_exists, Cond.initialized RX0, Cond.code yX0_exists cX0_exists 1 (some .boolean), Cond.fieldLink RX0 18 "MediaCatalog$Album" "exists" "Z", Cond.methodLink RX8 315 yX0_rule, Cond.instanceMethod yX0_rule, Cond.selects RX0 yX0_rule yX0_rule, Cond.code yX0_rule cX0_rule 1 (some (.object "MediaCatalog$RuleText")), Cond.fieldLink RX0 12 "MediaCatalog$Album" "rule" "LMediaCatalog$RuleText;", Cond.methodLink RX8 231 yX4_filesFor, Cond.instanceMethod yX4_filesFor, Cond.selects RX4 yX4_filesFor yX4_filesFor, Cond.initialized RX4, Cond.code yX4_filesFor cX4_filesFor 4 (some .long), Cond.fieldLink RX4 38 "MediaCatalog$RuleJudge" "open" "I"]
def wsX8_chooseCover_r7 : List Cond := [Cond.fieldLink RX4 27 "MediaCatalog$RuleJudge" "ended" "[J", Cond.fieldLink RX4 31 "MediaCatalog$RuleJudge" "running" "[J", Cond.methodLink RX4 42 yX4_beginLevel, Cond.instanceMethod yX4_beginLevel, Cond.selects RX4 yX4_beginLevel yX4_beginLevel, Cond.code yX4_beginLevel cX4_beginLevel 1 none, Cond.fieldLink RX4 9 "MediaCatalog$RuleJudge" "files" "LMediaCatalog$FileTable;", Cond.fieldLink RX4 34 "MediaCatalog$RuleJudge" "negated" "[Z", Cond.methodLink RX4 67 yX1_all, Cond.methodLink RX4 45 yX5_length, Cond.instanceMethod yX5_length, Cond.selects RX5 yX5_length yX5_length, Cond.initialized RX5, Cond.code yX5_length cX5_length 1 (some .int), Cond.fieldLink RX5 15 "MediaCatalog$RuleText" "length" "I", Cond.methodLink RX4 51 yX5_at, Cond.instanceMethod yX5_at, Cond.selects RX5 yX5_at yX5_at, Cond.code yX5_at cX5_at 2 (some .char), Cond.fieldLink RX5 9 "MediaCatalog$RuleText" "characters" "[C", Cond.methodLink RX4 55 yX4_condition, Cond.instanceMethod yX4_condition, Cond.selects RX4 yX4_condition yX4_condition, Cond.code yX4_condition cX4_condition 3 (some .long)]
def wsX8_chooseCover_r8 : List Cond := [Cond.fieldLink RX4 19 "MediaCatalog$RuleJudge" "stacks" "LMediaCatalog$StackTable;", Cond.fieldLink RX4 15 "MediaCatalog$RuleJudge" "groups" "LMediaCatalog$GroupTable;", Cond.methodLink RX4 81 yX5_numberAt, Cond.instanceMethod yX5_numberAt, Cond.selects RX5 yX5_numberAt yX5_numberAt, Cond.code yX5_numberAt cX5_numberAt 4 (some .int), Cond.methodLink RX5 25 yX5_at, Cond.methodLink RX5 29 yX5_isDigit, Cond.static yX5_isDigit, Cond.code yX5_isDigit cX5_isDigit 1 (some .boolean), Cond.methodLink RX4 85 yX4_tagged, Cond.instanceMethod yX4_tagged, Cond.selects RX4 yX4_tagged yX4_tagged, Cond.code yX4_tagged cX4_tagged 5 (some .long), Cond.methodLink RX4 115 yX1_settledValue, Cond.methodLink RX4 89 yX4_membersOf, Cond.instanceMethod yX4_membersOf, Cond.selects RX4 yX4_membersOf yX4_membersOf, Cond.code yX4_membersOf cX4_membersOf 2 (some .long), Cond.fieldLink RX4 23 "MediaCatalog$RuleJudge" "albums" "[LMediaCatalog$Album;", Cond.methodLink RX4 126 yX0_members, Cond.instanceMethod yX0_members, Cond.selects RX0 yX0_members yX0_members, Cond.code yX0_members cX0_members 1 (some .long)]
def wsX8_chooseCover_r9 : List Cond := [Cond.fieldLink RX0 22 "MediaCatalog$Album" "members" "J", Cond.methodLink RX4 92 yX6_stacked, Cond.instanceMethod yX6_stacked, Cond.selects RX6 yX6_stacked yX6_stacked, Cond.code yX6_stacked cX6_stacked 1 (some .long), Cond.fieldLink RX6 46 "MediaCatalog$StackTable" "stacked" "J", Cond.methodLink RX4 97 yX6_covers, Cond.instanceMethod yX6_covers, Cond.selects RX6 yX6_covers yX6_covers, Cond.code yX6_covers cX6_covers 1 (some .long), Cond.methodLink RX4 100 yX2_duplicates, Cond.instanceMethod yX2_duplicates, Cond.selects RX2 yX2_duplicates yX2_duplicates, Cond.code yX2_duplicates cX2_duplicates 1 (some .long), Cond.methodLink RX4 105 yX2_keepers, Cond.instanceMethod yX2_keepers, Cond.selects RX2 yX2_keepers yX2_keepers, Cond.code yX2_keepers cX2_keepers 1 (some .long), Cond.methodLink RX4 108 yX4_comparing, Cond.instanceMethod yX4_comparing, Cond.selects RX4 yX4_comparing yX4_comparing, Cond.code yX4_comparing cX4_comparing 10 (some .long), Cond.methodLink RX4 131 yX5_fieldNamed, Cond.static yX5_fieldNamed]
def wsX8_chooseCover_r10 : List Cond := [Cond.code yX5_fieldNamed cX5_fieldNamed 1 (some .int), Cond.methodLink RX4 135 yX4_agrees, Cond.static yX4_agrees, Cond.code yX4_agrees cX4_agrees 3 (some .boolean), Cond.methodLink RX4 59 yX4_take, Cond.instanceMethod yX4_take, Cond.selects RX4 yX4_take yX4_take, Cond.code yX4_take cX4_take 3 none, Cond.constantLong RX4 79 (-1), Cond.methodLink RX4 63 yX4_operate, Cond.instanceMethod yX4_operate, Cond.selects RX4 yX4_operate yX4_operate, Cond.code yX4_operate cX4_operate 2 none, Cond.methodLink RX4 73 yX4_openLevel, Cond.instanceMethod yX4_openLevel, Cond.selects RX4 yX4_openLevel yX4_openLevel, Cond.code yX4_openLevel cX4_openLevel 1 none, Cond.methodLink RX4 76 yX4_closeLevel, Cond.instanceMethod yX4_closeLevel, Cond.selects RX4 yX4_closeLevel yX4_closeLevel, Cond.code yX4_closeLevel cX4_closeLevel 3 none, Cond.methodLink RX8 319 yX0_become, Cond.instanceMethod yX0_become, Cond.selects RX0 yX0_become yX0_become]
def wsX8_chooseCover_r11 : List Cond := [Cond.code yX0_become cX0_become 9 none, Cond.fieldLink RX0 26 "MediaCatalog$Album" "joined" "I", Cond.fieldLink RX0 30 "MediaCatalog$Album" "left" "I", Cond.methodLink RX0 58 yX3_note, Cond.instanceMethod yX3_note, Cond.selects RX3 yX3_note yX3_note, Cond.initialized RX3, Cond.code yX3_note cX3_note 4 none, Cond.fieldLink RX3 26 "MediaCatalog$Journal" "latest" "I", Cond.fieldLink RX3 9 "MediaCatalog$Journal" "albums" "[I", Cond.fieldLink RX3 15 "MediaCatalog$Journal" "files" "[I", Cond.fieldLink RX3 18 "MediaCatalog$Journal" "joins" "[Z", Cond.fieldLink RX3 22 "MediaCatalog$Journal" "length" "I", Cond.methodLink RX3 29 Lib.Math.min.name, Cond.static Lib.Math.min.name, Cond.code Lib.Math.min.name Lib.Math.min.code 2 (some .int), Cond.methodLink RX8 202 yX6_cover]
def wsX8_chooseCover : List Cond := .code yX8_chooseCover cX8_chooseCover 3 (some .int) :: ((wsX8_chooseCover_r1 ++ (wsX8_chooseCover_r2 ++ (wsX8_chooseCover_r3 ++ (wsX8_chooseCover_r4 ++ (wsX8_chooseCover_r5 ++ (wsX8_chooseCover_r6 ++ (wsX8_chooseCover_r7 ++ (wsX8_chooseCover_r8 ++ (wsX8_chooseCover_r9 ++ (wsX8_chooseCover_r10 ++ wsX8_chooseCover_r11)))))))))) ++ wsX80 ++ wsX60 ++ wsX10 ++ wsX20 ++ wsX00 ++ wsX40 ++ wsX50 ++ wsX30)
def wsX8_collapse : List Cond := .code yX8_collapse cX8_collapse 4 (some .int) :: ([.fieldLink RX8 28 "MediaCatalog" "stacks" "LMediaCatalog$StackTable;", .methodLink RX8 189 yX6_has, .instanceMethod yX6_has, .selects RX6 yX6_has yX6_has, .initialized RX6, .code yX6_has cX6_has 2 (some .boolean), .fieldLink RX6 19 "MediaCatalog$StackTable" "heights" "[I", .static yX8_isWithin, .initialized RX8, .code yX8_isWithin cX8_isWithin 3 (some .boolean), .methodLink RX8 71 yX8_isWithin, .methodLink RX8 205 yX6_isCollapsed, .instanceMethod yX6_isCollapsed, .selects RX6 yX6_isCollapsed yX6_isCollapsed, .code yX6_isCollapsed cX6_isCollapsed 2 (some .boolean), .fieldLink RX6 25 "MediaCatalog$StackTable" "collapsed" "[Z", .methodLink RX8 208 yX6_fold, .instanceMethod yX6_fold, .selects RX6 yX6_fold yX6_fold, .code yX6_fold cX6_fold 3 none] ++ wsX80 ++ wsX60)
def wsX8_stackOf : List Cond := .code yX8_stackOf cX8_stackOf 2 (some .int) :: ([.fieldLink RX8 10 "MediaCatalog" "files" "LMediaCatalog$FileTable;", .fieldLink RX8 28 "MediaCatalog" "stacks" "LMediaCatalog$StackTable;", .methodLink RX8 87 yX1_has, .instanceMethod yX1_has, .selects RX1 yX1_has yX1_has, .initialized RX1, .code yX1_has cX1_has 2 (some .boolean), .fieldLink RX1 31 "MediaCatalog$FileTable" "present" "J", .static yX8_isWithin, .initialized RX8, .code yX8_isWithin cX8_isWithin 3 (some .boolean), .static yX8_holds, .code yX8_holds cX8_holds 3 (some .boolean), .methodLink RX8 182 yX6_home, .instanceMethod yX6_home, .selects RX6 yX6_home yX6_home, .initialized RX6, .code yX6_home cX6_home 2 (some .int), .fieldLink RX6 29 "MediaCatalog$StackTable" "homes" "[I", .methodLink RX8 124 yX8_orNotFound, .static yX8_orNotFound, .code yX8_orNotFound cX8_orNotFound 1 (some .int)] ++ wsX80 ++ wsX10 ++ wsX60)
def wsX8_coverOf_r1 : List Cond := [Cond.fieldLink RX8 28 "MediaCatalog" "stacks" "LMediaCatalog$StackTable;", Cond.methodLink RX8 189 yX6_has, Cond.instanceMethod yX6_has, Cond.selects RX6 yX6_has yX6_has, Cond.initialized RX6, Cond.code yX6_has cX6_has 2 (some .boolean), Cond.fieldLink RX6 19 "MediaCatalog$StackTable" "heights" "[I", Cond.static yX8_isWithin, Cond.initialized RX8, Cond.code yX8_isWithin cX8_isWithin 3 (some .boolean), Cond.methodLink RX8 202 yX6_cover, Cond.instanceMethod yX6_cover, Cond.selects RX6 yX6_cover yX6_cover, Cond.code yX6_cover cX6_cover 5 (some .int), Cond.fieldLink RX6 22 "MediaCatalog$StackTable" "chosen" "[I", Cond.fieldLink RX6 15 "MediaCatalog$StackTable" "places" "[I", Cond.fieldLink RX6 9 "MediaCatalog$StackTable" "files" "LMediaCatalog$FileTable;", Cond.methodLink RX6 57 yX6_spot, Cond.static yX6_spot, Cond.code yX6_spot cX6_spot 2 (some .int), Cond.methodLink RX6 75 yX1_settledValue, Cond.instanceMethod yX1_settledValue, Cond.selects RX1 yX1_settledValue yX1_settledValue, Cond.initialized RX1]
def wsX8_coverOf_r2 : List Cond := [Cond.code yX1_settledValue cX1_settledValue 3 (some .int), Cond.fieldLink RX1 21 "MediaCatalog$FileTable" "settled" "[I"]
def wsX8_coverOf : List Cond := .code yX8_coverOf cX8_coverOf 2 (some .int) :: ((wsX8_coverOf_r1 ++ wsX8_coverOf_r2) ++ wsX80 ++ wsX60 ++ wsX10)
def wsX8_stackAt : List Cond := .code yX8_stackAt cX8_stackAt 3 (some .int) :: ([.fieldLink RX8 28 "MediaCatalog" "stacks" "LMediaCatalog$StackTable;", .methodLink RX8 189 yX6_has, .instanceMethod yX6_has, .selects RX6 yX6_has yX6_has, .initialized RX6, .code yX6_has cX6_has 2 (some .boolean), .fieldLink RX6 19 "MediaCatalog$StackTable" "heights" "[I", .static yX8_isWithin, .initialized RX8, .code yX8_isWithin cX8_isWithin 3 (some .boolean), .methodLink RX8 212 yX6_fileAt, .instanceMethod yX6_fileAt, .selects RX6 yX6_fileAt yX6_fileAt, .code yX6_fileAt cX6_fileAt 3 (some .int), .fieldLink RX6 15 "MediaCatalog$StackTable" "places" "[I", .methodLink RX6 57 yX6_spot, .static yX6_spot, .code yX6_spot cX6_spot 2 (some .int), .methodLink RX8 124 yX8_orNotFound, .static yX8_orNotFound, .code yX8_orNotFound cX8_orNotFound 1 (some .int)] ++ wsX80 ++ wsX60)
def wsX8_type : List Cond := .code yX8_type cX8_type 2 (some .int) :: ([.fieldLink RX8 35 "MediaCatalog" "text" "LMediaCatalog$RuleText;", .methodLink RX8 71 yX8_isWithin, .static yX8_isWithin, .initialized RX8, .code yX8_isWithin cX8_isWithin 3 (some .boolean), .methodLink RX8 215 yX5_length, .instanceMethod yX5_length, .selects RX5 yX5_length yX5_length, .initialized RX5, .code yX5_length cX5_length 1 (some .int), .fieldLink RX5 15 "MediaCatalog$RuleText" "length" "I", .methodLink RX8 218 yX5_append, .instanceMethod yX5_append, .selects RX5 yX5_append yX5_append, .code yX5_append cX5_append 2 none, .fieldLink RX5 9 "MediaCatalog$RuleText" "characters" "[C"] ++ wsX80 ++ wsX50)
def wsX8_clearRule : List Cond := .code yX8_clearRule cX8_clearRule 2 (some .int) :: ([.fieldLink RX8 35 "MediaCatalog" "text" "LMediaCatalog$RuleText;", .methodLink RX8 215 yX5_length, .instanceMethod yX5_length, .selects RX5 yX5_length yX5_length, .initialized RX5, .code yX5_length cX5_length 1 (some .int), .fieldLink RX5 15 "MediaCatalog$RuleText" "length" "I", .methodLink RX8 222 yX5_empty, .instanceMethod yX5_empty, .selects RX5 yX5_empty yX5_empty, .code yX5_empty cX5_empty 1 none] ++ wsX80 ++ wsX50)
def wsX8_isTextUsable_r1 : List Cond := [Cond.fieldLink RX8 35 "MediaCatalog" "text" "LMediaCatalog$RuleText;", Cond.methodLink RX8 225 yX5_firstFault, Cond.instanceMethod yX5_firstFault, Cond.selects RX5 yX5_firstFault yX5_firstFault, Cond.initialized RX5, Cond.code yX5_firstFault cX5_firstFault 5 (some .int), Cond.fieldLink RX5 15 "MediaCatalog$RuleText" "length" "I", Cond.fieldLink RX5 9 "MediaCatalog$RuleText" "characters" "[C", Cond.methodLink RX5 33 yX5_next, Cond.static yX5_next, Cond.code yX5_next cX5_next 3 (some .int), Cond.methodLink RX5 37 yX5_inItem, Cond.static yX5_inItem, Cond.code yX5_inItem cX5_inItem 2 (some .int), Cond.methodLink RX5 51 yX5_fieldNamed, Cond.static yX5_fieldNamed, Cond.code yX5_fieldNamed cX5_fieldNamed 1 (some .int), Cond.methodLink RX5 41 yX5_afterField, Cond.static yX5_afterField, Cond.code yX5_afterField cX5_afterField 1 (some .int), Cond.methodLink RX5 29 yX5_isDigit, Cond.static yX5_isDigit, Cond.code yX5_isDigit cX5_isDigit 1 (some .boolean), Cond.methodLink RX5 45 yX5_afterItem]
def wsX8_isTextUsable_r2 : List Cond := [Cond.static yX5_afterItem, Cond.code yX5_afterItem cX5_afterItem 2 (some .int), Cond.methodLink RX5 48 yX5_inNumber, Cond.static yX5_inNumber, Cond.code yX5_inNumber cX5_inNumber 4 (some .int), Cond.methodLink RX8 305 yX5_names, Cond.instanceMethod yX5_names, Cond.selects RX5 yX5_names yX5_names, Cond.code yX5_names cX5_names 3 (some .boolean), Cond.methodLink RX5 25 yX5_at, Cond.instanceMethod yX5_at, Cond.selects RX5 yX5_at yX5_at, Cond.code yX5_at cX5_at 2 (some .char), Cond.methodLink RX8 241 yX8_hasAlbum, Cond.instanceMethod yX8_hasAlbum, Cond.selects RX8 yX8_hasAlbum yX8_hasAlbum, Cond.initialized RX8, Cond.code yX8_hasAlbum cX8_hasAlbum 2 (some .boolean), Cond.fieldLink RX8 41 "MediaCatalog" "albums" "[LMediaCatalog$Album;", Cond.methodLink RX8 71 yX8_isWithin, Cond.static yX8_isWithin, Cond.code yX8_isWithin cX8_isWithin 3 (some .boolean), Cond.methodLink RX8 298 yX0_exists, Cond.instanceMethod yX0_exists]
def wsX8_isTextUsable_r3 : List Cond := [Cond.selects RX0 yX0_exists yX0_exists, Cond.initialized RX0, Cond.code yX0_exists cX0_exists 1 (some .boolean), Cond.fieldLink RX0 18 "MediaCatalog$Album" "exists" "Z"]
def wsX8_isTextUsable : List Cond := .code yX8_isTextUsable cX8_isTextUsable 3 (some .boolean) :: ((wsX8_isTextUsable_r1 ++ (wsX8_isTextUsable_r2 ++ wsX8_isTextUsable_r3)) ++ wsX80 ++ wsX50 ++ wsX00)
def wsX8_satisfies_r1 : List Cond := [Cond.fieldLink RX8 10 "MediaCatalog" "files" "LMediaCatalog$FileTable;", Cond.fieldLink RX8 51 "MediaCatalog" "judge" "LMediaCatalog$RuleJudge;", Cond.fieldLink RX8 35 "MediaCatalog" "text" "LMediaCatalog$RuleText;", Cond.methodLink RX8 87 yX1_has, Cond.instanceMethod yX1_has, Cond.selects RX1 yX1_has yX1_has, Cond.initialized RX1, Cond.code yX1_has cX1_has 2 (some .boolean), Cond.fieldLink RX1 31 "MediaCatalog$FileTable" "present" "J", Cond.static yX8_isWithin, Cond.initialized RX8, Cond.code yX8_isWithin cX8_isWithin 3 (some .boolean), Cond.static yX8_holds, Cond.code yX8_holds cX8_holds 3 (some .boolean), Cond.methodLink RX8 228 yX8_isTextUsable, Cond.instanceMethod yX8_isTextUsable, Cond.selects RX8 yX8_isTextUsable yX8_isTextUsable, Cond.code yX8_isTextUsable cX8_isTextUsable 3 (some .boolean), Cond.methodLink RX8 225 yX5_firstFault, Cond.instanceMethod yX5_firstFault, Cond.selects RX5 yX5_firstFault yX5_firstFault, Cond.initialized RX5, Cond.code yX5_firstFault cX5_firstFault 5 (some .int), Cond.fieldLink RX5 15 "MediaCatalog$RuleText" "length" "I"]
def wsX8_satisfies_r2 : List Cond := [Cond.fieldLink RX5 9 "MediaCatalog$RuleText" "characters" "[C", Cond.methodLink RX5 33 yX5_next, Cond.static yX5_next, Cond.code yX5_next cX5_next 3 (some .int), Cond.methodLink RX5 37 yX5_inItem, Cond.static yX5_inItem, Cond.code yX5_inItem cX5_inItem 2 (some .int), Cond.methodLink RX5 51 yX5_fieldNamed, Cond.static yX5_fieldNamed, Cond.code yX5_fieldNamed cX5_fieldNamed 1 (some .int), Cond.methodLink RX5 41 yX5_afterField, Cond.static yX5_afterField, Cond.code yX5_afterField cX5_afterField 1 (some .int), Cond.methodLink RX5 29 yX5_isDigit, Cond.static yX5_isDigit, Cond.code yX5_isDigit cX5_isDigit 1 (some .boolean), Cond.methodLink RX5 45 yX5_afterItem, Cond.static yX5_afterItem, Cond.code yX5_afterItem cX5_afterItem 2 (some .int), Cond.methodLink RX5 48 yX5_inNumber, Cond.static yX5_inNumber, Cond.code yX5_inNumber cX5_inNumber 4 (some .int), Cond.methodLink RX8 305 yX5_names, Cond.instanceMethod yX5_names]
def wsX8_satisfies_r3 : List Cond := [Cond.selects RX5 yX5_names yX5_names, Cond.code yX5_names cX5_names 3 (some .boolean), Cond.methodLink RX5 25 yX5_at, Cond.instanceMethod yX5_at, Cond.selects RX5 yX5_at yX5_at, Cond.code yX5_at cX5_at 2 (some .char), Cond.methodLink RX8 241 yX8_hasAlbum, Cond.instanceMethod yX8_hasAlbum, Cond.selects RX8 yX8_hasAlbum yX8_hasAlbum, Cond.code yX8_hasAlbum cX8_hasAlbum 2 (some .boolean), Cond.fieldLink RX8 41 "MediaCatalog" "albums" "[LMediaCatalog$Album;", Cond.methodLink RX8 71 yX8_isWithin, Cond.methodLink RX8 298 yX0_exists, Cond.instanceMethod yX0_exists, Cond.selects RX0 yX0_exists yX0_exists, Cond.initialized RX0, Cond.code yX0_exists cX0_exists 1 (some .boolean), Cond.fieldLink RX0 18 "MediaCatalog$Album" "exists" "Z", Cond.methodLink RX8 231 yX4_filesFor, Cond.instanceMethod yX4_filesFor, Cond.selects RX4 yX4_filesFor yX4_filesFor, Cond.initialized RX4, Cond.code yX4_filesFor cX4_filesFor 4 (some .long), Cond.fieldLink RX4 38 "MediaCatalog$RuleJudge" "open" "I"]
def wsX8_satisfies_r4 : List Cond := [Cond.fieldLink RX4 27 "MediaCatalog$RuleJudge" "ended" "[J", Cond.fieldLink RX4 31 "MediaCatalog$RuleJudge" "running" "[J", Cond.methodLink RX4 42 yX4_beginLevel, Cond.instanceMethod yX4_beginLevel, Cond.selects RX4 yX4_beginLevel yX4_beginLevel, Cond.code yX4_beginLevel cX4_beginLevel 1 none, Cond.fieldLink RX4 9 "MediaCatalog$RuleJudge" "files" "LMediaCatalog$FileTable;", Cond.fieldLink RX4 34 "MediaCatalog$RuleJudge" "negated" "[Z", Cond.methodLink RX4 67 yX1_all, Cond.instanceMethod yX1_all, Cond.selects RX1 yX1_all yX1_all, Cond.code yX1_all cX1_all 1 (some .long), Cond.methodLink RX4 45 yX5_length, Cond.instanceMethod yX5_length, Cond.selects RX5 yX5_length yX5_length, Cond.code yX5_length cX5_length 1 (some .int), Cond.methodLink RX4 51 yX5_at, Cond.methodLink RX4 55 yX4_condition, Cond.instanceMethod yX4_condition, Cond.selects RX4 yX4_condition yX4_condition, Cond.code yX4_condition cX4_condition 3 (some .long), Cond.fieldLink RX4 19 "MediaCatalog$RuleJudge" "stacks" "LMediaCatalog$StackTable;", Cond.fieldLink RX4 15 "MediaCatalog$RuleJudge" "groups" "LMediaCatalog$GroupTable;", Cond.methodLink RX4 81 yX5_numberAt]
def wsX8_satisfies_r5 : List Cond := [Cond.instanceMethod yX5_numberAt, Cond.selects RX5 yX5_numberAt yX5_numberAt, Cond.code yX5_numberAt cX5_numberAt 4 (some .int), Cond.methodLink RX4 85 yX4_tagged, Cond.instanceMethod yX4_tagged, Cond.selects RX4 yX4_tagged yX4_tagged, Cond.code yX4_tagged cX4_tagged 5 (some .long), Cond.methodLink RX4 115 yX1_settledValue, Cond.instanceMethod yX1_settledValue, Cond.selects RX1 yX1_settledValue yX1_settledValue, Cond.code yX1_settledValue cX1_settledValue 3 (some .int), Cond.fieldLink RX1 21 "MediaCatalog$FileTable" "settled" "[I", Cond.static yX8_only, Cond.code yX8_only cX8_only 1 (some .long), Cond.methodLink RX4 89 yX4_membersOf, Cond.instanceMethod yX4_membersOf, Cond.selects RX4 yX4_membersOf yX4_membersOf, Cond.code yX4_membersOf cX4_membersOf 2 (some .long), Cond.fieldLink RX4 23 "MediaCatalog$RuleJudge" "albums" "[LMediaCatalog$Album;", Cond.methodLink RX4 126 yX0_members, Cond.instanceMethod yX0_members, Cond.selects RX0 yX0_members yX0_members, Cond.code yX0_members cX0_members 1 (some .long), Cond.fieldLink RX0 22 "MediaCatalog$Album" "members" "J"]
def wsX8_satisfies_r6 : List Cond := [Cond.methodLink RX4 92 yX6_stacked, Cond.instanceMethod yX6_stacked, Cond.selects RX6 yX6_stacked yX6_stacked, Cond.initialized RX6, Cond.code yX6_stacked cX6_stacked 1 (some .long), Cond.fieldLink RX6 46 "MediaCatalog$StackTable" "stacked" "J", Cond.methodLink RX4 97 yX6_covers, Cond.instanceMethod yX6_covers, Cond.selects RX6 yX6_covers yX6_covers, Cond.code yX6_covers cX6_covers 1 (some .long), Cond.fieldLink RX6 50 "MediaCatalog$StackTable" "covers" "J", Cond.methodLink RX4 100 yX2_duplicates, Cond.instanceMethod yX2_duplicates, Cond.selects RX2 yX2_duplicates yX2_duplicates, Cond.initialized RX2, Cond.code yX2_duplicates cX2_duplicates 1 (some .long), Cond.fieldLink RX2 19 "MediaCatalog$GroupTable" "duplicates" "J", Cond.methodLink RX4 105 yX2_keepers, Cond.instanceMethod yX2_keepers, Cond.selects RX2 yX2_keepers yX2_keepers, Cond.code yX2_keepers cX2_keepers 1 (some .long), Cond.fieldLink RX2 15 "MediaCatalog$GroupTable" "keepers" "J", Cond.methodLink RX4 108 yX4_comparing, Cond.instanceMethod yX4_comparing]
def wsX8_satisfies_r7 : List Cond := [Cond.selects RX4 yX4_comparing yX4_comparing, Cond.code yX4_comparing cX4_comparing 10 (some .long), Cond.methodLink RX4 131 yX5_fieldNamed, Cond.methodLink RX4 135 yX4_agrees, Cond.static yX4_agrees, Cond.code yX4_agrees cX4_agrees 3 (some .boolean), Cond.methodLink RX4 59 yX4_take, Cond.instanceMethod yX4_take, Cond.selects RX4 yX4_take yX4_take, Cond.code yX4_take cX4_take 3 none, Cond.constantLong RX4 79 (-1), Cond.methodLink RX4 63 yX4_operate, Cond.instanceMethod yX4_operate, Cond.selects RX4 yX4_operate yX4_operate, Cond.code yX4_operate cX4_operate 2 none, Cond.methodLink RX4 73 yX4_openLevel, Cond.instanceMethod yX4_openLevel, Cond.selects RX4 yX4_openLevel yX4_openLevel, Cond.code yX4_openLevel cX4_openLevel 1 none, Cond.methodLink RX4 76 yX4_closeLevel, Cond.instanceMethod yX4_closeLevel, Cond.selects RX4 yX4_closeLevel yX4_closeLevel, Cond.code yX4_closeLevel cX4_closeLevel 3 none, Cond.methodLink RX8 178 yX8_holds]
def wsX8_satisfies : List Cond := .code yX8_satisfies cX8_satisfies 2 (some .int) :: ((wsX8_satisfies_r1 ++ (wsX8_satisfies_r2 ++ (wsX8_satisfies_r3 ++ (wsX8_satisfies_r4 ++ (wsX8_satisfies_r5 ++ (wsX8_satisfies_r6 ++ wsX8_satisfies_r7)))))) ++ wsX80 ++ wsX10 ++ wsX50 ++ wsX00 ++ wsX40 ++ wsX60 ++ wsX20)
def wsX8_select_r1 : List Cond := [Cond.fieldLink RX8 51 "MediaCatalog" "judge" "LMediaCatalog$RuleJudge;", Cond.fieldLink RX8 35 "MediaCatalog" "text" "LMediaCatalog$RuleText;", Cond.methodLink RX8 228 yX8_isTextUsable, Cond.instanceMethod yX8_isTextUsable, Cond.selects RX8 yX8_isTextUsable yX8_isTextUsable, Cond.initialized RX8, Cond.code yX8_isTextUsable cX8_isTextUsable 3 (some .boolean), Cond.methodLink RX8 225 yX5_firstFault, Cond.instanceMethod yX5_firstFault, Cond.selects RX5 yX5_firstFault yX5_firstFault, Cond.initialized RX5, Cond.code yX5_firstFault cX5_firstFault 5 (some .int), Cond.fieldLink RX5 15 "MediaCatalog$RuleText" "length" "I", Cond.fieldLink RX5 9 "MediaCatalog$RuleText" "characters" "[C", Cond.methodLink RX5 33 yX5_next, Cond.static yX5_next, Cond.code yX5_next cX5_next 3 (some .int), Cond.methodLink RX5 37 yX5_inItem, Cond.static yX5_inItem, Cond.code yX5_inItem cX5_inItem 2 (some .int), Cond.methodLink RX5 51 yX5_fieldNamed, Cond.static yX5_fieldNamed, Cond.code yX5_fieldNamed cX5_fieldNamed 1 (some .int), Cond.methodLink RX5 41 yX5_afterField]
def wsX8_select_r2 : List Cond := [Cond.static yX5_afterField, Cond.code yX5_afterField cX5_afterField 1 (some .int), Cond.methodLink RX5 29 yX5_isDigit, Cond.static yX5_isDigit, Cond.code yX5_isDigit cX5_isDigit 1 (some .boolean), Cond.methodLink RX5 45 yX5_afterItem, Cond.static yX5_afterItem, Cond.code yX5_afterItem cX5_afterItem 2 (some .int), Cond.methodLink RX5 48 yX5_inNumber, Cond.static yX5_inNumber, Cond.code yX5_inNumber cX5_inNumber 4 (some .int), Cond.methodLink RX8 305 yX5_names, Cond.instanceMethod yX5_names, Cond.selects RX5 yX5_names yX5_names, Cond.code yX5_names cX5_names 3 (some .boolean), Cond.methodLink RX5 25 yX5_at, Cond.instanceMethod yX5_at, Cond.selects RX5 yX5_at yX5_at, Cond.code yX5_at cX5_at 2 (some .char), Cond.methodLink RX8 241 yX8_hasAlbum, Cond.instanceMethod yX8_hasAlbum, Cond.selects RX8 yX8_hasAlbum yX8_hasAlbum, Cond.code yX8_hasAlbum cX8_hasAlbum 2 (some .boolean), Cond.fieldLink RX8 41 "MediaCatalog" "albums" "[LMediaCatalog$Album;"]
def wsX8_select_r3 : List Cond := [Cond.methodLink RX8 71 yX8_isWithin, Cond.static yX8_isWithin, Cond.code yX8_isWithin cX8_isWithin 3 (some .boolean), Cond.methodLink RX8 298 yX0_exists, Cond.instanceMethod yX0_exists, Cond.selects RX0 yX0_exists yX0_exists, Cond.initialized RX0, Cond.code yX0_exists cX0_exists 1 (some .boolean), Cond.fieldLink RX0 18 "MediaCatalog$Album" "exists" "Z", Cond.methodLink RX8 231 yX4_filesFor, Cond.instanceMethod yX4_filesFor, Cond.selects RX4 yX4_filesFor yX4_filesFor, Cond.initialized RX4, Cond.code yX4_filesFor cX4_filesFor 4 (some .long), Cond.fieldLink RX4 38 "MediaCatalog$RuleJudge" "open" "I", Cond.fieldLink RX4 27 "MediaCatalog$RuleJudge" "ended" "[J", Cond.fieldLink RX4 31 "MediaCatalog$RuleJudge" "running" "[J", Cond.methodLink RX4 42 yX4_beginLevel, Cond.instanceMethod yX4_beginLevel, Cond.selects RX4 yX4_beginLevel yX4_beginLevel, Cond.code yX4_beginLevel cX4_beginLevel 1 none, Cond.fieldLink RX4 9 "MediaCatalog$RuleJudge" "files" "LMediaCatalog$FileTable;", Cond.fieldLink RX4 34 "MediaCatalog$RuleJudge" "negated" "[Z", Cond.methodLink RX4 67 yX1_all]
def wsX8_select_r4 : List Cond := [Cond.instanceMethod yX1_all, Cond.selects RX1 yX1_all yX1_all, Cond.initialized RX1, Cond.code yX1_all cX1_all 1 (some .long), Cond.fieldLink RX1 31 "MediaCatalog$FileTable" "present" "J", Cond.methodLink RX4 45 yX5_length, Cond.instanceMethod yX5_length, Cond.selects RX5 yX5_length yX5_length, Cond.code yX5_length cX5_length 1 (some .int), Cond.methodLink RX4 51 yX5_at, Cond.methodLink RX4 55 yX4_condition, Cond.instanceMethod yX4_condition, Cond.selects RX4 yX4_condition yX4_condition, Cond.code yX4_condition cX4_condition 3 (some .long), Cond.fieldLink RX4 19 "MediaCatalog$RuleJudge" "stacks" "LMediaCatalog$StackTable;", Cond.fieldLink RX4 15 "MediaCatalog$RuleJudge" "groups" "LMediaCatalog$GroupTable;", Cond.methodLink RX4 81 yX5_numberAt, Cond.instanceMethod yX5_numberAt, Cond.selects RX5 yX5_numberAt yX5_numberAt, Cond.code yX5_numberAt cX5_numberAt 4 (some .int), Cond.methodLink RX4 85 yX4_tagged, Cond.instanceMethod yX4_tagged, Cond.selects RX4 yX4_tagged yX4_tagged, Cond.code yX4_tagged cX4_tagged 5 (some .long)]
def wsX8_select_r5 : List Cond := [Cond.static yX8_holds, Cond.code yX8_holds cX8_holds 3 (some .boolean), Cond.methodLink RX4 115 yX1_settledValue, Cond.instanceMethod yX1_settledValue, Cond.selects RX1 yX1_settledValue yX1_settledValue, Cond.code yX1_settledValue cX1_settledValue 3 (some .int), Cond.fieldLink RX1 21 "MediaCatalog$FileTable" "settled" "[I", Cond.static yX8_only, Cond.code yX8_only cX8_only 1 (some .long), Cond.methodLink RX4 89 yX4_membersOf, Cond.instanceMethod yX4_membersOf, Cond.selects RX4 yX4_membersOf yX4_membersOf, Cond.code yX4_membersOf cX4_membersOf 2 (some .long), Cond.fieldLink RX4 23 "MediaCatalog$RuleJudge" "albums" "[LMediaCatalog$Album;", Cond.methodLink RX4 126 yX0_members, Cond.instanceMethod yX0_members, Cond.selects RX0 yX0_members yX0_members, Cond.code yX0_members cX0_members 1 (some .long), Cond.fieldLink RX0 22 "MediaCatalog$Album" "members" "J", Cond.methodLink RX4 92 yX6_stacked, Cond.instanceMethod yX6_stacked, Cond.selects RX6 yX6_stacked yX6_stacked, Cond.initialized RX6, Cond.code yX6_stacked cX6_stacked 1 (some .long)]
def wsX8_select_r6 : List Cond := [Cond.fieldLink RX6 46 "MediaCatalog$StackTable" "stacked" "J", Cond.methodLink RX4 97 yX6_covers, Cond.instanceMethod yX6_covers, Cond.selects RX6 yX6_covers yX6_covers, Cond.code yX6_covers cX6_covers 1 (some .long), Cond.fieldLink RX6 50 "MediaCatalog$StackTable" "covers" "J", Cond.methodLink RX4 100 yX2_duplicates, Cond.instanceMethod yX2_duplicates, Cond.selects RX2 yX2_duplicates yX2_duplicates, Cond.initialized RX2, Cond.code yX2_duplicates cX2_duplicates 1 (some .long), Cond.fieldLink RX2 19 "MediaCatalog$GroupTable" "duplicates" "J", Cond.methodLink RX4 105 yX2_keepers, Cond.instanceMethod yX2_keepers, Cond.selects RX2 yX2_keepers yX2_keepers, Cond.code yX2_keepers cX2_keepers 1 (some .long), Cond.fieldLink RX2 15 "MediaCatalog$GroupTable" "keepers" "J", Cond.methodLink RX4 108 yX4_comparing, Cond.instanceMethod yX4_comparing, Cond.selects RX4 yX4_comparing yX4_comparing, Cond.code yX4_comparing cX4_comparing 10 (some .long), Cond.methodLink RX4 131 yX5_fieldNamed, Cond.methodLink RX4 135 yX4_agrees, Cond.static yX4_agrees]
def wsX8_select_r7 : List Cond := [Cond.code yX4_agrees cX4_agrees 3 (some .boolean), Cond.methodLink RX4 59 yX4_take, Cond.instanceMethod yX4_take, Cond.selects RX4 yX4_take yX4_take, Cond.code yX4_take cX4_take 3 none, Cond.constantLong RX4 79 (-1), Cond.methodLink RX4 63 yX4_operate, Cond.instanceMethod yX4_operate, Cond.selects RX4 yX4_operate yX4_operate, Cond.code yX4_operate cX4_operate 2 none, Cond.methodLink RX4 73 yX4_openLevel, Cond.instanceMethod yX4_openLevel, Cond.selects RX4 yX4_openLevel yX4_openLevel, Cond.code yX4_openLevel cX4_openLevel 1 none, Cond.methodLink RX4 76 yX4_closeLevel, Cond.instanceMethod yX4_closeLevel, Cond.selects RX4 yX4_closeLevel yX4_closeLevel, Cond.code yX4_closeLevel cX4_closeLevel 3 none, Cond.methodLink RX8 153 yJ13_bitCount_95d88, Cond.static yJ13_bitCount_95d88, Cond.initialized RJ13, Cond.code yJ13_bitCount_95d88 cJ13_bitCount_95d88 2 (some .int), Cond.constantLong RJ13 314 (6148914691236517205), Cond.constantLong RJ13 316 (3689348814741910323)]
def wsX8_select_r8 : List Cond := [Cond.constantLong RJ13 318 (1085102592571150095)]
def wsX8_select : List Cond := .code yX8_select cX8_select 1 (some .int) :: ((wsX8_select_r1 ++ (wsX8_select_r2 ++ (wsX8_select_r3 ++ (wsX8_select_r4 ++ (wsX8_select_r5 ++ (wsX8_select_r6 ++ (wsX8_select_r7 ++ wsX8_select_r8))))))) ++ wsX80 ++ wsX50 ++ wsX00 ++ wsX40 ++ wsX10 ++ wsX60 ++ wsX20)
def wsX8_freeAlbum : List Cond := .code yX8_freeAlbum cX8_freeAlbum 2 (some .int) :: ([.methodLink RX8 241 yX8_hasAlbum, .instanceMethod yX8_hasAlbum, .selects RX8 yX8_hasAlbum yX8_hasAlbum, .initialized RX8, .code yX8_hasAlbum cX8_hasAlbum 2 (some .boolean), .fieldLink RX8 41 "MediaCatalog" "albums" "[LMediaCatalog$Album;", .methodLink RX8 71 yX8_isWithin, .static yX8_isWithin, .code yX8_isWithin cX8_isWithin 3 (some .boolean), .methodLink RX8 298 yX0_exists, .instanceMethod yX0_exists, .selects RX0 yX0_exists yX0_exists, .initialized RX0, .code yX0_exists cX0_exists 1 (some .boolean), .fieldLink RX0 18 "MediaCatalog$Album" "exists" "Z"] ++ wsX80 ++ wsX00)
def wsX8_makeAlbum_r1 : List Cond := [Cond.fieldLink RX8 41 "MediaCatalog" "albums" "[LMediaCatalog$Album;", Cond.fieldLink RX8 35 "MediaCatalog" "text" "LMediaCatalog$RuleText;", Cond.methodLink RX8 235 yX8_freeAlbum, Cond.instanceMethod yX8_freeAlbum, Cond.selects RX8 yX8_freeAlbum yX8_freeAlbum, Cond.initialized RX8, Cond.code yX8_freeAlbum cX8_freeAlbum 2 (some .int), Cond.methodLink RX8 241 yX8_hasAlbum, Cond.instanceMethod yX8_hasAlbum, Cond.selects RX8 yX8_hasAlbum yX8_hasAlbum, Cond.code yX8_hasAlbum cX8_hasAlbum 2 (some .boolean), Cond.methodLink RX8 71 yX8_isWithin, Cond.static yX8_isWithin, Cond.code yX8_isWithin cX8_isWithin 3 (some .boolean), Cond.methodLink RX8 298 yX0_exists, Cond.instanceMethod yX0_exists, Cond.selects RX0 yX0_exists yX0_exists, Cond.initialized RX0, Cond.code yX0_exists cX0_exists 1 (some .boolean), Cond.fieldLink RX0 18 "MediaCatalog$Album" "exists" "Z", Cond.methodLink RX8 228 yX8_isTextUsable, Cond.instanceMethod yX8_isTextUsable, Cond.selects RX8 yX8_isTextUsable yX8_isTextUsable, Cond.code yX8_isTextUsable cX8_isTextUsable 3 (some .boolean)]
def wsX8_makeAlbum_r2 : List Cond := [Cond.methodLink RX8 225 yX5_firstFault, Cond.instanceMethod yX5_firstFault, Cond.selects RX5 yX5_firstFault yX5_firstFault, Cond.initialized RX5, Cond.code yX5_firstFault cX5_firstFault 5 (some .int), Cond.fieldLink RX5 15 "MediaCatalog$RuleText" "length" "I", Cond.fieldLink RX5 9 "MediaCatalog$RuleText" "characters" "[C", Cond.methodLink RX5 33 yX5_next, Cond.static yX5_next, Cond.code yX5_next cX5_next 3 (some .int), Cond.methodLink RX5 37 yX5_inItem, Cond.static yX5_inItem, Cond.code yX5_inItem cX5_inItem 2 (some .int), Cond.methodLink RX5 51 yX5_fieldNamed, Cond.static yX5_fieldNamed, Cond.code yX5_fieldNamed cX5_fieldNamed 1 (some .int), Cond.methodLink RX5 41 yX5_afterField, Cond.static yX5_afterField, Cond.code yX5_afterField cX5_afterField 1 (some .int), Cond.methodLink RX5 29 yX5_isDigit, Cond.static yX5_isDigit, Cond.code yX5_isDigit cX5_isDigit 1 (some .boolean), Cond.methodLink RX5 45 yX5_afterItem, Cond.static yX5_afterItem]
def wsX8_makeAlbum_r3 : List Cond := [Cond.code yX5_afterItem cX5_afterItem 2 (some .int), Cond.methodLink RX5 48 yX5_inNumber, Cond.static yX5_inNumber, Cond.code yX5_inNumber cX5_inNumber 4 (some .int), Cond.methodLink RX8 305 yX5_names, Cond.instanceMethod yX5_names, Cond.selects RX5 yX5_names yX5_names, Cond.code yX5_names cX5_names 3 (some .boolean), Cond.methodLink RX5 25 yX5_at, Cond.instanceMethod yX5_at, Cond.selects RX5 yX5_at yX5_at, Cond.code yX5_at cX5_at 2 (some .char), Cond.methodLink RX8 238 yX0_begin, Cond.instanceMethod yX0_begin, Cond.selects RX0 yX0_begin yX0_begin, Cond.code yX0_begin cX0_begin 2 none, Cond.fieldLink RX0 22 "MediaCatalog$Album" "members" "J", Cond.fieldLink RX0 26 "MediaCatalog$Album" "joined" "I", Cond.fieldLink RX0 30 "MediaCatalog$Album" "left" "I", Cond.methodLink RX0 43 yX0_sort, Cond.instanceMethod yX0_sort, Cond.selects RX0 yX0_sort yX0_sort, Cond.code yX0_sort cX0_sort 3 none, Cond.fieldLink RX0 33 "MediaCatalog$Album" "sortField" "I"]
def wsX8_makeAlbum_r4 : List Cond := [Cond.fieldLink RX0 36 "MediaCatalog$Album" "descending" "Z", Cond.methodLink RX0 47 yX0_follow, Cond.instanceMethod yX0_follow, Cond.selects RX0 yX0_follow yX0_follow, Cond.code yX0_follow cX0_follow 2 none, Cond.fieldLink RX0 12 "MediaCatalog$Album" "rule" "LMediaCatalog$RuleText;", Cond.methodLink RX0 51 yX5_copy, Cond.instanceMethod yX5_copy, Cond.selects RX5 yX5_copy yX5_copy, Cond.code yX5_copy cX5_copy 2 none, Cond.methodLink RX5 19 arraycopyName, Cond.native arraycopyName, Cond.static arraycopyName, Cond.initialized "java/lang/System", Cond.methodLink RX8 84 yX8_settle, Cond.instanceMethod yX8_settle, Cond.selects RX8 yX8_settle yX8_settle, Cond.code yX8_settle cX8_settle 4 none, Cond.fieldLink RX8 10 "MediaCatalog" "files" "LMediaCatalog$FileTable;", Cond.fieldLink RX8 21 "MediaCatalog" "groups" "LMediaCatalog$GroupTable;", Cond.fieldLink RX8 28 "MediaCatalog" "stacks" "LMediaCatalog$StackTable;", Cond.fieldLink RX8 51 "MediaCatalog" "judge" "LMediaCatalog$RuleJudge;", Cond.fieldLink RX8 67 "MediaCatalog" "journal" "LMediaCatalog$Journal;", Cond.methodLink RX8 306 yX1_settleValues]
def wsX8_makeAlbum_r5 : List Cond := [Cond.instanceMethod yX1_settleValues, Cond.selects RX1 yX1_settleValues yX1_settleValues, Cond.initialized RX1, Cond.code yX1_settleValues cX1_settleValues 2 none, Cond.fieldLink RX1 31 "MediaCatalog$FileTable" "present" "J", Cond.static yX8_holds, Cond.code yX8_holds cX8_holds 3 (some .boolean), Cond.methodLink RX1 64 yX1_settleFile, Cond.instanceMethod yX1_settleFile, Cond.selects RX1 yX1_settleFile yX1_settleFile, Cond.code yX1_settleFile cX1_settleFile 4 none, Cond.fieldLink RX1 21 "MediaCatalog$FileTable" "settled" "[I", Cond.methodLink RX1 72 Lib.Math.max.name, Cond.static Lib.Math.max.name, Cond.initialized "java/lang/Math", Cond.code Lib.Math.max.name Lib.Math.max.code 2 (some .int), Cond.methodLink RX1 68 yX1_firstTeller, Cond.instanceMethod yX1_firstTeller, Cond.selects RX1 yX1_firstTeller yX1_firstTeller, Cond.code yX1_firstTeller cX1_firstTeller 4 (some .int), Cond.fieldLink RX1 24 "MediaCatalog$FileTable" "order" "[I", Cond.methodLink RX1 61 yX1_told, Cond.instanceMethod yX1_told, Cond.selects RX1 yX1_told yX1_told]
def wsX8_makeAlbum_r6 : List Cond := [Cond.code yX1_told cX1_told 4 (some .int), Cond.fieldLink RX1 18 "MediaCatalog$FileTable" "values" "[I", Cond.methodLink RX1 49 yX1_slot, Cond.static yX1_slot, Cond.code yX1_slot cX1_slot 3 (some .int), Cond.methodLink RX8 309 yX2_regroup, Cond.instanceMethod yX2_regroup, Cond.selects RX2 yX2_regroup yX2_regroup, Cond.initialized RX2, Cond.code yX2_regroup cX2_regroup 6 none, Cond.fieldLink RX2 15 "MediaCatalog$GroupTable" "keepers" "J", Cond.fieldLink RX2 19 "MediaCatalog$GroupTable" "duplicates" "J", Cond.fieldLink RX2 9 "MediaCatalog$GroupTable" "files" "LMediaCatalog$FileTable;", Cond.constantLong RX2 48 (-1), Cond.methodLink RX2 32 yX1_all, Cond.instanceMethod yX1_all, Cond.selects RX1 yX1_all yX1_all, Cond.code yX1_all cX1_all 1 (some .long), Cond.methodLink RX2 22 yX1_alike, Cond.instanceMethod yX1_alike, Cond.selects RX1 yX1_alike yX1_alike, Cond.code yX1_alike cX1_alike 5 (some .long), Cond.fieldLink RX1 9 "MediaCatalog$FileTable" "digests" "[I", Cond.static yX8_only]
def wsX8_makeAlbum_r7 : List Cond := [Cond.code yX8_only cX8_only 1 (some .long), Cond.methodLink RX2 28 yX2_preferred, Cond.instanceMethod yX2_preferred, Cond.selects RX2 yX2_preferred yX2_preferred, Cond.code yX2_preferred cX2_preferred 5 (some .int), Cond.methodLink RX2 50 yX2_beats, Cond.instanceMethod yX2_beats, Cond.selects RX2 yX2_beats yX2_beats, Cond.code yX2_beats cX2_beats 5 (some .boolean), Cond.methodLink RX2 54 yX1_settledValue, Cond.instanceMethod yX1_settledValue, Cond.selects RX1 yX1_settledValue yX1_settledValue, Cond.code yX1_settledValue cX1_settledValue 3 (some .int), Cond.methodLink RX2 58 yX2_yearOf, Cond.instanceMethod yX2_yearOf, Cond.selects RX2 yX2_yearOf yX2_yearOf, Cond.code yX2_yearOf cX2_yearOf 3 (some .int), Cond.methodLink RX2 43 yJ13_bitCount_95d88, Cond.static yJ13_bitCount_95d88, Cond.initialized RJ13, Cond.code yJ13_bitCount_95d88 cJ13_bitCount_95d88 2 (some .int), Cond.constantLong RJ13 314 (6148914691236517205), Cond.constantLong RJ13 316 (3689348814741910323), Cond.constantLong RJ13 318 (1085102592571150095)]
def wsX8_makeAlbum_r8 : List Cond := [Cond.methodLink RX8 312 yX6_findCovers, Cond.instanceMethod yX6_findCovers, Cond.selects RX6 yX6_findCovers yX6_findCovers, Cond.initialized RX6, Cond.code yX6_findCovers cX6_findCovers 2 none, Cond.fieldLink RX6 50 "MediaCatalog$StackTable" "covers" "J", Cond.methodLink RX6 42 yX6_has, Cond.instanceMethod yX6_has, Cond.selects RX6 yX6_has yX6_has, Cond.code yX6_has cX6_has 2 (some .boolean), Cond.fieldLink RX6 19 "MediaCatalog$StackTable" "heights" "[I", Cond.methodLink RX6 80 yX6_cover, Cond.instanceMethod yX6_cover, Cond.selects RX6 yX6_cover yX6_cover, Cond.code yX6_cover cX6_cover 5 (some .int), Cond.fieldLink RX6 22 "MediaCatalog$StackTable" "chosen" "[I", Cond.fieldLink RX6 15 "MediaCatalog$StackTable" "places" "[I", Cond.fieldLink RX6 9 "MediaCatalog$StackTable" "files" "LMediaCatalog$FileTable;", Cond.methodLink RX6 57 yX6_spot, Cond.static yX6_spot, Cond.code yX6_spot cX6_spot 2 (some .int), Cond.methodLink RX6 75 yX1_settledValue, Cond.methodLink RX8 315 yX0_rule, Cond.instanceMethod yX0_rule]
def wsX8_makeAlbum_r9 : List Cond := [Cond.selects RX0 yX0_rule yX0_rule, Cond.code yX0_rule cX0_rule 1 (some (.object "MediaCatalog$RuleText")), Cond.methodLink RX8 231 yX4_filesFor, Cond.instanceMethod yX4_filesFor, Cond.selects RX4 yX4_filesFor yX4_filesFor, Cond.initialized RX4, Cond.code yX4_filesFor cX4_filesFor 4 (some .long), Cond.fieldLink RX4 38 "MediaCatalog$RuleJudge" "open" "I", Cond.fieldLink RX4 27 "MediaCatalog$RuleJudge" "ended" "[J", Cond.fieldLink RX4 31 "MediaCatalog$RuleJudge" "running" "[J", Cond.methodLink RX4 42 yX4_beginLevel, Cond.instanceMethod yX4_beginLevel, Cond.selects RX4 yX4_beginLevel yX4_beginLevel, Cond.code yX4_beginLevel cX4_beginLevel 1 none, Cond.fieldLink RX4 9 "MediaCatalog$RuleJudge" "files" "LMediaCatalog$FileTable;", Cond.fieldLink RX4 34 "MediaCatalog$RuleJudge" "negated" "[Z", Cond.methodLink RX4 67 yX1_all, Cond.methodLink RX4 45 yX5_length, Cond.instanceMethod yX5_length, Cond.selects RX5 yX5_length yX5_length, Cond.code yX5_length cX5_length 1 (some .int), Cond.methodLink RX4 51 yX5_at, Cond.methodLink RX4 55 yX4_condition, Cond.instanceMethod yX4_condition]
def wsX8_makeAlbum_r10 : List Cond := [Cond.selects RX4 yX4_condition yX4_condition, Cond.code yX4_condition cX4_condition 3 (some .long), Cond.fieldLink RX4 19 "MediaCatalog$RuleJudge" "stacks" "LMediaCatalog$StackTable;", Cond.fieldLink RX4 15 "MediaCatalog$RuleJudge" "groups" "LMediaCatalog$GroupTable;", Cond.methodLink RX4 81 yX5_numberAt, Cond.instanceMethod yX5_numberAt, Cond.selects RX5 yX5_numberAt yX5_numberAt, Cond.code yX5_numberAt cX5_numberAt 4 (some .int), Cond.methodLink RX4 85 yX4_tagged, Cond.instanceMethod yX4_tagged, Cond.selects RX4 yX4_tagged yX4_tagged, Cond.code yX4_tagged cX4_tagged 5 (some .long), Cond.methodLink RX4 115 yX1_settledValue, Cond.methodLink RX4 89 yX4_membersOf, Cond.instanceMethod yX4_membersOf, Cond.selects RX4 yX4_membersOf yX4_membersOf, Cond.code yX4_membersOf cX4_membersOf 2 (some .long), Cond.fieldLink RX4 23 "MediaCatalog$RuleJudge" "albums" "[LMediaCatalog$Album;", Cond.methodLink RX4 126 yX0_members, Cond.instanceMethod yX0_members, Cond.selects RX0 yX0_members yX0_members, Cond.code yX0_members cX0_members 1 (some .long), Cond.methodLink RX4 92 yX6_stacked, Cond.instanceMethod yX6_stacked]
def wsX8_makeAlbum_r11 : List Cond := [Cond.selects RX6 yX6_stacked yX6_stacked, Cond.code yX6_stacked cX6_stacked 1 (some .long), Cond.fieldLink RX6 46 "MediaCatalog$StackTable" "stacked" "J", Cond.methodLink RX4 97 yX6_covers, Cond.instanceMethod yX6_covers, Cond.selects RX6 yX6_covers yX6_covers, Cond.code yX6_covers cX6_covers 1 (some .long), Cond.methodLink RX4 100 yX2_duplicates, Cond.instanceMethod yX2_duplicates, Cond.selects RX2 yX2_duplicates yX2_duplicates, Cond.code yX2_duplicates cX2_duplicates 1 (some .long), Cond.methodLink RX4 105 yX2_keepers, Cond.instanceMethod yX2_keepers, Cond.selects RX2 yX2_keepers yX2_keepers, Cond.code yX2_keepers cX2_keepers 1 (some .long), Cond.methodLink RX4 108 yX4_comparing, Cond.instanceMethod yX4_comparing, Cond.selects RX4 yX4_comparing yX4_comparing, Cond.code yX4_comparing cX4_comparing 10 (some .long), Cond.methodLink RX4 131 yX5_fieldNamed, Cond.methodLink RX4 135 yX4_agrees, Cond.static yX4_agrees, Cond.code yX4_agrees cX4_agrees 3 (some .boolean), Cond.methodLink RX4 59 yX4_take]
def wsX8_makeAlbum_r12 : List Cond := [Cond.instanceMethod yX4_take, Cond.selects RX4 yX4_take yX4_take, Cond.code yX4_take cX4_take 3 none, Cond.constantLong RX4 79 (-1), Cond.methodLink RX4 63 yX4_operate, Cond.instanceMethod yX4_operate, Cond.selects RX4 yX4_operate yX4_operate, Cond.code yX4_operate cX4_operate 2 none, Cond.methodLink RX4 73 yX4_openLevel, Cond.instanceMethod yX4_openLevel, Cond.selects RX4 yX4_openLevel yX4_openLevel, Cond.code yX4_openLevel cX4_openLevel 1 none, Cond.methodLink RX4 76 yX4_closeLevel, Cond.instanceMethod yX4_closeLevel, Cond.selects RX4 yX4_closeLevel yX4_closeLevel, Cond.code yX4_closeLevel cX4_closeLevel 3 none, Cond.methodLink RX8 319 yX0_become, Cond.instanceMethod yX0_become, Cond.selects RX0 yX0_become yX0_become, Cond.code yX0_become cX0_become 9 none, Cond.methodLink RX0 58 yX3_note, Cond.instanceMethod yX3_note, Cond.selects RX3 yX3_note yX3_note, Cond.initialized RX3]
def wsX8_makeAlbum_r13 : List Cond := [Cond.code yX3_note cX3_note 4 none, Cond.fieldLink RX3 26 "MediaCatalog$Journal" "latest" "I", Cond.fieldLink RX3 9 "MediaCatalog$Journal" "albums" "[I", Cond.fieldLink RX3 15 "MediaCatalog$Journal" "files" "[I", Cond.fieldLink RX3 18 "MediaCatalog$Journal" "joins" "[Z", Cond.fieldLink RX3 22 "MediaCatalog$Journal" "length" "I", Cond.methodLink RX3 29 Lib.Math.min.name, Cond.static Lib.Math.min.name, Cond.code Lib.Math.min.name Lib.Math.min.code 2 (some .int)]
def wsX8_makeAlbum : List Cond := .code yX8_makeAlbum cX8_makeAlbum 2 (some .int) :: ((wsX8_makeAlbum_r1 ++ (wsX8_makeAlbum_r2 ++ (wsX8_makeAlbum_r3 ++ (wsX8_makeAlbum_r4 ++ (wsX8_makeAlbum_r5 ++ (wsX8_makeAlbum_r6 ++ (wsX8_makeAlbum_r7 ++ (wsX8_makeAlbum_r8 ++ (wsX8_makeAlbum_r9 ++ (wsX8_makeAlbum_r10 ++ (wsX8_makeAlbum_r11 ++ (wsX8_makeAlbum_r12 ++ wsX8_makeAlbum_r13)))))))))))) ++ wsX80 ++ wsX00 ++ wsX50 ++ wsX10 ++ wsX20 ++ wsX60 ++ wsX40 ++ wsX30)
def wsX8_albumSize_r1 : List Cond := [Cond.fieldLink RX8 41 "MediaCatalog" "albums" "[LMediaCatalog$Album;", Cond.methodLink RX8 241 yX8_hasAlbum, Cond.instanceMethod yX8_hasAlbum, Cond.selects RX8 yX8_hasAlbum yX8_hasAlbum, Cond.initialized RX8, Cond.code yX8_hasAlbum cX8_hasAlbum 2 (some .boolean), Cond.methodLink RX8 71 yX8_isWithin, Cond.static yX8_isWithin, Cond.code yX8_isWithin cX8_isWithin 3 (some .boolean), Cond.methodLink RX8 298 yX0_exists, Cond.instanceMethod yX0_exists, Cond.selects RX0 yX0_exists yX0_exists, Cond.initialized RX0, Cond.code yX0_exists cX0_exists 1 (some .boolean), Cond.fieldLink RX0 18 "MediaCatalog$Album" "exists" "Z", Cond.methodLink RX8 256 yX0_members, Cond.instanceMethod yX0_members, Cond.selects RX0 yX0_members yX0_members, Cond.code yX0_members cX0_members 1 (some .long), Cond.fieldLink RX0 22 "MediaCatalog$Album" "members" "J", Cond.methodLink RX8 153 yJ13_bitCount_95d88, Cond.static yJ13_bitCount_95d88, Cond.initialized RJ13, Cond.code yJ13_bitCount_95d88 cJ13_bitCount_95d88 2 (some .int)]
def wsX8_albumSize_r2 : List Cond := [Cond.constantLong RJ13 314 (6148914691236517205), Cond.constantLong RJ13 316 (3689348814741910323), Cond.constantLong RJ13 318 (1085102592571150095)]
def wsX8_albumSize : List Cond := .code yX8_albumSize cX8_albumSize 2 (some .int) :: ((wsX8_albumSize_r1 ++ wsX8_albumSize_r2) ++ wsX80 ++ wsX00)
def wsX8_isIn_r1 : List Cond := [Cond.fieldLink RX8 10 "MediaCatalog" "files" "LMediaCatalog$FileTable;", Cond.fieldLink RX8 41 "MediaCatalog" "albums" "[LMediaCatalog$Album;", Cond.methodLink RX8 241 yX8_hasAlbum, Cond.instanceMethod yX8_hasAlbum, Cond.selects RX8 yX8_hasAlbum yX8_hasAlbum, Cond.initialized RX8, Cond.code yX8_hasAlbum cX8_hasAlbum 2 (some .boolean), Cond.methodLink RX8 71 yX8_isWithin, Cond.static yX8_isWithin, Cond.code yX8_isWithin cX8_isWithin 3 (some .boolean), Cond.methodLink RX8 298 yX0_exists, Cond.instanceMethod yX0_exists, Cond.selects RX0 yX0_exists yX0_exists, Cond.initialized RX0, Cond.code yX0_exists cX0_exists 1 (some .boolean), Cond.fieldLink RX0 18 "MediaCatalog$Album" "exists" "Z", Cond.methodLink RX8 87 yX1_has, Cond.instanceMethod yX1_has, Cond.selects RX1 yX1_has yX1_has, Cond.initialized RX1, Cond.code yX1_has cX1_has 2 (some .boolean), Cond.fieldLink RX1 31 "MediaCatalog$FileTable" "present" "J", Cond.static yX8_holds, Cond.code yX8_holds cX8_holds 3 (some .boolean)]
def wsX8_isIn_r2 : List Cond := [Cond.methodLink RX8 256 yX0_members, Cond.instanceMethod yX0_members, Cond.selects RX0 yX0_members yX0_members, Cond.code yX0_members cX0_members 1 (some .long), Cond.fieldLink RX0 22 "MediaCatalog$Album" "members" "J", Cond.methodLink RX8 178 yX8_holds]
def wsX8_isIn : List Cond := .code yX8_isIn cX8_isIn 3 (some .int) :: ((wsX8_isIn_r1 ++ wsX8_isIn_r2) ++ wsX80 ++ wsX00 ++ wsX10)
def wsX8_viewSize_r1 : List Cond := [Cond.fieldLink RX8 60 "MediaCatalog" "view" "LMediaCatalog$View;", Cond.fieldLink RX8 41 "MediaCatalog" "albums" "[LMediaCatalog$Album;", Cond.methodLink RX8 241 yX8_hasAlbum, Cond.instanceMethod yX8_hasAlbum, Cond.selects RX8 yX8_hasAlbum yX8_hasAlbum, Cond.initialized RX8, Cond.code yX8_hasAlbum cX8_hasAlbum 2 (some .boolean), Cond.methodLink RX8 71 yX8_isWithin, Cond.static yX8_isWithin, Cond.code yX8_isWithin cX8_isWithin 3 (some .boolean), Cond.methodLink RX8 298 yX0_exists, Cond.instanceMethod yX0_exists, Cond.selects RX0 yX0_exists yX0_exists, Cond.initialized RX0, Cond.code yX0_exists cX0_exists 1 (some .boolean), Cond.fieldLink RX0 18 "MediaCatalog$Album" "exists" "Z", Cond.methodLink RX8 265 yX7_shown, Cond.instanceMethod yX7_shown, Cond.selects RX7 yX7_shown yX7_shown, Cond.initialized RX7, Cond.code yX7_shown cX7_shown 5 (some .long), Cond.fieldLink RX7 15 "MediaCatalog$View" "stacks" "LMediaCatalog$StackTable;", Cond.methodLink RX7 19 yX0_members, Cond.instanceMethod yX0_members]
def wsX8_viewSize_r2 : List Cond := [Cond.selects RX0 yX0_members yX0_members, Cond.code yX0_members cX0_members 1 (some .long), Cond.fieldLink RX0 22 "MediaCatalog$Album" "members" "J", Cond.methodLink RX7 25 yX6_has, Cond.instanceMethod yX6_has, Cond.selects RX6 yX6_has yX6_has, Cond.initialized RX6, Cond.code yX6_has cX6_has 2 (some .boolean), Cond.fieldLink RX6 19 "MediaCatalog$StackTable" "heights" "[I", Cond.methodLink RX7 31 yX6_isCollapsed, Cond.instanceMethod yX6_isCollapsed, Cond.selects RX6 yX6_isCollapsed yX6_isCollapsed, Cond.code yX6_isCollapsed cX6_isCollapsed 2 (some .boolean), Cond.fieldLink RX6 25 "MediaCatalog$StackTable" "collapsed" "[Z", Cond.methodLink RX7 34 yX6_withoutHidden, Cond.instanceMethod yX6_withoutHidden, Cond.selects RX6 yX6_withoutHidden yX6_withoutHidden, Cond.code yX6_withoutHidden cX6_withoutHidden 9 (some .long), Cond.fieldLink RX6 15 "MediaCatalog$StackTable" "places" "[I", Cond.constantLong RX6 73 (-1), Cond.methodLink RX6 57 yX6_spot, Cond.static yX6_spot, Cond.code yX6_spot cX6_spot 2 (some .int), Cond.static yX8_holds]
def wsX8_viewSize_r3 : List Cond := [Cond.code yX8_holds cX8_holds 3 (some .boolean), Cond.static yX8_only, Cond.code yX8_only cX8_only 1 (some .long), Cond.methodLink RX6 80 yX6_cover, Cond.instanceMethod yX6_cover, Cond.selects RX6 yX6_cover yX6_cover, Cond.code yX6_cover cX6_cover 5 (some .int), Cond.fieldLink RX6 22 "MediaCatalog$StackTable" "chosen" "[I", Cond.fieldLink RX6 9 "MediaCatalog$StackTable" "files" "LMediaCatalog$FileTable;", Cond.methodLink RX6 75 yX1_settledValue, Cond.instanceMethod yX1_settledValue, Cond.selects RX1 yX1_settledValue yX1_settledValue, Cond.initialized RX1, Cond.code yX1_settledValue cX1_settledValue 3 (some .int), Cond.fieldLink RX1 21 "MediaCatalog$FileTable" "settled" "[I", Cond.methodLink RX8 153 yJ13_bitCount_95d88, Cond.static yJ13_bitCount_95d88, Cond.initialized RJ13, Cond.code yJ13_bitCount_95d88 cJ13_bitCount_95d88 2 (some .int), Cond.constantLong RJ13 314 (6148914691236517205), Cond.constantLong RJ13 316 (3689348814741910323), Cond.constantLong RJ13 318 (1085102592571150095)]
def wsX8_viewSize : List Cond := .code yX8_viewSize cX8_viewSize 2 (some .int) :: ((wsX8_viewSize_r1 ++ (wsX8_viewSize_r2 ++ wsX8_viewSize_r3)) ++ wsX80 ++ wsX00 ++ wsX70 ++ wsX60 ++ wsX10)
def wsX8_viewAt_r1 : List Cond := [Cond.fieldLink RX8 60 "MediaCatalog" "view" "LMediaCatalog$View;", Cond.fieldLink RX8 41 "MediaCatalog" "albums" "[LMediaCatalog$Album;", Cond.methodLink RX8 241 yX8_hasAlbum, Cond.instanceMethod yX8_hasAlbum, Cond.selects RX8 yX8_hasAlbum yX8_hasAlbum, Cond.initialized RX8, Cond.code yX8_hasAlbum cX8_hasAlbum 2 (some .boolean), Cond.methodLink RX8 71 yX8_isWithin, Cond.static yX8_isWithin, Cond.code yX8_isWithin cX8_isWithin 3 (some .boolean), Cond.methodLink RX8 298 yX0_exists, Cond.instanceMethod yX0_exists, Cond.selects RX0 yX0_exists yX0_exists, Cond.initialized RX0, Cond.code yX0_exists cX0_exists 1 (some .boolean), Cond.fieldLink RX0 18 "MediaCatalog$Album" "exists" "Z", Cond.methodLink RX8 269 yX7_fileAt, Cond.instanceMethod yX7_fileAt, Cond.selects RX7 yX7_fileAt yX7_fileAt, Cond.initialized RX7, Cond.code yX7_fileAt cX7_fileAt 6 (some .int), Cond.methodLink RX7 38 yX7_shown, Cond.instanceMethod yX7_shown, Cond.selects RX7 yX7_shown yX7_shown]
def wsX8_viewAt_r2 : List Cond := [Cond.code yX7_shown cX7_shown 5 (some .long), Cond.fieldLink RX7 15 "MediaCatalog$View" "stacks" "LMediaCatalog$StackTable;", Cond.methodLink RX7 19 yX0_members, Cond.instanceMethod yX0_members, Cond.selects RX0 yX0_members yX0_members, Cond.code yX0_members cX0_members 1 (some .long), Cond.fieldLink RX0 22 "MediaCatalog$Album" "members" "J", Cond.methodLink RX7 25 yX6_has, Cond.instanceMethod yX6_has, Cond.selects RX6 yX6_has yX6_has, Cond.initialized RX6, Cond.code yX6_has cX6_has 2 (some .boolean), Cond.fieldLink RX6 19 "MediaCatalog$StackTable" "heights" "[I", Cond.methodLink RX7 31 yX6_isCollapsed, Cond.instanceMethod yX6_isCollapsed, Cond.selects RX6 yX6_isCollapsed yX6_isCollapsed, Cond.code yX6_isCollapsed cX6_isCollapsed 2 (some .boolean), Cond.fieldLink RX6 25 "MediaCatalog$StackTable" "collapsed" "[Z", Cond.methodLink RX7 34 yX6_withoutHidden, Cond.instanceMethod yX6_withoutHidden, Cond.selects RX6 yX6_withoutHidden yX6_withoutHidden, Cond.code yX6_withoutHidden cX6_withoutHidden 9 (some .long), Cond.fieldLink RX6 15 "MediaCatalog$StackTable" "places" "[I", Cond.constantLong RX6 73 (-1)]
def wsX8_viewAt_r3 : List Cond := [Cond.methodLink RX6 57 yX6_spot, Cond.static yX6_spot, Cond.code yX6_spot cX6_spot 2 (some .int), Cond.static yX8_holds, Cond.code yX8_holds cX8_holds 3 (some .boolean), Cond.static yX8_only, Cond.code yX8_only cX8_only 1 (some .long), Cond.methodLink RX6 80 yX6_cover, Cond.instanceMethod yX6_cover, Cond.selects RX6 yX6_cover yX6_cover, Cond.code yX6_cover cX6_cover 5 (some .int), Cond.fieldLink RX6 22 "MediaCatalog$StackTable" "chosen" "[I", Cond.fieldLink RX6 9 "MediaCatalog$StackTable" "files" "LMediaCatalog$FileTable;", Cond.methodLink RX6 75 yX1_settledValue, Cond.instanceMethod yX1_settledValue, Cond.selects RX1 yX1_settledValue yX1_settledValue, Cond.initialized RX1, Cond.code yX1_settledValue cX1_settledValue 3 (some .int), Cond.fieldLink RX1 21 "MediaCatalog$FileTable" "settled" "[I", Cond.methodLink RX7 46 yX7_placeOf, Cond.instanceMethod yX7_placeOf, Cond.selects RX7 yX7_placeOf yX7_placeOf, Cond.code yX7_placeOf cX7_placeOf 7 (some .int), Cond.methodLink RX7 50 yX7_comesBefore]
def wsX8_viewAt_r4 : List Cond := [Cond.instanceMethod yX7_comesBefore, Cond.selects RX7 yX7_comesBefore yX7_comesBefore, Cond.code yX7_comesBefore cX7_comesBefore 6 (some .boolean), Cond.fieldLink RX7 9 "MediaCatalog$View" "files" "LMediaCatalog$FileTable;", Cond.methodLink RX7 54 yX0_sortField, Cond.instanceMethod yX0_sortField, Cond.selects RX0 yX0_sortField yX0_sortField, Cond.code yX0_sortField cX0_sortField 1 (some .int), Cond.fieldLink RX0 33 "MediaCatalog$Album" "sortField" "I", Cond.methodLink RX7 58 yX1_settledValue, Cond.methodLink RX7 64 yX0_isDescending, Cond.instanceMethod yX0_isDescending, Cond.selects RX0 yX0_isDescending yX0_isDescending, Cond.code yX0_isDescending cX0_isDescending 1 (some .boolean), Cond.fieldLink RX0 36 "MediaCatalog$Album" "descending" "Z", Cond.methodLink RX8 124 yX8_orNotFound, Cond.static yX8_orNotFound, Cond.code yX8_orNotFound cX8_orNotFound 1 (some .int)]
def wsX8_viewAt : List Cond := .code yX8_viewAt cX8_viewAt 3 (some .int) :: ((wsX8_viewAt_r1 ++ (wsX8_viewAt_r2 ++ (wsX8_viewAt_r3 ++ wsX8_viewAt_r4))) ++ wsX80 ++ wsX00 ++ wsX70 ++ wsX60 ++ wsX10)
def wsX8_journalSize : List Cond := .code yX8_journalSize cX8_journalSize 1 (some .int) :: ([.fieldLink RX8 67 "MediaCatalog" "journal" "LMediaCatalog$Journal;", .methodLink RX8 272 yX3_length, .instanceMethod yX3_length, .selects RX3 yX3_length yX3_length, .initialized RX3, .code yX3_length cX3_length 1 (some .int), .fieldLink RX3 22 "MediaCatalog$Journal" "length" "I"] ++ wsX80 ++ wsX30)
def wsX8_turnover_r1 : List Cond := [Cond.fieldLink RX8 41 "MediaCatalog" "albums" "[LMediaCatalog$Album;", Cond.methodLink RX8 241 yX8_hasAlbum, Cond.instanceMethod yX8_hasAlbum, Cond.selects RX8 yX8_hasAlbum yX8_hasAlbum, Cond.initialized RX8, Cond.code yX8_hasAlbum cX8_hasAlbum 2 (some .boolean), Cond.methodLink RX8 71 yX8_isWithin, Cond.static yX8_isWithin, Cond.code yX8_isWithin cX8_isWithin 3 (some .boolean), Cond.methodLink RX8 298 yX0_exists, Cond.instanceMethod yX0_exists, Cond.selects RX0 yX0_exists yX0_exists, Cond.initialized RX0, Cond.code yX0_exists cX0_exists 1 (some .boolean), Cond.fieldLink RX0 18 "MediaCatalog$Album" "exists" "Z", Cond.methodLink RX8 282 yX0_joined, Cond.instanceMethod yX0_joined, Cond.selects RX0 yX0_joined yX0_joined, Cond.code yX0_joined cX0_joined 1 (some .int), Cond.fieldLink RX0 26 "MediaCatalog$Album" "joined" "I", Cond.methodLink RX8 285 yX0_left, Cond.instanceMethod yX0_left, Cond.selects RX0 yX0_left yX0_left, Cond.code yX0_left cX0_left 1 (some .int)]
def wsX8_turnover_r2 : List Cond := [Cond.fieldLink RX0 30 "MediaCatalog$Album" "left" "I"]
def wsX8_turnover : List Cond := .code yX8_turnover cX8_turnover 3 (some .int) :: ((wsX8_turnover_r1 ++ wsX8_turnover_r2) ++ wsX80 ++ wsX00)
def wsX8_albumCount : List Cond := .code yX8_albumCount cX8_albumCount 3 (some .int) :: ([.methodLink RX8 241 yX8_hasAlbum, .instanceMethod yX8_hasAlbum, .selects RX8 yX8_hasAlbum yX8_hasAlbum, .initialized RX8, .code yX8_hasAlbum cX8_hasAlbum 2 (some .boolean), .fieldLink RX8 41 "MediaCatalog" "albums" "[LMediaCatalog$Album;", .methodLink RX8 71 yX8_isWithin, .static yX8_isWithin, .code yX8_isWithin cX8_isWithin 3 (some .boolean), .methodLink RX8 298 yX0_exists, .instanceMethod yX0_exists, .selects RX0 yX0_exists yX0_exists, .initialized RX0, .code yX0_exists cX0_exists 1 (some .boolean), .fieldLink RX0 18 "MediaCatalog$Album" "exists" "Z"] ++ wsX80 ++ wsX00)
def wsX8_count_r1 : List Cond := [Cond.fieldLink RX8 28 "MediaCatalog" "stacks" "LMediaCatalog$StackTable;", Cond.fieldLink RX8 21 "MediaCatalog" "groups" "LMediaCatalog$GroupTable;", Cond.fieldLink RX8 10 "MediaCatalog" "files" "LMediaCatalog$FileTable;", Cond.methodLink RX8 288 yX6_howMany, Cond.instanceMethod yX6_howMany, Cond.selects RX6 yX6_howMany yX6_howMany, Cond.initialized RX6, Cond.code yX6_howMany cX6_howMany 3 (some .int), Cond.methodLink RX6 42 yX6_has, Cond.instanceMethod yX6_has, Cond.selects RX6 yX6_has yX6_has, Cond.code yX6_has cX6_has 2 (some .boolean), Cond.fieldLink RX6 19 "MediaCatalog$StackTable" "heights" "[I", Cond.static yX8_isWithin, Cond.initialized RX8, Cond.code yX8_isWithin cX8_isWithin 3 (some .boolean), Cond.methodLink RX8 250 yX8_albumCount, Cond.instanceMethod yX8_albumCount, Cond.selects RX8 yX8_albumCount yX8_albumCount, Cond.code yX8_albumCount cX8_albumCount 3 (some .int), Cond.methodLink RX8 241 yX8_hasAlbum, Cond.instanceMethod yX8_hasAlbum, Cond.selects RX8 yX8_hasAlbum yX8_hasAlbum, Cond.code yX8_hasAlbum cX8_hasAlbum 2 (some .boolean)]
def wsX8_count_r2 : List Cond := [Cond.fieldLink RX8 41 "MediaCatalog" "albums" "[LMediaCatalog$Album;", Cond.methodLink RX8 71 yX8_isWithin, Cond.methodLink RX8 298 yX0_exists, Cond.instanceMethod yX0_exists, Cond.selects RX0 yX0_exists yX0_exists, Cond.initialized RX0, Cond.code yX0_exists cX0_exists 1 (some .boolean), Cond.fieldLink RX0 18 "MediaCatalog$Album" "exists" "Z", Cond.methodLink RX8 163 yX2_keepers, Cond.instanceMethod yX2_keepers, Cond.selects RX2 yX2_keepers yX2_keepers, Cond.initialized RX2, Cond.code yX2_keepers cX2_keepers 1 (some .long), Cond.fieldLink RX2 15 "MediaCatalog$GroupTable" "keepers" "J", Cond.methodLink RX8 289 yX2_duplicates, Cond.instanceMethod yX2_duplicates, Cond.selects RX2 yX2_duplicates yX2_duplicates, Cond.code yX2_duplicates cX2_duplicates 1 (some .long), Cond.fieldLink RX2 19 "MediaCatalog$GroupTable" "duplicates" "J", Cond.methodLink RX8 153 yJ13_bitCount_95d88, Cond.static yJ13_bitCount_95d88, Cond.initialized RJ13, Cond.code yJ13_bitCount_95d88 cJ13_bitCount_95d88 2 (some .int), Cond.constantLong RJ13 314 (6148914691236517205)]
def wsX8_count_r3 : List Cond := [Cond.constantLong RJ13 316 (3689348814741910323), Cond.constantLong RJ13 318 (1085102592571150095), Cond.methodLink RX8 292 yX6_stacked, Cond.instanceMethod yX6_stacked, Cond.selects RX6 yX6_stacked yX6_stacked, Cond.code yX6_stacked cX6_stacked 1 (some .long), Cond.fieldLink RX6 46 "MediaCatalog$StackTable" "stacked" "J", Cond.methodLink RX8 159 yX1_all, Cond.instanceMethod yX1_all, Cond.selects RX1 yX1_all yX1_all, Cond.initialized RX1, Cond.code yX1_all cX1_all 1 (some .long), Cond.fieldLink RX1 31 "MediaCatalog$FileTable" "present" "J", Cond.methodLink RX8 168 yX1_sumOfSizes, Cond.instanceMethod yX1_sumOfSizes, Cond.selects RX1 yX1_sumOfSizes yX1_sumOfSizes, Cond.code yX1_sumOfSizes cX1_sumOfSizes 5 (some .int), Cond.fieldLink RX1 15 "MediaCatalog$FileTable" "sizes" "[I", Cond.static yX8_holds, Cond.code yX8_holds cX8_holds 3 (some .boolean)]
def wsX8_count : List Cond := .code yX8_count cX8_count 2 (some .int) :: ((wsX8_count_r1 ++ (wsX8_count_r2 ++ wsX8_count_r3)) ++ wsX80 ++ wsX60 ++ wsX00 ++ wsX20 ++ wsX10)
def wsJ9_max_7cf53 : List Cond := .code yJ9_max_7cf53 cJ9_max_7cf53 2 (some .int) :: ([])
def wsJ9_min_7cf53 : List Cond := .code yJ9_min_7cf53 cJ9_min_7cf53 2 (some .int) :: ([])
def wsL_cell : List Cond := .code yL_cell cL_cell 2 (some .int) :: ([.constant RL 7 (15485959), .constant RL 8 (2147483647)])
def wsL_types_r1 : List Cond := [Cond.constantLong RL 15 (127), Cond.methodLink RL 9 yX8_clearRule, Cond.instanceMethod yX8_clearRule, Cond.selects RX8 yX8_clearRule yX8_clearRule, Cond.initialized RX8, Cond.code yX8_clearRule cX8_clearRule 2 (some .int), Cond.fieldLink RX8 35 "MediaCatalog" "text" "LMediaCatalog$RuleText;", Cond.methodLink RX8 215 yX5_length, Cond.instanceMethod yX5_length, Cond.selects RX5 yX5_length yX5_length, Cond.initialized RX5, Cond.code yX5_length cX5_length 1 (some .int), Cond.fieldLink RX5 15 "MediaCatalog$RuleText" "length" "I", Cond.methodLink RX8 222 yX5_empty, Cond.instanceMethod yX5_empty, Cond.selects RX5 yX5_empty yX5_empty, Cond.code yX5_empty cX5_empty 1 none, Cond.methodLink RL 17 yX8_type, Cond.instanceMethod yX8_type, Cond.selects RX8 yX8_type yX8_type, Cond.code yX8_type cX8_type 2 (some .int), Cond.methodLink RX8 71 yX8_isWithin, Cond.static yX8_isWithin, Cond.code yX8_isWithin cX8_isWithin 3 (some .boolean)]
def wsL_types_r2 : List Cond := [Cond.methodLink RX8 218 yX5_append, Cond.instanceMethod yX5_append, Cond.selects RX5 yX5_append yX5_append, Cond.code yX5_append cX5_append 2 none, Cond.fieldLink RX5 9 "MediaCatalog$RuleText" "characters" "[C"]
def wsL_types : List Cond := .code yL_types cL_types 6 (some .boolean) :: ((wsL_types_r1 ++ wsL_types_r2) ++ wsX80 ++ wsX50)
def wsL_text : List Cond := .code yL_text cL_text 1 (some .long) :: ([.constantLong RL 21 (54376369634930), .constantLong RL 23 (494565227638), .constantLong RL 25 (272498062625), .constantLong RL 27 (54293237739617), .constantLong RL 29 (3301665)])
def wsL_acts_r1 : List Cond := [Cond.methodLink RL 31 yX8_fileCount, Cond.instanceMethod yX8_fileCount, Cond.selects RX8 yX8_fileCount yX8_fileCount, Cond.initialized RX8, Cond.code yX8_fileCount cX8_fileCount 1 (some .int), Cond.fieldLink RX8 10 "MediaCatalog" "files" "LMediaCatalog$FileTable;", Cond.methodLink RX8 95 yX1_howMany, Cond.instanceMethod yX1_howMany, Cond.selects RX1 yX1_howMany yX1_howMany, Cond.initialized RX1, Cond.code yX1_howMany cX1_howMany 1 (some .int), Cond.fieldLink RX1 31 "MediaCatalog$FileTable" "present" "J", Cond.methodLink RX1 39 yJ13_bitCount_95d88, Cond.static yJ13_bitCount_95d88, Cond.initialized RJ13, Cond.code yJ13_bitCount_95d88 cJ13_bitCount_95d88 2 (some .int), Cond.constantLong RJ13 314 (6148914691236517205), Cond.constantLong RJ13 316 (3689348814741910323), Cond.constantLong RJ13 318 (1085102592571150095), Cond.methodLink RL 34 yX8_add, Cond.instanceMethod yX8_add, Cond.selects RX8 yX8_add yX8_add, Cond.code yX8_add cX8_add 4 (some .int), Cond.constant RX8 75 (100000)]
def wsL_acts_r2 : List Cond := [Cond.methodLink RX8 71 yX8_isWithin, Cond.static yX8_isWithin, Cond.code yX8_isWithin cX8_isWithin 3 (some .boolean), Cond.methodLink RX8 76 yX1_freeNumber, Cond.instanceMethod yX1_freeNumber, Cond.selects RX1 yX1_freeNumber yX1_freeNumber, Cond.code yX1_freeNumber cX1_freeNumber 2 (some .int), Cond.static yX8_holds, Cond.code yX8_holds cX8_holds 3 (some .boolean), Cond.methodLink RX8 80 yX1_enter, Cond.instanceMethod yX1_enter, Cond.selects RX1 yX1_enter yX1_enter, Cond.code yX1_enter cX1_enter 4 none, Cond.fieldLink RX1 9 "MediaCatalog$FileTable" "digests" "[I", Cond.fieldLink RX1 15 "MediaCatalog$FileTable" "sizes" "[I", Cond.fieldLink RX1 18 "MediaCatalog$FileTable" "values" "[I", Cond.static yX8_only, Cond.code yX8_only cX8_only 1 (some .long), Cond.methodLink RX1 49 yX1_slot, Cond.static yX1_slot, Cond.code yX1_slot cX1_slot 3 (some .int), Cond.methodLink RX1 53 yJ7_fill_fda19, Cond.static yJ7_fill_fda19, Cond.initialized RJ7]
def wsL_acts_r3 : List Cond := [Cond.code yJ7_fill_fda19 cJ7_fill_fda19 5 none, Cond.methodLink RJ7 13 yJ7_rangeCheck_23922, Cond.static yJ7_rangeCheck_23922, Cond.code yJ7_rangeCheck_23922 cJ7_rangeCheck_23922 3 none, Cond.methodLink RX8 84 yX8_settle, Cond.instanceMethod yX8_settle, Cond.selects RX8 yX8_settle yX8_settle, Cond.code yX8_settle cX8_settle 4 none, Cond.fieldLink RX8 21 "MediaCatalog" "groups" "LMediaCatalog$GroupTable;", Cond.fieldLink RX8 28 "MediaCatalog" "stacks" "LMediaCatalog$StackTable;", Cond.fieldLink RX8 51 "MediaCatalog" "judge" "LMediaCatalog$RuleJudge;", Cond.fieldLink RX8 41 "MediaCatalog" "albums" "[LMediaCatalog$Album;", Cond.fieldLink RX8 67 "MediaCatalog" "journal" "LMediaCatalog$Journal;", Cond.methodLink RX8 306 yX1_settleValues, Cond.instanceMethod yX1_settleValues, Cond.selects RX1 yX1_settleValues yX1_settleValues, Cond.code yX1_settleValues cX1_settleValues 2 none, Cond.methodLink RX1 64 yX1_settleFile, Cond.instanceMethod yX1_settleFile, Cond.selects RX1 yX1_settleFile yX1_settleFile, Cond.code yX1_settleFile cX1_settleFile 4 none, Cond.fieldLink RX1 21 "MediaCatalog$FileTable" "settled" "[I", Cond.methodLink RX1 72 Lib.Math.max.name, Cond.static Lib.Math.max.name]
def wsL_acts_r4 : List Cond := [Cond.initialized "java/lang/Math", Cond.code Lib.Math.max.name Lib.Math.max.code 2 (some .int), Cond.methodLink RX1 68 yX1_firstTeller, Cond.instanceMethod yX1_firstTeller, Cond.selects RX1 yX1_firstTeller yX1_firstTeller, Cond.code yX1_firstTeller cX1_firstTeller 4 (some .int), Cond.fieldLink RX1 24 "MediaCatalog$FileTable" "order" "[I", Cond.methodLink RX1 61 yX1_told, Cond.instanceMethod yX1_told, Cond.selects RX1 yX1_told yX1_told, Cond.code yX1_told cX1_told 4 (some .int), Cond.methodLink RX8 309 yX2_regroup, Cond.instanceMethod yX2_regroup, Cond.selects RX2 yX2_regroup yX2_regroup, Cond.initialized RX2, Cond.code yX2_regroup cX2_regroup 6 none, Cond.fieldLink RX2 15 "MediaCatalog$GroupTable" "keepers" "J", Cond.fieldLink RX2 19 "MediaCatalog$GroupTable" "duplicates" "J", Cond.fieldLink RX2 9 "MediaCatalog$GroupTable" "files" "LMediaCatalog$FileTable;", Cond.constantLong RX2 48 (-1), Cond.methodLink RX2 32 yX1_all, Cond.instanceMethod yX1_all, Cond.selects RX1 yX1_all yX1_all, Cond.code yX1_all cX1_all 1 (some .long)]
def wsL_acts_r5 : List Cond := [Cond.methodLink RX2 22 yX1_alike, Cond.instanceMethod yX1_alike, Cond.selects RX1 yX1_alike yX1_alike, Cond.code yX1_alike cX1_alike 5 (some .long), Cond.methodLink RX2 28 yX2_preferred, Cond.instanceMethod yX2_preferred, Cond.selects RX2 yX2_preferred yX2_preferred, Cond.code yX2_preferred cX2_preferred 5 (some .int), Cond.methodLink RX2 50 yX2_beats, Cond.instanceMethod yX2_beats, Cond.selects RX2 yX2_beats yX2_beats, Cond.code yX2_beats cX2_beats 5 (some .boolean), Cond.methodLink RX2 54 yX1_settledValue, Cond.instanceMethod yX1_settledValue, Cond.selects RX1 yX1_settledValue yX1_settledValue, Cond.code yX1_settledValue cX1_settledValue 3 (some .int), Cond.methodLink RX2 58 yX2_yearOf, Cond.instanceMethod yX2_yearOf, Cond.selects RX2 yX2_yearOf yX2_yearOf, Cond.code yX2_yearOf cX2_yearOf 3 (some .int), Cond.methodLink RX2 43 yJ13_bitCount_95d88, Cond.methodLink RX8 312 yX6_findCovers, Cond.instanceMethod yX6_findCovers, Cond.selects RX6 yX6_findCovers yX6_findCovers]
def wsL_acts_r6 : List Cond := [Cond.initialized RX6, Cond.code yX6_findCovers cX6_findCovers 2 none, Cond.fieldLink RX6 50 "MediaCatalog$StackTable" "covers" "J", Cond.methodLink RX6 42 yX6_has, Cond.instanceMethod yX6_has, Cond.selects RX6 yX6_has yX6_has, Cond.code yX6_has cX6_has 2 (some .boolean), Cond.fieldLink RX6 19 "MediaCatalog$StackTable" "heights" "[I", Cond.methodLink RX6 80 yX6_cover, Cond.instanceMethod yX6_cover, Cond.selects RX6 yX6_cover yX6_cover, Cond.code yX6_cover cX6_cover 5 (some .int), Cond.fieldLink RX6 22 "MediaCatalog$StackTable" "chosen" "[I", Cond.fieldLink RX6 15 "MediaCatalog$StackTable" "places" "[I", Cond.fieldLink RX6 9 "MediaCatalog$StackTable" "files" "LMediaCatalog$FileTable;", Cond.methodLink RX6 57 yX6_spot, Cond.static yX6_spot, Cond.code yX6_spot cX6_spot 2 (some .int), Cond.methodLink RX6 75 yX1_settledValue, Cond.methodLink RX8 241 yX8_hasAlbum, Cond.instanceMethod yX8_hasAlbum, Cond.selects RX8 yX8_hasAlbum yX8_hasAlbum, Cond.code yX8_hasAlbum cX8_hasAlbum 2 (some .boolean), Cond.methodLink RX8 298 yX0_exists]
def wsL_acts_r7 : List Cond := [Cond.instanceMethod yX0_exists, Cond.selects RX0 yX0_exists yX0_exists, Cond.initialized RX0, Cond.code yX0_exists cX0_exists 1 (some .boolean), Cond.fieldLink RX0 18 "MediaCatalog$Album" "exists" "Z", Cond.methodLink RX8 315 yX0_rule, Cond.instanceMethod yX0_rule, Cond.selects RX0 yX0_rule yX0_rule, Cond.code yX0_rule cX0_rule 1 (some (.object "MediaCatalog$RuleText")), Cond.fieldLink RX0 12 "MediaCatalog$Album" "rule" "LMediaCatalog$RuleText;", Cond.methodLink RX8 231 yX4_filesFor, Cond.instanceMethod yX4_filesFor, Cond.selects RX4 yX4_filesFor yX4_filesFor, Cond.initialized RX4, Cond.code yX4_filesFor cX4_filesFor 4 (some .long), Cond.fieldLink RX4 38 "MediaCatalog$RuleJudge" "open" "I", Cond.fieldLink RX4 27 "MediaCatalog$RuleJudge" "ended" "[J", Cond.fieldLink RX4 31 "MediaCatalog$RuleJudge" "running" "[J", Cond.methodLink RX4 42 yX4_beginLevel, Cond.instanceMethod yX4_beginLevel, Cond.selects RX4 yX4_beginLevel yX4_beginLevel, Cond.code yX4_beginLevel cX4_beginLevel 1 none, Cond.fieldLink RX4 9 "MediaCatalog$RuleJudge" "files" "LMediaCatalog$FileTable;", Cond.fieldLink RX4 34 "MediaCatalog$RuleJudge" "negated" "[Z"]
def wsL_acts_r8 : List Cond := [Cond.methodLink RX4 67 yX1_all, Cond.methodLink RX4 45 yX5_length, Cond.instanceMethod yX5_length, Cond.selects RX5 yX5_length yX5_length, Cond.initialized RX5, Cond.code yX5_length cX5_length 1 (some .int), Cond.fieldLink RX5 15 "MediaCatalog$RuleText" "length" "I", Cond.methodLink RX4 51 yX5_at, Cond.instanceMethod yX5_at, Cond.selects RX5 yX5_at yX5_at, Cond.code yX5_at cX5_at 2 (some .char), Cond.fieldLink RX5 9 "MediaCatalog$RuleText" "characters" "[C", Cond.methodLink RX4 55 yX4_condition, Cond.instanceMethod yX4_condition, Cond.selects RX4 yX4_condition yX4_condition, Cond.code yX4_condition cX4_condition 3 (some .long), Cond.fieldLink RX4 19 "MediaCatalog$RuleJudge" "stacks" "LMediaCatalog$StackTable;", Cond.fieldLink RX4 15 "MediaCatalog$RuleJudge" "groups" "LMediaCatalog$GroupTable;", Cond.methodLink RX4 81 yX5_numberAt, Cond.instanceMethod yX5_numberAt, Cond.selects RX5 yX5_numberAt yX5_numberAt, Cond.code yX5_numberAt cX5_numberAt 4 (some .int), Cond.methodLink RX5 25 yX5_at, Cond.methodLink RX5 29 yX5_isDigit]
def wsL_acts_r9 : List Cond := [Cond.static yX5_isDigit, Cond.code yX5_isDigit cX5_isDigit 1 (some .boolean), Cond.methodLink RX4 85 yX4_tagged, Cond.instanceMethod yX4_tagged, Cond.selects RX4 yX4_tagged yX4_tagged, Cond.code yX4_tagged cX4_tagged 5 (some .long), Cond.methodLink RX4 115 yX1_settledValue, Cond.methodLink RX4 89 yX4_membersOf, Cond.instanceMethod yX4_membersOf, Cond.selects RX4 yX4_membersOf yX4_membersOf, Cond.code yX4_membersOf cX4_membersOf 2 (some .long), Cond.fieldLink RX4 23 "MediaCatalog$RuleJudge" "albums" "[LMediaCatalog$Album;", Cond.methodLink RX4 126 yX0_members, Cond.instanceMethod yX0_members, Cond.selects RX0 yX0_members yX0_members, Cond.code yX0_members cX0_members 1 (some .long), Cond.fieldLink RX0 22 "MediaCatalog$Album" "members" "J", Cond.methodLink RX4 92 yX6_stacked, Cond.instanceMethod yX6_stacked, Cond.selects RX6 yX6_stacked yX6_stacked, Cond.code yX6_stacked cX6_stacked 1 (some .long), Cond.fieldLink RX6 46 "MediaCatalog$StackTable" "stacked" "J", Cond.methodLink RX4 97 yX6_covers, Cond.instanceMethod yX6_covers]
def wsL_acts_r10 : List Cond := [Cond.selects RX6 yX6_covers yX6_covers, Cond.code yX6_covers cX6_covers 1 (some .long), Cond.methodLink RX4 100 yX2_duplicates, Cond.instanceMethod yX2_duplicates, Cond.selects RX2 yX2_duplicates yX2_duplicates, Cond.code yX2_duplicates cX2_duplicates 1 (some .long), Cond.methodLink RX4 105 yX2_keepers, Cond.instanceMethod yX2_keepers, Cond.selects RX2 yX2_keepers yX2_keepers, Cond.code yX2_keepers cX2_keepers 1 (some .long), Cond.methodLink RX4 108 yX4_comparing, Cond.instanceMethod yX4_comparing, Cond.selects RX4 yX4_comparing yX4_comparing, Cond.code yX4_comparing cX4_comparing 10 (some .long), Cond.methodLink RX4 131 yX5_fieldNamed, Cond.static yX5_fieldNamed, Cond.code yX5_fieldNamed cX5_fieldNamed 1 (some .int), Cond.methodLink RX4 135 yX4_agrees, Cond.static yX4_agrees, Cond.code yX4_agrees cX4_agrees 3 (some .boolean), Cond.methodLink RX4 59 yX4_take, Cond.instanceMethod yX4_take, Cond.selects RX4 yX4_take yX4_take, Cond.code yX4_take cX4_take 3 none]
def wsL_acts_r11 : List Cond := [Cond.constantLong RX4 79 (-1), Cond.methodLink RX4 63 yX4_operate, Cond.instanceMethod yX4_operate, Cond.selects RX4 yX4_operate yX4_operate, Cond.code yX4_operate cX4_operate 2 none, Cond.methodLink RX4 73 yX4_openLevel, Cond.instanceMethod yX4_openLevel, Cond.selects RX4 yX4_openLevel yX4_openLevel, Cond.code yX4_openLevel cX4_openLevel 1 none, Cond.methodLink RX4 76 yX4_closeLevel, Cond.instanceMethod yX4_closeLevel, Cond.selects RX4 yX4_closeLevel yX4_closeLevel, Cond.code yX4_closeLevel cX4_closeLevel 3 none, Cond.methodLink RX8 319 yX0_become, Cond.instanceMethod yX0_become, Cond.selects RX0 yX0_become yX0_become, Cond.code yX0_become cX0_become 9 none, Cond.fieldLink RX0 26 "MediaCatalog$Album" "joined" "I", Cond.fieldLink RX0 30 "MediaCatalog$Album" "left" "I", Cond.methodLink RX0 58 yX3_note, Cond.instanceMethod yX3_note, Cond.selects RX3 yX3_note yX3_note, Cond.initialized RX3, Cond.code yX3_note cX3_note 4 none]
def wsL_acts_r12 : List Cond := [Cond.fieldLink RX3 26 "MediaCatalog$Journal" "latest" "I", Cond.fieldLink RX3 9 "MediaCatalog$Journal" "albums" "[I", Cond.fieldLink RX3 15 "MediaCatalog$Journal" "files" "[I", Cond.fieldLink RX3 18 "MediaCatalog$Journal" "joins" "[Z", Cond.fieldLink RX3 22 "MediaCatalog$Journal" "length" "I", Cond.methodLink RX3 29 Lib.Math.min.name, Cond.static Lib.Math.min.name, Cond.code Lib.Math.min.name Lib.Math.min.code 2 (some .int), Cond.methodLink RL 38 yX8_setValue, Cond.instanceMethod yX8_setValue, Cond.selects RX8 yX8_setValue yX8_setValue, Cond.code yX8_setValue cX8_setValue 6 (some .int), Cond.fieldLink RX8 109 "MediaCatalog" "LEAST_VALUES" "[I", Cond.fieldLink RX8 113 "MediaCatalog" "GREATEST_VALUES" "[I", Cond.methodLink RX8 106 yX8_isSlot, Cond.instanceMethod yX8_isSlot, Cond.selects RX8 yX8_isSlot yX8_isSlot, Cond.code yX8_isSlot cX8_isSlot 4 (some .boolean), Cond.methodLink RX8 87 yX1_has, Cond.instanceMethod yX1_has, Cond.selects RX1 yX1_has yX1_has, Cond.code yX1_has cX1_has 2 (some .boolean), Cond.methodLink RX8 137 yX8_isSource, Cond.static yX8_isSource]
def wsL_acts_r13 : List Cond := [Cond.code yX8_isSource cX8_isSource 1 (some .boolean), Cond.methodLink RX8 116 yX1_told, Cond.methodLink RX8 120 yX1_tell, Cond.instanceMethod yX1_tell, Cond.selects RX1 yX1_tell yX1_tell, Cond.code yX1_tell cX1_tell 5 none, Cond.methodLink RX8 124 yX8_orNotFound, Cond.static yX8_orNotFound, Cond.code yX8_orNotFound cX8_orNotFound 1 (some .int), Cond.methodLink RL 42 yX8_clearValue, Cond.instanceMethod yX8_clearValue, Cond.selects RX8 yX8_clearValue yX8_clearValue, Cond.code yX8_clearValue cX8_clearValue 5 (some .int), Cond.methodLink RL 46 yX8_stack, Cond.instanceMethod yX8_stack, Cond.selects RX8 yX8_stack yX8_stack, Cond.code yX8_stack cX8_stack 4 (some .int), Cond.methodLink RX8 182 yX6_home, Cond.instanceMethod yX6_home, Cond.selects RX6 yX6_home yX6_home, Cond.code yX6_home cX6_home 2 (some .int), Cond.fieldLink RX6 29 "MediaCatalog$StackTable" "homes" "[I", Cond.methodLink RX8 185 yX6_freeNumber, Cond.instanceMethod yX6_freeNumber]
def wsL_acts_r14 : List Cond := [Cond.selects RX6 yX6_freeNumber yX6_freeNumber, Cond.code yX6_freeNumber cX6_freeNumber 2 (some .int), Cond.methodLink RX8 186 yX6_begin, Cond.instanceMethod yX6_begin, Cond.selects RX6 yX6_begin yX6_begin, Cond.code yX6_begin cX6_begin 4 none, Cond.fieldLink RX6 25 "MediaCatalog$StackTable" "collapsed" "[Z", Cond.methodLink RX6 53 yX6_insert, Cond.instanceMethod yX6_insert, Cond.selects RX6 yX6_insert yX6_insert, Cond.code yX6_insert cX6_insert 5 none, Cond.methodLink RL 49 yX8_putInto, Cond.instanceMethod yX8_putInto, Cond.selects RX8 yX8_putInto yX8_putInto, Cond.code yX8_putInto cX8_putInto 4 (some .int), Cond.methodLink RX8 189 yX6_has, Cond.methodLink RX8 190 yX6_height, Cond.instanceMethod yX6_height, Cond.selects RX6 yX6_height yX6_height, Cond.code yX6_height cX6_height 2 (some .int), Cond.methodLink RX8 193 yX6_insert, Cond.methodLink RL 52 yX8_takeOut, Cond.instanceMethod yX8_takeOut, Cond.selects RX8 yX8_takeOut yX8_takeOut]
def wsL_acts_r15 : List Cond := [Cond.code yX8_takeOut cX8_takeOut 3 (some .int), Cond.methodLink RX8 196 yX6_release, Cond.instanceMethod yX6_release, Cond.selects RX6 yX6_release yX6_release, Cond.code yX6_release cX6_release 3 none, Cond.methodLink RX6 65 yX6_closeGap, Cond.instanceMethod yX6_closeGap, Cond.selects RX6 yX6_closeGap yX6_closeGap, Cond.code yX6_closeGap cX6_closeGap 6 none, Cond.methodLink RX6 69 yX6_leave, Cond.instanceMethod yX6_leave, Cond.selects RX6 yX6_leave yX6_leave, Cond.code yX6_leave cX6_leave 2 none, Cond.constantLong RX6 73 (-1), Cond.methodLink RL 55 yX8_collapse, Cond.instanceMethod yX8_collapse, Cond.selects RX8 yX8_collapse yX8_collapse, Cond.code yX8_collapse cX8_collapse 4 (some .int), Cond.methodLink RX8 205 yX6_isCollapsed, Cond.instanceMethod yX6_isCollapsed, Cond.selects RX6 yX6_isCollapsed yX6_isCollapsed, Cond.code yX6_isCollapsed cX6_isCollapsed 2 (some .boolean), Cond.methodLink RX8 208 yX6_fold, Cond.instanceMethod yX6_fold]
def wsL_acts_r16 : List Cond := [Cond.selects RX6 yX6_fold yX6_fold, Cond.code yX6_fold cX6_fold 3 none, Cond.methodLink RL 58 yX8_chooseCover, Cond.instanceMethod yX8_chooseCover, Cond.selects RX8 yX8_chooseCover yX8_chooseCover, Cond.code yX8_chooseCover cX8_chooseCover 3 (some .int), Cond.methodLink RX8 199 yX6_choose, Cond.instanceMethod yX6_choose, Cond.selects RX6 yX6_choose yX6_choose, Cond.code yX6_choose cX6_choose 3 none, Cond.methodLink RX8 202 yX6_cover, Cond.methodLink RL 61 yX8_merge, Cond.instanceMethod yX8_merge, Cond.selects RX8 yX8_merge yX8_merge, Cond.code yX8_merge cX8_merge 6 (some .int), Cond.constantLong RX8 166 (-1), Cond.methodLink RX8 146 yX2_keeper, Cond.instanceMethod yX2_keeper, Cond.selects RX2 yX2_keeper yX2_keeper, Cond.code yX2_keeper cX2_keeper 2 (some .int), Cond.methodLink RX8 149 yX1_alike, Cond.methodLink RX8 171 yX8_only, Cond.methodLink RX8 174 yX1_absorb, Cond.instanceMethod yX1_absorb]
def wsL_acts_r17 : List Cond := [Cond.selects RX1 yX1_absorb yX1_absorb, Cond.code yX1_absorb cX1_absorb 5 none, Cond.methodLink RX1 77 yX1_absorbOne, Cond.instanceMethod yX1_absorbOne, Cond.selects RX1 yX1_absorbOne yX1_absorbOne, Cond.code yX1_absorbOne cX1_absorbOne 5 none, Cond.methodLink RX1 81 yX1_tell, Cond.methodLink RX1 85 yX1_union, Cond.static yX1_union, Cond.code yX1_union cX1_union 2 (some .int), Cond.methodLink RX8 178 yX8_holds, Cond.methodLink RX8 91 yX8_discard, Cond.instanceMethod yX8_discard, Cond.selects RX8 yX8_discard yX8_discard, Cond.code yX8_discard cX8_discard 2 none, Cond.methodLink RX8 295 yX1_drop, Cond.instanceMethod yX1_drop, Cond.selects RX1 yX1_drop yX1_drop, Cond.code yX1_drop cX1_drop 2 none, Cond.constantLong RX1 59 (-1), Cond.methodLink RX8 153 yJ13_bitCount_95d88, Cond.methodLink RL 64 yX8_remove, Cond.instanceMethod yX8_remove, Cond.selects RX8 yX8_remove yX8_remove]
def wsL_acts_r18 : List Cond := [Cond.code yX8_remove cX8_remove 2 (some .int), Cond.methodLink RL 67 yX8_setDigest, Cond.instanceMethod yX8_setDigest, Cond.selects RX8 yX8_setDigest yX8_setDigest, Cond.code yX8_setDigest cX8_setDigest 4 (some .int), Cond.methodLink RX8 98 yX1_digest, Cond.instanceMethod yX1_digest, Cond.selects RX1 yX1_digest yX1_digest, Cond.code yX1_digest cX1_digest 2 (some .int), Cond.methodLink RX8 102 yX1_changeDigest, Cond.instanceMethod yX1_changeDigest, Cond.selects RX1 yX1_changeDigest yX1_changeDigest, Cond.code yX1_changeDigest cX1_changeDigest 3 none, Cond.methodLink RL 70 yX8_setOrder, Cond.instanceMethod yX8_setOrder, Cond.selects RX8 yX8_setOrder yX8_setOrder, Cond.code yX8_setOrder cX8_setOrder 5 (some .int), Cond.methodLink RX8 140 yX1_orderCode, Cond.instanceMethod yX1_orderCode, Cond.selects RX1 yX1_orderCode yX1_orderCode, Cond.code yX1_orderCode cX1_orderCode 1 (some .int), Cond.methodLink RX8 143 yX1_reorder, Cond.instanceMethod yX1_reorder, Cond.selects RX1 yX1_reorder yX1_reorder]
def wsL_acts_r19 : List Cond := [Cond.code yX1_reorder cX1_reorder 4 none]
def wsL_acts : List Cond := .code yL_acts cL_acts 4 (some .boolean) :: ((wsL_acts_r1 ++ (wsL_acts_r2 ++ (wsL_acts_r3 ++ (wsL_acts_r4 ++ (wsL_acts_r5 ++ (wsL_acts_r6 ++ (wsL_acts_r7 ++ (wsL_acts_r8 ++ (wsL_acts_r9 ++ (wsL_acts_r10 ++ (wsL_acts_r11 ++ (wsL_acts_r12 ++ (wsL_acts_r13 ++ (wsL_acts_r14 ++ (wsL_acts_r15 ++ (wsL_acts_r16 ++ (wsL_acts_r17 ++ (wsL_acts_r18 ++ wsL_acts_r19)))))))))))))))))) ++ wsX80 ++ wsX10 ++ wsX20 ++ wsX60 ++ wsX00 ++ wsX40 ++ wsX50 ++ wsX30)
def wsL_albums_r1 : List Cond := [Cond.methodLink RL 73 yL_text, Cond.static yL_text, Cond.initialized RL, Cond.code yL_text cL_text 1 (some .long), Cond.constantLong RL 21 (54376369634930), Cond.constantLong RL 23 (494565227638), Cond.constantLong RL 25 (272498062625), Cond.constantLong RL 27 (54293237739617), Cond.constantLong RL 29 (3301665), Cond.methodLink RL 79 yL_types, Cond.static yL_types, Cond.code yL_types cL_types 6 (some .boolean), Cond.constantLong RL 15 (127), Cond.methodLink RL 9 yX8_clearRule, Cond.instanceMethod yX8_clearRule, Cond.selects RX8 yX8_clearRule yX8_clearRule, Cond.initialized RX8, Cond.code yX8_clearRule cX8_clearRule 2 (some .int), Cond.fieldLink RX8 35 "MediaCatalog" "text" "LMediaCatalog$RuleText;", Cond.methodLink RX8 215 yX5_length, Cond.instanceMethod yX5_length, Cond.selects RX5 yX5_length yX5_length, Cond.initialized RX5, Cond.code yX5_length cX5_length 1 (some .int)]
def wsL_albums_r2 : List Cond := [Cond.fieldLink RX5 15 "MediaCatalog$RuleText" "length" "I", Cond.methodLink RX8 222 yX5_empty, Cond.instanceMethod yX5_empty, Cond.selects RX5 yX5_empty yX5_empty, Cond.code yX5_empty cX5_empty 1 none, Cond.methodLink RL 17 yX8_type, Cond.instanceMethod yX8_type, Cond.selects RX8 yX8_type yX8_type, Cond.code yX8_type cX8_type 2 (some .int), Cond.methodLink RX8 71 yX8_isWithin, Cond.static yX8_isWithin, Cond.code yX8_isWithin cX8_isWithin 3 (some .boolean), Cond.methodLink RX8 218 yX5_append, Cond.instanceMethod yX5_append, Cond.selects RX5 yX5_append yX5_append, Cond.code yX5_append cX5_append 2 none, Cond.fieldLink RX5 9 "MediaCatalog$RuleText" "characters" "[C", Cond.methodLink RL 83 yX8_isIn, Cond.instanceMethod yX8_isIn, Cond.selects RX8 yX8_isIn yX8_isIn, Cond.code yX8_isIn cX8_isIn 3 (some .int), Cond.fieldLink RX8 10 "MediaCatalog" "files" "LMediaCatalog$FileTable;", Cond.fieldLink RX8 41 "MediaCatalog" "albums" "[LMediaCatalog$Album;", Cond.methodLink RX8 241 yX8_hasAlbum]
def wsL_albums_r3 : List Cond := [Cond.instanceMethod yX8_hasAlbum, Cond.selects RX8 yX8_hasAlbum yX8_hasAlbum, Cond.code yX8_hasAlbum cX8_hasAlbum 2 (some .boolean), Cond.methodLink RX8 298 yX0_exists, Cond.instanceMethod yX0_exists, Cond.selects RX0 yX0_exists yX0_exists, Cond.initialized RX0, Cond.code yX0_exists cX0_exists 1 (some .boolean), Cond.fieldLink RX0 18 "MediaCatalog$Album" "exists" "Z", Cond.methodLink RX8 87 yX1_has, Cond.instanceMethod yX1_has, Cond.selects RX1 yX1_has yX1_has, Cond.initialized RX1, Cond.code yX1_has cX1_has 2 (some .boolean), Cond.fieldLink RX1 31 "MediaCatalog$FileTable" "present" "J", Cond.static yX8_holds, Cond.code yX8_holds cX8_holds 3 (some .boolean), Cond.methodLink RX8 256 yX0_members, Cond.instanceMethod yX0_members, Cond.selects RX0 yX0_members yX0_members, Cond.code yX0_members cX0_members 1 (some .long), Cond.fieldLink RX0 22 "MediaCatalog$Album" "members" "J", Cond.methodLink RX8 178 yX8_holds, Cond.methodLink RL 86 yX8_satisfies]
def wsL_albums_r4 : List Cond := [Cond.instanceMethod yX8_satisfies, Cond.selects RX8 yX8_satisfies yX8_satisfies, Cond.code yX8_satisfies cX8_satisfies 2 (some .int), Cond.fieldLink RX8 51 "MediaCatalog" "judge" "LMediaCatalog$RuleJudge;", Cond.methodLink RX8 228 yX8_isTextUsable, Cond.instanceMethod yX8_isTextUsable, Cond.selects RX8 yX8_isTextUsable yX8_isTextUsable, Cond.code yX8_isTextUsable cX8_isTextUsable 3 (some .boolean), Cond.methodLink RX8 225 yX5_firstFault, Cond.instanceMethod yX5_firstFault, Cond.selects RX5 yX5_firstFault yX5_firstFault, Cond.code yX5_firstFault cX5_firstFault 5 (some .int), Cond.methodLink RX5 33 yX5_next, Cond.static yX5_next, Cond.code yX5_next cX5_next 3 (some .int), Cond.methodLink RX5 37 yX5_inItem, Cond.static yX5_inItem, Cond.code yX5_inItem cX5_inItem 2 (some .int), Cond.methodLink RX5 51 yX5_fieldNamed, Cond.static yX5_fieldNamed, Cond.code yX5_fieldNamed cX5_fieldNamed 1 (some .int), Cond.methodLink RX5 41 yX5_afterField, Cond.static yX5_afterField, Cond.code yX5_afterField cX5_afterField 1 (some .int)]
def wsL_albums_r5 : List Cond := [Cond.methodLink RX5 29 yX5_isDigit, Cond.static yX5_isDigit, Cond.code yX5_isDigit cX5_isDigit 1 (some .boolean), Cond.methodLink RX5 45 yX5_afterItem, Cond.static yX5_afterItem, Cond.code yX5_afterItem cX5_afterItem 2 (some .int), Cond.methodLink RX5 48 yX5_inNumber, Cond.static yX5_inNumber, Cond.code yX5_inNumber cX5_inNumber 4 (some .int), Cond.methodLink RX8 305 yX5_names, Cond.instanceMethod yX5_names, Cond.selects RX5 yX5_names yX5_names, Cond.code yX5_names cX5_names 3 (some .boolean), Cond.methodLink RX5 25 yX5_at, Cond.instanceMethod yX5_at, Cond.selects RX5 yX5_at yX5_at, Cond.code yX5_at cX5_at 2 (some .char), Cond.methodLink RX8 231 yX4_filesFor, Cond.instanceMethod yX4_filesFor, Cond.selects RX4 yX4_filesFor yX4_filesFor, Cond.initialized RX4, Cond.code yX4_filesFor cX4_filesFor 4 (some .long), Cond.fieldLink RX4 38 "MediaCatalog$RuleJudge" "open" "I", Cond.fieldLink RX4 27 "MediaCatalog$RuleJudge" "ended" "[J"]
def wsL_albums_r6 : List Cond := [Cond.fieldLink RX4 31 "MediaCatalog$RuleJudge" "running" "[J", Cond.methodLink RX4 42 yX4_beginLevel, Cond.instanceMethod yX4_beginLevel, Cond.selects RX4 yX4_beginLevel yX4_beginLevel, Cond.code yX4_beginLevel cX4_beginLevel 1 none, Cond.fieldLink RX4 9 "MediaCatalog$RuleJudge" "files" "LMediaCatalog$FileTable;", Cond.fieldLink RX4 34 "MediaCatalog$RuleJudge" "negated" "[Z", Cond.methodLink RX4 67 yX1_all, Cond.instanceMethod yX1_all, Cond.selects RX1 yX1_all yX1_all, Cond.code yX1_all cX1_all 1 (some .long), Cond.methodLink RX4 45 yX5_length, Cond.methodLink RX4 51 yX5_at, Cond.methodLink RX4 55 yX4_condition, Cond.instanceMethod yX4_condition, Cond.selects RX4 yX4_condition yX4_condition, Cond.code yX4_condition cX4_condition 3 (some .long), Cond.fieldLink RX4 19 "MediaCatalog$RuleJudge" "stacks" "LMediaCatalog$StackTable;", Cond.fieldLink RX4 15 "MediaCatalog$RuleJudge" "groups" "LMediaCatalog$GroupTable;", Cond.methodLink RX4 81 yX5_numberAt, Cond.instanceMethod yX5_numberAt, Cond.selects RX5 yX5_numberAt yX5_numberAt, Cond.code yX5_numberAt cX5_numberAt 4 (some .int), Cond.methodLink RX4 85 yX4_tagged]
def wsL_albums_r7 : List Cond := [Cond.instanceMethod yX4_tagged, Cond.selects RX4 yX4_tagged yX4_tagged, Cond.code yX4_tagged cX4_tagged 5 (some .long), Cond.methodLink RX4 115 yX1_settledValue, Cond.instanceMethod yX1_settledValue, Cond.selects RX1 yX1_settledValue yX1_settledValue, Cond.code yX1_settledValue cX1_settledValue 3 (some .int), Cond.fieldLink RX1 21 "MediaCatalog$FileTable" "settled" "[I", Cond.static yX8_only, Cond.code yX8_only cX8_only 1 (some .long), Cond.methodLink RX4 89 yX4_membersOf, Cond.instanceMethod yX4_membersOf, Cond.selects RX4 yX4_membersOf yX4_membersOf, Cond.code yX4_membersOf cX4_membersOf 2 (some .long), Cond.fieldLink RX4 23 "MediaCatalog$RuleJudge" "albums" "[LMediaCatalog$Album;", Cond.methodLink RX4 126 yX0_members, Cond.methodLink RX4 92 yX6_stacked, Cond.instanceMethod yX6_stacked, Cond.selects RX6 yX6_stacked yX6_stacked, Cond.initialized RX6, Cond.code yX6_stacked cX6_stacked 1 (some .long), Cond.fieldLink RX6 46 "MediaCatalog$StackTable" "stacked" "J", Cond.methodLink RX4 97 yX6_covers, Cond.instanceMethod yX6_covers]
def wsL_albums_r8 : List Cond := [Cond.selects RX6 yX6_covers yX6_covers, Cond.code yX6_covers cX6_covers 1 (some .long), Cond.fieldLink RX6 50 "MediaCatalog$StackTable" "covers" "J", Cond.methodLink RX4 100 yX2_duplicates, Cond.instanceMethod yX2_duplicates, Cond.selects RX2 yX2_duplicates yX2_duplicates, Cond.initialized RX2, Cond.code yX2_duplicates cX2_duplicates 1 (some .long), Cond.fieldLink RX2 19 "MediaCatalog$GroupTable" "duplicates" "J", Cond.methodLink RX4 105 yX2_keepers, Cond.instanceMethod yX2_keepers, Cond.selects RX2 yX2_keepers yX2_keepers, Cond.code yX2_keepers cX2_keepers 1 (some .long), Cond.fieldLink RX2 15 "MediaCatalog$GroupTable" "keepers" "J", Cond.methodLink RX4 108 yX4_comparing, Cond.instanceMethod yX4_comparing, Cond.selects RX4 yX4_comparing yX4_comparing, Cond.code yX4_comparing cX4_comparing 10 (some .long), Cond.methodLink RX4 131 yX5_fieldNamed, Cond.methodLink RX4 135 yX4_agrees, Cond.static yX4_agrees, Cond.code yX4_agrees cX4_agrees 3 (some .boolean), Cond.methodLink RX4 59 yX4_take, Cond.instanceMethod yX4_take]
def wsL_albums_r9 : List Cond := [Cond.selects RX4 yX4_take yX4_take, Cond.code yX4_take cX4_take 3 none, Cond.constantLong RX4 79 (-1), Cond.methodLink RX4 63 yX4_operate, Cond.instanceMethod yX4_operate, Cond.selects RX4 yX4_operate yX4_operate, Cond.code yX4_operate cX4_operate 2 none, Cond.methodLink RX4 73 yX4_openLevel, Cond.instanceMethod yX4_openLevel, Cond.selects RX4 yX4_openLevel yX4_openLevel, Cond.code yX4_openLevel cX4_openLevel 1 none, Cond.methodLink RX4 76 yX4_closeLevel, Cond.instanceMethod yX4_closeLevel, Cond.selects RX4 yX4_closeLevel yX4_closeLevel, Cond.code yX4_closeLevel cX4_closeLevel 3 none, Cond.methodLink RL 89 yX8_albumSize, Cond.instanceMethod yX8_albumSize, Cond.selects RX8 yX8_albumSize yX8_albumSize, Cond.code yX8_albumSize cX8_albumSize 2 (some .int), Cond.methodLink RX8 153 yJ13_bitCount_95d88, Cond.static yJ13_bitCount_95d88, Cond.initialized RJ13, Cond.code yJ13_bitCount_95d88 cJ13_bitCount_95d88 2 (some .int), Cond.constantLong RJ13 314 (6148914691236517205)]
def wsL_albums_r10 : List Cond := [Cond.constantLong RJ13 316 (3689348814741910323), Cond.constantLong RJ13 318 (1085102592571150095), Cond.methodLink RL 92 yX8_select, Cond.instanceMethod yX8_select, Cond.selects RX8 yX8_select yX8_select, Cond.code yX8_select cX8_select 1 (some .int), Cond.methodLink RL 95 yX8_turnover, Cond.instanceMethod yX8_turnover, Cond.selects RX8 yX8_turnover yX8_turnover, Cond.code yX8_turnover cX8_turnover 3 (some .int), Cond.methodLink RX8 282 yX0_joined, Cond.instanceMethod yX0_joined, Cond.selects RX0 yX0_joined yX0_joined, Cond.code yX0_joined cX0_joined 1 (some .int), Cond.fieldLink RX0 26 "MediaCatalog$Album" "joined" "I", Cond.methodLink RX8 285 yX0_left, Cond.instanceMethod yX0_left, Cond.selects RX0 yX0_left yX0_left, Cond.code yX0_left cX0_left 1 (some .int), Cond.fieldLink RX0 30 "MediaCatalog$Album" "left" "I", Cond.methodLink RL 98 yX8_viewSize, Cond.instanceMethod yX8_viewSize, Cond.selects RX8 yX8_viewSize yX8_viewSize, Cond.code yX8_viewSize cX8_viewSize 2 (some .int)]
def wsL_albums_r11 : List Cond := [Cond.fieldLink RX8 60 "MediaCatalog" "view" "LMediaCatalog$View;", Cond.methodLink RX8 265 yX7_shown, Cond.instanceMethod yX7_shown, Cond.selects RX7 yX7_shown yX7_shown, Cond.initialized RX7, Cond.code yX7_shown cX7_shown 5 (some .long), Cond.fieldLink RX7 15 "MediaCatalog$View" "stacks" "LMediaCatalog$StackTable;", Cond.methodLink RX7 19 yX0_members, Cond.methodLink RX7 25 yX6_has, Cond.instanceMethod yX6_has, Cond.selects RX6 yX6_has yX6_has, Cond.code yX6_has cX6_has 2 (some .boolean), Cond.fieldLink RX6 19 "MediaCatalog$StackTable" "heights" "[I", Cond.methodLink RX7 31 yX6_isCollapsed, Cond.instanceMethod yX6_isCollapsed, Cond.selects RX6 yX6_isCollapsed yX6_isCollapsed, Cond.code yX6_isCollapsed cX6_isCollapsed 2 (some .boolean), Cond.fieldLink RX6 25 "MediaCatalog$StackTable" "collapsed" "[Z", Cond.methodLink RX7 34 yX6_withoutHidden, Cond.instanceMethod yX6_withoutHidden, Cond.selects RX6 yX6_withoutHidden yX6_withoutHidden, Cond.code yX6_withoutHidden cX6_withoutHidden 9 (some .long), Cond.fieldLink RX6 15 "MediaCatalog$StackTable" "places" "[I", Cond.constantLong RX6 73 (-1)]
def wsL_albums_r12 : List Cond := [Cond.methodLink RX6 57 yX6_spot, Cond.static yX6_spot, Cond.code yX6_spot cX6_spot 2 (some .int), Cond.methodLink RX6 80 yX6_cover, Cond.instanceMethod yX6_cover, Cond.selects RX6 yX6_cover yX6_cover, Cond.code yX6_cover cX6_cover 5 (some .int), Cond.fieldLink RX6 22 "MediaCatalog$StackTable" "chosen" "[I", Cond.fieldLink RX6 9 "MediaCatalog$StackTable" "files" "LMediaCatalog$FileTable;", Cond.methodLink RX6 75 yX1_settledValue, Cond.methodLink RL 101 yX8_viewAt, Cond.instanceMethod yX8_viewAt, Cond.selects RX8 yX8_viewAt yX8_viewAt, Cond.code yX8_viewAt cX8_viewAt 3 (some .int), Cond.methodLink RX8 269 yX7_fileAt, Cond.instanceMethod yX7_fileAt, Cond.selects RX7 yX7_fileAt yX7_fileAt, Cond.code yX7_fileAt cX7_fileAt 6 (some .int), Cond.methodLink RX7 38 yX7_shown, Cond.methodLink RX7 46 yX7_placeOf, Cond.instanceMethod yX7_placeOf, Cond.selects RX7 yX7_placeOf yX7_placeOf, Cond.code yX7_placeOf cX7_placeOf 7 (some .int), Cond.methodLink RX7 50 yX7_comesBefore]
def wsL_albums_r13 : List Cond := [Cond.instanceMethod yX7_comesBefore, Cond.selects RX7 yX7_comesBefore yX7_comesBefore, Cond.code yX7_comesBefore cX7_comesBefore 6 (some .boolean), Cond.fieldLink RX7 9 "MediaCatalog$View" "files" "LMediaCatalog$FileTable;", Cond.methodLink RX7 54 yX0_sortField, Cond.instanceMethod yX0_sortField, Cond.selects RX0 yX0_sortField yX0_sortField, Cond.code yX0_sortField cX0_sortField 1 (some .int), Cond.fieldLink RX0 33 "MediaCatalog$Album" "sortField" "I", Cond.methodLink RX7 58 yX1_settledValue, Cond.methodLink RX7 64 yX0_isDescending, Cond.instanceMethod yX0_isDescending, Cond.selects RX0 yX0_isDescending yX0_isDescending, Cond.code yX0_isDescending cX0_isDescending 1 (some .boolean), Cond.fieldLink RX0 36 "MediaCatalog$Album" "descending" "Z", Cond.methodLink RX8 124 yX8_orNotFound, Cond.static yX8_orNotFound, Cond.code yX8_orNotFound cX8_orNotFound 1 (some .int), Cond.methodLink RL 104 yX8_value, Cond.instanceMethod yX8_value, Cond.selects RX8 yX8_value yX8_value, Cond.code yX8_value cX8_value 3 (some .int), Cond.methodLink RX8 98 yX1_digest, Cond.instanceMethod yX1_digest]
def wsL_albums_r14 : List Cond := [Cond.selects RX1 yX1_digest yX1_digest, Cond.code yX1_digest cX1_digest 2 (some .int), Cond.fieldLink RX1 9 "MediaCatalog$FileTable" "digests" "[I", Cond.methodLink RX8 127 yX1_bytes, Cond.instanceMethod yX1_bytes, Cond.selects RX1 yX1_bytes yX1_bytes, Cond.code yX1_bytes cX1_bytes 2 (some .int), Cond.fieldLink RX1 15 "MediaCatalog$FileTable" "sizes" "[I", Cond.methodLink RX8 130 yX1_settledValue, Cond.methodLink RL 107 yX8_stackOf, Cond.instanceMethod yX8_stackOf, Cond.selects RX8 yX8_stackOf yX8_stackOf, Cond.code yX8_stackOf cX8_stackOf 2 (some .int), Cond.fieldLink RX8 28 "MediaCatalog" "stacks" "LMediaCatalog$StackTable;", Cond.methodLink RX8 182 yX6_home, Cond.instanceMethod yX6_home, Cond.selects RX6 yX6_home yX6_home, Cond.code yX6_home cX6_home 2 (some .int), Cond.fieldLink RX6 29 "MediaCatalog$StackTable" "homes" "[I", Cond.methodLink RL 55 yX8_collapse, Cond.instanceMethod yX8_collapse, Cond.selects RX8 yX8_collapse yX8_collapse, Cond.code yX8_collapse cX8_collapse 4 (some .int), Cond.methodLink RX8 189 yX6_has]
def wsL_albums_r15 : List Cond := [Cond.methodLink RX8 205 yX6_isCollapsed, Cond.methodLink RX8 208 yX6_fold, Cond.instanceMethod yX6_fold, Cond.selects RX6 yX6_fold yX6_fold, Cond.code yX6_fold cX6_fold 3 none]
def wsL_albums : List Cond := .code yL_albums cL_albums 11 (some .boolean) :: ((wsL_albums_r1 ++ (wsL_albums_r2 ++ (wsL_albums_r3 ++ (wsL_albums_r4 ++ (wsL_albums_r5 ++ (wsL_albums_r6 ++ (wsL_albums_r7 ++ (wsL_albums_r8 ++ (wsL_albums_r9 ++ (wsL_albums_r10 ++ (wsL_albums_r11 ++ (wsL_albums_r12 ++ (wsL_albums_r13 ++ (wsL_albums_r14 ++ wsL_albums_r15)))))))))))))) ++ wsX80 ++ wsX50 ++ wsX00 ++ wsX10 ++ wsX40 ++ wsX60 ++ wsX20 ++ wsX70)
def wsL_groups_r1 : List Cond := [Cond.methodLink RL 110 yX8_keeperOf, Cond.instanceMethod yX8_keeperOf, Cond.selects RX8 yX8_keeperOf yX8_keeperOf, Cond.initialized RX8, Cond.code yX8_keeperOf cX8_keeperOf 2 (some .int), Cond.fieldLink RX8 10 "MediaCatalog" "files" "LMediaCatalog$FileTable;", Cond.fieldLink RX8 21 "MediaCatalog" "groups" "LMediaCatalog$GroupTable;", Cond.methodLink RX8 87 yX1_has, Cond.instanceMethod yX1_has, Cond.selects RX1 yX1_has yX1_has, Cond.initialized RX1, Cond.code yX1_has cX1_has 2 (some .boolean), Cond.fieldLink RX1 31 "MediaCatalog$FileTable" "present" "J", Cond.static yX8_isWithin, Cond.code yX8_isWithin cX8_isWithin 3 (some .boolean), Cond.static yX8_holds, Cond.code yX8_holds cX8_holds 3 (some .boolean), Cond.methodLink RX8 146 yX2_keeper, Cond.instanceMethod yX2_keeper, Cond.selects RX2 yX2_keeper yX2_keeper, Cond.initialized RX2, Cond.code yX2_keeper cX2_keeper 2 (some .int), Cond.fieldLink RX2 9 "MediaCatalog$GroupTable" "files" "LMediaCatalog$FileTable;", Cond.methodLink RX2 22 yX1_alike]
def wsL_groups_r2 : List Cond := [Cond.instanceMethod yX1_alike, Cond.selects RX1 yX1_alike yX1_alike, Cond.code yX1_alike cX1_alike 5 (some .long), Cond.fieldLink RX1 9 "MediaCatalog$FileTable" "digests" "[I", Cond.static yX8_only, Cond.code yX8_only cX8_only 1 (some .long), Cond.methodLink RX2 28 yX2_preferred, Cond.instanceMethod yX2_preferred, Cond.selects RX2 yX2_preferred yX2_preferred, Cond.code yX2_preferred cX2_preferred 5 (some .int), Cond.methodLink RX2 50 yX2_beats, Cond.instanceMethod yX2_beats, Cond.selects RX2 yX2_beats yX2_beats, Cond.code yX2_beats cX2_beats 5 (some .boolean), Cond.methodLink RX2 54 yX1_settledValue, Cond.instanceMethod yX1_settledValue, Cond.selects RX1 yX1_settledValue yX1_settledValue, Cond.code yX1_settledValue cX1_settledValue 3 (some .int), Cond.fieldLink RX1 21 "MediaCatalog$FileTable" "settled" "[I", Cond.methodLink RX2 58 yX2_yearOf, Cond.instanceMethod yX2_yearOf, Cond.selects RX2 yX2_yearOf yX2_yearOf, Cond.code yX2_yearOf cX2_yearOf 3 (some .int), Cond.methodLink RL 104 yX8_value]
def wsL_groups_r3 : List Cond := [Cond.instanceMethod yX8_value, Cond.selects RX8 yX8_value yX8_value, Cond.code yX8_value cX8_value 3 (some .int), Cond.methodLink RX8 71 yX8_isWithin, Cond.methodLink RX8 98 yX1_digest, Cond.instanceMethod yX1_digest, Cond.selects RX1 yX1_digest yX1_digest, Cond.code yX1_digest cX1_digest 2 (some .int), Cond.methodLink RX8 127 yX1_bytes, Cond.instanceMethod yX1_bytes, Cond.selects RX1 yX1_bytes yX1_bytes, Cond.code yX1_bytes cX1_bytes 2 (some .int), Cond.fieldLink RX1 15 "MediaCatalog$FileTable" "sizes" "[I", Cond.methodLink RX8 130 yX1_settledValue, Cond.methodLink RX8 124 yX8_orNotFound, Cond.static yX8_orNotFound, Cond.code yX8_orNotFound cX8_orNotFound 1 (some .int), Cond.methodLink RL 113 yX8_groupSize, Cond.instanceMethod yX8_groupSize, Cond.selects RX8 yX8_groupSize yX8_groupSize, Cond.code yX8_groupSize cX8_groupSize 2 (some .int), Cond.methodLink RX8 149 yX1_alike, Cond.methodLink RX8 153 yJ13_bitCount_95d88, Cond.static yJ13_bitCount_95d88]
def wsL_groups_r4 : List Cond := [Cond.initialized RJ13, Cond.code yJ13_bitCount_95d88 cJ13_bitCount_95d88 2 (some .int), Cond.constantLong RJ13 314 (6148914691236517205), Cond.constantLong RJ13 316 (3689348814741910323), Cond.constantLong RJ13 318 (1085102592571150095), Cond.methodLink RL 107 yX8_stackOf, Cond.instanceMethod yX8_stackOf, Cond.selects RX8 yX8_stackOf yX8_stackOf, Cond.code yX8_stackOf cX8_stackOf 2 (some .int), Cond.fieldLink RX8 28 "MediaCatalog" "stacks" "LMediaCatalog$StackTable;", Cond.methodLink RX8 182 yX6_home, Cond.instanceMethod yX6_home, Cond.selects RX6 yX6_home yX6_home, Cond.initialized RX6, Cond.code yX6_home cX6_home 2 (some .int), Cond.fieldLink RX6 29 "MediaCatalog$StackTable" "homes" "[I", Cond.methodLink RL 116 yX8_coverOf, Cond.instanceMethod yX8_coverOf, Cond.selects RX8 yX8_coverOf yX8_coverOf, Cond.code yX8_coverOf cX8_coverOf 2 (some .int), Cond.methodLink RX8 189 yX6_has, Cond.instanceMethod yX6_has, Cond.selects RX6 yX6_has yX6_has, Cond.code yX6_has cX6_has 2 (some .boolean)]
def wsL_groups_r5 : List Cond := [Cond.fieldLink RX6 19 "MediaCatalog$StackTable" "heights" "[I", Cond.methodLink RX8 202 yX6_cover, Cond.instanceMethod yX6_cover, Cond.selects RX6 yX6_cover yX6_cover, Cond.code yX6_cover cX6_cover 5 (some .int), Cond.fieldLink RX6 22 "MediaCatalog$StackTable" "chosen" "[I", Cond.fieldLink RX6 15 "MediaCatalog$StackTable" "places" "[I", Cond.fieldLink RX6 9 "MediaCatalog$StackTable" "files" "LMediaCatalog$FileTable;", Cond.methodLink RX6 57 yX6_spot, Cond.static yX6_spot, Cond.code yX6_spot cX6_spot 2 (some .int), Cond.methodLink RX6 75 yX1_settledValue, Cond.methodLink RL 119 yX8_stackAt, Cond.instanceMethod yX8_stackAt, Cond.selects RX8 yX8_stackAt yX8_stackAt, Cond.code yX8_stackAt cX8_stackAt 3 (some .int), Cond.methodLink RX8 212 yX6_fileAt, Cond.instanceMethod yX6_fileAt, Cond.selects RX6 yX6_fileAt yX6_fileAt, Cond.code yX6_fileAt cX6_fileAt 3 (some .int), Cond.methodLink RL 122 yX8_wasted, Cond.instanceMethod yX8_wasted, Cond.selects RX8 yX8_wasted yX8_wasted, Cond.code yX8_wasted cX8_wasted 1 (some .int)]
def wsL_groups_r6 : List Cond := [Cond.constantLong RX8 166 (-1), Cond.methodLink RX8 159 yX1_all, Cond.instanceMethod yX1_all, Cond.selects RX1 yX1_all yX1_all, Cond.code yX1_all cX1_all 1 (some .long), Cond.methodLink RX8 163 yX2_keepers, Cond.instanceMethod yX2_keepers, Cond.selects RX2 yX2_keepers yX2_keepers, Cond.code yX2_keepers cX2_keepers 1 (some .long), Cond.fieldLink RX2 15 "MediaCatalog$GroupTable" "keepers" "J", Cond.methodLink RX8 168 yX1_sumOfSizes, Cond.instanceMethod yX1_sumOfSizes, Cond.selects RX1 yX1_sumOfSizes yX1_sumOfSizes, Cond.code yX1_sumOfSizes cX1_sumOfSizes 5 (some .int), Cond.methodLink RL 125 yX8_count, Cond.instanceMethod yX8_count, Cond.selects RX8 yX8_count yX8_count, Cond.code yX8_count cX8_count 2 (some .int), Cond.methodLink RX8 288 yX6_howMany, Cond.instanceMethod yX6_howMany, Cond.selects RX6 yX6_howMany yX6_howMany, Cond.code yX6_howMany cX6_howMany 3 (some .int), Cond.methodLink RX6 42 yX6_has, Cond.methodLink RX8 250 yX8_albumCount]
def wsL_groups_r7 : List Cond := [Cond.instanceMethod yX8_albumCount, Cond.selects RX8 yX8_albumCount yX8_albumCount, Cond.code yX8_albumCount cX8_albumCount 3 (some .int), Cond.methodLink RX8 241 yX8_hasAlbum, Cond.instanceMethod yX8_hasAlbum, Cond.selects RX8 yX8_hasAlbum yX8_hasAlbum, Cond.code yX8_hasAlbum cX8_hasAlbum 2 (some .boolean), Cond.fieldLink RX8 41 "MediaCatalog" "albums" "[LMediaCatalog$Album;", Cond.methodLink RX8 298 yX0_exists, Cond.instanceMethod yX0_exists, Cond.selects RX0 yX0_exists yX0_exists, Cond.initialized RX0, Cond.code yX0_exists cX0_exists 1 (some .boolean), Cond.fieldLink RX0 18 "MediaCatalog$Album" "exists" "Z", Cond.methodLink RX8 289 yX2_duplicates, Cond.instanceMethod yX2_duplicates, Cond.selects RX2 yX2_duplicates yX2_duplicates, Cond.code yX2_duplicates cX2_duplicates 1 (some .long), Cond.fieldLink RX2 19 "MediaCatalog$GroupTable" "duplicates" "J", Cond.methodLink RX8 292 yX6_stacked, Cond.instanceMethod yX6_stacked, Cond.selects RX6 yX6_stacked yX6_stacked, Cond.code yX6_stacked cX6_stacked 1 (some .long), Cond.fieldLink RX6 46 "MediaCatalog$StackTable" "stacked" "J"]
def wsL_groups_r8 : List Cond := [Cond.methodLink RL 128 yX8_journalSize, Cond.instanceMethod yX8_journalSize, Cond.selects RX8 yX8_journalSize yX8_journalSize, Cond.code yX8_journalSize cX8_journalSize 1 (some .int), Cond.fieldLink RX8 67 "MediaCatalog" "journal" "LMediaCatalog$Journal;", Cond.methodLink RX8 272 yX3_length, Cond.instanceMethod yX3_length, Cond.selects RX3 yX3_length yX3_length, Cond.initialized RX3, Cond.code yX3_length cX3_length 1 (some .int), Cond.fieldLink RX3 22 "MediaCatalog$Journal" "length" "I"]
def wsL_groups : List Cond := .code yL_groups cL_groups 8 (some .boolean) :: ((wsL_groups_r1 ++ (wsL_groups_r2 ++ (wsL_groups_r3 ++ (wsL_groups_r4 ++ (wsL_groups_r5 ++ (wsL_groups_r6 ++ (wsL_groups_r7 ++ wsL_groups_r8))))))) ++ wsX80 ++ wsX10 ++ wsX20 ++ wsX60 ++ wsX00 ++ wsX30)
abbrev vwCl : List vw_C := [(RX0, TX0, 7), (RX1, TX1, 6), (RX2, TX2, 3), (RX3, TX3, 5), (RX4, TX4, 8), (RX5, TX5, 2), (RX6, TX6, 8), (RX7, TX7, 2), (RX8, TX8, 8)]
end
section
theorem inJ13 : ∀ w ∈ wsJ130, w ∈ lw_tbl := by decide +kernel
theorem inJ9 : ∀ w ∈ wsJ90, w ∈ lw_tbl := by decide +kernel
theorem inJ10 : ∀ w ∈ wsJ100, w ∈ lw_tbl := by decide +kernel
theorem inJ7 : ∀ w ∈ wsJ70, w ∈ lw_tbl := by decide +kernel
set_option maxRecDepth 20000 in
theorem ggX0_init_X5_init : GoodIn wsX0_init wsX5_init := goodIn_r _ [10, 11, 2, 3, 12, 13, 14, 15] (by decide +kernel) (by decide +kernel)
set_option maxRecDepth 20000 in
theorem gX0_init_X5_init : GoodIn wsX0_init (wsX5_init) := ggX0_init_X5_init
theorem dX0_init_0 : decode cX0_init 0 = .ok (.aload_n 0, 1) := by decide +kernel
theorem dX0_init_1 : decode cX0_init 1 = .ok (.invokespecial 3, 3) := by decide +kernel
theorem dX0_init_4 : decode cX0_init 4 = .ok (.aload_n 0, 1) := by decide +kernel
theorem dX0_init_5 : decode cX0_init 5 = .ok (.new 9, 3) := by decide +kernel
theorem dX0_init_8 : decode cX0_init 8 = .ok (.dup, 1) := by decide +kernel
theorem dX0_init_9 : decode cX0_init 9 = .ok (.invokespecial 11, 3) := by decide +kernel
theorem dX0_init_12 : decode cX0_init 12 = .ok (.putfield 12, 3) := by decide +kernel
theorem dX0_init_15 : decode cX0_init 15 = .ok (.return_, 1) := by decide +kernel
theorem dX0_exists_0 : decode cX0_exists 0 = .ok (.aload_n 0, 1) := by decide +kernel
theorem dX0_exists_1 : decode cX0_exists 1 = .ok (.getfield 18, 3) := by decide +kernel
theorem dX0_exists_4 : decode cX0_exists 4 = .ok (.ireturn, 1) := by decide +kernel
theorem dX0_rule_0 : decode cX0_rule 0 = .ok (.aload_n 0, 1) := by decide +kernel
theorem dX0_rule_1 : decode cX0_rule 1 = .ok (.getfield 12, 3) := by decide +kernel
theorem dX0_rule_4 : decode cX0_rule 4 = .ok (.areturn, 1) := by decide +kernel
theorem dX0_members_0 : decode cX0_members 0 = .ok (.aload_n 0, 1) := by decide +kernel
theorem dX0_members_1 : decode cX0_members 1 = .ok (.getfield 22, 3) := by decide +kernel
theorem dX0_members_4 : decode cX0_members 4 = .ok (.lreturn, 1) := by decide +kernel
theorem dX0_joined_0 : decode cX0_joined 0 = .ok (.aload_n 0, 1) := by decide +kernel
theorem dX0_joined_1 : decode cX0_joined 1 = .ok (.getfield 26, 3) := by decide +kernel
theorem dX0_joined_4 : decode cX0_joined 4 = .ok (.ireturn, 1) := by decide +kernel
theorem dX0_left_0 : decode cX0_left 0 = .ok (.aload_n 0, 1) := by decide +kernel
theorem dX0_left_1 : decode cX0_left 1 = .ok (.getfield 30, 3) := by decide +kernel
theorem dX0_left_4 : decode cX0_left 4 = .ok (.ireturn, 1) := by decide +kernel
theorem dX0_sortField_0 : decode cX0_sortField 0 = .ok (.aload_n 0, 1) := by decide +kernel
theorem dX0_sortField_1 : decode cX0_sortField 1 = .ok (.getfield 33, 3) := by decide +kernel
theorem dX0_sortField_4 : decode cX0_sortField 4 = .ok (.ireturn, 1) := by decide +kernel
theorem dX0_isDescending_0 : decode cX0_isDescending 0 = .ok (.aload_n 0, 1) := by decide +kernel
theorem dX0_isDescending_1 : decode cX0_isDescending 1 = .ok (.getfield 36, 3) := by decide +kernel
theorem dX0_isDescending_4 : decode cX0_isDescending 4 = .ok (.ireturn, 1) := by decide +kernel
set_option maxRecDepth 20000 in
theorem ggX0_begin_X0_sort : GoodIn wsX0_begin wsX0_sort := goodIn_r _ [9, 10, 11, 28, 29, 30, 31, 32, 33, 34] (by decide +kernel) (by decide +kernel)
set_option maxRecDepth 20000 in
theorem gX0_begin_X0_sort : GoodIn wsX0_begin (wsV RX0 43 RX0 yX0_sort wsX0_sort) := goodIn_app (goodIn_of _ (by decide +kernel)) ggX0_begin_X0_sort
set_option maxRecDepth 20000 in
theorem ggX0_begin_X0_follow : GoodIn wsX0_begin wsX0_follow := goodIn_r _ [15, 16, 17, 18, 19, 20, 21, 22, 23, 24, 25, 26, 27, 28, 29, 30, 31, 32, 33, 34, 35, 36] (by decide +kernel) (by decide +kernel)
set_option maxRecDepth 20000 in
theorem gX0_begin_X0_follow : GoodIn wsX0_begin (wsV RX0 47 RX0 yX0_follow wsX0_follow) := goodIn_app (goodIn_of _ (by decide +kernel)) ggX0_begin_X0_follow
theorem dX0_begin_0 : decode cX0_begin 0 = .ok (.aload_n 0, 1) := by decide +kernel
theorem dX0_begin_1 : decode cX0_begin 1 = .ok (.iconst 1, 1) := by decide +kernel
theorem dX0_begin_2 : decode cX0_begin 2 = .ok (.putfield 18, 3) := by decide +kernel
theorem dX0_begin_5 : decode cX0_begin 5 = .ok (.aload_n 0, 1) := by decide +kernel
theorem dX0_begin_6 : decode cX0_begin 6 = .ok (.lconst 0, 1) := by decide +kernel
theorem dX0_begin_7 : decode cX0_begin 7 = .ok (.putfield 22, 3) := by decide +kernel
theorem dX0_begin_10 : decode cX0_begin 10 = .ok (.aload_n 0, 1) := by decide +kernel
theorem dX0_begin_11 : decode cX0_begin 11 = .ok (.iconst 0, 1) := by decide +kernel
theorem dX0_begin_12 : decode cX0_begin 12 = .ok (.putfield 26, 3) := by decide +kernel
theorem dX0_begin_15 : decode cX0_begin 15 = .ok (.aload_n 0, 1) := by decide +kernel
theorem dX0_begin_16 : decode cX0_begin 16 = .ok (.iconst 0, 1) := by decide +kernel
theorem dX0_begin_17 : decode cX0_begin 17 = .ok (.putfield 30, 3) := by decide +kernel
theorem dX0_begin_20 : decode cX0_begin 20 = .ok (.aload_n 0, 1) := by decide +kernel
theorem dX0_begin_21 : decode cX0_begin 21 = .ok (.iconst 1, 1) := by decide +kernel
theorem dX0_begin_22 : decode cX0_begin 22 = .ok (.iconst 1, 1) := by decide +kernel
theorem dX0_begin_23 : decode cX0_begin 23 = .ok (.invokevirtual 43, 3) := by decide +kernel
theorem dX0_begin_26 : decode cX0_begin 26 = .ok (.aload_n 0, 1) := by decide +kernel
theorem dX0_begin_27 : decode cX0_begin 27 = .ok (.aload_n 1, 1) := by decide +kernel
theorem dX0_begin_28 : decode cX0_begin 28 = .ok (.invokevirtual 47, 3) := by decide +kernel
theorem dX0_begin_31 : decode cX0_begin 31 = .ok (.return_, 1) := by decide +kernel
set_option maxRecDepth 20000 in
theorem ggX0_follow_X5_copy : GoodIn wsX0_follow wsX5_copy := goodIn_r _ [6, 7, 8, 9, 10, 11, 12, 20, 21] (by decide +kernel) (by decide +kernel)
set_option maxRecDepth 20000 in
theorem gX0_follow_X5_copy : GoodIn wsX0_follow (wsV RX0 51 RX5 yX5_copy wsX5_copy) := goodIn_app (goodIn_of _ (by decide +kernel)) ggX0_follow_X5_copy
theorem dX0_follow_0 : decode cX0_follow 0 = .ok (.aload_n 0, 1) := by decide +kernel
theorem dX0_follow_1 : decode cX0_follow 1 = .ok (.getfield 12, 3) := by decide +kernel
theorem dX0_follow_4 : decode cX0_follow 4 = .ok (.aload_n 1, 1) := by decide +kernel
theorem dX0_follow_5 : decode cX0_follow 5 = .ok (.invokevirtual 51, 3) := by decide +kernel
theorem dX0_follow_8 : decode cX0_follow 8 = .ok (.return_, 1) := by decide +kernel
theorem dX0_sort_0 : decode cX0_sort 0 = .ok (.aload_n 0, 1) := by decide +kernel
theorem dX0_sort_1 : decode cX0_sort 1 = .ok (.iload_n 1, 1) := by decide +kernel
theorem dX0_sort_2 : decode cX0_sort 2 = .ok (.putfield 33, 3) := by decide +kernel
theorem dX0_sort_5 : decode cX0_sort 5 = .ok (.aload_n 0, 1) := by decide +kernel
theorem dX0_sort_6 : decode cX0_sort 6 = .ok (.iload_n 2, 1) := by decide +kernel
theorem dX0_sort_7 : decode cX0_sort 7 = .ok (.putfield 36, 3) := by decide +kernel
theorem dX0_sort_10 : decode cX0_sort 10 = .ok (.return_, 1) := by decide +kernel
set_option maxRecDepth 20000 in
theorem ggX0_become_X8_holds : GoodIn wsX0_become wsX8_holds := goodIn_r _ [6] (by decide +kernel) (by decide +kernel)
set_option maxRecDepth 20000 in
theorem gX0_become_X8_holds_n54 : GoodIn wsX0_become (wsX8_holds) := ggX0_become_X8_holds
set_option maxRecDepth 20000 in
theorem ggX0_become_X3_note : GoodIn wsX0_become wsX3_note := goodIn_r _ [11, 12, 13, 14, 15, 16, 17, 18, 19, 20, 28, 29, 30, 31, 32] (by decide +kernel) (by decide +kernel)
set_option maxRecDepth 20000 in
theorem gX0_become_X3_note : GoodIn wsX0_become (wsV RX0 58 RX3 yX3_note wsX3_note) := goodIn_app (goodIn_of _ (by decide +kernel)) ggX0_become_X3_note
theorem dX0_become_0 : decode cX0_become 0 = .ok (.aload_n 0, 1) := by decide +kernel
theorem dX0_become_1 : decode cX0_become 1 = .ok (.getfield 22, 3) := by decide +kernel
theorem dX0_become_4 : decode cX0_become 4 = .ok (.lload_n 1, 1) := by decide +kernel
theorem dX0_become_5 : decode cX0_become 5 = .ok (.lxor, 1) := by decide +kernel
theorem dX0_become_6 : decode cX0_become 6 = .ok (.lstore 5, 2) := by decide +kernel
theorem dX0_become_8 : decode cX0_become 8 = .ok (.iconst 0, 1) := by decide +kernel
theorem dX0_become_9 : decode cX0_become 9 = .ok (.istore 7, 2) := by decide +kernel
theorem dX0_become_11 : decode cX0_become 11 = .ok (.iload 7, 2) := by decide +kernel
theorem dX0_become_13 : decode cX0_become 13 = .ok (.bipush 40, 2) := by decide +kernel
theorem dX0_become_15 : decode cX0_become 15 = .ok (.if_icmp .ge 75, 3) := by decide +kernel
theorem dX0_become_18 : decode cX0_become 18 = .ok (.lload 5, 2) := by decide +kernel
theorem dX0_become_20 : decode cX0_become 20 = .ok (.iload 7, 2) := by decide +kernel
theorem dX0_become_22 : decode cX0_become 22 = .ok (.invokestatic 54, 3) := by decide +kernel
theorem dX0_become_25 : decode cX0_become 25 = .ok (.ifCond .eq 59, 3) := by decide +kernel
theorem dX0_become_28 : decode cX0_become 28 = .ok (.lload_n 1, 1) := by decide +kernel
theorem dX0_become_29 : decode cX0_become 29 = .ok (.iload 7, 2) := by decide +kernel
theorem dX0_become_31 : decode cX0_become 31 = .ok (.invokestatic 54, 3) := by decide +kernel
theorem dX0_become_34 : decode cX0_become 34 = .ok (.istore 8, 2) := by decide +kernel
theorem dX0_become_36 : decode cX0_become 36 = .ok (.aload 4, 2) := by decide +kernel
theorem dX0_become_38 : decode cX0_become 38 = .ok (.iload_n 3, 1) := by decide +kernel
theorem dX0_become_39 : decode cX0_become 39 = .ok (.iload 7, 2) := by decide +kernel
theorem dX0_become_41 : decode cX0_become 41 = .ok (.iload 8, 2) := by decide +kernel
theorem dX0_become_43 : decode cX0_become 43 = .ok (.invokevirtual 58, 3) := by decide +kernel
theorem dX0_become_46 : decode cX0_become 46 = .ok (.aload_n 0, 1) := by decide +kernel
theorem dX0_become_47 : decode cX0_become 47 = .ok (.dup, 1) := by decide +kernel
theorem dX0_become_48 : decode cX0_become 48 = .ok (.getfield 26, 3) := by decide +kernel
theorem dX0_become_51 : decode cX0_become 51 = .ok (.iload 8, 2) := by decide +kernel
theorem dX0_become_53 : decode cX0_become 53 = .ok (.ifCond .eq 7, 3) := by decide +kernel
theorem dX0_become_56 : decode cX0_become 56 = .ok (.iconst 1, 1) := by decide +kernel
theorem dX0_become_57 : decode cX0_become 57 = .ok (.goto 4, 3) := by decide +kernel
theorem dX0_become_60 : decode cX0_become 60 = .ok (.iconst 0, 1) := by decide +kernel
theorem dX0_become_61 : decode cX0_become 61 = .ok (.iadd, 1) := by decide +kernel
theorem dX0_become_62 : decode cX0_become 62 = .ok (.putfield 26, 3) := by decide +kernel
theorem dX0_become_65 : decode cX0_become 65 = .ok (.aload_n 0, 1) := by decide +kernel
theorem dX0_become_66 : decode cX0_become 66 = .ok (.dup, 1) := by decide +kernel
theorem dX0_become_67 : decode cX0_become 67 = .ok (.getfield 30, 3) := by decide +kernel
theorem dX0_become_70 : decode cX0_become 70 = .ok (.iload 8, 2) := by decide +kernel
theorem dX0_become_72 : decode cX0_become 72 = .ok (.ifCond .eq 7, 3) := by decide +kernel
theorem dX0_become_75 : decode cX0_become 75 = .ok (.iconst 0, 1) := by decide +kernel
theorem dX0_become_76 : decode cX0_become 76 = .ok (.goto 4, 3) := by decide +kernel
theorem dX0_become_79 : decode cX0_become 79 = .ok (.iconst 1, 1) := by decide +kernel
theorem dX0_become_80 : decode cX0_become 80 = .ok (.iadd, 1) := by decide +kernel
theorem dX0_become_81 : decode cX0_become 81 = .ok (.putfield 30, 3) := by decide +kernel
theorem dX0_become_84 : decode cX0_become 84 = .ok (.iinc 7 1, 3) := by decide +kernel
theorem dX0_become_87 : decode cX0_become 87 = .ok (.goto (-76), 3) := by decide +kernel
theorem dX0_become_90 : decode cX0_become 90 = .ok (.aload_n 0, 1) := by decide +kernel
theorem dX0_become_91 : decode cX0_become 91 = .ok (.lload_n 1, 1) := by decide +kernel
theorem dX0_become_92 : decode cX0_become 92 = .ok (.putfield 22, 3) := by decide +kernel
theorem dX0_become_95 : decode cX0_become 95 = .ok (.return_, 1) := by decide +kernel
theorem dX1_init_0 : decode cX1_init 0 = .ok (.aload_n 0, 1) := by decide +kernel
theorem dX1_init_1 : decode cX1_init 1 = .ok (.invokespecial 3, 3) := by decide +kernel
theorem dX1_init_4 : decode cX1_init 4 = .ok (.aload_n 0, 1) := by decide +kernel
theorem dX1_init_5 : decode cX1_init 5 = .ok (.bipush 40, 2) := by decide +kernel
theorem dX1_init_7 : decode cX1_init 7 = .ok (.newarray .int, 2) := by decide +kernel
theorem dX1_init_9 : decode cX1_init 9 = .ok (.putfield 9, 3) := by decide +kernel
theorem dX1_init_12 : decode cX1_init 12 = .ok (.aload_n 0, 1) := by decide +kernel
theorem dX1_init_13 : decode cX1_init 13 = .ok (.bipush 40, 2) := by decide +kernel
theorem dX1_init_15 : decode cX1_init 15 = .ok (.newarray .int, 2) := by decide +kernel
theorem dX1_init_17 : decode cX1_init 17 = .ok (.putfield 15, 3) := by decide +kernel
theorem dX1_init_20 : decode cX1_init 20 = .ok (.aload_n 0, 1) := by decide +kernel
theorem dX1_init_21 : decode cX1_init 21 = .ok (.sipush 720, 3) := by decide +kernel
theorem dX1_init_24 : decode cX1_init 24 = .ok (.newarray .int, 2) := by decide +kernel
theorem dX1_init_26 : decode cX1_init 26 = .ok (.putfield 18, 3) := by decide +kernel
theorem dX1_init_29 : decode cX1_init 29 = .ok (.aload_n 0, 1) := by decide +kernel
theorem dX1_init_30 : decode cX1_init 30 = .ok (.sipush 240, 3) := by decide +kernel
theorem dX1_init_33 : decode cX1_init 33 = .ok (.newarray .int, 2) := by decide +kernel
theorem dX1_init_35 : decode cX1_init 35 = .ok (.putfield 21, 3) := by decide +kernel
theorem dX1_init_38 : decode cX1_init 38 = .ok (.aload_n 0, 1) := by decide +kernel
theorem dX1_init_39 : decode cX1_init 39 = .ok (.iconst 3, 1) := by decide +kernel
theorem dX1_init_40 : decode cX1_init 40 = .ok (.newarray .int, 2) := by decide +kernel
theorem dX1_init_42 : decode cX1_init 42 = .ok (.putfield 24, 3) := by decide +kernel
theorem dX1_init_45 : decode cX1_init 45 = .ok (.iconst 0, 1) := by decide +kernel
theorem dX1_init_46 : decode cX1_init 46 = .ok (.istore_n 1, 1) := by decide +kernel
theorem dX1_init_47 : decode cX1_init 47 = .ok (.iload_n 1, 1) := by decide +kernel
theorem dX1_init_48 : decode cX1_init 48 = .ok (.iconst 3, 1) := by decide +kernel
theorem dX1_init_49 : decode cX1_init 49 = .ok (.if_icmp .ge 16, 3) := by decide +kernel
theorem dX1_init_52 : decode cX1_init 52 = .ok (.aload_n 0, 1) := by decide +kernel
theorem dX1_init_53 : decode cX1_init 53 = .ok (.getfield 24, 3) := by decide +kernel
theorem dX1_init_56 : decode cX1_init 56 = .ok (.iload_n 1, 1) := by decide +kernel
theorem dX1_init_57 : decode cX1_init 57 = .ok (.iload_n 1, 1) := by decide +kernel
theorem dX1_init_58 : decode cX1_init 58 = .ok (.iastore, 1) := by decide +kernel
theorem dX1_init_59 : decode cX1_init 59 = .ok (.iinc 1 1, 3) := by decide +kernel
theorem dX1_init_62 : decode cX1_init 62 = .ok (.goto (-15), 3) := by decide +kernel
theorem dX1_init_65 : decode cX1_init 65 = .ok (.return_, 1) := by decide +kernel
set_option maxRecDepth 20000 in
theorem ggX1_has_X8_isWithin : GoodIn wsX1_has wsX8_isWithin := goodIn_r _ [4] (by decide +kernel) (by decide +kernel)
set_option maxRecDepth 20000 in
theorem gX1_has_X8_isWithin_n27 : GoodIn wsX1_has (wsX8_isWithin) := ggX1_has_X8_isWithin
set_option maxRecDepth 20000 in
theorem ggX1_has_X8_holds : GoodIn wsX1_has wsX8_holds := goodIn_r _ [6] (by decide +kernel) (by decide +kernel)
set_option maxRecDepth 20000 in
theorem gX1_has_X8_holds_n35 : GoodIn wsX1_has (wsX8_holds) := ggX1_has_X8_holds
theorem dX1_has_0 : decode cX1_has 0 = .ok (.iload_n 1, 1) := by decide +kernel
theorem dX1_has_1 : decode cX1_has 1 = .ok (.iconst 0, 1) := by decide +kernel
theorem dX1_has_2 : decode cX1_has 2 = .ok (.bipush 39, 2) := by decide +kernel
theorem dX1_has_4 : decode cX1_has 4 = .ok (.invokestatic 27, 3) := by decide +kernel
theorem dX1_has_7 : decode cX1_has 7 = .ok (.ifCond .eq 18, 3) := by decide +kernel
theorem dX1_has_10 : decode cX1_has 10 = .ok (.aload_n 0, 1) := by decide +kernel
theorem dX1_has_11 : decode cX1_has 11 = .ok (.getfield 31, 3) := by decide +kernel
theorem dX1_has_14 : decode cX1_has 14 = .ok (.iload_n 1, 1) := by decide +kernel
theorem dX1_has_15 : decode cX1_has 15 = .ok (.invokestatic 35, 3) := by decide +kernel
theorem dX1_has_18 : decode cX1_has 18 = .ok (.ifCond .eq 7, 3) := by decide +kernel
theorem dX1_has_21 : decode cX1_has 21 = .ok (.iconst 1, 1) := by decide +kernel
theorem dX1_has_22 : decode cX1_has 22 = .ok (.goto 4, 3) := by decide +kernel
theorem dX1_has_25 : decode cX1_has 25 = .ok (.iconst 0, 1) := by decide +kernel
theorem dX1_has_26 : decode cX1_has 26 = .ok (.ireturn, 1) := by decide +kernel
theorem dX1_all_0 : decode cX1_all 0 = .ok (.aload_n 0, 1) := by decide +kernel
theorem dX1_all_1 : decode cX1_all 1 = .ok (.getfield 31, 3) := by decide +kernel
theorem dX1_all_4 : decode cX1_all 4 = .ok (.lreturn, 1) := by decide +kernel
set_option maxRecDepth 20000 in
theorem ggX1_howMany_J13_bitCount_95d88 : GoodIn wsX1_howMany wsJ13_bitCount_95d88 := goodIn_r _ [5, 6, 7, 8] (by decide +kernel) (by decide +kernel)
set_option maxRecDepth 20000 in
theorem gX1_howMany_J13_bitCount_95d88 : GoodIn wsX1_howMany (va_wsS RX1 39 yJ13_bitCount_95d88 wsJ13_bitCount_95d88) := goodIn_app (goodIn_of _ (by decide +kernel)) ggX1_howMany_J13_bitCount_95d88
theorem dX1_howMany_0 : decode cX1_howMany 0 = .ok (.aload_n 0, 1) := by decide +kernel
theorem dX1_howMany_1 : decode cX1_howMany 1 = .ok (.getfield 31, 3) := by decide +kernel
theorem dX1_howMany_4 : decode cX1_howMany 4 = .ok (.invokestatic 39, 3) := by decide +kernel
theorem dX1_howMany_7 : decode cX1_howMany 7 = .ok (.ireturn, 1) := by decide +kernel
set_option maxRecDepth 20000 in
theorem ggX1_freeNumber_X8_holds : GoodIn wsX1_freeNumber wsX8_holds := goodIn_r _ [4] (by decide +kernel) (by decide +kernel)
set_option maxRecDepth 20000 in
theorem gX1_freeNumber_X8_holds_n35 : GoodIn wsX1_freeNumber (wsX8_holds) := ggX1_freeNumber_X8_holds
theorem dX1_freeNumber_0 : decode cX1_freeNumber 0 = .ok (.iconst 0, 1) := by decide +kernel
theorem dX1_freeNumber_1 : decode cX1_freeNumber 1 = .ok (.istore_n 1, 1) := by decide +kernel
theorem dX1_freeNumber_2 : decode cX1_freeNumber 2 = .ok (.iload_n 1, 1) := by decide +kernel
theorem dX1_freeNumber_3 : decode cX1_freeNumber 3 = .ok (.bipush 40, 2) := by decide +kernel
theorem dX1_freeNumber_5 : decode cX1_freeNumber 5 = .ok (.if_icmp .ge 22, 3) := by decide +kernel
theorem dX1_freeNumber_8 : decode cX1_freeNumber 8 = .ok (.aload_n 0, 1) := by decide +kernel
theorem dX1_freeNumber_9 : decode cX1_freeNumber 9 = .ok (.getfield 31, 3) := by decide +kernel
theorem dX1_freeNumber_12 : decode cX1_freeNumber 12 = .ok (.iload_n 1, 1) := by decide +kernel
theorem dX1_freeNumber_13 : decode cX1_freeNumber 13 = .ok (.invokestatic 35, 3) := by decide +kernel
theorem dX1_freeNumber_16 : decode cX1_freeNumber 16 = .ok (.ifCond .ne 5, 3) := by decide +kernel
theorem dX1_freeNumber_19 : decode cX1_freeNumber 19 = .ok (.iload_n 1, 1) := by decide +kernel
theorem dX1_freeNumber_20 : decode cX1_freeNumber 20 = .ok (.ireturn, 1) := by decide +kernel
theorem dX1_freeNumber_21 : decode cX1_freeNumber 21 = .ok (.iinc 1 1, 3) := by decide +kernel
theorem dX1_freeNumber_24 : decode cX1_freeNumber 24 = .ok (.goto (-22), 3) := by decide +kernel
theorem dX1_freeNumber_27 : decode cX1_freeNumber 27 = .ok (.iconst (-1), 1) := by decide +kernel
theorem dX1_freeNumber_28 : decode cX1_freeNumber 28 = .ok (.ireturn, 1) := by decide +kernel
set_option maxRecDepth 20000 in
theorem ggX1_enter_X8_only : GoodIn wsX1_enter wsX8_only := goodIn_r _ [7] (by decide +kernel) (by decide +kernel)
set_option maxRecDepth 20000 in
theorem gX1_enter_X8_only_n45 : GoodIn wsX1_enter (wsX8_only) := ggX1_enter_X8_only
set_option maxRecDepth 20000 in
theorem ggX1_enter_X1_slot : GoodIn wsX1_enter wsX1_slot := goodIn_r _ [11] (by decide +kernel) (by decide +kernel)
set_option maxRecDepth 20000 in
theorem gX1_enter_X1_slot : GoodIn wsX1_enter (va_wsS RX1 49 yX1_slot wsX1_slot) := goodIn_app (goodIn_of _ (by decide +kernel)) ggX1_enter_X1_slot
set_option maxRecDepth 20000 in
theorem ggX1_enter_J7_fill_fda19 : GoodIn wsX1_enter wsJ7_fill_fda19 := goodIn_r _ [15, 16, 17, 14, 18] (by decide +kernel) (by decide +kernel)
set_option maxRecDepth 20000 in
theorem gX1_enter_J7_fill_fda19 : GoodIn wsX1_enter (va_wsS RX1 53 yJ7_fill_fda19 wsJ7_fill_fda19) := goodIn_app (goodIn_of _ (by decide +kernel)) ggX1_enter_J7_fill_fda19
theorem dX1_enter_0 : decode cX1_enter 0 = .ok (.aload_n 0, 1) := by decide +kernel
theorem dX1_enter_1 : decode cX1_enter 1 = .ok (.dup, 1) := by decide +kernel
theorem dX1_enter_2 : decode cX1_enter 2 = .ok (.getfield 31, 3) := by decide +kernel
theorem dX1_enter_5 : decode cX1_enter 5 = .ok (.iload_n 1, 1) := by decide +kernel
theorem dX1_enter_6 : decode cX1_enter 6 = .ok (.invokestatic 45, 3) := by decide +kernel
theorem dX1_enter_9 : decode cX1_enter 9 = .ok (.lor, 1) := by decide +kernel
theorem dX1_enter_10 : decode cX1_enter 10 = .ok (.putfield 31, 3) := by decide +kernel
theorem dX1_enter_13 : decode cX1_enter 13 = .ok (.aload_n 0, 1) := by decide +kernel
theorem dX1_enter_14 : decode cX1_enter 14 = .ok (.getfield 9, 3) := by decide +kernel
theorem dX1_enter_17 : decode cX1_enter 17 = .ok (.iload_n 1, 1) := by decide +kernel
theorem dX1_enter_18 : decode cX1_enter 18 = .ok (.iload_n 2, 1) := by decide +kernel
theorem dX1_enter_19 : decode cX1_enter 19 = .ok (.iastore, 1) := by decide +kernel
theorem dX1_enter_20 : decode cX1_enter 20 = .ok (.aload_n 0, 1) := by decide +kernel
theorem dX1_enter_21 : decode cX1_enter 21 = .ok (.getfield 15, 3) := by decide +kernel
theorem dX1_enter_24 : decode cX1_enter 24 = .ok (.iload_n 1, 1) := by decide +kernel
theorem dX1_enter_25 : decode cX1_enter 25 = .ok (.iload_n 3, 1) := by decide +kernel
theorem dX1_enter_26 : decode cX1_enter 26 = .ok (.iastore, 1) := by decide +kernel
theorem dX1_enter_27 : decode cX1_enter 27 = .ok (.aload_n 0, 1) := by decide +kernel
theorem dX1_enter_28 : decode cX1_enter 28 = .ok (.getfield 18, 3) := by decide +kernel
theorem dX1_enter_31 : decode cX1_enter 31 = .ok (.iload_n 1, 1) := by decide +kernel
theorem dX1_enter_32 : decode cX1_enter 32 = .ok (.iconst 0, 1) := by decide +kernel
theorem dX1_enter_33 : decode cX1_enter 33 = .ok (.iconst 0, 1) := by decide +kernel
theorem dX1_enter_34 : decode cX1_enter 34 = .ok (.invokestatic 49, 3) := by decide +kernel
theorem dX1_enter_37 : decode cX1_enter 37 = .ok (.iload_n 1, 1) := by decide +kernel
theorem dX1_enter_38 : decode cX1_enter 38 = .ok (.iconst 1, 1) := by decide +kernel
theorem dX1_enter_39 : decode cX1_enter 39 = .ok (.iadd, 1) := by decide +kernel
theorem dX1_enter_40 : decode cX1_enter 40 = .ok (.iconst 0, 1) := by decide +kernel
theorem dX1_enter_41 : decode cX1_enter 41 = .ok (.iconst 0, 1) := by decide +kernel
theorem dX1_enter_42 : decode cX1_enter 42 = .ok (.invokestatic 49, 3) := by decide +kernel
theorem dX1_enter_45 : decode cX1_enter 45 = .ok (.iconst (-1), 1) := by decide +kernel
theorem dX1_enter_46 : decode cX1_enter 46 = .ok (.invokestatic 53, 3) := by decide +kernel
theorem dX1_enter_49 : decode cX1_enter 49 = .ok (.return_, 1) := by decide +kernel
set_option maxRecDepth 20000 in
theorem ggX1_drop_X8_only : GoodIn wsX1_drop wsX8_only := goodIn_r _ [5] (by decide +kernel) (by decide +kernel)
set_option maxRecDepth 20000 in
theorem gX1_drop_X8_only_n45 : GoodIn wsX1_drop (wsX8_only) := ggX1_drop_X8_only
theorem dX1_drop_0 : decode cX1_drop 0 = .ok (.aload_n 0, 1) := by decide +kernel
theorem dX1_drop_1 : decode cX1_drop 1 = .ok (.dup, 1) := by decide +kernel
theorem dX1_drop_2 : decode cX1_drop 2 = .ok (.getfield 31, 3) := by decide +kernel
theorem dX1_drop_5 : decode cX1_drop 5 = .ok (.iload_n 1, 1) := by decide +kernel
theorem dX1_drop_6 : decode cX1_drop 6 = .ok (.invokestatic 45, 3) := by decide +kernel
theorem dX1_drop_9 : decode cX1_drop 9 = .ok (.ldc2_w 59, 3) := by decide +kernel
theorem dX1_drop_12 : decode cX1_drop 12 = .ok (.lxor, 1) := by decide +kernel
theorem dX1_drop_13 : decode cX1_drop 13 = .ok (.land, 1) := by decide +kernel
theorem dX1_drop_14 : decode cX1_drop 14 = .ok (.putfield 31, 3) := by decide +kernel
theorem dX1_drop_17 : decode cX1_drop 17 = .ok (.return_, 1) := by decide +kernel
theorem dX1_digest_0 : decode cX1_digest 0 = .ok (.aload_n 0, 1) := by decide +kernel
theorem dX1_digest_1 : decode cX1_digest 1 = .ok (.getfield 9, 3) := by decide +kernel
theorem dX1_digest_4 : decode cX1_digest 4 = .ok (.iload_n 1, 1) := by decide +kernel
theorem dX1_digest_5 : decode cX1_digest 5 = .ok (.iaload, 1) := by decide +kernel
theorem dX1_digest_6 : decode cX1_digest 6 = .ok (.ireturn, 1) := by decide +kernel
theorem dX1_changeDigest_0 : decode cX1_changeDigest 0 = .ok (.aload_n 0, 1) := by decide +kernel
theorem dX1_changeDigest_1 : decode cX1_changeDigest 1 = .ok (.getfield 9, 3) := by decide +kernel
theorem dX1_changeDigest_4 : decode cX1_changeDigest 4 = .ok (.iload_n 1, 1) := by decide +kernel
theorem dX1_changeDigest_5 : decode cX1_changeDigest 5 = .ok (.iload_n 2, 1) := by decide +kernel
theorem dX1_changeDigest_6 : decode cX1_changeDigest 6 = .ok (.iastore, 1) := by decide +kernel
theorem dX1_changeDigest_7 : decode cX1_changeDigest 7 = .ok (.return_, 1) := by decide +kernel
theorem dX1_bytes_0 : decode cX1_bytes 0 = .ok (.aload_n 0, 1) := by decide +kernel
theorem dX1_bytes_1 : decode cX1_bytes 1 = .ok (.getfield 15, 3) := by decide +kernel
theorem dX1_bytes_4 : decode cX1_bytes 4 = .ok (.iload_n 1, 1) := by decide +kernel
theorem dX1_bytes_5 : decode cX1_bytes 5 = .ok (.iaload, 1) := by decide +kernel
theorem dX1_bytes_6 : decode cX1_bytes 6 = .ok (.ireturn, 1) := by decide +kernel
set_option maxRecDepth 20000 in
theorem ggX1_told_X1_slot : GoodIn wsX1_told wsX1_slot := goodIn_r _ [5] (by decide +kernel) (by decide +kernel)
set_option maxRecDepth 20000 in
theorem gX1_told_X1_slot : GoodIn wsX1_told (va_wsS RX1 49 yX1_slot wsX1_slot) := goodIn_app (goodIn_of _ (by decide +kernel)) ggX1_told_X1_slot
theorem dX1_told_0 : decode cX1_told 0 = .ok (.aload_n 0, 1) := by decide +kernel
theorem dX1_told_1 : decode cX1_told 1 = .ok (.getfield 18, 3) := by decide +kernel
theorem dX1_told_4 : decode cX1_told 4 = .ok (.iload_n 1, 1) := by decide +kernel
theorem dX1_told_5 : decode cX1_told 5 = .ok (.iload_n 2, 1) := by decide +kernel
theorem dX1_told_6 : decode cX1_told 6 = .ok (.iload_n 3, 1) := by decide +kernel
theorem dX1_told_7 : decode cX1_told 7 = .ok (.invokestatic 49, 3) := by decide +kernel
theorem dX1_told_10 : decode cX1_told 10 = .ok (.iaload, 1) := by decide +kernel
theorem dX1_told_11 : decode cX1_told 11 = .ok (.ireturn, 1) := by decide +kernel
set_option maxRecDepth 20000 in
theorem ggX1_tell_X1_slot : GoodIn wsX1_tell wsX1_slot := goodIn_r _ [5] (by decide +kernel) (by decide +kernel)
set_option maxRecDepth 20000 in
theorem gX1_tell_X1_slot : GoodIn wsX1_tell (va_wsS RX1 49 yX1_slot wsX1_slot) := goodIn_app (goodIn_of _ (by decide +kernel)) ggX1_tell_X1_slot
theorem dX1_tell_0 : decode cX1_tell 0 = .ok (.aload_n 0, 1) := by decide +kernel
theorem dX1_tell_1 : decode cX1_tell 1 = .ok (.getfield 18, 3) := by decide +kernel
theorem dX1_tell_4 : decode cX1_tell 4 = .ok (.iload_n 1, 1) := by decide +kernel
theorem dX1_tell_5 : decode cX1_tell 5 = .ok (.iload_n 2, 1) := by decide +kernel
theorem dX1_tell_6 : decode cX1_tell 6 = .ok (.iload_n 3, 1) := by decide +kernel
theorem dX1_tell_7 : decode cX1_tell 7 = .ok (.invokestatic 49, 3) := by decide +kernel
theorem dX1_tell_10 : decode cX1_tell 10 = .ok (.iload 4, 2) := by decide +kernel
theorem dX1_tell_12 : decode cX1_tell 12 = .ok (.iastore, 1) := by decide +kernel
theorem dX1_tell_13 : decode cX1_tell 13 = .ok (.return_, 1) := by decide +kernel
set_option maxRecDepth 20000 in
theorem ggX1_firstTeller_X1_told : GoodIn wsX1_firstTeller wsX1_told := goodIn_r _ [6, 7, 8, 9, 5, 10, 11, 12, 13, 14, 15, 16] (by decide +kernel) (by decide +kernel)
set_option maxRecDepth 20000 in
theorem gX1_firstTeller_X1_told : GoodIn wsX1_firstTeller (wsV RX1 61 RX1 yX1_told wsX1_told) := goodIn_app (goodIn_of _ (by decide +kernel)) ggX1_firstTeller_X1_told
theorem dX1_firstTeller_0 : decode cX1_firstTeller 0 = .ok (.iconst 0, 1) := by decide +kernel
theorem dX1_firstTeller_1 : decode cX1_firstTeller 1 = .ok (.istore_n 3, 1) := by decide +kernel
theorem dX1_firstTeller_2 : decode cX1_firstTeller 2 = .ok (.iload_n 3, 1) := by decide +kernel
theorem dX1_firstTeller_3 : decode cX1_firstTeller 3 = .ok (.iconst 3, 1) := by decide +kernel
theorem dX1_firstTeller_4 : decode cX1_firstTeller 4 = .ok (.if_icmp .ge 32, 3) := by decide +kernel
theorem dX1_firstTeller_7 : decode cX1_firstTeller 7 = .ok (.aload_n 0, 1) := by decide +kernel
theorem dX1_firstTeller_8 : decode cX1_firstTeller 8 = .ok (.iload_n 1, 1) := by decide +kernel
theorem dX1_firstTeller_9 : decode cX1_firstTeller 9 = .ok (.aload_n 0, 1) := by decide +kernel
theorem dX1_firstTeller_10 : decode cX1_firstTeller 10 = .ok (.getfield 24, 3) := by decide +kernel
theorem dX1_firstTeller_13 : decode cX1_firstTeller 13 = .ok (.iload_n 3, 1) := by decide +kernel
theorem dX1_firstTeller_14 : decode cX1_firstTeller 14 = .ok (.iaload, 1) := by decide +kernel
theorem dX1_firstTeller_15 : decode cX1_firstTeller 15 = .ok (.iload_n 2, 1) := by decide +kernel
theorem dX1_firstTeller_16 : decode cX1_firstTeller 16 = .ok (.invokevirtual 61, 3) := by decide +kernel
theorem dX1_firstTeller_19 : decode cX1_firstTeller 19 = .ok (.iconst (-1), 1) := by decide +kernel
theorem dX1_firstTeller_20 : decode cX1_firstTeller 20 = .ok (.if_icmp .eq 10, 3) := by decide +kernel
theorem dX1_firstTeller_23 : decode cX1_firstTeller 23 = .ok (.aload_n 0, 1) := by decide +kernel
theorem dX1_firstTeller_24 : decode cX1_firstTeller 24 = .ok (.getfield 24, 3) := by decide +kernel
theorem dX1_firstTeller_27 : decode cX1_firstTeller 27 = .ok (.iload_n 3, 1) := by decide +kernel
theorem dX1_firstTeller_28 : decode cX1_firstTeller 28 = .ok (.iaload, 1) := by decide +kernel
theorem dX1_firstTeller_29 : decode cX1_firstTeller 29 = .ok (.ireturn, 1) := by decide +kernel
theorem dX1_firstTeller_30 : decode cX1_firstTeller 30 = .ok (.iinc 3 1, 3) := by decide +kernel
theorem dX1_firstTeller_33 : decode cX1_firstTeller 33 = .ok (.goto (-31), 3) := by decide +kernel
theorem dX1_firstTeller_36 : decode cX1_firstTeller 36 = .ok (.iconst (-1), 1) := by decide +kernel
theorem dX1_firstTeller_37 : decode cX1_firstTeller 37 = .ok (.ireturn, 1) := by decide +kernel
theorem dX1_settledValue_0 : decode cX1_settledValue 0 = .ok (.aload_n 0, 1) := by decide +kernel
theorem dX1_settledValue_1 : decode cX1_settledValue 1 = .ok (.getfield 21, 3) := by decide +kernel
theorem dX1_settledValue_4 : decode cX1_settledValue 4 = .ok (.iload_n 1, 1) := by decide +kernel
theorem dX1_settledValue_5 : decode cX1_settledValue 5 = .ok (.bipush 6, 2) := by decide +kernel
theorem dX1_settledValue_7 : decode cX1_settledValue 7 = .ok (.imul, 1) := by decide +kernel
theorem dX1_settledValue_8 : decode cX1_settledValue 8 = .ok (.iload_n 2, 1) := by decide +kernel
theorem dX1_settledValue_9 : decode cX1_settledValue 9 = .ok (.iadd, 1) := by decide +kernel
theorem dX1_settledValue_10 : decode cX1_settledValue 10 = .ok (.iaload, 1) := by decide +kernel
theorem dX1_settledValue_11 : decode cX1_settledValue 11 = .ok (.ireturn, 1) := by decide +kernel
set_option maxRecDepth 20000 in
theorem ggX1_settleValues_X8_holds : GoodIn wsX1_settleValues wsX8_holds := goodIn_r _ [4] (by decide +kernel) (by decide +kernel)
set_option maxRecDepth 20000 in
theorem gX1_settleValues_X8_holds_n35 : GoodIn wsX1_settleValues (wsX8_holds) := ggX1_settleValues_X8_holds
set_option maxRecDepth 20000 in
theorem ggX1_settleValues_X1_settleFile : GoodIn wsX1_settleValues wsX1_settleFile := goodIn_r _ [9, 10, 11, 12, 13, 14, 15, 16, 17, 8, 18, 19, 20, 21, 22, 23, 24, 25, 26, 27, 28, 29, 30, 31, 32, 33] (by decide +kernel) (by decide +kernel)
set_option maxRecDepth 20000 in
theorem gX1_settleValues_X1_settleFile : GoodIn wsX1_settleValues (wsV RX1 64 RX1 yX1_settleFile wsX1_settleFile) := goodIn_app (goodIn_of _ (by decide +kernel)) ggX1_settleValues_X1_settleFile
theorem dX1_settleValues_0 : decode cX1_settleValues 0 = .ok (.iconst 0, 1) := by decide +kernel
theorem dX1_settleValues_1 : decode cX1_settleValues 1 = .ok (.istore_n 1, 1) := by decide +kernel
theorem dX1_settleValues_2 : decode cX1_settleValues 2 = .ok (.iload_n 1, 1) := by decide +kernel
theorem dX1_settleValues_3 : decode cX1_settleValues 3 = .ok (.bipush 40, 2) := by decide +kernel
theorem dX1_settleValues_5 : decode cX1_settleValues 5 = .ok (.if_icmp .ge 25, 3) := by decide +kernel
theorem dX1_settleValues_8 : decode cX1_settleValues 8 = .ok (.aload_n 0, 1) := by decide +kernel
theorem dX1_settleValues_9 : decode cX1_settleValues 9 = .ok (.getfield 31, 3) := by decide +kernel
theorem dX1_settleValues_12 : decode cX1_settleValues 12 = .ok (.iload_n 1, 1) := by decide +kernel
theorem dX1_settleValues_13 : decode cX1_settleValues 13 = .ok (.invokestatic 35, 3) := by decide +kernel
theorem dX1_settleValues_16 : decode cX1_settleValues 16 = .ok (.ifCond .eq 8, 3) := by decide +kernel
theorem dX1_settleValues_19 : decode cX1_settleValues 19 = .ok (.aload_n 0, 1) := by decide +kernel
theorem dX1_settleValues_20 : decode cX1_settleValues 20 = .ok (.iload_n 1, 1) := by decide +kernel
theorem dX1_settleValues_21 : decode cX1_settleValues 21 = .ok (.invokevirtual 64, 3) := by decide +kernel
theorem dX1_settleValues_24 : decode cX1_settleValues 24 = .ok (.iinc 1 1, 3) := by decide +kernel
theorem dX1_settleValues_27 : decode cX1_settleValues 27 = .ok (.goto (-25), 3) := by decide +kernel
theorem dX1_settleValues_30 : decode cX1_settleValues 30 = .ok (.return_, 1) := by decide +kernel
set_option maxRecDepth 20000 in
theorem ggX1_settleFile_X1_firstTeller : GoodIn wsX1_settleFile wsX1_firstTeller := goodIn_r _ [10, 11, 12, 13, 14, 9, 15, 16, 17, 18, 19, 20, 21, 22, 23, 24, 25] (by decide +kernel) (by decide +kernel)
set_option maxRecDepth 20000 in
theorem gX1_settleFile_X1_firstTeller : GoodIn wsX1_settleFile (wsV RX1 68 RX1 yX1_firstTeller wsX1_firstTeller) := goodIn_app (goodIn_of _ (by decide +kernel)) ggX1_settleFile_X1_firstTeller
set_option maxRecDepth 20000 in
theorem ggX1_settleFile_X1_told : GoodIn wsX1_settleFile wsX1_told := goodIn_r _ [15, 16, 17, 18, 9, 19, 20, 21, 22, 23, 24, 25] (by decide +kernel) (by decide +kernel)
set_option maxRecDepth 20000 in
theorem gX1_settleFile_X1_told : GoodIn wsX1_settleFile (wsV RX1 61 RX1 yX1_told wsX1_told) := goodIn_app (goodIn_of _ (by decide +kernel)) ggX1_settleFile_X1_told
theorem dX1_settleFile_0 : decode cX1_settleFile 0 = .ok (.iconst 0, 1) := by decide +kernel
theorem dX1_settleFile_1 : decode cX1_settleFile 1 = .ok (.istore_n 2, 1) := by decide +kernel
theorem dX1_settleFile_2 : decode cX1_settleFile 2 = .ok (.iload_n 2, 1) := by decide +kernel
theorem dX1_settleFile_3 : decode cX1_settleFile 3 = .ok (.iconst 4, 1) := by decide +kernel
theorem dX1_settleFile_4 : decode cX1_settleFile 4 = .ok (.if_icmp .gt 43, 3) := by decide +kernel
theorem dX1_settleFile_7 : decode cX1_settleFile 7 = .ok (.aload_n 0, 1) := by decide +kernel
theorem dX1_settleFile_8 : decode cX1_settleFile 8 = .ok (.iload_n 1, 1) := by decide +kernel
theorem dX1_settleFile_9 : decode cX1_settleFile 9 = .ok (.iload_n 2, 1) := by decide +kernel
theorem dX1_settleFile_10 : decode cX1_settleFile 10 = .ok (.invokevirtual 68, 3) := by decide +kernel
theorem dX1_settleFile_13 : decode cX1_settleFile 13 = .ok (.istore_n 3, 1) := by decide +kernel
theorem dX1_settleFile_14 : decode cX1_settleFile 14 = .ok (.aload_n 0, 1) := by decide +kernel
theorem dX1_settleFile_15 : decode cX1_settleFile 15 = .ok (.getfield 21, 3) := by decide +kernel
theorem dX1_settleFile_18 : decode cX1_settleFile 18 = .ok (.iload_n 1, 1) := by decide +kernel
theorem dX1_settleFile_19 : decode cX1_settleFile 19 = .ok (.bipush 6, 2) := by decide +kernel
theorem dX1_settleFile_21 : decode cX1_settleFile 21 = .ok (.imul, 1) := by decide +kernel
theorem dX1_settleFile_22 : decode cX1_settleFile 22 = .ok (.iload_n 2, 1) := by decide +kernel
theorem dX1_settleFile_23 : decode cX1_settleFile 23 = .ok (.iadd, 1) := by decide +kernel
theorem dX1_settleFile_24 : decode cX1_settleFile 24 = .ok (.iload_n 3, 1) := by decide +kernel
theorem dX1_settleFile_25 : decode cX1_settleFile 25 = .ok (.iconst (-1), 1) := by decide +kernel
theorem dX1_settleFile_26 : decode cX1_settleFile 26 = .ok (.if_icmp .ne 7, 3) := by decide +kernel
theorem dX1_settleFile_29 : decode cX1_settleFile 29 = .ok (.iconst (-1), 1) := by decide +kernel
theorem dX1_settleFile_30 : decode cX1_settleFile 30 = .ok (.goto 10, 3) := by decide +kernel
theorem dX1_settleFile_33 : decode cX1_settleFile 33 = .ok (.aload_n 0, 1) := by decide +kernel
theorem dX1_settleFile_34 : decode cX1_settleFile 34 = .ok (.iload_n 1, 1) := by decide +kernel
theorem dX1_settleFile_35 : decode cX1_settleFile 35 = .ok (.iload_n 3, 1) := by decide +kernel
theorem dX1_settleFile_36 : decode cX1_settleFile 36 = .ok (.iload_n 2, 1) := by decide +kernel
theorem dX1_settleFile_37 : decode cX1_settleFile 37 = .ok (.invokevirtual 61, 3) := by decide +kernel
theorem dX1_settleFile_40 : decode cX1_settleFile 40 = .ok (.iastore, 1) := by decide +kernel
theorem dX1_settleFile_41 : decode cX1_settleFile 41 = .ok (.iinc 2 1, 3) := by decide +kernel
theorem dX1_settleFile_44 : decode cX1_settleFile 44 = .ok (.goto (-42), 3) := by decide +kernel
theorem dX1_settleFile_47 : decode cX1_settleFile 47 = .ok (.iconst 0, 1) := by decide +kernel
theorem dX1_settleFile_48 : decode cX1_settleFile 48 = .ok (.istore_n 2, 1) := by decide +kernel
theorem dX1_settleFile_49 : decode cX1_settleFile 49 = .ok (.iconst 0, 1) := by decide +kernel
theorem dX1_settleFile_50 : decode cX1_settleFile 50 = .ok (.istore_n 3, 1) := by decide +kernel
theorem dX1_settleFile_51 : decode cX1_settleFile 51 = .ok (.iload_n 3, 1) := by decide +kernel
theorem dX1_settleFile_52 : decode cX1_settleFile 52 = .ok (.iconst 3, 1) := by decide +kernel
theorem dX1_settleFile_53 : decode cX1_settleFile 53 = .ok (.if_icmp .ge 23, 3) := by decide +kernel
theorem dX1_settleFile_56 : decode cX1_settleFile 56 = .ok (.iload_n 2, 1) := by decide +kernel
theorem dX1_settleFile_57 : decode cX1_settleFile 57 = .ok (.aload_n 0, 1) := by decide +kernel
theorem dX1_settleFile_58 : decode cX1_settleFile 58 = .ok (.iload_n 1, 1) := by decide +kernel
theorem dX1_settleFile_59 : decode cX1_settleFile 59 = .ok (.iload_n 3, 1) := by decide +kernel
theorem dX1_settleFile_60 : decode cX1_settleFile 60 = .ok (.iconst 5, 1) := by decide +kernel
theorem dX1_settleFile_61 : decode cX1_settleFile 61 = .ok (.invokevirtual 61, 3) := by decide +kernel
theorem dX1_settleFile_64 : decode cX1_settleFile 64 = .ok (.iconst 0, 1) := by decide +kernel
theorem dX1_settleFile_65 : decode cX1_settleFile 65 = .ok (.invokestatic 72, 3) := by decide +kernel
theorem dX1_settleFile_68 : decode cX1_settleFile 68 = .ok (.ior, 1) := by decide +kernel
theorem dX1_settleFile_69 : decode cX1_settleFile 69 = .ok (.istore_n 2, 1) := by decide +kernel
theorem dX1_settleFile_70 : decode cX1_settleFile 70 = .ok (.iinc 3 1, 3) := by decide +kernel
theorem dX1_settleFile_73 : decode cX1_settleFile 73 = .ok (.goto (-22), 3) := by decide +kernel
theorem dX1_settleFile_76 : decode cX1_settleFile 76 = .ok (.aload_n 0, 1) := by decide +kernel
theorem dX1_settleFile_77 : decode cX1_settleFile 77 = .ok (.getfield 21, 3) := by decide +kernel
theorem dX1_settleFile_80 : decode cX1_settleFile 80 = .ok (.iload_n 1, 1) := by decide +kernel
theorem dX1_settleFile_81 : decode cX1_settleFile 81 = .ok (.bipush 6, 2) := by decide +kernel
theorem dX1_settleFile_83 : decode cX1_settleFile 83 = .ok (.imul, 1) := by decide +kernel
theorem dX1_settleFile_84 : decode cX1_settleFile 84 = .ok (.iconst 5, 1) := by decide +kernel
theorem dX1_settleFile_85 : decode cX1_settleFile 85 = .ok (.iadd, 1) := by decide +kernel
theorem dX1_settleFile_86 : decode cX1_settleFile 86 = .ok (.iload_n 2, 1) := by decide +kernel
theorem dX1_settleFile_87 : decode cX1_settleFile 87 = .ok (.iastore, 1) := by decide +kernel
theorem dX1_settleFile_88 : decode cX1_settleFile 88 = .ok (.return_, 1) := by decide +kernel
theorem dX1_orderCode_0 : decode cX1_orderCode 0 = .ok (.bipush 100, 2) := by decide +kernel
theorem dX1_orderCode_2 : decode cX1_orderCode 2 = .ok (.aload_n 0, 1) := by decide +kernel
theorem dX1_orderCode_3 : decode cX1_orderCode 3 = .ok (.getfield 24, 3) := by decide +kernel
theorem dX1_orderCode_6 : decode cX1_orderCode 6 = .ok (.iconst 0, 1) := by decide +kernel
theorem dX1_orderCode_7 : decode cX1_orderCode 7 = .ok (.iaload, 1) := by decide +kernel
theorem dX1_orderCode_8 : decode cX1_orderCode 8 = .ok (.imul, 1) := by decide +kernel
theorem dX1_orderCode_9 : decode cX1_orderCode 9 = .ok (.bipush 10, 2) := by decide +kernel
theorem dX1_orderCode_11 : decode cX1_orderCode 11 = .ok (.aload_n 0, 1) := by decide +kernel
theorem dX1_orderCode_12 : decode cX1_orderCode 12 = .ok (.getfield 24, 3) := by decide +kernel
theorem dX1_orderCode_15 : decode cX1_orderCode 15 = .ok (.iconst 1, 1) := by decide +kernel
theorem dX1_orderCode_16 : decode cX1_orderCode 16 = .ok (.iaload, 1) := by decide +kernel
theorem dX1_orderCode_17 : decode cX1_orderCode 17 = .ok (.imul, 1) := by decide +kernel
theorem dX1_orderCode_18 : decode cX1_orderCode 18 = .ok (.iadd, 1) := by decide +kernel
theorem dX1_orderCode_19 : decode cX1_orderCode 19 = .ok (.aload_n 0, 1) := by decide +kernel
theorem dX1_orderCode_20 : decode cX1_orderCode 20 = .ok (.getfield 24, 3) := by decide +kernel
theorem dX1_orderCode_23 : decode cX1_orderCode 23 = .ok (.iconst 2, 1) := by decide +kernel
theorem dX1_orderCode_24 : decode cX1_orderCode 24 = .ok (.iaload, 1) := by decide +kernel
theorem dX1_orderCode_25 : decode cX1_orderCode 25 = .ok (.iadd, 1) := by decide +kernel
theorem dX1_orderCode_26 : decode cX1_orderCode 26 = .ok (.ireturn, 1) := by decide +kernel
theorem dX1_reorder_0 : decode cX1_reorder 0 = .ok (.aload_n 0, 1) := by decide +kernel
theorem dX1_reorder_1 : decode cX1_reorder 1 = .ok (.getfield 24, 3) := by decide +kernel
theorem dX1_reorder_4 : decode cX1_reorder 4 = .ok (.iconst 0, 1) := by decide +kernel
theorem dX1_reorder_5 : decode cX1_reorder 5 = .ok (.iload_n 1, 1) := by decide +kernel
theorem dX1_reorder_6 : decode cX1_reorder 6 = .ok (.iastore, 1) := by decide +kernel
theorem dX1_reorder_7 : decode cX1_reorder 7 = .ok (.aload_n 0, 1) := by decide +kernel
theorem dX1_reorder_8 : decode cX1_reorder 8 = .ok (.getfield 24, 3) := by decide +kernel
theorem dX1_reorder_11 : decode cX1_reorder 11 = .ok (.iconst 1, 1) := by decide +kernel
theorem dX1_reorder_12 : decode cX1_reorder 12 = .ok (.iload_n 2, 1) := by decide +kernel
theorem dX1_reorder_13 : decode cX1_reorder 13 = .ok (.iastore, 1) := by decide +kernel
theorem dX1_reorder_14 : decode cX1_reorder 14 = .ok (.aload_n 0, 1) := by decide +kernel
theorem dX1_reorder_15 : decode cX1_reorder 15 = .ok (.getfield 24, 3) := by decide +kernel
theorem dX1_reorder_18 : decode cX1_reorder 18 = .ok (.iconst 2, 1) := by decide +kernel
theorem dX1_reorder_19 : decode cX1_reorder 19 = .ok (.iload_n 3, 1) := by decide +kernel
theorem dX1_reorder_20 : decode cX1_reorder 20 = .ok (.iastore, 1) := by decide +kernel
theorem dX1_reorder_21 : decode cX1_reorder 21 = .ok (.return_, 1) := by decide +kernel
set_option maxRecDepth 20000 in
theorem ggX1_alike_X8_holds : GoodIn wsX1_alike wsX8_holds := goodIn_r _ [5] (by decide +kernel) (by decide +kernel)
set_option maxRecDepth 20000 in
theorem gX1_alike_X8_holds_n35 : GoodIn wsX1_alike (wsX8_holds) := ggX1_alike_X8_holds
set_option maxRecDepth 20000 in
theorem ggX1_alike_X8_only : GoodIn wsX1_alike wsX8_only := goodIn_r _ [7] (by decide +kernel) (by decide +kernel)
set_option maxRecDepth 20000 in
theorem gX1_alike_X8_only_n45 : GoodIn wsX1_alike (wsX8_only) := ggX1_alike_X8_only
theorem dX1_alike_0 : decode cX1_alike 0 = .ok (.lconst 0, 1) := by decide +kernel
theorem dX1_alike_1 : decode cX1_alike 1 = .ok (.lstore_n 2, 1) := by decide +kernel
theorem dX1_alike_2 : decode cX1_alike 2 = .ok (.iconst 0, 1) := by decide +kernel
theorem dX1_alike_3 : decode cX1_alike 3 = .ok (.istore 4, 2) := by decide +kernel
theorem dX1_alike_5 : decode cX1_alike 5 = .ok (.iload 4, 2) := by decide +kernel
theorem dX1_alike_7 : decode cX1_alike 7 = .ok (.bipush 40, 2) := by decide +kernel
theorem dX1_alike_9 : decode cX1_alike 9 = .ok (.if_icmp .ge 45, 3) := by decide +kernel
theorem dX1_alike_12 : decode cX1_alike 12 = .ok (.aload_n 0, 1) := by decide +kernel
theorem dX1_alike_13 : decode cX1_alike 13 = .ok (.getfield 31, 3) := by decide +kernel
theorem dX1_alike_16 : decode cX1_alike 16 = .ok (.iload 4, 2) := by decide +kernel
theorem dX1_alike_18 : decode cX1_alike 18 = .ok (.invokestatic 35, 3) := by decide +kernel
theorem dX1_alike_21 : decode cX1_alike 21 = .ok (.ifCond .eq 27, 3) := by decide +kernel
theorem dX1_alike_24 : decode cX1_alike 24 = .ok (.aload_n 0, 1) := by decide +kernel
theorem dX1_alike_25 : decode cX1_alike 25 = .ok (.getfield 9, 3) := by decide +kernel
theorem dX1_alike_28 : decode cX1_alike 28 = .ok (.iload 4, 2) := by decide +kernel
theorem dX1_alike_30 : decode cX1_alike 30 = .ok (.iaload, 1) := by decide +kernel
theorem dX1_alike_31 : decode cX1_alike 31 = .ok (.aload_n 0, 1) := by decide +kernel
theorem dX1_alike_32 : decode cX1_alike 32 = .ok (.getfield 9, 3) := by decide +kernel
theorem dX1_alike_35 : decode cX1_alike 35 = .ok (.iload_n 1, 1) := by decide +kernel
theorem dX1_alike_36 : decode cX1_alike 36 = .ok (.iaload, 1) := by decide +kernel
theorem dX1_alike_37 : decode cX1_alike 37 = .ok (.if_icmp .ne 11, 3) := by decide +kernel
theorem dX1_alike_40 : decode cX1_alike 40 = .ok (.lload_n 2, 1) := by decide +kernel
theorem dX1_alike_41 : decode cX1_alike 41 = .ok (.iload 4, 2) := by decide +kernel
theorem dX1_alike_43 : decode cX1_alike 43 = .ok (.invokestatic 45, 3) := by decide +kernel
theorem dX1_alike_46 : decode cX1_alike 46 = .ok (.lor, 1) := by decide +kernel
theorem dX1_alike_47 : decode cX1_alike 47 = .ok (.lstore_n 2, 1) := by decide +kernel
theorem dX1_alike_48 : decode cX1_alike 48 = .ok (.iinc 4 1, 3) := by decide +kernel
theorem dX1_alike_51 : decode cX1_alike 51 = .ok (.goto (-46), 3) := by decide +kernel
theorem dX1_alike_54 : decode cX1_alike 54 = .ok (.lload_n 2, 1) := by decide +kernel
theorem dX1_alike_55 : decode cX1_alike 55 = .ok (.lreturn, 1) := by decide +kernel
set_option maxRecDepth 20000 in
theorem ggX1_sumOfSizes_X8_holds : GoodIn wsX1_sumOfSizes wsX8_holds := goodIn_r _ [4] (by decide +kernel) (by decide +kernel)
set_option maxRecDepth 20000 in
theorem gX1_sumOfSizes_X8_holds_n35 : GoodIn wsX1_sumOfSizes (wsX8_holds) := ggX1_sumOfSizes_X8_holds
theorem dX1_sumOfSizes_0 : decode cX1_sumOfSizes 0 = .ok (.iconst 0, 1) := by decide +kernel
theorem dX1_sumOfSizes_1 : decode cX1_sumOfSizes 1 = .ok (.istore_n 3, 1) := by decide +kernel
theorem dX1_sumOfSizes_2 : decode cX1_sumOfSizes 2 = .ok (.iconst 0, 1) := by decide +kernel
theorem dX1_sumOfSizes_3 : decode cX1_sumOfSizes 3 = .ok (.istore 4, 2) := by decide +kernel
theorem dX1_sumOfSizes_5 : decode cX1_sumOfSizes 5 = .ok (.iload 4, 2) := by decide +kernel
theorem dX1_sumOfSizes_7 : decode cX1_sumOfSizes 7 = .ok (.bipush 40, 2) := by decide +kernel
theorem dX1_sumOfSizes_9 : decode cX1_sumOfSizes 9 = .ok (.if_icmp .ge 28, 3) := by decide +kernel
theorem dX1_sumOfSizes_12 : decode cX1_sumOfSizes 12 = .ok (.lload_n 1, 1) := by decide +kernel
theorem dX1_sumOfSizes_13 : decode cX1_sumOfSizes 13 = .ok (.iload 4, 2) := by decide +kernel
theorem dX1_sumOfSizes_15 : decode cX1_sumOfSizes 15 = .ok (.invokestatic 35, 3) := by decide +kernel
theorem dX1_sumOfSizes_18 : decode cX1_sumOfSizes 18 = .ok (.ifCond .eq 13, 3) := by decide +kernel
theorem dX1_sumOfSizes_21 : decode cX1_sumOfSizes 21 = .ok (.iload_n 3, 1) := by decide +kernel
theorem dX1_sumOfSizes_22 : decode cX1_sumOfSizes 22 = .ok (.aload_n 0, 1) := by decide +kernel
theorem dX1_sumOfSizes_23 : decode cX1_sumOfSizes 23 = .ok (.getfield 15, 3) := by decide +kernel
theorem dX1_sumOfSizes_26 : decode cX1_sumOfSizes 26 = .ok (.iload 4, 2) := by decide +kernel
theorem dX1_sumOfSizes_28 : decode cX1_sumOfSizes 28 = .ok (.iaload, 1) := by decide +kernel
theorem dX1_sumOfSizes_29 : decode cX1_sumOfSizes 29 = .ok (.iadd, 1) := by decide +kernel
theorem dX1_sumOfSizes_30 : decode cX1_sumOfSizes 30 = .ok (.istore_n 3, 1) := by decide +kernel
theorem dX1_sumOfSizes_31 : decode cX1_sumOfSizes 31 = .ok (.iinc 4 1, 3) := by decide +kernel
theorem dX1_sumOfSizes_34 : decode cX1_sumOfSizes 34 = .ok (.goto (-29), 3) := by decide +kernel
theorem dX1_sumOfSizes_37 : decode cX1_sumOfSizes 37 = .ok (.iload_n 3, 1) := by decide +kernel
theorem dX1_sumOfSizes_38 : decode cX1_sumOfSizes 38 = .ok (.ireturn, 1) := by decide +kernel
set_option maxRecDepth 20000 in
theorem ggX1_absorb_X8_holds : GoodIn wsX1_absorb wsX8_holds := goodIn_r _ [3] (by decide +kernel) (by decide +kernel)
set_option maxRecDepth 20000 in
theorem gX1_absorb_X8_holds_n35 : GoodIn wsX1_absorb (wsX8_holds) := ggX1_absorb_X8_holds
set_option maxRecDepth 20000 in
theorem ggX1_absorb_X1_absorbOne : GoodIn wsX1_absorb wsX1_absorbOne := goodIn_r _ [8, 9, 10, 11, 7, 12, 13, 14, 15, 16, 17, 18, 19, 20, 21, 22, 23, 24, 25, 26, 27, 28, 29] (by decide +kernel) (by decide +kernel)
set_option maxRecDepth 20000 in
theorem gX1_absorb_X1_absorbOne : GoodIn wsX1_absorb (wsV RX1 77 RX1 yX1_absorbOne wsX1_absorbOne) := goodIn_app (goodIn_of _ (by decide +kernel)) ggX1_absorb_X1_absorbOne
theorem dX1_absorb_0 : decode cX1_absorb 0 = .ok (.iconst 0, 1) := by decide +kernel
theorem dX1_absorb_1 : decode cX1_absorb 1 = .ok (.istore 4, 2) := by decide +kernel
theorem dX1_absorb_3 : decode cX1_absorb 3 = .ok (.iload 4, 2) := by decide +kernel
theorem dX1_absorb_5 : decode cX1_absorb 5 = .ok (.bipush 40, 2) := by decide +kernel
theorem dX1_absorb_7 : decode cX1_absorb 7 = .ok (.if_icmp .ge 25, 3) := by decide +kernel
theorem dX1_absorb_10 : decode cX1_absorb 10 = .ok (.lload_n 2, 1) := by decide +kernel
theorem dX1_absorb_11 : decode cX1_absorb 11 = .ok (.iload 4, 2) := by decide +kernel
theorem dX1_absorb_13 : decode cX1_absorb 13 = .ok (.invokestatic 35, 3) := by decide +kernel
theorem dX1_absorb_16 : decode cX1_absorb 16 = .ok (.ifCond .eq 10, 3) := by decide +kernel
theorem dX1_absorb_19 : decode cX1_absorb 19 = .ok (.aload_n 0, 1) := by decide +kernel
theorem dX1_absorb_20 : decode cX1_absorb 20 = .ok (.iload_n 1, 1) := by decide +kernel
theorem dX1_absorb_21 : decode cX1_absorb 21 = .ok (.iload 4, 2) := by decide +kernel
theorem dX1_absorb_23 : decode cX1_absorb 23 = .ok (.invokevirtual 77, 3) := by decide +kernel
theorem dX1_absorb_26 : decode cX1_absorb 26 = .ok (.iinc 4 1, 3) := by decide +kernel
theorem dX1_absorb_29 : decode cX1_absorb 29 = .ok (.goto (-26), 3) := by decide +kernel
theorem dX1_absorb_32 : decode cX1_absorb 32 = .ok (.return_, 1) := by decide +kernel
set_option maxRecDepth 20000 in
theorem ggX1_absorbOne_X1_told : GoodIn wsX1_absorbOne wsX1_told := goodIn_r _ [5, 6, 7, 8, 4, 9, 17, 18, 19, 20, 21, 22] (by decide +kernel) (by decide +kernel)
set_option maxRecDepth 20000 in
theorem gX1_absorbOne_X1_told : GoodIn wsX1_absorbOne (wsV RX1 61 RX1 yX1_told wsX1_told) := goodIn_app (goodIn_of _ (by decide +kernel)) ggX1_absorbOne_X1_told
set_option maxRecDepth 20000 in
theorem ggX1_absorbOne_X1_tell : GoodIn wsX1_absorbOne wsX1_tell := goodIn_r _ [13, 6, 7, 8, 4, 9, 17, 18, 19, 20, 21, 22] (by decide +kernel) (by decide +kernel)
set_option maxRecDepth 20000 in
theorem gX1_absorbOne_X1_tell : GoodIn wsX1_absorbOne (wsV RX1 81 RX1 yX1_tell wsX1_tell) := goodIn_app (goodIn_of _ (by decide +kernel)) ggX1_absorbOne_X1_tell
set_option maxRecDepth 20000 in
theorem ggX1_absorbOne_X1_union : GoodIn wsX1_absorbOne wsX1_union := goodIn_r _ [16] (by decide +kernel) (by decide +kernel)
set_option maxRecDepth 20000 in
theorem gX1_absorbOne_X1_union : GoodIn wsX1_absorbOne (va_wsS RX1 85 yX1_union wsX1_union) := goodIn_app (goodIn_of _ (by decide +kernel)) ggX1_absorbOne_X1_union
theorem dX1_absorbOne_0 : decode cX1_absorbOne 0 = .ok (.iconst 0, 1) := by decide +kernel
theorem dX1_absorbOne_1 : decode cX1_absorbOne 1 = .ok (.istore_n 3, 1) := by decide +kernel
theorem dX1_absorbOne_2 : decode cX1_absorbOne 2 = .ok (.iload_n 3, 1) := by decide +kernel
theorem dX1_absorbOne_3 : decode cX1_absorbOne 3 = .ok (.iconst 3, 1) := by decide +kernel
theorem dX1_absorbOne_4 : decode cX1_absorbOne 4 = .ok (.if_icmp .ge 76, 3) := by decide +kernel
theorem dX1_absorbOne_7 : decode cX1_absorbOne 7 = .ok (.iconst 0, 1) := by decide +kernel
theorem dX1_absorbOne_8 : decode cX1_absorbOne 8 = .ok (.istore 4, 2) := by decide +kernel
theorem dX1_absorbOne_10 : decode cX1_absorbOne 10 = .ok (.iload 4, 2) := by decide +kernel
theorem dX1_absorbOne_12 : decode cX1_absorbOne 12 = .ok (.iconst 4, 1) := by decide +kernel
theorem dX1_absorbOne_13 : decode cX1_absorbOne 13 = .ok (.if_icmp .gt 37, 3) := by decide +kernel
theorem dX1_absorbOne_16 : decode cX1_absorbOne 16 = .ok (.aload_n 0, 1) := by decide +kernel
theorem dX1_absorbOne_17 : decode cX1_absorbOne 17 = .ok (.iload_n 1, 1) := by decide +kernel
theorem dX1_absorbOne_18 : decode cX1_absorbOne 18 = .ok (.iload_n 3, 1) := by decide +kernel
theorem dX1_absorbOne_19 : decode cX1_absorbOne 19 = .ok (.iload 4, 2) := by decide +kernel
theorem dX1_absorbOne_21 : decode cX1_absorbOne 21 = .ok (.invokevirtual 61, 3) := by decide +kernel
theorem dX1_absorbOne_24 : decode cX1_absorbOne 24 = .ok (.iconst (-1), 1) := by decide +kernel
theorem dX1_absorbOne_25 : decode cX1_absorbOne 25 = .ok (.if_icmp .ne 19, 3) := by decide +kernel
theorem dX1_absorbOne_28 : decode cX1_absorbOne 28 = .ok (.aload_n 0, 1) := by decide +kernel
theorem dX1_absorbOne_29 : decode cX1_absorbOne 29 = .ok (.iload_n 1, 1) := by decide +kernel
theorem dX1_absorbOne_30 : decode cX1_absorbOne 30 = .ok (.iload_n 3, 1) := by decide +kernel
theorem dX1_absorbOne_31 : decode cX1_absorbOne 31 = .ok (.iload 4, 2) := by decide +kernel
theorem dX1_absorbOne_33 : decode cX1_absorbOne 33 = .ok (.aload_n 0, 1) := by decide +kernel
theorem dX1_absorbOne_34 : decode cX1_absorbOne 34 = .ok (.iload_n 2, 1) := by decide +kernel
theorem dX1_absorbOne_35 : decode cX1_absorbOne 35 = .ok (.iload_n 3, 1) := by decide +kernel
theorem dX1_absorbOne_36 : decode cX1_absorbOne 36 = .ok (.iload 4, 2) := by decide +kernel
theorem dX1_absorbOne_38 : decode cX1_absorbOne 38 = .ok (.invokevirtual 61, 3) := by decide +kernel
theorem dX1_absorbOne_41 : decode cX1_absorbOne 41 = .ok (.invokevirtual 81, 3) := by decide +kernel
theorem dX1_absorbOne_44 : decode cX1_absorbOne 44 = .ok (.iinc 4 1, 3) := by decide +kernel
theorem dX1_absorbOne_47 : decode cX1_absorbOne 47 = .ok (.goto (-37), 3) := by decide +kernel
theorem dX1_absorbOne_50 : decode cX1_absorbOne 50 = .ok (.aload_n 0, 1) := by decide +kernel
theorem dX1_absorbOne_51 : decode cX1_absorbOne 51 = .ok (.iload_n 1, 1) := by decide +kernel
theorem dX1_absorbOne_52 : decode cX1_absorbOne 52 = .ok (.iload_n 3, 1) := by decide +kernel
theorem dX1_absorbOne_53 : decode cX1_absorbOne 53 = .ok (.iconst 5, 1) := by decide +kernel
theorem dX1_absorbOne_54 : decode cX1_absorbOne 54 = .ok (.aload_n 0, 1) := by decide +kernel
theorem dX1_absorbOne_55 : decode cX1_absorbOne 55 = .ok (.iload_n 1, 1) := by decide +kernel
theorem dX1_absorbOne_56 : decode cX1_absorbOne 56 = .ok (.iload_n 3, 1) := by decide +kernel
theorem dX1_absorbOne_57 : decode cX1_absorbOne 57 = .ok (.iconst 5, 1) := by decide +kernel
theorem dX1_absorbOne_58 : decode cX1_absorbOne 58 = .ok (.invokevirtual 61, 3) := by decide +kernel
theorem dX1_absorbOne_61 : decode cX1_absorbOne 61 = .ok (.aload_n 0, 1) := by decide +kernel
theorem dX1_absorbOne_62 : decode cX1_absorbOne 62 = .ok (.iload_n 2, 1) := by decide +kernel
theorem dX1_absorbOne_63 : decode cX1_absorbOne 63 = .ok (.iload_n 3, 1) := by decide +kernel
theorem dX1_absorbOne_64 : decode cX1_absorbOne 64 = .ok (.iconst 5, 1) := by decide +kernel
theorem dX1_absorbOne_65 : decode cX1_absorbOne 65 = .ok (.invokevirtual 61, 3) := by decide +kernel
theorem dX1_absorbOne_68 : decode cX1_absorbOne 68 = .ok (.invokestatic 85, 3) := by decide +kernel
theorem dX1_absorbOne_71 : decode cX1_absorbOne 71 = .ok (.invokevirtual 81, 3) := by decide +kernel
theorem dX1_absorbOne_74 : decode cX1_absorbOne 74 = .ok (.iinc 3 1, 3) := by decide +kernel
theorem dX1_absorbOne_77 : decode cX1_absorbOne 77 = .ok (.goto (-75), 3) := by decide +kernel
theorem dX1_absorbOne_80 : decode cX1_absorbOne 80 = .ok (.return_, 1) := by decide +kernel
theorem dX1_union_0 : decode cX1_union 0 = .ok (.iload_n 0, 1) := by decide +kernel
theorem dX1_union_1 : decode cX1_union 1 = .ok (.iconst (-1), 1) := by decide +kernel
theorem dX1_union_2 : decode cX1_union 2 = .ok (.if_icmp .ne 5, 3) := by decide +kernel
theorem dX1_union_5 : decode cX1_union 5 = .ok (.iload_n 1, 1) := by decide +kernel
theorem dX1_union_6 : decode cX1_union 6 = .ok (.ireturn, 1) := by decide +kernel
theorem dX1_union_7 : decode cX1_union 7 = .ok (.iload_n 1, 1) := by decide +kernel
theorem dX1_union_8 : decode cX1_union 8 = .ok (.iconst (-1), 1) := by decide +kernel
theorem dX1_union_9 : decode cX1_union 9 = .ok (.if_icmp .ne 7, 3) := by decide +kernel
theorem dX1_union_12 : decode cX1_union 12 = .ok (.iload_n 0, 1) := by decide +kernel
theorem dX1_union_13 : decode cX1_union 13 = .ok (.goto 6, 3) := by decide +kernel
theorem dX1_union_16 : decode cX1_union 16 = .ok (.iload_n 0, 1) := by decide +kernel
theorem dX1_union_17 : decode cX1_union 17 = .ok (.iload_n 1, 1) := by decide +kernel
theorem dX1_union_18 : decode cX1_union 18 = .ok (.ior, 1) := by decide +kernel
theorem dX1_union_19 : decode cX1_union 19 = .ok (.ireturn, 1) := by decide +kernel
theorem dX1_slot_0 : decode cX1_slot 0 = .ok (.iload_n 0, 1) := by decide +kernel
theorem dX1_slot_1 : decode cX1_slot 1 = .ok (.iconst 3, 1) := by decide +kernel
theorem dX1_slot_2 : decode cX1_slot 2 = .ok (.imul, 1) := by decide +kernel
theorem dX1_slot_3 : decode cX1_slot 3 = .ok (.iload_n 1, 1) := by decide +kernel
theorem dX1_slot_4 : decode cX1_slot 4 = .ok (.iadd, 1) := by decide +kernel
theorem dX1_slot_5 : decode cX1_slot 5 = .ok (.bipush 6, 2) := by decide +kernel
theorem dX1_slot_7 : decode cX1_slot 7 = .ok (.imul, 1) := by decide +kernel
theorem dX1_slot_8 : decode cX1_slot 8 = .ok (.iload_n 2, 1) := by decide +kernel
theorem dX1_slot_9 : decode cX1_slot 9 = .ok (.iadd, 1) := by decide +kernel
theorem dX1_slot_10 : decode cX1_slot 10 = .ok (.ireturn, 1) := by decide +kernel
theorem dX2_init_0 : decode cX2_init 0 = .ok (.aload_n 0, 1) := by decide +kernel
theorem dX2_init_1 : decode cX2_init 1 = .ok (.invokespecial 3, 3) := by decide +kernel
theorem dX2_init_4 : decode cX2_init 4 = .ok (.aload_n 0, 1) := by decide +kernel
theorem dX2_init_5 : decode cX2_init 5 = .ok (.aload_n 1, 1) := by decide +kernel
theorem dX2_init_6 : decode cX2_init 6 = .ok (.putfield 9, 3) := by decide +kernel
theorem dX2_init_9 : decode cX2_init 9 = .ok (.return_, 1) := by decide +kernel
theorem dX2_keepers_0 : decode cX2_keepers 0 = .ok (.aload_n 0, 1) := by decide +kernel
theorem dX2_keepers_1 : decode cX2_keepers 1 = .ok (.getfield 15, 3) := by decide +kernel
theorem dX2_keepers_4 : decode cX2_keepers 4 = .ok (.lreturn, 1) := by decide +kernel
theorem dX2_duplicates_0 : decode cX2_duplicates 0 = .ok (.aload_n 0, 1) := by decide +kernel
theorem dX2_duplicates_1 : decode cX2_duplicates 1 = .ok (.getfield 19, 3) := by decide +kernel
theorem dX2_duplicates_4 : decode cX2_duplicates 4 = .ok (.lreturn, 1) := by decide +kernel
set_option maxRecDepth 20000 in
theorem ggX2_keeper_X1_alike : GoodIn wsX2_keeper wsX1_alike := goodIn_r _ [6, 7, 8, 9, 10, 11, 12, 13, 35, 36, 37, 38, 39, 40] (by decide +kernel) (by decide +kernel)
set_option maxRecDepth 20000 in
theorem gX2_keeper_X1_alike : GoodIn wsX2_keeper (wsV RX2 22 RX1 yX1_alike wsX1_alike) := goodIn_app (goodIn_of _ (by decide +kernel)) ggX2_keeper_X1_alike
set_option maxRecDepth 20000 in
theorem ggX2_keeper_X2_preferred : GoodIn wsX2_keeper wsX2_preferred := goodIn_r _ [18, 9, 10, 11, 19, 20, 21, 17, 22, 1, 23, 24, 25, 5, 26, 27, 28, 29, 30, 31, 32, 33, 34, 35, 36, 37, 38, 39, 40] (by decide +kernel) (by decide +kernel)
set_option maxRecDepth 20000 in
theorem gX2_keeper_X2_preferred : GoodIn wsX2_keeper (wsV RX2 28 RX2 yX2_preferred wsX2_preferred) := goodIn_app (goodIn_of _ (by decide +kernel)) ggX2_keeper_X2_preferred
theorem dX2_keeper_0 : decode cX2_keeper 0 = .ok (.aload_n 0, 1) := by decide +kernel
theorem dX2_keeper_1 : decode cX2_keeper 1 = .ok (.aload_n 0, 1) := by decide +kernel
theorem dX2_keeper_2 : decode cX2_keeper 2 = .ok (.getfield 9, 3) := by decide +kernel
theorem dX2_keeper_5 : decode cX2_keeper 5 = .ok (.iload_n 1, 1) := by decide +kernel
theorem dX2_keeper_6 : decode cX2_keeper 6 = .ok (.invokevirtual 22, 3) := by decide +kernel
theorem dX2_keeper_9 : decode cX2_keeper 9 = .ok (.invokevirtual 28, 3) := by decide +kernel
theorem dX2_keeper_12 : decode cX2_keeper 12 = .ok (.ireturn, 1) := by decide +kernel
set_option maxRecDepth 20000 in
theorem ggX2_regroup_X1_all : GoodIn wsX2_regroup wsX1_all := goodIn_r _ [9, 10, 49, 50, 51, 52, 53, 54] (by decide +kernel) (by decide +kernel)
set_option maxRecDepth 20000 in
theorem gX2_regroup_X1_all : GoodIn wsX2_regroup (wsV RX2 32 RX1 yX1_all wsX1_all) := goodIn_app (goodIn_of _ (by decide +kernel)) ggX2_regroup_X1_all
set_option maxRecDepth 20000 in
theorem ggX2_regroup_X8_holds : GoodIn wsX2_regroup wsX8_holds := goodIn_r _ [13] (by decide +kernel) (by decide +kernel)
set_option maxRecDepth 20000 in
theorem gX2_regroup_X8_holds_n36 : GoodIn wsX2_regroup (wsX8_holds) := ggX2_regroup_X8_holds
set_option maxRecDepth 20000 in
theorem ggX2_regroup_X1_alike : GoodIn wsX2_regroup wsX1_alike := goodIn_r _ [17, 10, 18, 11, 12, 13, 19, 20, 49, 50, 51, 52, 53, 54] (by decide +kernel) (by decide +kernel)
set_option maxRecDepth 20000 in
theorem gX2_regroup_X1_alike : GoodIn wsX2_regroup (wsV RX2 22 RX1 yX1_alike wsX1_alike) := goodIn_app (goodIn_of _ (by decide +kernel)) ggX2_regroup_X1_alike
set_option maxRecDepth 20000 in
theorem ggX2_regroup_X2_preferred : GoodIn wsX2_regroup wsX2_preferred := goodIn_r _ [25, 11, 12, 13, 26, 27, 28, 24, 29, 3, 30, 31, 32, 8, 33, 34, 35, 36, 37, 38, 46, 47, 48, 49, 50, 51, 52, 53, 54] (by decide +kernel) (by decide +kernel)
set_option maxRecDepth 20000 in
theorem gX2_regroup_X2_preferred : GoodIn wsX2_regroup (wsV RX2 28 RX2 yX2_preferred wsX2_preferred) := goodIn_app (goodIn_of _ (by decide +kernel)) ggX2_regroup_X2_preferred
set_option maxRecDepth 20000 in
theorem ggX2_regroup_X8_only : GoodIn wsX2_regroup wsX8_only := goodIn_r _ [20] (by decide +kernel) (by decide +kernel)
set_option maxRecDepth 20000 in
theorem gX2_regroup_X8_only_n40 : GoodIn wsX2_regroup (wsX8_only) := ggX2_regroup_X8_only
set_option maxRecDepth 20000 in
theorem ggX2_regroup_J13_bitCount_95d88 : GoodIn wsX2_regroup wsJ13_bitCount_95d88 := goodIn_r _ [42, 43, 44, 45] (by decide +kernel) (by decide +kernel)
set_option maxRecDepth 20000 in
theorem gX2_regroup_J13_bitCount_95d88 : GoodIn wsX2_regroup (va_wsS RX2 43 yJ13_bitCount_95d88 wsJ13_bitCount_95d88) := goodIn_app (goodIn_of _ (by decide +kernel)) ggX2_regroup_J13_bitCount_95d88
theorem dX2_regroup_0 : decode cX2_regroup 0 = .ok (.aload_n 0, 1) := by decide +kernel
theorem dX2_regroup_1 : decode cX2_regroup 1 = .ok (.lconst 0, 1) := by decide +kernel
theorem dX2_regroup_2 : decode cX2_regroup 2 = .ok (.putfield 15, 3) := by decide +kernel
theorem dX2_regroup_5 : decode cX2_regroup 5 = .ok (.aload_n 0, 1) := by decide +kernel
theorem dX2_regroup_6 : decode cX2_regroup 6 = .ok (.lconst 0, 1) := by decide +kernel
theorem dX2_regroup_7 : decode cX2_regroup 7 = .ok (.putfield 19, 3) := by decide +kernel
theorem dX2_regroup_10 : decode cX2_regroup 10 = .ok (.aload_n 0, 1) := by decide +kernel
theorem dX2_regroup_11 : decode cX2_regroup 11 = .ok (.getfield 9, 3) := by decide +kernel
theorem dX2_regroup_14 : decode cX2_regroup 14 = .ok (.invokevirtual 32, 3) := by decide +kernel
theorem dX2_regroup_17 : decode cX2_regroup 17 = .ok (.lstore_n 1, 1) := by decide +kernel
theorem dX2_regroup_18 : decode cX2_regroup 18 = .ok (.iconst 0, 1) := by decide +kernel
theorem dX2_regroup_19 : decode cX2_regroup 19 = .ok (.istore_n 3, 1) := by decide +kernel
theorem dX2_regroup_20 : decode cX2_regroup 20 = .ok (.iload_n 3, 1) := by decide +kernel
theorem dX2_regroup_21 : decode cX2_regroup 21 = .ok (.bipush 40, 2) := by decide +kernel
theorem dX2_regroup_23 : decode cX2_regroup 23 = .ok (.if_icmp .ge 74, 3) := by decide +kernel
theorem dX2_regroup_26 : decode cX2_regroup 26 = .ok (.lload_n 1, 1) := by decide +kernel
theorem dX2_regroup_27 : decode cX2_regroup 27 = .ok (.iload_n 3, 1) := by decide +kernel
theorem dX2_regroup_28 : decode cX2_regroup 28 = .ok (.invokestatic 36, 3) := by decide +kernel
theorem dX2_regroup_31 : decode cX2_regroup 31 = .ok (.ifCond .eq 60, 3) := by decide +kernel
theorem dX2_regroup_34 : decode cX2_regroup 34 = .ok (.aload_n 0, 1) := by decide +kernel
theorem dX2_regroup_35 : decode cX2_regroup 35 = .ok (.getfield 9, 3) := by decide +kernel
theorem dX2_regroup_38 : decode cX2_regroup 38 = .ok (.iload_n 3, 1) := by decide +kernel
theorem dX2_regroup_39 : decode cX2_regroup 39 = .ok (.invokevirtual 22, 3) := by decide +kernel
theorem dX2_regroup_42 : decode cX2_regroup 42 = .ok (.lstore 4, 2) := by decide +kernel
theorem dX2_regroup_44 : decode cX2_regroup 44 = .ok (.aload_n 0, 1) := by decide +kernel
theorem dX2_regroup_45 : decode cX2_regroup 45 = .ok (.dup, 1) := by decide +kernel
theorem dX2_regroup_46 : decode cX2_regroup 46 = .ok (.getfield 15, 3) := by decide +kernel
theorem dX2_regroup_49 : decode cX2_regroup 49 = .ok (.aload_n 0, 1) := by decide +kernel
theorem dX2_regroup_50 : decode cX2_regroup 50 = .ok (.lload 4, 2) := by decide +kernel
theorem dX2_regroup_52 : decode cX2_regroup 52 = .ok (.invokevirtual 28, 3) := by decide +kernel
theorem dX2_regroup_55 : decode cX2_regroup 55 = .ok (.invokestatic 40, 3) := by decide +kernel
theorem dX2_regroup_58 : decode cX2_regroup 58 = .ok (.lor, 1) := by decide +kernel
theorem dX2_regroup_59 : decode cX2_regroup 59 = .ok (.putfield 15, 3) := by decide +kernel
theorem dX2_regroup_62 : decode cX2_regroup 62 = .ok (.lload 4, 2) := by decide +kernel
theorem dX2_regroup_64 : decode cX2_regroup 64 = .ok (.invokestatic 43, 3) := by decide +kernel
theorem dX2_regroup_67 : decode cX2_regroup 67 = .ok (.iconst 1, 1) := by decide +kernel
theorem dX2_regroup_68 : decode cX2_regroup 68 = .ok (.if_icmp .le 14, 3) := by decide +kernel
theorem dX2_regroup_71 : decode cX2_regroup 71 = .ok (.aload_n 0, 1) := by decide +kernel
theorem dX2_regroup_72 : decode cX2_regroup 72 = .ok (.dup, 1) := by decide +kernel
theorem dX2_regroup_73 : decode cX2_regroup 73 = .ok (.getfield 19, 3) := by decide +kernel
theorem dX2_regroup_76 : decode cX2_regroup 76 = .ok (.lload 4, 2) := by decide +kernel
theorem dX2_regroup_78 : decode cX2_regroup 78 = .ok (.lor, 1) := by decide +kernel
theorem dX2_regroup_79 : decode cX2_regroup 79 = .ok (.putfield 19, 3) := by decide +kernel
theorem dX2_regroup_82 : decode cX2_regroup 82 = .ok (.lload_n 1, 1) := by decide +kernel
theorem dX2_regroup_83 : decode cX2_regroup 83 = .ok (.lload 4, 2) := by decide +kernel
theorem dX2_regroup_85 : decode cX2_regroup 85 = .ok (.ldc2_w 48, 3) := by decide +kernel
theorem dX2_regroup_88 : decode cX2_regroup 88 = .ok (.lxor, 1) := by decide +kernel
theorem dX2_regroup_89 : decode cX2_regroup 89 = .ok (.land, 1) := by decide +kernel
theorem dX2_regroup_90 : decode cX2_regroup 90 = .ok (.lstore_n 1, 1) := by decide +kernel
theorem dX2_regroup_91 : decode cX2_regroup 91 = .ok (.iinc 3 1, 3) := by decide +kernel
theorem dX2_regroup_94 : decode cX2_regroup 94 = .ok (.goto (-74), 3) := by decide +kernel
theorem dX2_regroup_97 : decode cX2_regroup 97 = .ok (.return_, 1) := by decide +kernel
set_option maxRecDepth 20000 in
theorem ggX2_preferred_X8_holds : GoodIn wsX2_preferred wsX8_holds := goodIn_r _ [3] (by decide +kernel) (by decide +kernel)
set_option maxRecDepth 20000 in
theorem gX2_preferred_X8_holds_n36 : GoodIn wsX2_preferred (wsX8_holds) := ggX2_preferred_X8_holds
set_option maxRecDepth 20000 in
theorem ggX2_preferred_X2_beats : GoodIn wsX2_preferred wsX2_beats := goodIn_r _ [8, 9, 10, 11, 12, 13, 14, 15, 16, 17, 18, 7, 19, 20, 21, 22, 23, 24, 25, 26, 27, 28] (by decide +kernel) (by decide +kernel)
set_option maxRecDepth 20000 in
theorem gX2_preferred_X2_beats : GoodIn wsX2_preferred (wsV RX2 50 RX2 yX2_beats wsX2_beats) := goodIn_app (goodIn_of _ (by decide +kernel)) ggX2_preferred_X2_beats
theorem dX2_preferred_0 : decode cX2_preferred 0 = .ok (.iconst (-1), 1) := by decide +kernel
theorem dX2_preferred_1 : decode cX2_preferred 1 = .ok (.istore_n 3, 1) := by decide +kernel
theorem dX2_preferred_2 : decode cX2_preferred 2 = .ok (.iconst 0, 1) := by decide +kernel
theorem dX2_preferred_3 : decode cX2_preferred 3 = .ok (.istore 4, 2) := by decide +kernel
theorem dX2_preferred_5 : decode cX2_preferred 5 = .ok (.iload 4, 2) := by decide +kernel
theorem dX2_preferred_7 : decode cX2_preferred 7 = .ok (.bipush 40, 2) := by decide +kernel
theorem dX2_preferred_9 : decode cX2_preferred 9 = .ok (.if_icmp .ge 36, 3) := by decide +kernel
theorem dX2_preferred_12 : decode cX2_preferred 12 = .ok (.lload_n 1, 1) := by decide +kernel
theorem dX2_preferred_13 : decode cX2_preferred 13 = .ok (.iload 4, 2) := by decide +kernel
theorem dX2_preferred_15 : decode cX2_preferred 15 = .ok (.invokestatic 36, 3) := by decide +kernel
theorem dX2_preferred_18 : decode cX2_preferred 18 = .ok (.ifCond .eq 21, 3) := by decide +kernel
theorem dX2_preferred_21 : decode cX2_preferred 21 = .ok (.iload_n 3, 1) := by decide +kernel
theorem dX2_preferred_22 : decode cX2_preferred 22 = .ok (.iconst (-1), 1) := by decide +kernel
theorem dX2_preferred_23 : decode cX2_preferred 23 = .ok (.if_icmp .eq 13, 3) := by decide +kernel
theorem dX2_preferred_26 : decode cX2_preferred 26 = .ok (.aload_n 0, 1) := by decide +kernel
theorem dX2_preferred_27 : decode cX2_preferred 27 = .ok (.iload 4, 2) := by decide +kernel
theorem dX2_preferred_29 : decode cX2_preferred 29 = .ok (.iload_n 3, 1) := by decide +kernel
theorem dX2_preferred_30 : decode cX2_preferred 30 = .ok (.invokevirtual 50, 3) := by decide +kernel
theorem dX2_preferred_33 : decode cX2_preferred 33 = .ok (.ifCond .eq 6, 3) := by decide +kernel
theorem dX2_preferred_36 : decode cX2_preferred 36 = .ok (.iload 4, 2) := by decide +kernel
theorem dX2_preferred_38 : decode cX2_preferred 38 = .ok (.istore_n 3, 1) := by decide +kernel
theorem dX2_preferred_39 : decode cX2_preferred 39 = .ok (.iinc 4 1, 3) := by decide +kernel
theorem dX2_preferred_42 : decode cX2_preferred 42 = .ok (.goto (-37), 3) := by decide +kernel
theorem dX2_preferred_45 : decode cX2_preferred 45 = .ok (.iload_n 3, 1) := by decide +kernel
theorem dX2_preferred_46 : decode cX2_preferred 46 = .ok (.ireturn, 1) := by decide +kernel
set_option maxRecDepth 20000 in
theorem ggX2_beats_X1_settledValue : GoodIn wsX2_beats wsX1_settledValue := goodIn_r _ [6, 7, 16, 17, 18, 19, 20, 21] (by decide +kernel) (by decide +kernel)
set_option maxRecDepth 20000 in
theorem gX2_beats_X1_settledValue : GoodIn wsX2_beats (wsV RX2 54 RX1 yX1_settledValue wsX1_settledValue) := goodIn_app (goodIn_of _ (by decide +kernel)) ggX2_beats_X1_settledValue
set_option maxRecDepth 20000 in
theorem ggX2_beats_X2_yearOf : GoodIn wsX2_beats wsX2_yearOf := goodIn_r _ [12, 1, 2, 3, 4, 5, 6, 7, 13, 14, 15, 16, 17, 18, 19, 20, 21] (by decide +kernel) (by decide +kernel)
set_option maxRecDepth 20000 in
theorem gX2_beats_X2_yearOf : GoodIn wsX2_beats (wsV RX2 58 RX2 yX2_yearOf wsX2_yearOf) := goodIn_app (goodIn_of _ (by decide +kernel)) ggX2_beats_X2_yearOf
theorem dX2_beats_0 : decode cX2_beats 0 = .ok (.aload_n 0, 1) := by decide +kernel
theorem dX2_beats_1 : decode cX2_beats 1 = .ok (.getfield 9, 3) := by decide +kernel
theorem dX2_beats_4 : decode cX2_beats 4 = .ok (.iload_n 1, 1) := by decide +kernel
theorem dX2_beats_5 : decode cX2_beats 5 = .ok (.iconst 1, 1) := by decide +kernel
theorem dX2_beats_6 : decode cX2_beats 6 = .ok (.invokevirtual 54, 3) := by decide +kernel
theorem dX2_beats_9 : decode cX2_beats 9 = .ok (.istore_n 3, 1) := by decide +kernel
theorem dX2_beats_10 : decode cX2_beats 10 = .ok (.aload_n 0, 1) := by decide +kernel
theorem dX2_beats_11 : decode cX2_beats 11 = .ok (.getfield 9, 3) := by decide +kernel
theorem dX2_beats_14 : decode cX2_beats 14 = .ok (.iload_n 2, 1) := by decide +kernel
theorem dX2_beats_15 : decode cX2_beats 15 = .ok (.iconst 1, 1) := by decide +kernel
theorem dX2_beats_16 : decode cX2_beats 16 = .ok (.invokevirtual 54, 3) := by decide +kernel
theorem dX2_beats_19 : decode cX2_beats 19 = .ok (.istore 4, 2) := by decide +kernel
theorem dX2_beats_21 : decode cX2_beats 21 = .ok (.iload_n 3, 1) := by decide +kernel
theorem dX2_beats_22 : decode cX2_beats 22 = .ok (.iload 4, 2) := by decide +kernel
theorem dX2_beats_24 : decode cX2_beats 24 = .ok (.if_icmp .eq 15, 3) := by decide +kernel
theorem dX2_beats_27 : decode cX2_beats 27 = .ok (.iload_n 3, 1) := by decide +kernel
theorem dX2_beats_28 : decode cX2_beats 28 = .ok (.iload 4, 2) := by decide +kernel
theorem dX2_beats_30 : decode cX2_beats 30 = .ok (.if_icmp .le 7, 3) := by decide +kernel
theorem dX2_beats_33 : decode cX2_beats 33 = .ok (.iconst 1, 1) := by decide +kernel
theorem dX2_beats_34 : decode cX2_beats 34 = .ok (.goto 4, 3) := by decide +kernel
theorem dX2_beats_37 : decode cX2_beats 37 = .ok (.iconst 0, 1) := by decide +kernel
theorem dX2_beats_38 : decode cX2_beats 38 = .ok (.ireturn, 1) := by decide +kernel
theorem dX2_beats_39 : decode cX2_beats 39 = .ok (.aload_n 0, 1) := by decide +kernel
theorem dX2_beats_40 : decode cX2_beats 40 = .ok (.iload_n 1, 1) := by decide +kernel
theorem dX2_beats_41 : decode cX2_beats 41 = .ok (.invokevirtual 58, 3) := by decide +kernel
theorem dX2_beats_44 : decode cX2_beats 44 = .ok (.aload_n 0, 1) := by decide +kernel
theorem dX2_beats_45 : decode cX2_beats 45 = .ok (.iload_n 2, 1) := by decide +kernel
theorem dX2_beats_46 : decode cX2_beats 46 = .ok (.invokevirtual 58, 3) := by decide +kernel
theorem dX2_beats_49 : decode cX2_beats 49 = .ok (.if_icmp .ge 7, 3) := by decide +kernel
theorem dX2_beats_52 : decode cX2_beats 52 = .ok (.iconst 1, 1) := by decide +kernel
theorem dX2_beats_53 : decode cX2_beats 53 = .ok (.goto 4, 3) := by decide +kernel
theorem dX2_beats_56 : decode cX2_beats 56 = .ok (.iconst 0, 1) := by decide +kernel
theorem dX2_beats_57 : decode cX2_beats 57 = .ok (.ireturn, 1) := by decide +kernel
set_option maxRecDepth 20000 in
theorem ggX2_yearOf_X1_settledValue : GoodIn wsX2_yearOf wsX1_settledValue := goodIn_r _ [6, 7, 11, 12, 13, 14, 15, 16] (by decide +kernel) (by decide +kernel)
set_option maxRecDepth 20000 in
theorem gX2_yearOf_X1_settledValue : GoodIn wsX2_yearOf (wsV RX2 54 RX1 yX1_settledValue wsX1_settledValue) := goodIn_app (goodIn_of _ (by decide +kernel)) ggX2_yearOf_X1_settledValue
theorem dX2_yearOf_0 : decode cX2_yearOf 0 = .ok (.aload_n 0, 1) := by decide +kernel
theorem dX2_yearOf_1 : decode cX2_yearOf 1 = .ok (.getfield 9, 3) := by decide +kernel
theorem dX2_yearOf_4 : decode cX2_yearOf 4 = .ok (.iload_n 1, 1) := by decide +kernel
theorem dX2_yearOf_5 : decode cX2_yearOf 5 = .ok (.iconst 2, 1) := by decide +kernel
theorem dX2_yearOf_6 : decode cX2_yearOf 6 = .ok (.invokevirtual 54, 3) := by decide +kernel
theorem dX2_yearOf_9 : decode cX2_yearOf 9 = .ok (.istore_n 2, 1) := by decide +kernel
theorem dX2_yearOf_10 : decode cX2_yearOf 10 = .ok (.iload_n 2, 1) := by decide +kernel
theorem dX2_yearOf_11 : decode cX2_yearOf 11 = .ok (.iconst (-1), 1) := by decide +kernel
theorem dX2_yearOf_12 : decode cX2_yearOf 12 = .ok (.if_icmp .ne 9, 3) := by decide +kernel
theorem dX2_yearOf_15 : decode cX2_yearOf 15 = .ok (.sipush 9999, 3) := by decide +kernel
theorem dX2_yearOf_18 : decode cX2_yearOf 18 = .ok (.goto 4, 3) := by decide +kernel
theorem dX2_yearOf_21 : decode cX2_yearOf 21 = .ok (.iload_n 2, 1) := by decide +kernel
theorem dX2_yearOf_22 : decode cX2_yearOf 22 = .ok (.ireturn, 1) := by decide +kernel
theorem dX3_init_0 : decode cX3_init 0 = .ok (.aload_n 0, 1) := by decide +kernel
theorem dX3_init_1 : decode cX3_init 1 = .ok (.invokespecial 3, 3) := by decide +kernel
theorem dX3_init_4 : decode cX3_init 4 = .ok (.aload_n 0, 1) := by decide +kernel
theorem dX3_init_5 : decode cX3_init 5 = .ok (.bipush 24, 2) := by decide +kernel
theorem dX3_init_7 : decode cX3_init 7 = .ok (.newarray .int, 2) := by decide +kernel
theorem dX3_init_9 : decode cX3_init 9 = .ok (.putfield 9, 3) := by decide +kernel
theorem dX3_init_12 : decode cX3_init 12 = .ok (.aload_n 0, 1) := by decide +kernel
theorem dX3_init_13 : decode cX3_init 13 = .ok (.bipush 24, 2) := by decide +kernel
theorem dX3_init_15 : decode cX3_init 15 = .ok (.newarray .int, 2) := by decide +kernel
theorem dX3_init_17 : decode cX3_init 17 = .ok (.putfield 15, 3) := by decide +kernel
theorem dX3_init_20 : decode cX3_init 20 = .ok (.aload_n 0, 1) := by decide +kernel
theorem dX3_init_21 : decode cX3_init 21 = .ok (.bipush 24, 2) := by decide +kernel
theorem dX3_init_23 : decode cX3_init 23 = .ok (.newarray .boolean, 2) := by decide +kernel
theorem dX3_init_25 : decode cX3_init 25 = .ok (.putfield 18, 3) := by decide +kernel
theorem dX3_init_28 : decode cX3_init 28 = .ok (.return_, 1) := by decide +kernel
theorem dX3_length_0 : decode cX3_length 0 = .ok (.aload_n 0, 1) := by decide +kernel
theorem dX3_length_1 : decode cX3_length 1 = .ok (.getfield 22, 3) := by decide +kernel
theorem dX3_length_4 : decode cX3_length 4 = .ok (.ireturn, 1) := by decide +kernel
theorem dX3_note_0 : decode cX3_note 0 = .ok (.aload_n 0, 1) := by decide +kernel
theorem dX3_note_1 : decode cX3_note 1 = .ok (.aload_n 0, 1) := by decide +kernel
theorem dX3_note_2 : decode cX3_note 2 = .ok (.getfield 26, 3) := by decide +kernel
theorem dX3_note_5 : decode cX3_note 5 = .ok (.iconst 1, 1) := by decide +kernel
theorem dX3_note_6 : decode cX3_note 6 = .ok (.iadd, 1) := by decide +kernel
theorem dX3_note_7 : decode cX3_note 7 = .ok (.bipush 24, 2) := by decide +kernel
theorem dX3_note_9 : decode cX3_note 9 = .ok (.irem, 1) := by decide +kernel
theorem dX3_note_10 : decode cX3_note 10 = .ok (.putfield 26, 3) := by decide +kernel
theorem dX3_note_13 : decode cX3_note 13 = .ok (.aload_n 0, 1) := by decide +kernel
theorem dX3_note_14 : decode cX3_note 14 = .ok (.getfield 9, 3) := by decide +kernel
theorem dX3_note_17 : decode cX3_note 17 = .ok (.aload_n 0, 1) := by decide +kernel
theorem dX3_note_18 : decode cX3_note 18 = .ok (.getfield 26, 3) := by decide +kernel
theorem dX3_note_21 : decode cX3_note 21 = .ok (.iload_n 1, 1) := by decide +kernel
theorem dX3_note_22 : decode cX3_note 22 = .ok (.iastore, 1) := by decide +kernel
theorem dX3_note_23 : decode cX3_note 23 = .ok (.aload_n 0, 1) := by decide +kernel
theorem dX3_note_24 : decode cX3_note 24 = .ok (.getfield 15, 3) := by decide +kernel
theorem dX3_note_27 : decode cX3_note 27 = .ok (.aload_n 0, 1) := by decide +kernel
theorem dX3_note_28 : decode cX3_note 28 = .ok (.getfield 26, 3) := by decide +kernel
theorem dX3_note_31 : decode cX3_note 31 = .ok (.iload_n 2, 1) := by decide +kernel
theorem dX3_note_32 : decode cX3_note 32 = .ok (.iastore, 1) := by decide +kernel
theorem dX3_note_33 : decode cX3_note 33 = .ok (.aload_n 0, 1) := by decide +kernel
theorem dX3_note_34 : decode cX3_note 34 = .ok (.getfield 18, 3) := by decide +kernel
theorem dX3_note_37 : decode cX3_note 37 = .ok (.aload_n 0, 1) := by decide +kernel
theorem dX3_note_38 : decode cX3_note 38 = .ok (.getfield 26, 3) := by decide +kernel
theorem dX3_note_41 : decode cX3_note 41 = .ok (.iload_n 3, 1) := by decide +kernel
theorem dX3_note_42 : decode cX3_note 42 = .ok (.bastore, 1) := by decide +kernel
theorem dX3_note_43 : decode cX3_note 43 = .ok (.aload_n 0, 1) := by decide +kernel
theorem dX3_note_44 : decode cX3_note 44 = .ok (.aload_n 0, 1) := by decide +kernel
theorem dX3_note_45 : decode cX3_note 45 = .ok (.getfield 22, 3) := by decide +kernel
theorem dX3_note_48 : decode cX3_note 48 = .ok (.iconst 1, 1) := by decide +kernel
theorem dX3_note_49 : decode cX3_note 49 = .ok (.iadd, 1) := by decide +kernel
theorem dX3_note_50 : decode cX3_note 50 = .ok (.bipush 24, 2) := by decide +kernel
theorem dX3_note_52 : decode cX3_note 52 = .ok (.invokestatic 29, 3) := by decide +kernel
theorem dX3_note_55 : decode cX3_note 55 = .ok (.putfield 22, 3) := by decide +kernel
theorem dX3_note_58 : decode cX3_note 58 = .ok (.return_, 1) := by decide +kernel
theorem dX4_init_0 : decode cX4_init 0 = .ok (.aload_n 0, 1) := by decide +kernel
theorem dX4_init_1 : decode cX4_init 1 = .ok (.invokespecial 3, 3) := by decide +kernel
theorem dX4_init_4 : decode cX4_init 4 = .ok (.aload_n 0, 1) := by decide +kernel
theorem dX4_init_5 : decode cX4_init 5 = .ok (.aload_n 1, 1) := by decide +kernel
theorem dX4_init_6 : decode cX4_init 6 = .ok (.putfield 9, 3) := by decide +kernel
theorem dX4_init_9 : decode cX4_init 9 = .ok (.aload_n 0, 1) := by decide +kernel
theorem dX4_init_10 : decode cX4_init 10 = .ok (.aload_n 2, 1) := by decide +kernel
theorem dX4_init_11 : decode cX4_init 11 = .ok (.putfield 15, 3) := by decide +kernel
theorem dX4_init_14 : decode cX4_init 14 = .ok (.aload_n 0, 1) := by decide +kernel
theorem dX4_init_15 : decode cX4_init 15 = .ok (.aload_n 3, 1) := by decide +kernel
theorem dX4_init_16 : decode cX4_init 16 = .ok (.putfield 19, 3) := by decide +kernel
theorem dX4_init_19 : decode cX4_init 19 = .ok (.aload_n 0, 1) := by decide +kernel
theorem dX4_init_20 : decode cX4_init 20 = .ok (.aload 4, 2) := by decide +kernel
theorem dX4_init_22 : decode cX4_init 22 = .ok (.putfield 23, 3) := by decide +kernel
theorem dX4_init_25 : decode cX4_init 25 = .ok (.aload_n 0, 1) := by decide +kernel
theorem dX4_init_26 : decode cX4_init 26 = .ok (.bipush 11, 2) := by decide +kernel
theorem dX4_init_28 : decode cX4_init 28 = .ok (.newarray .long, 2) := by decide +kernel
theorem dX4_init_30 : decode cX4_init 30 = .ok (.putfield 27, 3) := by decide +kernel
theorem dX4_init_33 : decode cX4_init 33 = .ok (.aload_n 0, 1) := by decide +kernel
theorem dX4_init_34 : decode cX4_init 34 = .ok (.bipush 11, 2) := by decide +kernel
theorem dX4_init_36 : decode cX4_init 36 = .ok (.newarray .long, 2) := by decide +kernel
theorem dX4_init_38 : decode cX4_init 38 = .ok (.putfield 31, 3) := by decide +kernel
theorem dX4_init_41 : decode cX4_init 41 = .ok (.aload_n 0, 1) := by decide +kernel
theorem dX4_init_42 : decode cX4_init 42 = .ok (.bipush 11, 2) := by decide +kernel
theorem dX4_init_44 : decode cX4_init 44 = .ok (.newarray .boolean, 2) := by decide +kernel
theorem dX4_init_46 : decode cX4_init 46 = .ok (.putfield 34, 3) := by decide +kernel
theorem dX4_init_49 : decode cX4_init 49 = .ok (.return_, 1) := by decide +kernel
set_option maxRecDepth 20000 in
theorem ggX4_filesFor_X4_beginLevel : GoodIn wsX4_filesFor wsX4_beginLevel := goodIn_r _ [8, 2, 1, 3, 9, 10, 11, 12, 13, 14, 15, 16, 118, 119, 120, 121, 122, 123, 124, 125, 126, 127, 128, 129, 130, 131] (by decide +kernel) (by decide +kernel)
set_option maxRecDepth 20000 in
theorem gX4_filesFor_X4_beginLevel : GoodIn wsX4_filesFor (wsV RX4 42 RX4 yX4_beginLevel wsX4_beginLevel) := goodIn_app (goodIn_of _ (by decide +kernel)) ggX4_filesFor_X4_beginLevel
set_option maxRecDepth 20000 in
theorem ggX4_filesFor_X5_length : GoodIn wsX4_filesFor wsX5_length := goodIn_r _ [21, 22, 132, 133] (by decide +kernel) (by decide +kernel)
set_option maxRecDepth 20000 in
theorem gX4_filesFor_X5_length : GoodIn wsX4_filesFor (wsV RX4 45 RX5 yX5_length wsX5_length) := goodIn_app (goodIn_of _ (by decide +kernel)) ggX4_filesFor_X5_length
set_option maxRecDepth 20000 in
theorem ggX4_filesFor_X5_at : GoodIn wsX4_filesFor wsX5_at := goodIn_r _ [26, 22, 27, 132, 133] (by decide +kernel) (by decide +kernel)
set_option maxRecDepth 20000 in
theorem gX4_filesFor_X5_at : GoodIn wsX4_filesFor (wsV RX4 51 RX5 yX5_at wsX5_at) := goodIn_app (goodIn_of _ (by decide +kernel)) ggX4_filesFor_X5_at
set_option maxRecDepth 20000 in
theorem ggX4_filesFor_X4_condition : GoodIn wsX4_filesFor wsX4_condition := goodIn_r _ [31, 32, 33, 23, 24, 25, 20, 26, 22, 27, 34, 35, 36, 37, 38, 39, 40, 41, 42, 43, 44, 7, 45, 9, 11, 12, 13, 14, 15, 16, 46, 47, 48, 49, 50, 51, 52, 53, 54, 55, 56, 57, 58, 59, 60, 61, 62, 63, 64, 65, 66, 67, 68, 69, 70, 71, 72, 73, 74, 75, 76, 77, 78, 79, 80, 81, 82, 83, 84, 85, 86, 87, 88, 89, 90, 91, 92, 93, 94, 95, 96, 97, 98, 99, 100, 118, 119, 120, 121, 122, 123, 124, 125, 132, 133, 126, 127, 128, 129, 130, 131, 134, 135, 136, 137, 138, 139, 140, 141, 142, 143, 144, 145, 146, 147, 148, 149, 150, 151] (by decide +kernel) (by decide +kernel)
set_option maxRecDepth 20000 in
theorem gX4_filesFor_X4_condition : GoodIn wsX4_filesFor (wsV RX4 55 RX4 yX4_condition wsX4_condition) := goodIn_app (goodIn_of _ (by decide +kernel)) ggX4_filesFor_X4_condition
set_option maxRecDepth 20000 in
theorem ggX4_filesFor_X4_take : GoodIn wsX4_filesFor wsX4_take := goodIn_r _ [104, 3, 1, 10, 105, 118, 119, 120, 121, 122, 123, 124, 125] (by decide +kernel) (by decide +kernel)
set_option maxRecDepth 20000 in
theorem gX4_filesFor_X4_take : GoodIn wsX4_filesFor (wsV RX4 59 RX4 yX4_take wsX4_take) := goodIn_app (goodIn_of _ (by decide +kernel)) ggX4_filesFor_X4_take
set_option maxRecDepth 20000 in
theorem ggX4_filesFor_X4_operate : GoodIn wsX4_filesFor wsX4_operate := goodIn_r _ [109, 10, 1, 2, 3, 9, 11, 12, 13, 14, 15, 16, 110, 111, 112, 7, 113, 4, 5, 6, 8, 114, 115, 116, 117, 101, 102, 103, 104, 105, 118, 119, 120, 121, 122, 123, 124, 125, 126, 127, 128, 129, 130, 131] (by decide +kernel) (by decide +kernel)
set_option maxRecDepth 20000 in
theorem gX4_filesFor_X4_operate : GoodIn wsX4_filesFor (wsV RX4 63 RX4 yX4_operate wsX4_operate) := goodIn_app (goodIn_of _ (by decide +kernel)) ggX4_filesFor_X4_operate
theorem dX4_filesFor_0 : decode cX4_filesFor 0 = .ok (.aload_n 0, 1) := by decide +kernel
theorem dX4_filesFor_1 : decode cX4_filesFor 1 = .ok (.iconst 0, 1) := by decide +kernel
theorem dX4_filesFor_2 : decode cX4_filesFor 2 = .ok (.putfield 38, 3) := by decide +kernel
theorem dX4_filesFor_5 : decode cX4_filesFor 5 = .ok (.aload_n 0, 1) := by decide +kernel
theorem dX4_filesFor_6 : decode cX4_filesFor 6 = .ok (.invokevirtual 42, 3) := by decide +kernel
theorem dX4_filesFor_9 : decode cX4_filesFor 9 = .ok (.iconst 0, 1) := by decide +kernel
theorem dX4_filesFor_10 : decode cX4_filesFor 10 = .ok (.istore_n 2, 1) := by decide +kernel
theorem dX4_filesFor_11 : decode cX4_filesFor 11 = .ok (.iload_n 2, 1) := by decide +kernel
theorem dX4_filesFor_12 : decode cX4_filesFor 12 = .ok (.aload_n 1, 1) := by decide +kernel
theorem dX4_filesFor_13 : decode cX4_filesFor 13 = .ok (.invokevirtual 45, 3) := by decide +kernel
theorem dX4_filesFor_16 : decode cX4_filesFor 16 = .ok (.if_icmp .ge 45, 3) := by decide +kernel
theorem dX4_filesFor_19 : decode cX4_filesFor 19 = .ok (.aload_n 1, 1) := by decide +kernel
theorem dX4_filesFor_20 : decode cX4_filesFor 20 = .ok (.iload_n 2, 1) := by decide +kernel
theorem dX4_filesFor_21 : decode cX4_filesFor 21 = .ok (.invokevirtual 51, 3) := by decide +kernel
theorem dX4_filesFor_24 : decode cX4_filesFor 24 = .ok (.istore_n 3, 1) := by decide +kernel
theorem dX4_filesFor_25 : decode cX4_filesFor 25 = .ok (.iload_n 3, 1) := by decide +kernel
theorem dX4_filesFor_26 : decode cX4_filesFor 26 = .ok (.bipush 97, 2) := by decide +kernel
theorem dX4_filesFor_28 : decode cX4_filesFor 28 = .ok (.if_icmp .lt 22, 3) := by decide +kernel
theorem dX4_filesFor_31 : decode cX4_filesFor 31 = .ok (.iload_n 3, 1) := by decide +kernel
theorem dX4_filesFor_32 : decode cX4_filesFor 32 = .ok (.bipush 122, 2) := by decide +kernel
theorem dX4_filesFor_34 : decode cX4_filesFor 34 = .ok (.if_icmp .gt 16, 3) := by decide +kernel
theorem dX4_filesFor_37 : decode cX4_filesFor 37 = .ok (.aload_n 0, 1) := by decide +kernel
theorem dX4_filesFor_38 : decode cX4_filesFor 38 = .ok (.aload_n 0, 1) := by decide +kernel
theorem dX4_filesFor_39 : decode cX4_filesFor 39 = .ok (.aload_n 1, 1) := by decide +kernel
theorem dX4_filesFor_40 : decode cX4_filesFor 40 = .ok (.iload_n 2, 1) := by decide +kernel
theorem dX4_filesFor_41 : decode cX4_filesFor 41 = .ok (.invokevirtual 55, 3) := by decide +kernel
theorem dX4_filesFor_44 : decode cX4_filesFor 44 = .ok (.invokevirtual 59, 3) := by decide +kernel
theorem dX4_filesFor_47 : decode cX4_filesFor 47 = .ok (.goto 8, 3) := by decide +kernel
theorem dX4_filesFor_50 : decode cX4_filesFor 50 = .ok (.aload_n 0, 1) := by decide +kernel
theorem dX4_filesFor_51 : decode cX4_filesFor 51 = .ok (.iload_n 3, 1) := by decide +kernel
theorem dX4_filesFor_52 : decode cX4_filesFor 52 = .ok (.invokevirtual 63, 3) := by decide +kernel
theorem dX4_filesFor_55 : decode cX4_filesFor 55 = .ok (.iinc 2 1, 3) := by decide +kernel
theorem dX4_filesFor_58 : decode cX4_filesFor 58 = .ok (.goto (-47), 3) := by decide +kernel
theorem dX4_filesFor_61 : decode cX4_filesFor 61 = .ok (.aload_n 0, 1) := by decide +kernel
theorem dX4_filesFor_62 : decode cX4_filesFor 62 = .ok (.getfield 27, 3) := by decide +kernel
theorem dX4_filesFor_65 : decode cX4_filesFor 65 = .ok (.iconst 0, 1) := by decide +kernel
theorem dX4_filesFor_66 : decode cX4_filesFor 66 = .ok (.laload, 1) := by decide +kernel
theorem dX4_filesFor_67 : decode cX4_filesFor 67 = .ok (.aload_n 0, 1) := by decide +kernel
theorem dX4_filesFor_68 : decode cX4_filesFor 68 = .ok (.getfield 31, 3) := by decide +kernel
theorem dX4_filesFor_71 : decode cX4_filesFor 71 = .ok (.iconst 0, 1) := by decide +kernel
theorem dX4_filesFor_72 : decode cX4_filesFor 72 = .ok (.laload, 1) := by decide +kernel
theorem dX4_filesFor_73 : decode cX4_filesFor 73 = .ok (.lor, 1) := by decide +kernel
theorem dX4_filesFor_74 : decode cX4_filesFor 74 = .ok (.lreturn, 1) := by decide +kernel
set_option maxRecDepth 20000 in
theorem ggX4_operate_X1_all : GoodIn wsX4_operate wsX1_all := goodIn_r _ [10, 11, 38, 39, 40, 41, 42, 43] (by decide +kernel) (by decide +kernel)
set_option maxRecDepth 20000 in
theorem gX4_operate_X1_all : GoodIn wsX4_operate (wsV RX4 67 RX1 yX1_all wsX1_all) := goodIn_app (goodIn_of _ (by decide +kernel)) ggX4_operate_X1_all
set_option maxRecDepth 20000 in
theorem ggX4_operate_X4_openLevel : GoodIn wsX4_operate wsX4_openLevel := goodIn_r _ [16, 2, 17, 18, 19, 15, 20, 3, 4, 5, 1, 6, 7, 8, 9, 10, 11, 30, 31, 32, 33, 34, 35, 36, 37, 38, 39, 40, 41, 42, 43] (by decide +kernel) (by decide +kernel)
set_option maxRecDepth 20000 in
theorem gX4_operate_X4_openLevel : GoodIn wsX4_operate (wsV RX4 73 RX4 yX4_openLevel wsX4_openLevel) := goodIn_app (goodIn_of _ (by decide +kernel)) ggX4_operate_X4_openLevel
set_option maxRecDepth 20000 in
theorem ggX4_operate_X4_closeLevel : GoodIn wsX4_operate wsX4_closeLevel := goodIn_r _ [24, 2, 3, 4, 25, 26, 27, 15, 28, 1, 29, 30, 31, 32, 33, 34, 35, 36, 37] (by decide +kernel) (by decide +kernel)
set_option maxRecDepth 20000 in
theorem gX4_operate_X4_closeLevel : GoodIn wsX4_operate (wsV RX4 76 RX4 yX4_closeLevel wsX4_closeLevel) := goodIn_app (goodIn_of _ (by decide +kernel)) ggX4_operate_X4_closeLevel
theorem dX4_operate_0 : decode cX4_operate 0 = .ok (.iload_n 1, 1) := by decide +kernel
theorem dX4_operate_1 : decode cX4_operate 1 = .ok (.lookupswitch 126 #[(33, 43), (40, 112), (41, 119), (124, 72)], 43) := by decide +kernel
theorem dX4_operate_44 : decode cX4_operate 44 = .ok (.aload_n 0, 1) := by decide +kernel
theorem dX4_operate_45 : decode cX4_operate 45 = .ok (.getfield 34, 3) := by decide +kernel
theorem dX4_operate_48 : decode cX4_operate 48 = .ok (.aload_n 0, 1) := by decide +kernel
theorem dX4_operate_49 : decode cX4_operate 49 = .ok (.getfield 38, 3) := by decide +kernel
theorem dX4_operate_52 : decode cX4_operate 52 = .ok (.aload_n 0, 1) := by decide +kernel
theorem dX4_operate_53 : decode cX4_operate 53 = .ok (.getfield 34, 3) := by decide +kernel
theorem dX4_operate_56 : decode cX4_operate 56 = .ok (.aload_n 0, 1) := by decide +kernel
theorem dX4_operate_57 : decode cX4_operate 57 = .ok (.getfield 38, 3) := by decide +kernel
theorem dX4_operate_60 : decode cX4_operate 60 = .ok (.baload, 1) := by decide +kernel
theorem dX4_operate_61 : decode cX4_operate 61 = .ok (.ifCond .ne 7, 3) := by decide +kernel
theorem dX4_operate_64 : decode cX4_operate 64 = .ok (.iconst 1, 1) := by decide +kernel
theorem dX4_operate_65 : decode cX4_operate 65 = .ok (.goto 4, 3) := by decide +kernel
theorem dX4_operate_68 : decode cX4_operate 68 = .ok (.iconst 0, 1) := by decide +kernel
theorem dX4_operate_69 : decode cX4_operate 69 = .ok (.bastore, 1) := by decide +kernel
theorem dX4_operate_70 : decode cX4_operate 70 = .ok (.goto 57, 3) := by decide +kernel
theorem dX4_operate_73 : decode cX4_operate 73 = .ok (.aload_n 0, 1) := by decide +kernel
theorem dX4_operate_74 : decode cX4_operate 74 = .ok (.getfield 27, 3) := by decide +kernel
theorem dX4_operate_77 : decode cX4_operate 77 = .ok (.aload_n 0, 1) := by decide +kernel
theorem dX4_operate_78 : decode cX4_operate 78 = .ok (.getfield 38, 3) := by decide +kernel
theorem dX4_operate_81 : decode cX4_operate 81 = .ok (.dup2, 1) := by decide +kernel
theorem dX4_operate_82 : decode cX4_operate 82 = .ok (.laload, 1) := by decide +kernel
theorem dX4_operate_83 : decode cX4_operate 83 = .ok (.aload_n 0, 1) := by decide +kernel
theorem dX4_operate_84 : decode cX4_operate 84 = .ok (.getfield 31, 3) := by decide +kernel
theorem dX4_operate_87 : decode cX4_operate 87 = .ok (.aload_n 0, 1) := by decide +kernel
theorem dX4_operate_88 : decode cX4_operate 88 = .ok (.getfield 38, 3) := by decide +kernel
theorem dX4_operate_91 : decode cX4_operate 91 = .ok (.laload, 1) := by decide +kernel
theorem dX4_operate_92 : decode cX4_operate 92 = .ok (.lor, 1) := by decide +kernel
theorem dX4_operate_93 : decode cX4_operate 93 = .ok (.lastore, 1) := by decide +kernel
theorem dX4_operate_94 : decode cX4_operate 94 = .ok (.aload_n 0, 1) := by decide +kernel
theorem dX4_operate_95 : decode cX4_operate 95 = .ok (.getfield 31, 3) := by decide +kernel
theorem dX4_operate_98 : decode cX4_operate 98 = .ok (.aload_n 0, 1) := by decide +kernel
theorem dX4_operate_99 : decode cX4_operate 99 = .ok (.getfield 38, 3) := by decide +kernel
theorem dX4_operate_102 : decode cX4_operate 102 = .ok (.aload_n 0, 1) := by decide +kernel
theorem dX4_operate_103 : decode cX4_operate 103 = .ok (.getfield 9, 3) := by decide +kernel
theorem dX4_operate_106 : decode cX4_operate 106 = .ok (.invokevirtual 67, 3) := by decide +kernel
theorem dX4_operate_109 : decode cX4_operate 109 = .ok (.lastore, 1) := by decide +kernel
theorem dX4_operate_110 : decode cX4_operate 110 = .ok (.goto 17, 3) := by decide +kernel
theorem dX4_operate_113 : decode cX4_operate 113 = .ok (.aload_n 0, 1) := by decide +kernel
theorem dX4_operate_114 : decode cX4_operate 114 = .ok (.invokevirtual 73, 3) := by decide +kernel
theorem dX4_operate_117 : decode cX4_operate 117 = .ok (.goto 10, 3) := by decide +kernel
theorem dX4_operate_120 : decode cX4_operate 120 = .ok (.aload_n 0, 1) := by decide +kernel
theorem dX4_operate_121 : decode cX4_operate 121 = .ok (.invokevirtual 76, 3) := by decide +kernel
theorem dX4_operate_124 : decode cX4_operate 124 = .ok (.goto 3, 3) := by decide +kernel
theorem dX4_operate_127 : decode cX4_operate 127 = .ok (.return_, 1) := by decide +kernel
set_option maxRecDepth 20000 in
theorem ggX4_openLevel_X4_beginLevel : GoodIn wsX4_openLevel wsX4_beginLevel := goodIn_r _ [6, 7, 1, 8, 9, 10, 11, 12, 13, 14, 15, 16, 17, 18, 19, 20, 21, 22, 23, 24, 25, 26, 27, 28, 29, 30] (by decide +kernel) (by decide +kernel)
set_option maxRecDepth 20000 in
theorem gX4_openLevel_X4_beginLevel : GoodIn wsX4_openLevel (wsV RX4 42 RX4 yX4_beginLevel wsX4_beginLevel) := goodIn_app (goodIn_of _ (by decide +kernel)) ggX4_openLevel_X4_beginLevel
theorem dX4_openLevel_0 : decode cX4_openLevel 0 = .ok (.aload_n 0, 1) := by decide +kernel
theorem dX4_openLevel_1 : decode cX4_openLevel 1 = .ok (.getfield 38, 3) := by decide +kernel
theorem dX4_openLevel_4 : decode cX4_openLevel 4 = .ok (.bipush 10, 2) := by decide +kernel
theorem dX4_openLevel_6 : decode cX4_openLevel 6 = .ok (.if_icmp .ge 17, 3) := by decide +kernel
theorem dX4_openLevel_9 : decode cX4_openLevel 9 = .ok (.aload_n 0, 1) := by decide +kernel
theorem dX4_openLevel_10 : decode cX4_openLevel 10 = .ok (.dup, 1) := by decide +kernel
theorem dX4_openLevel_11 : decode cX4_openLevel 11 = .ok (.getfield 38, 3) := by decide +kernel
theorem dX4_openLevel_14 : decode cX4_openLevel 14 = .ok (.iconst 1, 1) := by decide +kernel
theorem dX4_openLevel_15 : decode cX4_openLevel 15 = .ok (.iadd, 1) := by decide +kernel
theorem dX4_openLevel_16 : decode cX4_openLevel 16 = .ok (.putfield 38, 3) := by decide +kernel
theorem dX4_openLevel_19 : decode cX4_openLevel 19 = .ok (.aload_n 0, 1) := by decide +kernel
theorem dX4_openLevel_20 : decode cX4_openLevel 20 = .ok (.invokevirtual 42, 3) := by decide +kernel
theorem dX4_openLevel_23 : decode cX4_openLevel 23 = .ok (.return_, 1) := by decide +kernel
set_option maxRecDepth 20000 in
theorem ggX4_closeLevel_X4_take : GoodIn wsX4_closeLevel wsX4_take := goodIn_r _ [8, 3, 1, 9, 10, 11, 12, 13, 14, 15, 16, 17, 18] (by decide +kernel) (by decide +kernel)
set_option maxRecDepth 20000 in
theorem gX4_closeLevel_X4_take : GoodIn wsX4_closeLevel (wsV RX4 59 RX4 yX4_take wsX4_take) := goodIn_app (goodIn_of _ (by decide +kernel)) ggX4_closeLevel_X4_take
theorem dX4_closeLevel_0 : decode cX4_closeLevel 0 = .ok (.aload_n 0, 1) := by decide +kernel
theorem dX4_closeLevel_1 : decode cX4_closeLevel 1 = .ok (.getfield 38, 3) := by decide +kernel
theorem dX4_closeLevel_4 : decode cX4_closeLevel 4 = .ok (.ifCond .le 38, 3) := by decide +kernel
theorem dX4_closeLevel_7 : decode cX4_closeLevel 7 = .ok (.aload_n 0, 1) := by decide +kernel
theorem dX4_closeLevel_8 : decode cX4_closeLevel 8 = .ok (.getfield 27, 3) := by decide +kernel
theorem dX4_closeLevel_11 : decode cX4_closeLevel 11 = .ok (.aload_n 0, 1) := by decide +kernel
theorem dX4_closeLevel_12 : decode cX4_closeLevel 12 = .ok (.getfield 38, 3) := by decide +kernel
theorem dX4_closeLevel_15 : decode cX4_closeLevel 15 = .ok (.laload, 1) := by decide +kernel
theorem dX4_closeLevel_16 : decode cX4_closeLevel 16 = .ok (.aload_n 0, 1) := by decide +kernel
theorem dX4_closeLevel_17 : decode cX4_closeLevel 17 = .ok (.getfield 31, 3) := by decide +kernel
theorem dX4_closeLevel_20 : decode cX4_closeLevel 20 = .ok (.aload_n 0, 1) := by decide +kernel
theorem dX4_closeLevel_21 : decode cX4_closeLevel 21 = .ok (.getfield 38, 3) := by decide +kernel
theorem dX4_closeLevel_24 : decode cX4_closeLevel 24 = .ok (.laload, 1) := by decide +kernel
theorem dX4_closeLevel_25 : decode cX4_closeLevel 25 = .ok (.lor, 1) := by decide +kernel
theorem dX4_closeLevel_26 : decode cX4_closeLevel 26 = .ok (.lstore_n 1, 1) := by decide +kernel
theorem dX4_closeLevel_27 : decode cX4_closeLevel 27 = .ok (.aload_n 0, 1) := by decide +kernel
theorem dX4_closeLevel_28 : decode cX4_closeLevel 28 = .ok (.dup, 1) := by decide +kernel
theorem dX4_closeLevel_29 : decode cX4_closeLevel 29 = .ok (.getfield 38, 3) := by decide +kernel
theorem dX4_closeLevel_32 : decode cX4_closeLevel 32 = .ok (.iconst 1, 1) := by decide +kernel
theorem dX4_closeLevel_33 : decode cX4_closeLevel 33 = .ok (.isub, 1) := by decide +kernel
theorem dX4_closeLevel_34 : decode cX4_closeLevel 34 = .ok (.putfield 38, 3) := by decide +kernel
theorem dX4_closeLevel_37 : decode cX4_closeLevel 37 = .ok (.aload_n 0, 1) := by decide +kernel
theorem dX4_closeLevel_38 : decode cX4_closeLevel 38 = .ok (.lload_n 1, 1) := by decide +kernel
theorem dX4_closeLevel_39 : decode cX4_closeLevel 39 = .ok (.invokevirtual 59, 3) := by decide +kernel
theorem dX4_closeLevel_42 : decode cX4_closeLevel 42 = .ok (.return_, 1) := by decide +kernel
set_option maxRecDepth 20000 in
theorem ggX4_beginLevel_X1_all : GoodIn wsX4_beginLevel wsX1_all := goodIn_r _ [10, 11, 20, 21, 22, 23, 24, 25] (by decide +kernel) (by decide +kernel)
set_option maxRecDepth 20000 in
theorem gX4_beginLevel_X1_all : GoodIn wsX4_beginLevel (wsV RX4 67 RX1 yX1_all wsX1_all) := goodIn_app (goodIn_of _ (by decide +kernel)) ggX4_beginLevel_X1_all
theorem dX4_beginLevel_0 : decode cX4_beginLevel 0 = .ok (.aload_n 0, 1) := by decide +kernel
theorem dX4_beginLevel_1 : decode cX4_beginLevel 1 = .ok (.getfield 27, 3) := by decide +kernel
theorem dX4_beginLevel_4 : decode cX4_beginLevel 4 = .ok (.aload_n 0, 1) := by decide +kernel
theorem dX4_beginLevel_5 : decode cX4_beginLevel 5 = .ok (.getfield 38, 3) := by decide +kernel
theorem dX4_beginLevel_8 : decode cX4_beginLevel 8 = .ok (.lconst 0, 1) := by decide +kernel
theorem dX4_beginLevel_9 : decode cX4_beginLevel 9 = .ok (.lastore, 1) := by decide +kernel
theorem dX4_beginLevel_10 : decode cX4_beginLevel 10 = .ok (.aload_n 0, 1) := by decide +kernel
theorem dX4_beginLevel_11 : decode cX4_beginLevel 11 = .ok (.getfield 31, 3) := by decide +kernel
theorem dX4_beginLevel_14 : decode cX4_beginLevel 14 = .ok (.aload_n 0, 1) := by decide +kernel
theorem dX4_beginLevel_15 : decode cX4_beginLevel 15 = .ok (.getfield 38, 3) := by decide +kernel
theorem dX4_beginLevel_18 : decode cX4_beginLevel 18 = .ok (.aload_n 0, 1) := by decide +kernel
theorem dX4_beginLevel_19 : decode cX4_beginLevel 19 = .ok (.getfield 9, 3) := by decide +kernel
theorem dX4_beginLevel_22 : decode cX4_beginLevel 22 = .ok (.invokevirtual 67, 3) := by decide +kernel
theorem dX4_beginLevel_25 : decode cX4_beginLevel 25 = .ok (.lastore, 1) := by decide +kernel
theorem dX4_beginLevel_26 : decode cX4_beginLevel 26 = .ok (.aload_n 0, 1) := by decide +kernel
theorem dX4_beginLevel_27 : decode cX4_beginLevel 27 = .ok (.getfield 34, 3) := by decide +kernel
theorem dX4_beginLevel_30 : decode cX4_beginLevel 30 = .ok (.aload_n 0, 1) := by decide +kernel
theorem dX4_beginLevel_31 : decode cX4_beginLevel 31 = .ok (.getfield 38, 3) := by decide +kernel
theorem dX4_beginLevel_34 : decode cX4_beginLevel 34 = .ok (.iconst 0, 1) := by decide +kernel
theorem dX4_beginLevel_35 : decode cX4_beginLevel 35 = .ok (.bastore, 1) := by decide +kernel
theorem dX4_beginLevel_36 : decode cX4_beginLevel 36 = .ok (.return_, 1) := by decide +kernel
theorem dX4_take_0 : decode cX4_take 0 = .ok (.aload_n 0, 1) := by decide +kernel
theorem dX4_take_1 : decode cX4_take 1 = .ok (.getfield 31, 3) := by decide +kernel
theorem dX4_take_4 : decode cX4_take 4 = .ok (.aload_n 0, 1) := by decide +kernel
theorem dX4_take_5 : decode cX4_take 5 = .ok (.getfield 38, 3) := by decide +kernel
theorem dX4_take_8 : decode cX4_take 8 = .ok (.dup2, 1) := by decide +kernel
theorem dX4_take_9 : decode cX4_take 9 = .ok (.laload, 1) := by decide +kernel
theorem dX4_take_10 : decode cX4_take 10 = .ok (.aload_n 0, 1) := by decide +kernel
theorem dX4_take_11 : decode cX4_take 11 = .ok (.getfield 34, 3) := by decide +kernel
theorem dX4_take_14 : decode cX4_take 14 = .ok (.aload_n 0, 1) := by decide +kernel
theorem dX4_take_15 : decode cX4_take 15 = .ok (.getfield 38, 3) := by decide +kernel
theorem dX4_take_18 : decode cX4_take 18 = .ok (.baload, 1) := by decide +kernel
theorem dX4_take_19 : decode cX4_take 19 = .ok (.ifCond .eq 11, 3) := by decide +kernel
theorem dX4_take_22 : decode cX4_take 22 = .ok (.lload_n 1, 1) := by decide +kernel
theorem dX4_take_23 : decode cX4_take 23 = .ok (.ldc2_w 79, 3) := by decide +kernel
theorem dX4_take_26 : decode cX4_take 26 = .ok (.lxor, 1) := by decide +kernel
theorem dX4_take_27 : decode cX4_take 27 = .ok (.goto 4, 3) := by decide +kernel
theorem dX4_take_30 : decode cX4_take 30 = .ok (.lload_n 1, 1) := by decide +kernel
theorem dX4_take_31 : decode cX4_take 31 = .ok (.land, 1) := by decide +kernel
theorem dX4_take_32 : decode cX4_take 32 = .ok (.lastore, 1) := by decide +kernel
theorem dX4_take_33 : decode cX4_take 33 = .ok (.aload_n 0, 1) := by decide +kernel
theorem dX4_take_34 : decode cX4_take 34 = .ok (.getfield 34, 3) := by decide +kernel
theorem dX4_take_37 : decode cX4_take 37 = .ok (.aload_n 0, 1) := by decide +kernel
theorem dX4_take_38 : decode cX4_take 38 = .ok (.getfield 38, 3) := by decide +kernel
theorem dX4_take_41 : decode cX4_take 41 = .ok (.iconst 0, 1) := by decide +kernel
theorem dX4_take_42 : decode cX4_take 42 = .ok (.bastore, 1) := by decide +kernel
theorem dX4_take_43 : decode cX4_take 43 = .ok (.return_, 1) := by decide +kernel
set_option maxRecDepth 20000 in
theorem ggX4_condition_X5_at : GoodIn wsX4_condition wsX5_at := goodIn_r _ [7, 8, 9, 93, 94] (by decide +kernel) (by decide +kernel)
set_option maxRecDepth 20000 in
theorem gX4_condition_X5_at : GoodIn wsX4_condition (wsV RX4 51 RX5 yX5_at wsX5_at) := goodIn_app (goodIn_of _ (by decide +kernel)) ggX4_condition_X5_at
set_option maxRecDepth 20000 in
theorem ggX4_condition_X5_numberAt : GoodIn wsX4_condition wsX5_numberAt := goodIn_r _ [13, 14, 4, 5, 6, 7, 8, 9, 15, 16, 17, 93, 94] (by decide +kernel) (by decide +kernel)
set_option maxRecDepth 20000 in
theorem gX4_condition_X5_numberAt : GoodIn wsX4_condition (wsV RX4 81 RX5 yX5_numberAt wsX5_numberAt) := goodIn_app (goodIn_of _ (by decide +kernel)) ggX4_condition_X5_numberAt
set_option maxRecDepth 20000 in
theorem ggX4_condition_X4_tagged : GoodIn wsX4_condition wsX4_tagged := goodIn_r _ [22, 23, 24, 25, 26, 27, 28, 29, 30, 31, 32, 33, 34, 35, 36, 37, 38, 39, 85, 86, 87, 88, 89, 90, 91, 92, 95, 96, 97, 98, 99, 100] (by decide +kernel) (by decide +kernel)
set_option maxRecDepth 20000 in
theorem gX4_condition_X4_tagged : GoodIn wsX4_condition (wsV RX4 85 RX4 yX4_tagged wsX4_tagged) := goodIn_app (goodIn_of _ (by decide +kernel)) ggX4_condition_X4_tagged
set_option maxRecDepth 20000 in
theorem ggX4_condition_X4_membersOf : GoodIn wsX4_condition wsX4_membersOf := goodIn_r _ [43, 44, 45, 31, 46, 47, 48, 49, 50, 51, 52, 85, 86, 87, 88, 89, 90, 91, 92, 101, 102, 103, 104, 105, 106, 107] (by decide +kernel) (by decide +kernel)
set_option maxRecDepth 20000 in
theorem gX4_condition_X4_membersOf : GoodIn wsX4_condition (wsV RX4 89 RX4 yX4_membersOf wsX4_membersOf) := goodIn_app (goodIn_of _ (by decide +kernel)) ggX4_condition_X4_membersOf
set_option maxRecDepth 20000 in
theorem ggX4_condition_X6_stacked : GoodIn wsX4_condition wsX6_stacked := goodIn_r _ [57, 58, 108, 109, 110, 111, 112, 113, 114, 115] (by decide +kernel) (by decide +kernel)
set_option maxRecDepth 20000 in
theorem gX4_condition_X6_stacked : GoodIn wsX4_condition (wsV RX4 92 RX6 yX6_stacked wsX6_stacked) := goodIn_app (goodIn_of _ (by decide +kernel)) ggX4_condition_X6_stacked
set_option maxRecDepth 20000 in
theorem ggX4_condition_X6_covers : GoodIn wsX4_condition wsX6_covers := goodIn_r _ [62, 63, 108, 109, 110, 111, 112, 113, 114, 115] (by decide +kernel) (by decide +kernel)
set_option maxRecDepth 20000 in
theorem gX4_condition_X6_covers : GoodIn wsX4_condition (wsV RX4 97 RX6 yX6_covers wsX6_covers) := goodIn_app (goodIn_of _ (by decide +kernel)) ggX4_condition_X6_covers
set_option maxRecDepth 20000 in
theorem ggX4_condition_X2_duplicates : GoodIn wsX4_condition wsX2_duplicates := goodIn_r _ [68, 69, 116, 117, 118] (by decide +kernel) (by decide +kernel)
set_option maxRecDepth 20000 in
theorem gX4_condition_X2_duplicates : GoodIn wsX4_condition (wsV RX4 100 RX2 yX2_duplicates wsX2_duplicates) := goodIn_app (goodIn_of _ (by decide +kernel)) ggX4_condition_X2_duplicates
set_option maxRecDepth 20000 in
theorem ggX4_condition_X2_keepers : GoodIn wsX4_condition wsX2_keepers := goodIn_r _ [73, 74, 116, 117, 118] (by decide +kernel) (by decide +kernel)
set_option maxRecDepth 20000 in
theorem gX4_condition_X2_keepers : GoodIn wsX4_condition (wsV RX4 105 RX2 yX2_keepers wsX2_keepers) := goodIn_app (goodIn_of _ (by decide +kernel)) ggX4_condition_X2_keepers
set_option maxRecDepth 20000 in
theorem ggX4_condition_X4_comparing : GoodIn wsX4_condition wsX4_comparing := goodIn_r _ [78, 23, 3, 4, 5, 6, 7, 8, 9, 79, 80, 81, 10, 11, 12, 13, 14, 15, 16, 17, 33, 34, 35, 27, 36, 37, 24, 25, 26, 28, 29, 30, 31, 32, 82, 83, 21, 84, 38, 39, 85, 86, 87, 88, 89, 90, 91, 92, 93, 94, 95, 96, 97, 98, 99, 100] (by decide +kernel) (by decide +kernel)
set_option maxRecDepth 20000 in
theorem gX4_condition_X4_comparing : GoodIn wsX4_condition (wsV RX4 108 RX4 yX4_comparing wsX4_comparing) := goodIn_app (goodIn_of _ (by decide +kernel)) ggX4_condition_X4_comparing
theorem dX4_condition_0 : decode cX4_condition 0 = .ok (.aload_n 1, 1) := by decide +kernel
theorem dX4_condition_1 : decode cX4_condition 1 = .ok (.iload_n 2, 1) := by decide +kernel
theorem dX4_condition_2 : decode cX4_condition 2 = .ok (.invokevirtual 51, 3) := by decide +kernel
theorem dX4_condition_5 : decode cX4_condition 5 = .ok (.lookupswitch 115 #[(97, 71), (98, 107), (115, 83), (116, 59), (117, 99), (118, 91)], 59) := by decide +kernel
theorem dX4_condition_64 : decode cX4_condition 64 = .ok (.aload_n 0, 1) := by decide +kernel
theorem dX4_condition_65 : decode cX4_condition 65 = .ok (.aload_n 1, 1) := by decide +kernel
theorem dX4_condition_66 : decode cX4_condition 66 = .ok (.iload_n 2, 1) := by decide +kernel
theorem dX4_condition_67 : decode cX4_condition 67 = .ok (.iconst 1, 1) := by decide +kernel
theorem dX4_condition_68 : decode cX4_condition 68 = .ok (.iadd, 1) := by decide +kernel
theorem dX4_condition_69 : decode cX4_condition 69 = .ok (.invokevirtual 81, 3) := by decide +kernel
theorem dX4_condition_72 : decode cX4_condition 72 = .ok (.invokevirtual 85, 3) := by decide +kernel
theorem dX4_condition_75 : decode cX4_condition 75 = .ok (.lreturn, 1) := by decide +kernel
theorem dX4_condition_76 : decode cX4_condition 76 = .ok (.aload_n 0, 1) := by decide +kernel
theorem dX4_condition_77 : decode cX4_condition 77 = .ok (.aload_n 1, 1) := by decide +kernel
theorem dX4_condition_78 : decode cX4_condition 78 = .ok (.iload_n 2, 1) := by decide +kernel
theorem dX4_condition_79 : decode cX4_condition 79 = .ok (.iconst 1, 1) := by decide +kernel
theorem dX4_condition_80 : decode cX4_condition 80 = .ok (.iadd, 1) := by decide +kernel
theorem dX4_condition_81 : decode cX4_condition 81 = .ok (.invokevirtual 81, 3) := by decide +kernel
theorem dX4_condition_84 : decode cX4_condition 84 = .ok (.invokevirtual 89, 3) := by decide +kernel
theorem dX4_condition_87 : decode cX4_condition 87 = .ok (.lreturn, 1) := by decide +kernel
theorem dX4_condition_88 : decode cX4_condition 88 = .ok (.aload_n 0, 1) := by decide +kernel
theorem dX4_condition_89 : decode cX4_condition 89 = .ok (.getfield 19, 3) := by decide +kernel
theorem dX4_condition_92 : decode cX4_condition 92 = .ok (.invokevirtual 92, 3) := by decide +kernel
theorem dX4_condition_95 : decode cX4_condition 95 = .ok (.lreturn, 1) := by decide +kernel
theorem dX4_condition_96 : decode cX4_condition 96 = .ok (.aload_n 0, 1) := by decide +kernel
theorem dX4_condition_97 : decode cX4_condition 97 = .ok (.getfield 19, 3) := by decide +kernel
theorem dX4_condition_100 : decode cX4_condition 100 = .ok (.invokevirtual 97, 3) := by decide +kernel
theorem dX4_condition_103 : decode cX4_condition 103 = .ok (.lreturn, 1) := by decide +kernel
theorem dX4_condition_104 : decode cX4_condition 104 = .ok (.aload_n 0, 1) := by decide +kernel
theorem dX4_condition_105 : decode cX4_condition 105 = .ok (.getfield 15, 3) := by decide +kernel
theorem dX4_condition_108 : decode cX4_condition 108 = .ok (.invokevirtual 100, 3) := by decide +kernel
theorem dX4_condition_111 : decode cX4_condition 111 = .ok (.lreturn, 1) := by decide +kernel
theorem dX4_condition_112 : decode cX4_condition 112 = .ok (.aload_n 0, 1) := by decide +kernel
theorem dX4_condition_113 : decode cX4_condition 113 = .ok (.getfield 15, 3) := by decide +kernel
theorem dX4_condition_116 : decode cX4_condition 116 = .ok (.invokevirtual 105, 3) := by decide +kernel
theorem dX4_condition_119 : decode cX4_condition 119 = .ok (.lreturn, 1) := by decide +kernel
theorem dX4_condition_120 : decode cX4_condition 120 = .ok (.aload_n 0, 1) := by decide +kernel
theorem dX4_condition_121 : decode cX4_condition 121 = .ok (.aload_n 1, 1) := by decide +kernel
theorem dX4_condition_122 : decode cX4_condition 122 = .ok (.iload_n 2, 1) := by decide +kernel
theorem dX4_condition_123 : decode cX4_condition 123 = .ok (.invokevirtual 108, 3) := by decide +kernel
theorem dX4_condition_126 : decode cX4_condition 126 = .ok (.lreturn, 1) := by decide +kernel
set_option maxRecDepth 20000 in
theorem ggX4_tagged_X1_all : GoodIn wsX4_tagged wsX1_all := goodIn_r _ [6, 7, 26, 27, 28, 29, 30, 31] (by decide +kernel) (by decide +kernel)
set_option maxRecDepth 20000 in
theorem gX4_tagged_X1_all : GoodIn wsX4_tagged (wsV RX4 67 RX1 yX1_all wsX1_all) := goodIn_app (goodIn_of _ (by decide +kernel)) ggX4_tagged_X1_all
set_option maxRecDepth 20000 in
theorem ggX4_tagged_X8_holds : GoodIn wsX4_tagged wsX8_holds := goodIn_r _ [10] (by decide +kernel) (by decide +kernel)
set_option maxRecDepth 20000 in
theorem gX4_tagged_X8_holds_n111 : GoodIn wsX4_tagged (wsX8_holds) := ggX4_tagged_X8_holds
set_option maxRecDepth 20000 in
theorem ggX4_tagged_X1_settledValue : GoodIn wsX4_tagged wsX1_settledValue := goodIn_r _ [14, 15, 26, 27, 28, 29, 30, 31] (by decide +kernel) (by decide +kernel)
set_option maxRecDepth 20000 in
theorem gX4_tagged_X1_settledValue : GoodIn wsX4_tagged (wsV RX4 115 RX1 yX1_settledValue wsX1_settledValue) := goodIn_app (goodIn_of _ (by decide +kernel)) ggX4_tagged_X1_settledValue
set_option maxRecDepth 20000 in
theorem ggX4_tagged_X8_only : GoodIn wsX4_tagged wsX8_only := goodIn_r _ [17] (by decide +kernel) (by decide +kernel)
set_option maxRecDepth 20000 in
theorem gX4_tagged_X8_only_n119 : GoodIn wsX4_tagged (wsX8_only) := ggX4_tagged_X8_only
theorem dX4_tagged_0 : decode cX4_tagged 0 = .ok (.lconst 0, 1) := by decide +kernel
theorem dX4_tagged_1 : decode cX4_tagged 1 = .ok (.lstore_n 2, 1) := by decide +kernel
theorem dX4_tagged_2 : decode cX4_tagged 2 = .ok (.iconst 0, 1) := by decide +kernel
theorem dX4_tagged_3 : decode cX4_tagged 3 = .ok (.istore 4, 2) := by decide +kernel
theorem dX4_tagged_5 : decode cX4_tagged 5 = .ok (.iload 4, 2) := by decide +kernel
theorem dX4_tagged_7 : decode cX4_tagged 7 = .ok (.bipush 40, 2) := by decide +kernel
theorem dX4_tagged_9 : decode cX4_tagged 9 = .ok (.if_icmp .ge 50, 3) := by decide +kernel
theorem dX4_tagged_12 : decode cX4_tagged 12 = .ok (.aload_n 0, 1) := by decide +kernel
theorem dX4_tagged_13 : decode cX4_tagged 13 = .ok (.getfield 9, 3) := by decide +kernel
theorem dX4_tagged_16 : decode cX4_tagged 16 = .ok (.invokevirtual 67, 3) := by decide +kernel
theorem dX4_tagged_19 : decode cX4_tagged 19 = .ok (.iload 4, 2) := by decide +kernel
theorem dX4_tagged_21 : decode cX4_tagged 21 = .ok (.invokestatic 111, 3) := by decide +kernel
theorem dX4_tagged_24 : decode cX4_tagged 24 = .ok (.ifCond .eq 29, 3) := by decide +kernel
theorem dX4_tagged_27 : decode cX4_tagged 27 = .ok (.aload_n 0, 1) := by decide +kernel
theorem dX4_tagged_28 : decode cX4_tagged 28 = .ok (.getfield 9, 3) := by decide +kernel
theorem dX4_tagged_31 : decode cX4_tagged 31 = .ok (.iload 4, 2) := by decide +kernel
theorem dX4_tagged_33 : decode cX4_tagged 33 = .ok (.iconst 5, 1) := by decide +kernel
theorem dX4_tagged_34 : decode cX4_tagged 34 = .ok (.invokevirtual 115, 3) := by decide +kernel
theorem dX4_tagged_37 : decode cX4_tagged 37 = .ok (.iload_n 1, 1) := by decide +kernel
theorem dX4_tagged_38 : decode cX4_tagged 38 = .ok (.iushr, 1) := by decide +kernel
theorem dX4_tagged_39 : decode cX4_tagged 39 = .ok (.iconst 1, 1) := by decide +kernel
theorem dX4_tagged_40 : decode cX4_tagged 40 = .ok (.iand, 1) := by decide +kernel
theorem dX4_tagged_41 : decode cX4_tagged 41 = .ok (.iconst 1, 1) := by decide +kernel
theorem dX4_tagged_42 : decode cX4_tagged 42 = .ok (.if_icmp .ne 11, 3) := by decide +kernel
theorem dX4_tagged_45 : decode cX4_tagged 45 = .ok (.lload_n 2, 1) := by decide +kernel
theorem dX4_tagged_46 : decode cX4_tagged 46 = .ok (.iload 4, 2) := by decide +kernel
theorem dX4_tagged_48 : decode cX4_tagged 48 = .ok (.invokestatic 119, 3) := by decide +kernel
theorem dX4_tagged_51 : decode cX4_tagged 51 = .ok (.lor, 1) := by decide +kernel
theorem dX4_tagged_52 : decode cX4_tagged 52 = .ok (.lstore_n 2, 1) := by decide +kernel
theorem dX4_tagged_53 : decode cX4_tagged 53 = .ok (.iinc 4 1, 3) := by decide +kernel
theorem dX4_tagged_56 : decode cX4_tagged 56 = .ok (.goto (-51), 3) := by decide +kernel
theorem dX4_tagged_59 : decode cX4_tagged 59 = .ok (.lload_n 2, 1) := by decide +kernel
theorem dX4_tagged_60 : decode cX4_tagged 60 = .ok (.lreturn, 1) := by decide +kernel
set_option maxRecDepth 20000 in
theorem ggX4_membersOf_X8_isWithin : GoodIn wsX4_membersOf wsX8_isWithin := goodIn_r _ [4] (by decide +kernel) (by decide +kernel)
set_option maxRecDepth 20000 in
theorem gX4_membersOf_X8_isWithin_n122 : GoodIn wsX4_membersOf (wsX8_isWithin) := ggX4_membersOf_X8_isWithin
set_option maxRecDepth 20000 in
theorem ggX4_membersOf_X0_members : GoodIn wsX4_membersOf wsX0_members := goodIn_r _ [9, 10, 19, 20, 21, 22, 23, 24, 25] (by decide +kernel) (by decide +kernel)
set_option maxRecDepth 20000 in
theorem gX4_membersOf_X0_members : GoodIn wsX4_membersOf (wsV RX4 126 RX0 yX0_members wsX0_members) := goodIn_app (goodIn_of _ (by decide +kernel)) ggX4_membersOf_X0_members
theorem dX4_membersOf_0 : decode cX4_membersOf 0 = .ok (.iload_n 1, 1) := by decide +kernel
theorem dX4_membersOf_1 : decode cX4_membersOf 1 = .ok (.iconst 0, 1) := by decide +kernel
theorem dX4_membersOf_2 : decode cX4_membersOf 2 = .ok (.bipush 7, 2) := by decide +kernel
theorem dX4_membersOf_4 : decode cX4_membersOf 4 = .ok (.invokestatic 122, 3) := by decide +kernel
theorem dX4_membersOf_7 : decode cX4_membersOf 7 = .ok (.ifCond .eq 15, 3) := by decide +kernel
theorem dX4_membersOf_10 : decode cX4_membersOf 10 = .ok (.aload_n 0, 1) := by decide +kernel
theorem dX4_membersOf_11 : decode cX4_membersOf 11 = .ok (.getfield 23, 3) := by decide +kernel
theorem dX4_membersOf_14 : decode cX4_membersOf 14 = .ok (.iload_n 1, 1) := by decide +kernel
theorem dX4_membersOf_15 : decode cX4_membersOf 15 = .ok (.aaload, 1) := by decide +kernel
theorem dX4_membersOf_16 : decode cX4_membersOf 16 = .ok (.invokevirtual 126, 3) := by decide +kernel
theorem dX4_membersOf_19 : decode cX4_membersOf 19 = .ok (.goto 4, 3) := by decide +kernel
theorem dX4_membersOf_22 : decode cX4_membersOf 22 = .ok (.lconst 0, 1) := by decide +kernel
theorem dX4_membersOf_23 : decode cX4_membersOf 23 = .ok (.lreturn, 1) := by decide +kernel
set_option maxRecDepth 20000 in
theorem ggX4_comparing_X5_at : GoodIn wsX4_comparing wsX5_at := goodIn_r _ [6, 7, 8, 48, 49] (by decide +kernel) (by decide +kernel)
set_option maxRecDepth 20000 in
theorem gX4_comparing_X5_at : GoodIn wsX4_comparing (wsV RX4 51 RX5 yX5_at wsX5_at) := goodIn_app (goodIn_of _ (by decide +kernel)) ggX4_comparing_X5_at
set_option maxRecDepth 20000 in
theorem ggX4_comparing_X5_fieldNamed : GoodIn wsX4_comparing wsX5_fieldNamed := goodIn_r _ [11] (by decide +kernel) (by decide +kernel)
set_option maxRecDepth 20000 in
theorem gX4_comparing_X5_fieldNamed : GoodIn wsX4_comparing (va_wsS RX4 131 yX5_fieldNamed wsX5_fieldNamed) := goodIn_app (goodIn_of _ (by decide +kernel)) ggX4_comparing_X5_fieldNamed
set_option maxRecDepth 20000 in
theorem ggX4_comparing_X5_numberAt : GoodIn wsX4_comparing wsX5_numberAt := goodIn_r _ [15, 16, 3, 4, 5, 6, 7, 8, 17, 18, 19, 48, 49] (by decide +kernel) (by decide +kernel)
set_option maxRecDepth 20000 in
theorem gX4_comparing_X5_numberAt : GoodIn wsX4_comparing (wsV RX4 81 RX5 yX5_numberAt wsX5_numberAt) := goodIn_app (goodIn_of _ (by decide +kernel)) ggX4_comparing_X5_numberAt
set_option maxRecDepth 20000 in
theorem ggX4_comparing_X1_settledValue : GoodIn wsX4_comparing wsX1_settledValue := goodIn_r _ [24, 25, 50, 51, 52, 53, 54, 55] (by decide +kernel) (by decide +kernel)
set_option maxRecDepth 20000 in
theorem gX4_comparing_X1_settledValue : GoodIn wsX4_comparing (wsV RX4 115 RX1 yX1_settledValue wsX1_settledValue) := goodIn_app (goodIn_of _ (by decide +kernel)) ggX4_comparing_X1_settledValue
set_option maxRecDepth 20000 in
theorem ggX4_comparing_X1_all : GoodIn wsX4_comparing wsX1_all := goodIn_r _ [29, 30, 50, 51, 52, 53, 54, 55] (by decide +kernel) (by decide +kernel)
set_option maxRecDepth 20000 in
theorem gX4_comparing_X1_all : GoodIn wsX4_comparing (wsV RX4 67 RX1 yX1_all wsX1_all) := goodIn_app (goodIn_of _ (by decide +kernel)) ggX4_comparing_X1_all
set_option maxRecDepth 20000 in
theorem ggX4_comparing_X8_holds : GoodIn wsX4_comparing wsX8_holds := goodIn_r _ [33] (by decide +kernel) (by decide +kernel)
set_option maxRecDepth 20000 in
theorem gX4_comparing_X8_holds_n111 : GoodIn wsX4_comparing (wsX8_holds) := ggX4_comparing_X8_holds
set_option maxRecDepth 20000 in
theorem ggX4_comparing_X4_agrees : GoodIn wsX4_comparing wsX4_agrees := goodIn_r _ [37] (by decide +kernel) (by decide +kernel)
set_option maxRecDepth 20000 in
theorem gX4_comparing_X4_agrees : GoodIn wsX4_comparing (va_wsS RX4 135 yX4_agrees wsX4_agrees) := goodIn_app (goodIn_of _ (by decide +kernel)) ggX4_comparing_X4_agrees
set_option maxRecDepth 20000 in
theorem ggX4_comparing_X8_only : GoodIn wsX4_comparing wsX8_only := goodIn_r _ [39] (by decide +kernel) (by decide +kernel)
set_option maxRecDepth 20000 in
theorem gX4_comparing_X8_only_n119 : GoodIn wsX4_comparing (wsX8_only) := ggX4_comparing_X8_only
theorem dX4_comparing_0 : decode cX4_comparing 0 = .ok (.aload_n 1, 1) := by decide +kernel
theorem dX4_comparing_1 : decode cX4_comparing 1 = .ok (.iload_n 2, 1) := by decide +kernel
theorem dX4_comparing_2 : decode cX4_comparing 2 = .ok (.invokevirtual 51, 3) := by decide +kernel
theorem dX4_comparing_5 : decode cX4_comparing 5 = .ok (.invokestatic 131, 3) := by decide +kernel
theorem dX4_comparing_8 : decode cX4_comparing 8 = .ok (.istore_n 3, 1) := by decide +kernel
theorem dX4_comparing_9 : decode cX4_comparing 9 = .ok (.iload_n 3, 1) := by decide +kernel
theorem dX4_comparing_10 : decode cX4_comparing 10 = .ok (.iconst (-1), 1) := by decide +kernel
theorem dX4_comparing_11 : decode cX4_comparing 11 = .ok (.if_icmp .ne 5, 3) := by decide +kernel
theorem dX4_comparing_14 : decode cX4_comparing 14 = .ok (.lconst 0, 1) := by decide +kernel
theorem dX4_comparing_15 : decode cX4_comparing 15 = .ok (.lreturn, 1) := by decide +kernel
theorem dX4_comparing_16 : decode cX4_comparing 16 = .ok (.aload_n 1, 1) := by decide +kernel
theorem dX4_comparing_17 : decode cX4_comparing 17 = .ok (.iload_n 2, 1) := by decide +kernel
theorem dX4_comparing_18 : decode cX4_comparing 18 = .ok (.iconst 1, 1) := by decide +kernel
theorem dX4_comparing_19 : decode cX4_comparing 19 = .ok (.iadd, 1) := by decide +kernel
theorem dX4_comparing_20 : decode cX4_comparing 20 = .ok (.invokevirtual 51, 3) := by decide +kernel
theorem dX4_comparing_23 : decode cX4_comparing 23 = .ok (.istore 4, 2) := by decide +kernel
theorem dX4_comparing_25 : decode cX4_comparing 25 = .ok (.aload_n 1, 1) := by decide +kernel
theorem dX4_comparing_26 : decode cX4_comparing 26 = .ok (.iload_n 2, 1) := by decide +kernel
theorem dX4_comparing_27 : decode cX4_comparing 27 = .ok (.iconst 2, 1) := by decide +kernel
theorem dX4_comparing_28 : decode cX4_comparing 28 = .ok (.iadd, 1) := by decide +kernel
theorem dX4_comparing_29 : decode cX4_comparing 29 = .ok (.invokevirtual 81, 3) := by decide +kernel
theorem dX4_comparing_32 : decode cX4_comparing 32 = .ok (.istore 5, 2) := by decide +kernel
theorem dX4_comparing_34 : decode cX4_comparing 34 = .ok (.lconst 0, 1) := by decide +kernel
theorem dX4_comparing_35 : decode cX4_comparing 35 = .ok (.lstore 6, 2) := by decide +kernel
theorem dX4_comparing_37 : decode cX4_comparing 37 = .ok (.iconst 0, 1) := by decide +kernel
theorem dX4_comparing_38 : decode cX4_comparing 38 = .ok (.istore 8, 2) := by decide +kernel
theorem dX4_comparing_40 : decode cX4_comparing 40 = .ok (.iload 8, 2) := by decide +kernel
theorem dX4_comparing_42 : decode cX4_comparing 42 = .ok (.bipush 40, 2) := by decide +kernel
theorem dX4_comparing_44 : decode cX4_comparing 44 = .ok (.if_icmp .ge 58, 3) := by decide +kernel
theorem dX4_comparing_47 : decode cX4_comparing 47 = .ok (.aload_n 0, 1) := by decide +kernel
theorem dX4_comparing_48 : decode cX4_comparing 48 = .ok (.getfield 9, 3) := by decide +kernel
theorem dX4_comparing_51 : decode cX4_comparing 51 = .ok (.iload 8, 2) := by decide +kernel
theorem dX4_comparing_53 : decode cX4_comparing 53 = .ok (.iload_n 3, 1) := by decide +kernel
theorem dX4_comparing_54 : decode cX4_comparing 54 = .ok (.invokevirtual 115, 3) := by decide +kernel
theorem dX4_comparing_57 : decode cX4_comparing 57 = .ok (.istore 9, 2) := by decide +kernel
theorem dX4_comparing_59 : decode cX4_comparing 59 = .ok (.aload_n 0, 1) := by decide +kernel
theorem dX4_comparing_60 : decode cX4_comparing 60 = .ok (.getfield 9, 3) := by decide +kernel
theorem dX4_comparing_63 : decode cX4_comparing 63 = .ok (.invokevirtual 67, 3) := by decide +kernel
theorem dX4_comparing_66 : decode cX4_comparing 66 = .ok (.iload 8, 2) := by decide +kernel
theorem dX4_comparing_68 : decode cX4_comparing 68 = .ok (.invokestatic 111, 3) := by decide +kernel
theorem dX4_comparing_71 : decode cX4_comparing 71 = .ok (.ifCond .eq 25, 3) := by decide +kernel
theorem dX4_comparing_74 : decode cX4_comparing 74 = .ok (.iload 9, 2) := by decide +kernel
theorem dX4_comparing_76 : decode cX4_comparing 76 = .ok (.iload 4, 2) := by decide +kernel
theorem dX4_comparing_78 : decode cX4_comparing 78 = .ok (.iload 5, 2) := by decide +kernel
theorem dX4_comparing_80 : decode cX4_comparing 80 = .ok (.invokestatic 135, 3) := by decide +kernel
theorem dX4_comparing_83 : decode cX4_comparing 83 = .ok (.ifCond .eq 13, 3) := by decide +kernel
theorem dX4_comparing_86 : decode cX4_comparing 86 = .ok (.lload 6, 2) := by decide +kernel
theorem dX4_comparing_88 : decode cX4_comparing 88 = .ok (.iload 8, 2) := by decide +kernel
theorem dX4_comparing_90 : decode cX4_comparing 90 = .ok (.invokestatic 119, 3) := by decide +kernel
theorem dX4_comparing_93 : decode cX4_comparing 93 = .ok (.lor, 1) := by decide +kernel
theorem dX4_comparing_94 : decode cX4_comparing 94 = .ok (.lstore 6, 2) := by decide +kernel
theorem dX4_comparing_96 : decode cX4_comparing 96 = .ok (.iinc 8 1, 3) := by decide +kernel
theorem dX4_comparing_99 : decode cX4_comparing 99 = .ok (.goto (-59), 3) := by decide +kernel
theorem dX4_comparing_102 : decode cX4_comparing 102 = .ok (.lload 6, 2) := by decide +kernel
theorem dX4_comparing_104 : decode cX4_comparing 104 = .ok (.lreturn, 1) := by decide +kernel
theorem dX4_agrees_0 : decode cX4_agrees 0 = .ok (.iload_n 0, 1) := by decide +kernel
theorem dX4_agrees_1 : decode cX4_agrees 1 = .ok (.iconst (-1), 1) := by decide +kernel
theorem dX4_agrees_2 : decode cX4_agrees 2 = .ok (.if_icmp .ne 5, 3) := by decide +kernel
theorem dX4_agrees_5 : decode cX4_agrees 5 = .ok (.iconst 0, 1) := by decide +kernel
theorem dX4_agrees_6 : decode cX4_agrees 6 = .ok (.ireturn, 1) := by decide +kernel
theorem dX4_agrees_7 : decode cX4_agrees 7 = .ok (.iload_n 1, 1) := by decide +kernel
theorem dX4_agrees_8 : decode cX4_agrees 8 = .ok (.tableswitch 61 60 62 #[28, 39, 50], 28) := by decide +kernel
theorem dX4_agrees_36 : decode cX4_agrees 36 = .ok (.iload_n 0, 1) := by decide +kernel
theorem dX4_agrees_37 : decode cX4_agrees 37 = .ok (.iload_n 2, 1) := by decide +kernel
theorem dX4_agrees_38 : decode cX4_agrees 38 = .ok (.if_icmp .ge 7, 3) := by decide +kernel
theorem dX4_agrees_41 : decode cX4_agrees 41 = .ok (.iconst 1, 1) := by decide +kernel
theorem dX4_agrees_42 : decode cX4_agrees 42 = .ok (.goto 4, 3) := by decide +kernel
theorem dX4_agrees_45 : decode cX4_agrees 45 = .ok (.iconst 0, 1) := by decide +kernel
theorem dX4_agrees_46 : decode cX4_agrees 46 = .ok (.ireturn, 1) := by decide +kernel
theorem dX4_agrees_47 : decode cX4_agrees 47 = .ok (.iload_n 0, 1) := by decide +kernel
theorem dX4_agrees_48 : decode cX4_agrees 48 = .ok (.iload_n 2, 1) := by decide +kernel
theorem dX4_agrees_49 : decode cX4_agrees 49 = .ok (.if_icmp .ne 7, 3) := by decide +kernel
theorem dX4_agrees_52 : decode cX4_agrees 52 = .ok (.iconst 1, 1) := by decide +kernel
theorem dX4_agrees_53 : decode cX4_agrees 53 = .ok (.goto 4, 3) := by decide +kernel
theorem dX4_agrees_56 : decode cX4_agrees 56 = .ok (.iconst 0, 1) := by decide +kernel
theorem dX4_agrees_57 : decode cX4_agrees 57 = .ok (.ireturn, 1) := by decide +kernel
theorem dX4_agrees_58 : decode cX4_agrees 58 = .ok (.iload_n 0, 1) := by decide +kernel
theorem dX4_agrees_59 : decode cX4_agrees 59 = .ok (.iload_n 2, 1) := by decide +kernel
theorem dX4_agrees_60 : decode cX4_agrees 60 = .ok (.if_icmp .le 7, 3) := by decide +kernel
theorem dX4_agrees_63 : decode cX4_agrees 63 = .ok (.iconst 1, 1) := by decide +kernel
theorem dX4_agrees_64 : decode cX4_agrees 64 = .ok (.goto 4, 3) := by decide +kernel
theorem dX4_agrees_67 : decode cX4_agrees 67 = .ok (.iconst 0, 1) := by decide +kernel
theorem dX4_agrees_68 : decode cX4_agrees 68 = .ok (.ireturn, 1) := by decide +kernel
theorem dX4_agrees_69 : decode cX4_agrees 69 = .ok (.iconst 1, 1) := by decide +kernel
theorem dX4_agrees_70 : decode cX4_agrees 70 = .ok (.ireturn, 1) := by decide +kernel
theorem dX5_init_0 : decode cX5_init 0 = .ok (.aload_n 0, 1) := by decide +kernel
theorem dX5_init_1 : decode cX5_init 1 = .ok (.invokespecial 3, 3) := by decide +kernel
theorem dX5_init_4 : decode cX5_init 4 = .ok (.aload_n 0, 1) := by decide +kernel
theorem dX5_init_5 : decode cX5_init 5 = .ok (.bipush 80, 2) := by decide +kernel
theorem dX5_init_7 : decode cX5_init 7 = .ok (.newarray .char, 2) := by decide +kernel
theorem dX5_init_9 : decode cX5_init 9 = .ok (.putfield 9, 3) := by decide +kernel
theorem dX5_init_12 : decode cX5_init 12 = .ok (.return_, 1) := by decide +kernel
theorem dX5_length_0 : decode cX5_length 0 = .ok (.aload_n 0, 1) := by decide +kernel
theorem dX5_length_1 : decode cX5_length 1 = .ok (.getfield 15, 3) := by decide +kernel
theorem dX5_length_4 : decode cX5_length 4 = .ok (.ireturn, 1) := by decide +kernel
theorem dX5_append_0 : decode cX5_append 0 = .ok (.aload_n 0, 1) := by decide +kernel
theorem dX5_append_1 : decode cX5_append 1 = .ok (.getfield 15, 3) := by decide +kernel
theorem dX5_append_4 : decode cX5_append 4 = .ok (.bipush 80, 2) := by decide +kernel
theorem dX5_append_6 : decode cX5_append 6 = .ok (.if_icmp .ge 23, 3) := by decide +kernel
theorem dX5_append_9 : decode cX5_append 9 = .ok (.aload_n 0, 1) := by decide +kernel
theorem dX5_append_10 : decode cX5_append 10 = .ok (.getfield 9, 3) := by decide +kernel
theorem dX5_append_13 : decode cX5_append 13 = .ok (.aload_n 0, 1) := by decide +kernel
theorem dX5_append_14 : decode cX5_append 14 = .ok (.getfield 15, 3) := by decide +kernel
theorem dX5_append_17 : decode cX5_append 17 = .ok (.iload_n 1, 1) := by decide +kernel
theorem dX5_append_18 : decode cX5_append 18 = .ok (.castore, 1) := by decide +kernel
theorem dX5_append_19 : decode cX5_append 19 = .ok (.aload_n 0, 1) := by decide +kernel
theorem dX5_append_20 : decode cX5_append 20 = .ok (.dup, 1) := by decide +kernel
theorem dX5_append_21 : decode cX5_append 21 = .ok (.getfield 15, 3) := by decide +kernel
theorem dX5_append_24 : decode cX5_append 24 = .ok (.iconst 1, 1) := by decide +kernel
theorem dX5_append_25 : decode cX5_append 25 = .ok (.iadd, 1) := by decide +kernel
theorem dX5_append_26 : decode cX5_append 26 = .ok (.putfield 15, 3) := by decide +kernel
theorem dX5_append_29 : decode cX5_append 29 = .ok (.return_, 1) := by decide +kernel
theorem dX5_empty_0 : decode cX5_empty 0 = .ok (.aload_n 0, 1) := by decide +kernel
theorem dX5_empty_1 : decode cX5_empty 1 = .ok (.iconst 0, 1) := by decide +kernel
theorem dX5_empty_2 : decode cX5_empty 2 = .ok (.putfield 15, 3) := by decide +kernel
theorem dX5_empty_5 : decode cX5_empty 5 = .ok (.return_, 1) := by decide +kernel
theorem dX5_copy_0 : decode cX5_copy 0 = .ok (.aload_n 1, 1) := by decide +kernel
theorem dX5_copy_1 : decode cX5_copy 1 = .ok (.getfield 9, 3) := by decide +kernel
theorem dX5_copy_4 : decode cX5_copy 4 = .ok (.iconst 0, 1) := by decide +kernel
theorem dX5_copy_5 : decode cX5_copy 5 = .ok (.aload_n 0, 1) := by decide +kernel
theorem dX5_copy_6 : decode cX5_copy 6 = .ok (.getfield 9, 3) := by decide +kernel
theorem dX5_copy_9 : decode cX5_copy 9 = .ok (.iconst 0, 1) := by decide +kernel
theorem dX5_copy_10 : decode cX5_copy 10 = .ok (.aload_n 1, 1) := by decide +kernel
theorem dX5_copy_11 : decode cX5_copy 11 = .ok (.getfield 15, 3) := by decide +kernel
theorem dX5_copy_14 : decode cX5_copy 14 = .ok (.invokestatic 19, 3) := by decide +kernel
theorem dX5_copy_17 : decode cX5_copy 17 = .ok (.aload_n 0, 1) := by decide +kernel
theorem dX5_copy_18 : decode cX5_copy 18 = .ok (.aload_n 1, 1) := by decide +kernel
theorem dX5_copy_19 : decode cX5_copy 19 = .ok (.getfield 15, 3) := by decide +kernel
theorem dX5_copy_22 : decode cX5_copy 22 = .ok (.putfield 15, 3) := by decide +kernel
theorem dX5_copy_25 : decode cX5_copy 25 = .ok (.return_, 1) := by decide +kernel
theorem dX5_at_0 : decode cX5_at 0 = .ok (.iload_n 1, 1) := by decide +kernel
theorem dX5_at_1 : decode cX5_at 1 = .ok (.ifCond .lt 20, 3) := by decide +kernel
theorem dX5_at_4 : decode cX5_at 4 = .ok (.iload_n 1, 1) := by decide +kernel
theorem dX5_at_5 : decode cX5_at 5 = .ok (.aload_n 0, 1) := by decide +kernel
theorem dX5_at_6 : decode cX5_at 6 = .ok (.getfield 15, 3) := by decide +kernel
theorem dX5_at_9 : decode cX5_at 9 = .ok (.if_icmp .ge 12, 3) := by decide +kernel
theorem dX5_at_12 : decode cX5_at 12 = .ok (.aload_n 0, 1) := by decide +kernel
theorem dX5_at_13 : decode cX5_at 13 = .ok (.getfield 9, 3) := by decide +kernel
theorem dX5_at_16 : decode cX5_at 16 = .ok (.iload_n 1, 1) := by decide +kernel
theorem dX5_at_17 : decode cX5_at 17 = .ok (.caload, 1) := by decide +kernel
theorem dX5_at_18 : decode cX5_at 18 = .ok (.goto 4, 3) := by decide +kernel
theorem dX5_at_21 : decode cX5_at 21 = .ok (.iconst 0, 1) := by decide +kernel
theorem dX5_at_22 : decode cX5_at 22 = .ok (.ireturn, 1) := by decide +kernel
set_option maxRecDepth 20000 in
theorem ggX5_numberAt_X5_at : GoodIn wsX5_numberAt wsX5_at := goodIn_r _ [5, 6, 7, 11, 12] (by decide +kernel) (by decide +kernel)
set_option maxRecDepth 20000 in
theorem gX5_numberAt_X5_at : GoodIn wsX5_numberAt (wsV RX5 25 RX5 yX5_at wsX5_at) := goodIn_app (goodIn_of _ (by decide +kernel)) ggX5_numberAt_X5_at
set_option maxRecDepth 20000 in
theorem ggX5_numberAt_X5_isDigit : GoodIn wsX5_numberAt wsX5_isDigit := goodIn_r _ [10] (by decide +kernel) (by decide +kernel)
set_option maxRecDepth 20000 in
theorem gX5_numberAt_X5_isDigit : GoodIn wsX5_numberAt (va_wsS RX5 29 yX5_isDigit wsX5_isDigit) := goodIn_app (goodIn_of _ (by decide +kernel)) ggX5_numberAt_X5_isDigit
theorem dX5_numberAt_0 : decode cX5_numberAt 0 = .ok (.iconst 0, 1) := by decide +kernel
theorem dX5_numberAt_1 : decode cX5_numberAt 1 = .ok (.istore_n 2, 1) := by decide +kernel
theorem dX5_numberAt_2 : decode cX5_numberAt 2 = .ok (.iload_n 1, 1) := by decide +kernel
theorem dX5_numberAt_3 : decode cX5_numberAt 3 = .ok (.istore_n 3, 1) := by decide +kernel
theorem dX5_numberAt_4 : decode cX5_numberAt 4 = .ok (.iload_n 3, 1) := by decide +kernel
theorem dX5_numberAt_5 : decode cX5_numberAt 5 = .ok (.iload_n 1, 1) := by decide +kernel
theorem dX5_numberAt_6 : decode cX5_numberAt 6 = .ok (.iconst 5, 1) := by decide +kernel
theorem dX5_numberAt_7 : decode cX5_numberAt 7 = .ok (.iadd, 1) := by decide +kernel
theorem dX5_numberAt_8 : decode cX5_numberAt 8 = .ok (.if_icmp .ge 34, 3) := by decide +kernel
theorem dX5_numberAt_11 : decode cX5_numberAt 11 = .ok (.aload_n 0, 1) := by decide +kernel
theorem dX5_numberAt_12 : decode cX5_numberAt 12 = .ok (.iload_n 3, 1) := by decide +kernel
theorem dX5_numberAt_13 : decode cX5_numberAt 13 = .ok (.invokevirtual 25, 3) := by decide +kernel
theorem dX5_numberAt_16 : decode cX5_numberAt 16 = .ok (.invokestatic 29, 3) := by decide +kernel
theorem dX5_numberAt_19 : decode cX5_numberAt 19 = .ok (.ifCond .eq 23, 3) := by decide +kernel
theorem dX5_numberAt_22 : decode cX5_numberAt 22 = .ok (.bipush 10, 2) := by decide +kernel
theorem dX5_numberAt_24 : decode cX5_numberAt 24 = .ok (.iload_n 2, 1) := by decide +kernel
theorem dX5_numberAt_25 : decode cX5_numberAt 25 = .ok (.imul, 1) := by decide +kernel
theorem dX5_numberAt_26 : decode cX5_numberAt 26 = .ok (.aload_n 0, 1) := by decide +kernel
theorem dX5_numberAt_27 : decode cX5_numberAt 27 = .ok (.iload_n 3, 1) := by decide +kernel
theorem dX5_numberAt_28 : decode cX5_numberAt 28 = .ok (.invokevirtual 25, 3) := by decide +kernel
theorem dX5_numberAt_31 : decode cX5_numberAt 31 = .ok (.bipush 48, 2) := by decide +kernel
theorem dX5_numberAt_33 : decode cX5_numberAt 33 = .ok (.isub, 1) := by decide +kernel
theorem dX5_numberAt_34 : decode cX5_numberAt 34 = .ok (.iadd, 1) := by decide +kernel
theorem dX5_numberAt_35 : decode cX5_numberAt 35 = .ok (.istore_n 2, 1) := by decide +kernel
theorem dX5_numberAt_36 : decode cX5_numberAt 36 = .ok (.iinc 3 1, 3) := by decide +kernel
theorem dX5_numberAt_39 : decode cX5_numberAt 39 = .ok (.goto (-35), 3) := by decide +kernel
theorem dX5_numberAt_42 : decode cX5_numberAt 42 = .ok (.iload_n 2, 1) := by decide +kernel
theorem dX5_numberAt_43 : decode cX5_numberAt 43 = .ok (.ireturn, 1) := by decide +kernel
set_option maxRecDepth 20000 in
theorem ggX5_names_X5_at : GoodIn wsX5_names wsX5_at := goodIn_r _ [6, 1, 7, 8, 9] (by decide +kernel) (by decide +kernel)
set_option maxRecDepth 20000 in
theorem gX5_names_X5_at : GoodIn wsX5_names (wsV RX5 25 RX5 yX5_at wsX5_at) := goodIn_app (goodIn_of _ (by decide +kernel)) ggX5_names_X5_at
theorem dX5_names_0 : decode cX5_names 0 = .ok (.iconst 0, 1) := by decide +kernel
theorem dX5_names_1 : decode cX5_names 1 = .ok (.istore_n 2, 1) := by decide +kernel
theorem dX5_names_2 : decode cX5_names 2 = .ok (.iload_n 2, 1) := by decide +kernel
theorem dX5_names_3 : decode cX5_names 3 = .ok (.aload_n 0, 1) := by decide +kernel
theorem dX5_names_4 : decode cX5_names 4 = .ok (.getfield 15, 3) := by decide +kernel
theorem dX5_names_7 : decode cX5_names 7 = .ok (.if_icmp .ge 35, 3) := by decide +kernel
theorem dX5_names_10 : decode cX5_names 10 = .ok (.aload_n 0, 1) := by decide +kernel
theorem dX5_names_11 : decode cX5_names 11 = .ok (.iload_n 2, 1) := by decide +kernel
theorem dX5_names_12 : decode cX5_names 12 = .ok (.invokevirtual 25, 3) := by decide +kernel
theorem dX5_names_15 : decode cX5_names 15 = .ok (.bipush 97, 2) := by decide +kernel
theorem dX5_names_17 : decode cX5_names 17 = .ok (.if_icmp .ne 19, 3) := by decide +kernel
theorem dX5_names_20 : decode cX5_names 20 = .ok (.aload_n 0, 1) := by decide +kernel
theorem dX5_names_21 : decode cX5_names 21 = .ok (.iload_n 2, 1) := by decide +kernel
theorem dX5_names_22 : decode cX5_names 22 = .ok (.iconst 1, 1) := by decide +kernel
theorem dX5_names_23 : decode cX5_names 23 = .ok (.iadd, 1) := by decide +kernel
theorem dX5_names_24 : decode cX5_names 24 = .ok (.invokevirtual 25, 3) := by decide +kernel
theorem dX5_names_27 : decode cX5_names 27 = .ok (.bipush 48, 2) := by decide +kernel
theorem dX5_names_29 : decode cX5_names 29 = .ok (.isub, 1) := by decide +kernel
theorem dX5_names_30 : decode cX5_names 30 = .ok (.iload_n 1, 1) := by decide +kernel
theorem dX5_names_31 : decode cX5_names 31 = .ok (.if_icmp .ne 5, 3) := by decide +kernel
theorem dX5_names_34 : decode cX5_names 34 = .ok (.iconst 1, 1) := by decide +kernel
theorem dX5_names_35 : decode cX5_names 35 = .ok (.ireturn, 1) := by decide +kernel
theorem dX5_names_36 : decode cX5_names 36 = .ok (.iinc 2 1, 3) := by decide +kernel
theorem dX5_names_39 : decode cX5_names 39 = .ok (.goto (-37), 3) := by decide +kernel
theorem dX5_names_42 : decode cX5_names 42 = .ok (.iconst 0, 1) := by decide +kernel
theorem dX5_names_43 : decode cX5_names 43 = .ok (.ireturn, 1) := by decide +kernel
set_option maxRecDepth 20000 in
theorem ggX5_firstFault_X5_next : GoodIn wsX5_firstFault wsX5_next := goodIn_r _ [6, 7, 8, 5, 9, 10, 11, 12, 13, 14, 15, 16, 17, 18, 19, 20, 21, 22, 23, 24] (by decide +kernel) (by decide +kernel)
set_option maxRecDepth 20000 in
theorem gX5_firstFault_X5_next : GoodIn wsX5_firstFault (va_wsS RX5 33 yX5_next wsX5_next) := goodIn_app (goodIn_of _ (by decide +kernel)) ggX5_firstFault_X5_next
theorem dX5_firstFault_0 : decode cX5_firstFault 0 = .ok (.iconst 0, 1) := by decide +kernel
theorem dX5_firstFault_1 : decode cX5_firstFault 1 = .ok (.istore_n 1, 1) := by decide +kernel
theorem dX5_firstFault_2 : decode cX5_firstFault 2 = .ok (.iconst 0, 1) := by decide +kernel
theorem dX5_firstFault_3 : decode cX5_firstFault 3 = .ok (.istore_n 2, 1) := by decide +kernel
theorem dX5_firstFault_4 : decode cX5_firstFault 4 = .ok (.iconst 0, 1) := by decide +kernel
theorem dX5_firstFault_5 : decode cX5_firstFault 5 = .ok (.istore_n 3, 1) := by decide +kernel
theorem dX5_firstFault_6 : decode cX5_firstFault 6 = .ok (.iload_n 3, 1) := by decide +kernel
theorem dX5_firstFault_7 : decode cX5_firstFault 7 = .ok (.aload_n 0, 1) := by decide +kernel
theorem dX5_firstFault_8 : decode cX5_firstFault 8 = .ok (.getfield 15, 3) := by decide +kernel
theorem dX5_firstFault_11 : decode cX5_firstFault 11 = .ok (.if_icmp .ge 55, 3) := by decide +kernel
theorem dX5_firstFault_14 : decode cX5_firstFault 14 = .ok (.aload_n 0, 1) := by decide +kernel
theorem dX5_firstFault_15 : decode cX5_firstFault 15 = .ok (.getfield 9, 3) := by decide +kernel
theorem dX5_firstFault_18 : decode cX5_firstFault 18 = .ok (.iload_n 3, 1) := by decide +kernel
theorem dX5_firstFault_19 : decode cX5_firstFault 19 = .ok (.caload, 1) := by decide +kernel
theorem dX5_firstFault_20 : decode cX5_firstFault 20 = .ok (.istore 4, 2) := by decide +kernel
theorem dX5_firstFault_22 : decode cX5_firstFault 22 = .ok (.iload_n 1, 1) := by decide +kernel
theorem dX5_firstFault_23 : decode cX5_firstFault 23 = .ok (.iload 4, 2) := by decide +kernel
theorem dX5_firstFault_25 : decode cX5_firstFault 25 = .ok (.iload_n 2, 1) := by decide +kernel
theorem dX5_firstFault_26 : decode cX5_firstFault 26 = .ok (.invokestatic 33, 3) := by decide +kernel
theorem dX5_firstFault_29 : decode cX5_firstFault 29 = .ok (.istore_n 1, 1) := by decide +kernel
theorem dX5_firstFault_30 : decode cX5_firstFault 30 = .ok (.iload_n 1, 1) := by decide +kernel
theorem dX5_firstFault_31 : decode cX5_firstFault 31 = .ok (.iconst (-1), 1) := by decide +kernel
theorem dX5_firstFault_32 : decode cX5_firstFault 32 = .ok (.if_icmp .ne 5, 3) := by decide +kernel
theorem dX5_firstFault_35 : decode cX5_firstFault 35 = .ok (.iload_n 3, 1) := by decide +kernel
theorem dX5_firstFault_36 : decode cX5_firstFault 36 = .ok (.ireturn, 1) := by decide +kernel
theorem dX5_firstFault_37 : decode cX5_firstFault 37 = .ok (.iload 4, 2) := by decide +kernel
theorem dX5_firstFault_39 : decode cX5_firstFault 39 = .ok (.bipush 40, 2) := by decide +kernel
theorem dX5_firstFault_41 : decode cX5_firstFault 41 = .ok (.if_icmp .ne 9, 3) := by decide +kernel
theorem dX5_firstFault_44 : decode cX5_firstFault 44 = .ok (.iinc 2 1, 3) := by decide +kernel
theorem dX5_firstFault_47 : decode cX5_firstFault 47 = .ok (.goto 13, 3) := by decide +kernel
theorem dX5_firstFault_50 : decode cX5_firstFault 50 = .ok (.iload 4, 2) := by decide +kernel
theorem dX5_firstFault_52 : decode cX5_firstFault 52 = .ok (.bipush 41, 2) := by decide +kernel
theorem dX5_firstFault_54 : decode cX5_firstFault 54 = .ok (.if_icmp .ne 6, 3) := by decide +kernel
theorem dX5_firstFault_57 : decode cX5_firstFault 57 = .ok (.iinc 2 (-1), 3) := by decide +kernel
theorem dX5_firstFault_60 : decode cX5_firstFault 60 = .ok (.iinc 3 1, 3) := by decide +kernel
theorem dX5_firstFault_63 : decode cX5_firstFault 63 = .ok (.goto (-57), 3) := by decide +kernel
theorem dX5_firstFault_66 : decode cX5_firstFault 66 = .ok (.iload_n 1, 1) := by decide +kernel
theorem dX5_firstFault_67 : decode cX5_firstFault 67 = .ok (.iconst 3, 1) := by decide +kernel
theorem dX5_firstFault_68 : decode cX5_firstFault 68 = .ok (.if_icmp .lt 16, 3) := by decide +kernel
theorem dX5_firstFault_71 : decode cX5_firstFault 71 = .ok (.iload_n 1, 1) := by decide +kernel
theorem dX5_firstFault_72 : decode cX5_firstFault 72 = .ok (.iconst 4, 1) := by decide +kernel
theorem dX5_firstFault_73 : decode cX5_firstFault 73 = .ok (.if_icmp .eq 11, 3) := by decide +kernel
theorem dX5_firstFault_76 : decode cX5_firstFault 76 = .ok (.iload_n 2, 1) := by decide +kernel
theorem dX5_firstFault_77 : decode cX5_firstFault 77 = .ok (.ifCond .ne 7, 3) := by decide +kernel
theorem dX5_firstFault_80 : decode cX5_firstFault 80 = .ok (.iconst (-1), 1) := by decide +kernel
theorem dX5_firstFault_81 : decode cX5_firstFault 81 = .ok (.goto 7, 3) := by decide +kernel
theorem dX5_firstFault_84 : decode cX5_firstFault 84 = .ok (.aload_n 0, 1) := by decide +kernel
theorem dX5_firstFault_85 : decode cX5_firstFault 85 = .ok (.getfield 15, 3) := by decide +kernel
theorem dX5_firstFault_88 : decode cX5_firstFault 88 = .ok (.ireturn, 1) := by decide +kernel
set_option maxRecDepth 20000 in
theorem ggX5_next_X5_inItem : GoodIn wsX5_next wsX5_inItem := goodIn_r _ [4, 5, 6, 3, 7] (by decide +kernel) (by decide +kernel)
set_option maxRecDepth 20000 in
theorem gX5_next_X5_inItem : GoodIn wsX5_next (va_wsS RX5 37 yX5_inItem wsX5_inItem) := goodIn_app (goodIn_of _ (by decide +kernel)) ggX5_next_X5_inItem
set_option maxRecDepth 20000 in
theorem ggX5_next_X5_afterField : GoodIn wsX5_next wsX5_afterField := goodIn_r _ [10] (by decide +kernel) (by decide +kernel)
set_option maxRecDepth 20000 in
theorem gX5_next_X5_afterField : GoodIn wsX5_next (va_wsS RX5 41 yX5_afterField wsX5_afterField) := goodIn_app (goodIn_of _ (by decide +kernel)) ggX5_next_X5_afterField
set_option maxRecDepth 20000 in
theorem ggX5_next_X5_isDigit : GoodIn wsX5_next wsX5_isDigit := goodIn_r _ [13] (by decide +kernel) (by decide +kernel)
set_option maxRecDepth 20000 in
theorem gX5_next_X5_isDigit : GoodIn wsX5_next (va_wsS RX5 29 yX5_isDigit wsX5_isDigit) := goodIn_app (goodIn_of _ (by decide +kernel)) ggX5_next_X5_isDigit
set_option maxRecDepth 20000 in
theorem ggX5_next_X5_afterItem : GoodIn wsX5_next wsX5_afterItem := goodIn_r _ [16] (by decide +kernel) (by decide +kernel)
set_option maxRecDepth 20000 in
theorem gX5_next_X5_afterItem : GoodIn wsX5_next (va_wsS RX5 45 yX5_afterItem wsX5_afterItem) := goodIn_app (goodIn_of _ (by decide +kernel)) ggX5_next_X5_afterItem
set_option maxRecDepth 20000 in
theorem ggX5_next_X5_inNumber : GoodIn wsX5_next wsX5_inNumber := goodIn_r _ [19, 11, 12, 3, 13, 14, 15, 16] (by decide +kernel) (by decide +kernel)
set_option maxRecDepth 20000 in
theorem gX5_next_X5_inNumber : GoodIn wsX5_next (va_wsS RX5 48 yX5_inNumber wsX5_inNumber) := goodIn_app (goodIn_of _ (by decide +kernel)) ggX5_next_X5_inNumber
theorem dX5_next_0 : decode cX5_next 0 = .ok (.iload_n 0, 1) := by decide +kernel
theorem dX5_next_1 : decode cX5_next 1 = .ok (.tableswitch 61 0 3 #[31, 37, 42, 55], 31) := by decide +kernel
theorem dX5_next_32 : decode cX5_next 32 = .ok (.iload_n 1, 1) := by decide +kernel
theorem dX5_next_33 : decode cX5_next 33 = .ok (.iload_n 2, 1) := by decide +kernel
theorem dX5_next_34 : decode cX5_next 34 = .ok (.invokestatic 37, 3) := by decide +kernel
theorem dX5_next_37 : decode cX5_next 37 = .ok (.ireturn, 1) := by decide +kernel
theorem dX5_next_38 : decode cX5_next 38 = .ok (.iload_n 1, 1) := by decide +kernel
theorem dX5_next_39 : decode cX5_next 39 = .ok (.invokestatic 41, 3) := by decide +kernel
theorem dX5_next_42 : decode cX5_next 42 = .ok (.ireturn, 1) := by decide +kernel
theorem dX5_next_43 : decode cX5_next 43 = .ok (.iload_n 1, 1) := by decide +kernel
theorem dX5_next_44 : decode cX5_next 44 = .ok (.invokestatic 29, 3) := by decide +kernel
theorem dX5_next_47 : decode cX5_next 47 = .ok (.ifCond .eq 7, 3) := by decide +kernel
theorem dX5_next_50 : decode cX5_next 50 = .ok (.iconst 3, 1) := by decide +kernel
theorem dX5_next_51 : decode cX5_next 51 = .ok (.goto 4, 3) := by decide +kernel
theorem dX5_next_54 : decode cX5_next 54 = .ok (.iconst (-1), 1) := by decide +kernel
theorem dX5_next_55 : decode cX5_next 55 = .ok (.ireturn, 1) := by decide +kernel
theorem dX5_next_56 : decode cX5_next 56 = .ok (.iload_n 1, 1) := by decide +kernel
theorem dX5_next_57 : decode cX5_next 57 = .ok (.iload_n 2, 1) := by decide +kernel
theorem dX5_next_58 : decode cX5_next 58 = .ok (.invokestatic 45, 3) := by decide +kernel
theorem dX5_next_61 : decode cX5_next 61 = .ok (.ireturn, 1) := by decide +kernel
theorem dX5_next_62 : decode cX5_next 62 = .ok (.iload_n 0, 1) := by decide +kernel
theorem dX5_next_63 : decode cX5_next 63 = .ok (.iload_n 1, 1) := by decide +kernel
theorem dX5_next_64 : decode cX5_next 64 = .ok (.iload_n 2, 1) := by decide +kernel
theorem dX5_next_65 : decode cX5_next 65 = .ok (.invokestatic 48, 3) := by decide +kernel
theorem dX5_next_68 : decode cX5_next 68 = .ok (.ireturn, 1) := by decide +kernel
set_option maxRecDepth 20000 in
theorem ggX5_inItem_X5_fieldNamed : GoodIn wsX5_inItem wsX5_fieldNamed := goodIn_r _ [4] (by decide +kernel) (by decide +kernel)
set_option maxRecDepth 20000 in
theorem gX5_inItem_X5_fieldNamed : GoodIn wsX5_inItem (va_wsS RX5 51 yX5_fieldNamed wsX5_fieldNamed) := goodIn_app (goodIn_of _ (by decide +kernel)) ggX5_inItem_X5_fieldNamed
theorem dX5_inItem_0 : decode cX5_inItem 0 = .ok (.iload_n 0, 1) := by decide +kernel
theorem dX5_inItem_1 : decode cX5_inItem 1 = .ok (.bipush 33, 2) := by decide +kernel
theorem dX5_inItem_3 : decode cX5_inItem 3 = .ok (.if_icmp .eq 15, 3) := by decide +kernel
theorem dX5_inItem_6 : decode cX5_inItem 6 = .ok (.iload_n 0, 1) := by decide +kernel
theorem dX5_inItem_7 : decode cX5_inItem 7 = .ok (.bipush 40, 2) := by decide +kernel
theorem dX5_inItem_9 : decode cX5_inItem 9 = .ok (.if_icmp .ne 11, 3) := by decide +kernel
end
section
theorem dX5_inItem_12 : decode cX5_inItem 12 = .ok (.iload_n 1, 1) := by decide +kernel
theorem dX5_inItem_13 : decode cX5_inItem 13 = .ok (.bipush 10, 2) := by decide +kernel
theorem dX5_inItem_15 : decode cX5_inItem 15 = .ok (.if_icmp .ge 5, 3) := by decide +kernel
theorem dX5_inItem_18 : decode cX5_inItem 18 = .ok (.iconst 0, 1) := by decide +kernel
theorem dX5_inItem_19 : decode cX5_inItem 19 = .ok (.ireturn, 1) := by decide +kernel
theorem dX5_inItem_20 : decode cX5_inItem 20 = .ok (.iload_n 0, 1) := by decide +kernel
theorem dX5_inItem_21 : decode cX5_inItem 21 = .ok (.invokestatic 51, 3) := by decide +kernel
theorem dX5_inItem_24 : decode cX5_inItem 24 = .ok (.iconst (-1), 1) := by decide +kernel
theorem dX5_inItem_25 : decode cX5_inItem 25 = .ok (.if_icmp .eq 5, 3) := by decide +kernel
theorem dX5_inItem_28 : decode cX5_inItem 28 = .ok (.iconst 1, 1) := by decide +kernel
theorem dX5_inItem_29 : decode cX5_inItem 29 = .ok (.ireturn, 1) := by decide +kernel
theorem dX5_inItem_30 : decode cX5_inItem 30 = .ok (.iload_n 0, 1) := by decide +kernel
theorem dX5_inItem_31 : decode cX5_inItem 31 = .ok (.lookupswitch 61 #[(97, 57), (98, 59), (115, 59), (116, 57), (117, 59), (118, 59)], 57) := by decide +kernel
theorem dX5_inItem_88 : decode cX5_inItem 88 = .ok (.iconst 2, 1) := by decide +kernel
theorem dX5_inItem_89 : decode cX5_inItem 89 = .ok (.ireturn, 1) := by decide +kernel
theorem dX5_inItem_90 : decode cX5_inItem 90 = .ok (.iconst 3, 1) := by decide +kernel
theorem dX5_inItem_91 : decode cX5_inItem 91 = .ok (.ireturn, 1) := by decide +kernel
theorem dX5_inItem_92 : decode cX5_inItem 92 = .ok (.iconst (-1), 1) := by decide +kernel
theorem dX5_inItem_93 : decode cX5_inItem 93 = .ok (.ireturn, 1) := by decide +kernel
theorem dX5_afterField_0 : decode cX5_afterField 0 = .ok (.iload_n 0, 1) := by decide +kernel
theorem dX5_afterField_1 : decode cX5_afterField 1 = .ok (.tableswitch 35 60 63 #[31, 31, 31, 33], 31) := by decide +kernel
theorem dX5_afterField_32 : decode cX5_afterField 32 = .ok (.iconst 4, 1) := by decide +kernel
theorem dX5_afterField_33 : decode cX5_afterField 33 = .ok (.ireturn, 1) := by decide +kernel
theorem dX5_afterField_34 : decode cX5_afterField 34 = .ok (.iconst 3, 1) := by decide +kernel
theorem dX5_afterField_35 : decode cX5_afterField 35 = .ok (.ireturn, 1) := by decide +kernel
theorem dX5_afterField_36 : decode cX5_afterField 36 = .ok (.iconst (-1), 1) := by decide +kernel
theorem dX5_afterField_37 : decode cX5_afterField 37 = .ok (.ireturn, 1) := by decide +kernel
set_option maxRecDepth 20000 in
theorem ggX5_inNumber_X5_isDigit : GoodIn wsX5_inNumber wsX5_isDigit := goodIn_r _ [4] (by decide +kernel) (by decide +kernel)
set_option maxRecDepth 20000 in
theorem gX5_inNumber_X5_isDigit : GoodIn wsX5_inNumber (va_wsS RX5 29 yX5_isDigit wsX5_isDigit) := goodIn_app (goodIn_of _ (by decide +kernel)) ggX5_inNumber_X5_isDigit
set_option maxRecDepth 20000 in
theorem ggX5_inNumber_X5_afterItem : GoodIn wsX5_inNumber wsX5_afterItem := goodIn_r _ [7] (by decide +kernel) (by decide +kernel)
set_option maxRecDepth 20000 in
theorem gX5_inNumber_X5_afterItem : GoodIn wsX5_inNumber (va_wsS RX5 45 yX5_afterItem wsX5_afterItem) := goodIn_app (goodIn_of _ (by decide +kernel)) ggX5_inNumber_X5_afterItem
theorem dX5_inNumber_0 : decode cX5_inNumber 0 = .ok (.iload_n 0, 1) := by decide +kernel
theorem dX5_inNumber_1 : decode cX5_inNumber 1 = .ok (.iconst 4, 1) := by decide +kernel
theorem dX5_inNumber_2 : decode cX5_inNumber 2 = .ok (.isub, 1) := by decide +kernel
theorem dX5_inNumber_3 : decode cX5_inNumber 3 = .ok (.istore_n 3, 1) := by decide +kernel
theorem dX5_inNumber_4 : decode cX5_inNumber 4 = .ok (.iload_n 1, 1) := by decide +kernel
theorem dX5_inNumber_5 : decode cX5_inNumber 5 = .ok (.invokestatic 29, 3) := by decide +kernel
theorem dX5_inNumber_8 : decode cX5_inNumber 8 = .ok (.ifCond .eq 16, 3) := by decide +kernel
theorem dX5_inNumber_11 : decode cX5_inNumber 11 = .ok (.iload_n 3, 1) := by decide +kernel
theorem dX5_inNumber_12 : decode cX5_inNumber 12 = .ok (.iconst 5, 1) := by decide +kernel
theorem dX5_inNumber_13 : decode cX5_inNumber 13 = .ok (.if_icmp .ge 9, 3) := by decide +kernel
theorem dX5_inNumber_16 : decode cX5_inNumber 16 = .ok (.iload_n 0, 1) := by decide +kernel
theorem dX5_inNumber_17 : decode cX5_inNumber 17 = .ok (.iconst 1, 1) := by decide +kernel
theorem dX5_inNumber_18 : decode cX5_inNumber 18 = .ok (.iadd, 1) := by decide +kernel
theorem dX5_inNumber_19 : decode cX5_inNumber 19 = .ok (.goto 4, 3) := by decide +kernel
theorem dX5_inNumber_22 : decode cX5_inNumber 22 = .ok (.iconst (-1), 1) := by decide +kernel
theorem dX5_inNumber_23 : decode cX5_inNumber 23 = .ok (.ireturn, 1) := by decide +kernel
theorem dX5_inNumber_24 : decode cX5_inNumber 24 = .ok (.iload_n 3, 1) := by decide +kernel
theorem dX5_inNumber_25 : decode cX5_inNumber 25 = .ok (.ifCond .le 11, 3) := by decide +kernel
theorem dX5_inNumber_28 : decode cX5_inNumber 28 = .ok (.iload_n 1, 1) := by decide +kernel
theorem dX5_inNumber_29 : decode cX5_inNumber 29 = .ok (.iload_n 2, 1) := by decide +kernel
theorem dX5_inNumber_30 : decode cX5_inNumber 30 = .ok (.invokestatic 45, 3) := by decide +kernel
theorem dX5_inNumber_33 : decode cX5_inNumber 33 = .ok (.goto 4, 3) := by decide +kernel
theorem dX5_inNumber_36 : decode cX5_inNumber 36 = .ok (.iconst (-1), 1) := by decide +kernel
theorem dX5_inNumber_37 : decode cX5_inNumber 37 = .ok (.ireturn, 1) := by decide +kernel
theorem dX5_afterItem_0 : decode cX5_afterItem 0 = .ok (.iload_n 0, 1) := by decide +kernel
theorem dX5_afterItem_1 : decode cX5_afterItem 1 = .ok (.bipush 38, 2) := by decide +kernel
theorem dX5_afterItem_3 : decode cX5_afterItem 3 = .ok (.if_icmp .eq 9, 3) := by decide +kernel
theorem dX5_afterItem_6 : decode cX5_afterItem 6 = .ok (.iload_n 0, 1) := by decide +kernel
theorem dX5_afterItem_7 : decode cX5_afterItem 7 = .ok (.bipush 124, 2) := by decide +kernel
theorem dX5_afterItem_9 : decode cX5_afterItem 9 = .ok (.if_icmp .ne 5, 3) := by decide +kernel
theorem dX5_afterItem_12 : decode cX5_afterItem 12 = .ok (.iconst 0, 1) := by decide +kernel
theorem dX5_afterItem_13 : decode cX5_afterItem 13 = .ok (.ireturn, 1) := by decide +kernel
theorem dX5_afterItem_14 : decode cX5_afterItem 14 = .ok (.iload_n 0, 1) := by decide +kernel
theorem dX5_afterItem_15 : decode cX5_afterItem 15 = .ok (.bipush 41, 2) := by decide +kernel
theorem dX5_afterItem_17 : decode cX5_afterItem 17 = .ok (.if_icmp .ne 11, 3) := by decide +kernel
theorem dX5_afterItem_20 : decode cX5_afterItem 20 = .ok (.iload_n 1, 1) := by decide +kernel
theorem dX5_afterItem_21 : decode cX5_afterItem 21 = .ok (.ifCond .le 7, 3) := by decide +kernel
theorem dX5_afterItem_24 : decode cX5_afterItem 24 = .ok (.iconst 3, 1) := by decide +kernel
theorem dX5_afterItem_25 : decode cX5_afterItem 25 = .ok (.goto 4, 3) := by decide +kernel
theorem dX5_afterItem_28 : decode cX5_afterItem 28 = .ok (.iconst (-1), 1) := by decide +kernel
theorem dX5_afterItem_29 : decode cX5_afterItem 29 = .ok (.ireturn, 1) := by decide +kernel
theorem dX5_isDigit_0 : decode cX5_isDigit 0 = .ok (.iload_n 0, 1) := by decide +kernel
theorem dX5_isDigit_1 : decode cX5_isDigit 1 = .ok (.bipush 48, 2) := by decide +kernel
theorem dX5_isDigit_3 : decode cX5_isDigit 3 = .ok (.if_icmp .lt 13, 3) := by decide +kernel
theorem dX5_isDigit_6 : decode cX5_isDigit 6 = .ok (.iload_n 0, 1) := by decide +kernel
theorem dX5_isDigit_7 : decode cX5_isDigit 7 = .ok (.bipush 57, 2) := by decide +kernel
theorem dX5_isDigit_9 : decode cX5_isDigit 9 = .ok (.if_icmp .gt 7, 3) := by decide +kernel
theorem dX5_isDigit_12 : decode cX5_isDigit 12 = .ok (.iconst 1, 1) := by decide +kernel
theorem dX5_isDigit_13 : decode cX5_isDigit 13 = .ok (.goto 4, 3) := by decide +kernel
theorem dX5_isDigit_16 : decode cX5_isDigit 16 = .ok (.iconst 0, 1) := by decide +kernel
theorem dX5_isDigit_17 : decode cX5_isDigit 17 = .ok (.ireturn, 1) := by decide +kernel
theorem dX5_fieldNamed_0 : decode cX5_fieldNamed 0 = .ok (.iload_n 0, 1) := by decide +kernel
theorem dX5_fieldNamed_1 : decode cX5_fieldNamed 1 = .ok (.lookupswitch 61 #[(99, 57), (100, 59), (107, 51), (114, 53), (121, 55)], 51) := by decide +kernel
theorem dX5_fieldNamed_52 : decode cX5_fieldNamed 52 = .ok (.iconst 0, 1) := by decide +kernel
theorem dX5_fieldNamed_53 : decode cX5_fieldNamed 53 = .ok (.ireturn, 1) := by decide +kernel
theorem dX5_fieldNamed_54 : decode cX5_fieldNamed 54 = .ok (.iconst 1, 1) := by decide +kernel
theorem dX5_fieldNamed_55 : decode cX5_fieldNamed 55 = .ok (.ireturn, 1) := by decide +kernel
theorem dX5_fieldNamed_56 : decode cX5_fieldNamed 56 = .ok (.iconst 2, 1) := by decide +kernel
theorem dX5_fieldNamed_57 : decode cX5_fieldNamed 57 = .ok (.ireturn, 1) := by decide +kernel
theorem dX5_fieldNamed_58 : decode cX5_fieldNamed 58 = .ok (.iconst 3, 1) := by decide +kernel
theorem dX5_fieldNamed_59 : decode cX5_fieldNamed 59 = .ok (.ireturn, 1) := by decide +kernel
theorem dX5_fieldNamed_60 : decode cX5_fieldNamed 60 = .ok (.iconst 4, 1) := by decide +kernel
theorem dX5_fieldNamed_61 : decode cX5_fieldNamed 61 = .ok (.ireturn, 1) := by decide +kernel
theorem dX5_fieldNamed_62 : decode cX5_fieldNamed 62 = .ok (.iconst (-1), 1) := by decide +kernel
theorem dX5_fieldNamed_63 : decode cX5_fieldNamed 63 = .ok (.ireturn, 1) := by decide +kernel
set_option maxRecDepth 20000 in
theorem ggX6_init_J7_fill_53178 : GoodIn wsX6_init wsJ7_fill_53178 := goodIn_r _ [15] (by decide +kernel) (by decide +kernel)
set_option maxRecDepth 20000 in
theorem gX6_init_J7_fill_53178 : GoodIn wsX6_init (va_wsS RX6 32 yJ7_fill_53178 wsJ7_fill_53178) := goodIn_app (goodIn_of _ (by decide +kernel)) ggX6_init_J7_fill_53178
theorem dX6_init_0 : decode cX6_init 0 = .ok (.aload_n 0, 1) := by decide +kernel
theorem dX6_init_1 : decode cX6_init 1 = .ok (.invokespecial 3, 3) := by decide +kernel
theorem dX6_init_4 : decode cX6_init 4 = .ok (.aload_n 0, 1) := by decide +kernel
theorem dX6_init_5 : decode cX6_init 5 = .ok (.aload_n 1, 1) := by decide +kernel
theorem dX6_init_6 : decode cX6_init 6 = .ok (.putfield 9, 3) := by decide +kernel
theorem dX6_init_9 : decode cX6_init 9 = .ok (.aload_n 0, 1) := by decide +kernel
theorem dX6_init_10 : decode cX6_init 10 = .ok (.bipush 80, 2) := by decide +kernel
theorem dX6_init_12 : decode cX6_init 12 = .ok (.newarray .int, 2) := by decide +kernel
theorem dX6_init_14 : decode cX6_init 14 = .ok (.putfield 15, 3) := by decide +kernel
theorem dX6_init_17 : decode cX6_init 17 = .ok (.aload_n 0, 1) := by decide +kernel
theorem dX6_init_18 : decode cX6_init 18 = .ok (.bipush 10, 2) := by decide +kernel
theorem dX6_init_20 : decode cX6_init 20 = .ok (.newarray .int, 2) := by decide +kernel
theorem dX6_init_22 : decode cX6_init 22 = .ok (.putfield 19, 3) := by decide +kernel
theorem dX6_init_25 : decode cX6_init 25 = .ok (.aload_n 0, 1) := by decide +kernel
theorem dX6_init_26 : decode cX6_init 26 = .ok (.bipush 10, 2) := by decide +kernel
theorem dX6_init_28 : decode cX6_init 28 = .ok (.newarray .int, 2) := by decide +kernel
theorem dX6_init_30 : decode cX6_init 30 = .ok (.putfield 22, 3) := by decide +kernel
theorem dX6_init_33 : decode cX6_init 33 = .ok (.aload_n 0, 1) := by decide +kernel
theorem dX6_init_34 : decode cX6_init 34 = .ok (.bipush 10, 2) := by decide +kernel
theorem dX6_init_36 : decode cX6_init 36 = .ok (.newarray .boolean, 2) := by decide +kernel
theorem dX6_init_38 : decode cX6_init 38 = .ok (.putfield 25, 3) := by decide +kernel
theorem dX6_init_41 : decode cX6_init 41 = .ok (.aload_n 0, 1) := by decide +kernel
theorem dX6_init_42 : decode cX6_init 42 = .ok (.bipush 40, 2) := by decide +kernel
theorem dX6_init_44 : decode cX6_init 44 = .ok (.newarray .int, 2) := by decide +kernel
theorem dX6_init_46 : decode cX6_init 46 = .ok (.putfield 29, 3) := by decide +kernel
theorem dX6_init_49 : decode cX6_init 49 = .ok (.aload_n 0, 1) := by decide +kernel
theorem dX6_init_50 : decode cX6_init 50 = .ok (.getfield 29, 3) := by decide +kernel
theorem dX6_init_53 : decode cX6_init 53 = .ok (.iconst (-1), 1) := by decide +kernel
theorem dX6_init_54 : decode cX6_init 54 = .ok (.invokestatic 32, 3) := by decide +kernel
theorem dX6_init_57 : decode cX6_init 57 = .ok (.return_, 1) := by decide +kernel
set_option maxRecDepth 20000 in
theorem ggX6_has_X8_isWithin : GoodIn wsX6_has wsX8_isWithin := goodIn_r _ [4] (by decide +kernel) (by decide +kernel)
set_option maxRecDepth 20000 in
theorem gX6_has_X8_isWithin_n38 : GoodIn wsX6_has (wsX8_isWithin) := ggX6_has_X8_isWithin
theorem dX6_has_0 : decode cX6_has 0 = .ok (.iload_n 1, 1) := by decide +kernel
theorem dX6_has_1 : decode cX6_has 1 = .ok (.iconst 0, 1) := by decide +kernel
theorem dX6_has_2 : decode cX6_has 2 = .ok (.bipush 9, 2) := by decide +kernel
theorem dX6_has_4 : decode cX6_has 4 = .ok (.invokestatic 38, 3) := by decide +kernel
theorem dX6_has_7 : decode cX6_has 7 = .ok (.ifCond .eq 16, 3) := by decide +kernel
theorem dX6_has_10 : decode cX6_has 10 = .ok (.aload_n 0, 1) := by decide +kernel
theorem dX6_has_11 : decode cX6_has 11 = .ok (.getfield 19, 3) := by decide +kernel
theorem dX6_has_14 : decode cX6_has 14 = .ok (.iload_n 1, 1) := by decide +kernel
theorem dX6_has_15 : decode cX6_has 15 = .ok (.iaload, 1) := by decide +kernel
theorem dX6_has_16 : decode cX6_has 16 = .ok (.ifCond .le 7, 3) := by decide +kernel
theorem dX6_has_19 : decode cX6_has 19 = .ok (.iconst 1, 1) := by decide +kernel
theorem dX6_has_20 : decode cX6_has 20 = .ok (.goto 4, 3) := by decide +kernel
theorem dX6_has_23 : decode cX6_has 23 = .ok (.iconst 0, 1) := by decide +kernel
theorem dX6_has_24 : decode cX6_has 24 = .ok (.ireturn, 1) := by decide +kernel
set_option maxRecDepth 20000 in
theorem ggX6_howMany_X6_has : GoodIn wsX6_howMany wsX6_has := goodIn_r _ [5, 6, 7, 8, 9, 10, 11, 12, 13, 14, 15, 16, 17] (by decide +kernel) (by decide +kernel)
set_option maxRecDepth 20000 in
theorem gX6_howMany_X6_has : GoodIn wsX6_howMany (wsV RX6 42 RX6 yX6_has wsX6_has) := goodIn_app (goodIn_of _ (by decide +kernel)) ggX6_howMany_X6_has
theorem dX6_howMany_0 : decode cX6_howMany 0 = .ok (.iconst 0, 1) := by decide +kernel
theorem dX6_howMany_1 : decode cX6_howMany 1 = .ok (.istore_n 1, 1) := by decide +kernel
theorem dX6_howMany_2 : decode cX6_howMany 2 = .ok (.iconst 0, 1) := by decide +kernel
theorem dX6_howMany_3 : decode cX6_howMany 3 = .ok (.istore_n 2, 1) := by decide +kernel
theorem dX6_howMany_4 : decode cX6_howMany 4 = .ok (.iload_n 2, 1) := by decide +kernel
theorem dX6_howMany_5 : decode cX6_howMany 5 = .ok (.bipush 10, 2) := by decide +kernel
theorem dX6_howMany_7 : decode cX6_howMany 7 = .ok (.if_icmp .ge 20, 3) := by decide +kernel
theorem dX6_howMany_10 : decode cX6_howMany 10 = .ok (.aload_n 0, 1) := by decide +kernel
theorem dX6_howMany_11 : decode cX6_howMany 11 = .ok (.iload_n 2, 1) := by decide +kernel
theorem dX6_howMany_12 : decode cX6_howMany 12 = .ok (.invokevirtual 42, 3) := by decide +kernel
theorem dX6_howMany_15 : decode cX6_howMany 15 = .ok (.ifCond .eq 6, 3) := by decide +kernel
theorem dX6_howMany_18 : decode cX6_howMany 18 = .ok (.iinc 1 1, 3) := by decide +kernel
theorem dX6_howMany_21 : decode cX6_howMany 21 = .ok (.iinc 2 1, 3) := by decide +kernel
theorem dX6_howMany_24 : decode cX6_howMany 24 = .ok (.goto (-20), 3) := by decide +kernel
theorem dX6_howMany_27 : decode cX6_howMany 27 = .ok (.iload_n 1, 1) := by decide +kernel
theorem dX6_howMany_28 : decode cX6_howMany 28 = .ok (.ireturn, 1) := by decide +kernel
set_option maxRecDepth 20000 in
theorem ggX6_freeNumber_X6_has : GoodIn wsX6_freeNumber wsX6_has := goodIn_r _ [5, 6, 7, 8, 9, 10, 11, 12, 13, 14, 15, 16, 17] (by decide +kernel) (by decide +kernel)
set_option maxRecDepth 20000 in
theorem gX6_freeNumber_X6_has : GoodIn wsX6_freeNumber (wsV RX6 42 RX6 yX6_has wsX6_has) := goodIn_app (goodIn_of _ (by decide +kernel)) ggX6_freeNumber_X6_has
theorem dX6_freeNumber_0 : decode cX6_freeNumber 0 = .ok (.iconst 0, 1) := by decide +kernel
theorem dX6_freeNumber_1 : decode cX6_freeNumber 1 = .ok (.istore_n 1, 1) := by decide +kernel
theorem dX6_freeNumber_2 : decode cX6_freeNumber 2 = .ok (.iload_n 1, 1) := by decide +kernel
theorem dX6_freeNumber_3 : decode cX6_freeNumber 3 = .ok (.bipush 10, 2) := by decide +kernel
theorem dX6_freeNumber_5 : decode cX6_freeNumber 5 = .ok (.if_icmp .ge 19, 3) := by decide +kernel
theorem dX6_freeNumber_8 : decode cX6_freeNumber 8 = .ok (.aload_n 0, 1) := by decide +kernel
theorem dX6_freeNumber_9 : decode cX6_freeNumber 9 = .ok (.iload_n 1, 1) := by decide +kernel
theorem dX6_freeNumber_10 : decode cX6_freeNumber 10 = .ok (.invokevirtual 42, 3) := by decide +kernel
theorem dX6_freeNumber_13 : decode cX6_freeNumber 13 = .ok (.ifCond .ne 5, 3) := by decide +kernel
theorem dX6_freeNumber_16 : decode cX6_freeNumber 16 = .ok (.iload_n 1, 1) := by decide +kernel
theorem dX6_freeNumber_17 : decode cX6_freeNumber 17 = .ok (.ireturn, 1) := by decide +kernel
theorem dX6_freeNumber_18 : decode cX6_freeNumber 18 = .ok (.iinc 1 1, 3) := by decide +kernel
theorem dX6_freeNumber_21 : decode cX6_freeNumber 21 = .ok (.goto (-19), 3) := by decide +kernel
theorem dX6_freeNumber_24 : decode cX6_freeNumber 24 = .ok (.iconst (-1), 1) := by decide +kernel
theorem dX6_freeNumber_25 : decode cX6_freeNumber 25 = .ok (.ireturn, 1) := by decide +kernel
theorem dX6_stacked_0 : decode cX6_stacked 0 = .ok (.aload_n 0, 1) := by decide +kernel
theorem dX6_stacked_1 : decode cX6_stacked 1 = .ok (.getfield 46, 3) := by decide +kernel
theorem dX6_stacked_4 : decode cX6_stacked 4 = .ok (.lreturn, 1) := by decide +kernel
theorem dX6_covers_0 : decode cX6_covers 0 = .ok (.aload_n 0, 1) := by decide +kernel
theorem dX6_covers_1 : decode cX6_covers 1 = .ok (.getfield 50, 3) := by decide +kernel
theorem dX6_covers_4 : decode cX6_covers 4 = .ok (.lreturn, 1) := by decide +kernel
theorem dX6_home_0 : decode cX6_home 0 = .ok (.aload_n 0, 1) := by decide +kernel
theorem dX6_home_1 : decode cX6_home 1 = .ok (.getfield 29, 3) := by decide +kernel
theorem dX6_home_4 : decode cX6_home 4 = .ok (.iload_n 1, 1) := by decide +kernel
theorem dX6_home_5 : decode cX6_home 5 = .ok (.iaload, 1) := by decide +kernel
theorem dX6_home_6 : decode cX6_home 6 = .ok (.ireturn, 1) := by decide +kernel
theorem dX6_height_0 : decode cX6_height 0 = .ok (.aload_n 0, 1) := by decide +kernel
theorem dX6_height_1 : decode cX6_height 1 = .ok (.getfield 19, 3) := by decide +kernel
theorem dX6_height_4 : decode cX6_height 4 = .ok (.iload_n 1, 1) := by decide +kernel
theorem dX6_height_5 : decode cX6_height 5 = .ok (.iaload, 1) := by decide +kernel
theorem dX6_height_6 : decode cX6_height 6 = .ok (.ireturn, 1) := by decide +kernel
theorem dX6_isCollapsed_0 : decode cX6_isCollapsed 0 = .ok (.aload_n 0, 1) := by decide +kernel
theorem dX6_isCollapsed_1 : decode cX6_isCollapsed 1 = .ok (.getfield 25, 3) := by decide +kernel
theorem dX6_isCollapsed_4 : decode cX6_isCollapsed 4 = .ok (.iload_n 1, 1) := by decide +kernel
theorem dX6_isCollapsed_5 : decode cX6_isCollapsed 5 = .ok (.baload, 1) := by decide +kernel
theorem dX6_isCollapsed_6 : decode cX6_isCollapsed 6 = .ok (.ireturn, 1) := by decide +kernel
theorem dX6_fold_0 : decode cX6_fold 0 = .ok (.aload_n 0, 1) := by decide +kernel
theorem dX6_fold_1 : decode cX6_fold 1 = .ok (.getfield 25, 3) := by decide +kernel
theorem dX6_fold_4 : decode cX6_fold 4 = .ok (.iload_n 1, 1) := by decide +kernel
theorem dX6_fold_5 : decode cX6_fold 5 = .ok (.iload_n 2, 1) := by decide +kernel
theorem dX6_fold_6 : decode cX6_fold 6 = .ok (.bastore, 1) := by decide +kernel
theorem dX6_fold_7 : decode cX6_fold 7 = .ok (.return_, 1) := by decide +kernel
theorem dX6_choose_0 : decode cX6_choose 0 = .ok (.aload_n 0, 1) := by decide +kernel
theorem dX6_choose_1 : decode cX6_choose 1 = .ok (.getfield 22, 3) := by decide +kernel
theorem dX6_choose_4 : decode cX6_choose 4 = .ok (.iload_n 1, 1) := by decide +kernel
theorem dX6_choose_5 : decode cX6_choose 5 = .ok (.iload_n 2, 1) := by decide +kernel
theorem dX6_choose_6 : decode cX6_choose 6 = .ok (.iastore, 1) := by decide +kernel
theorem dX6_choose_7 : decode cX6_choose 7 = .ok (.return_, 1) := by decide +kernel
set_option maxRecDepth 20000 in
theorem ggX6_begin_X6_insert : GoodIn wsX6_begin wsX6_insert := goodIn_r _ [7, 8, 9, 10, 11, 12, 13, 6, 14, 15, 16, 17, 18, 19, 20, 21, 22, 23, 24, 25] (by decide +kernel) (by decide +kernel)
set_option maxRecDepth 20000 in
theorem gX6_begin_X6_insert : GoodIn wsX6_begin (wsV RX6 53 RX6 yX6_insert wsX6_insert) := goodIn_app (goodIn_of _ (by decide +kernel)) ggX6_begin_X6_insert
theorem dX6_begin_0 : decode cX6_begin 0 = .ok (.aload_n 0, 1) := by decide +kernel
theorem dX6_begin_1 : decode cX6_begin 1 = .ok (.getfield 22, 3) := by decide +kernel
theorem dX6_begin_4 : decode cX6_begin 4 = .ok (.iload_n 1, 1) := by decide +kernel
theorem dX6_begin_5 : decode cX6_begin 5 = .ok (.iconst (-1), 1) := by decide +kernel
theorem dX6_begin_6 : decode cX6_begin 6 = .ok (.iastore, 1) := by decide +kernel
theorem dX6_begin_7 : decode cX6_begin 7 = .ok (.aload_n 0, 1) := by decide +kernel
theorem dX6_begin_8 : decode cX6_begin 8 = .ok (.getfield 25, 3) := by decide +kernel
theorem dX6_begin_11 : decode cX6_begin 11 = .ok (.iload_n 1, 1) := by decide +kernel
theorem dX6_begin_12 : decode cX6_begin 12 = .ok (.iconst 0, 1) := by decide +kernel
theorem dX6_begin_13 : decode cX6_begin 13 = .ok (.bastore, 1) := by decide +kernel
theorem dX6_begin_14 : decode cX6_begin 14 = .ok (.aload_n 0, 1) := by decide +kernel
theorem dX6_begin_15 : decode cX6_begin 15 = .ok (.iload_n 1, 1) := by decide +kernel
theorem dX6_begin_16 : decode cX6_begin 16 = .ok (.iload_n 2, 1) := by decide +kernel
theorem dX6_begin_17 : decode cX6_begin 17 = .ok (.iconst 0, 1) := by decide +kernel
theorem dX6_begin_18 : decode cX6_begin 18 = .ok (.invokevirtual 53, 3) := by decide +kernel
theorem dX6_begin_21 : decode cX6_begin 21 = .ok (.aload_n 0, 1) := by decide +kernel
theorem dX6_begin_22 : decode cX6_begin 22 = .ok (.iload_n 1, 1) := by decide +kernel
theorem dX6_begin_23 : decode cX6_begin 23 = .ok (.iload_n 3, 1) := by decide +kernel
theorem dX6_begin_24 : decode cX6_begin 24 = .ok (.iconst 1, 1) := by decide +kernel
theorem dX6_begin_25 : decode cX6_begin 25 = .ok (.invokevirtual 53, 3) := by decide +kernel
theorem dX6_begin_28 : decode cX6_begin 28 = .ok (.return_, 1) := by decide +kernel
set_option maxRecDepth 20000 in
theorem ggX6_insert_X6_spot : GoodIn wsX6_insert wsX6_spot := goodIn_r _ [8] (by decide +kernel) (by decide +kernel)
set_option maxRecDepth 20000 in
theorem gX6_insert_X6_spot : GoodIn wsX6_insert (va_wsS RX6 57 yX6_spot wsX6_spot) := goodIn_app (goodIn_of _ (by decide +kernel)) ggX6_insert_X6_spot
set_option maxRecDepth 20000 in
theorem ggX6_insert_X8_only : GoodIn wsX6_insert wsX8_only := goodIn_r _ [11] (by decide +kernel) (by decide +kernel)
set_option maxRecDepth 20000 in
theorem gX6_insert_X8_only_n61 : GoodIn wsX6_insert (wsX8_only) := ggX6_insert_X8_only
theorem dX6_insert_0 : decode cX6_insert 0 = .ok (.aload_n 0, 1) := by decide +kernel
theorem dX6_insert_1 : decode cX6_insert 1 = .ok (.getfield 19, 3) := by decide +kernel
theorem dX6_insert_4 : decode cX6_insert 4 = .ok (.iload_n 1, 1) := by decide +kernel
theorem dX6_insert_5 : decode cX6_insert 5 = .ok (.iaload, 1) := by decide +kernel
theorem dX6_insert_6 : decode cX6_insert 6 = .ok (.istore 4, 2) := by decide +kernel
theorem dX6_insert_8 : decode cX6_insert 8 = .ok (.iload 4, 2) := by decide +kernel
theorem dX6_insert_10 : decode cX6_insert 10 = .ok (.iload_n 3, 1) := by decide +kernel
theorem dX6_insert_11 : decode cX6_insert 11 = .ok (.if_icmp .le 33, 3) := by decide +kernel
theorem dX6_insert_14 : decode cX6_insert 14 = .ok (.aload_n 0, 1) := by decide +kernel
theorem dX6_insert_15 : decode cX6_insert 15 = .ok (.getfield 15, 3) := by decide +kernel
theorem dX6_insert_18 : decode cX6_insert 18 = .ok (.iload_n 1, 1) := by decide +kernel
theorem dX6_insert_19 : decode cX6_insert 19 = .ok (.iload 4, 2) := by decide +kernel
theorem dX6_insert_21 : decode cX6_insert 21 = .ok (.invokestatic 57, 3) := by decide +kernel
theorem dX6_insert_24 : decode cX6_insert 24 = .ok (.aload_n 0, 1) := by decide +kernel
theorem dX6_insert_25 : decode cX6_insert 25 = .ok (.getfield 15, 3) := by decide +kernel
theorem dX6_insert_28 : decode cX6_insert 28 = .ok (.iload_n 1, 1) := by decide +kernel
theorem dX6_insert_29 : decode cX6_insert 29 = .ok (.iload 4, 2) := by decide +kernel
theorem dX6_insert_31 : decode cX6_insert 31 = .ok (.iconst 1, 1) := by decide +kernel
theorem dX6_insert_32 : decode cX6_insert 32 = .ok (.isub, 1) := by decide +kernel
theorem dX6_insert_33 : decode cX6_insert 33 = .ok (.invokestatic 57, 3) := by decide +kernel
theorem dX6_insert_36 : decode cX6_insert 36 = .ok (.iaload, 1) := by decide +kernel
theorem dX6_insert_37 : decode cX6_insert 37 = .ok (.iastore, 1) := by decide +kernel
theorem dX6_insert_38 : decode cX6_insert 38 = .ok (.iinc 4 (-1), 3) := by decide +kernel
theorem dX6_insert_41 : decode cX6_insert 41 = .ok (.goto (-33), 3) := by decide +kernel
theorem dX6_insert_44 : decode cX6_insert 44 = .ok (.aload_n 0, 1) := by decide +kernel
theorem dX6_insert_45 : decode cX6_insert 45 = .ok (.getfield 15, 3) := by decide +kernel
theorem dX6_insert_48 : decode cX6_insert 48 = .ok (.iload_n 1, 1) := by decide +kernel
theorem dX6_insert_49 : decode cX6_insert 49 = .ok (.iload_n 3, 1) := by decide +kernel
theorem dX6_insert_50 : decode cX6_insert 50 = .ok (.invokestatic 57, 3) := by decide +kernel
theorem dX6_insert_53 : decode cX6_insert 53 = .ok (.iload_n 2, 1) := by decide +kernel
theorem dX6_insert_54 : decode cX6_insert 54 = .ok (.iastore, 1) := by decide +kernel
theorem dX6_insert_55 : decode cX6_insert 55 = .ok (.aload_n 0, 1) := by decide +kernel
theorem dX6_insert_56 : decode cX6_insert 56 = .ok (.getfield 19, 3) := by decide +kernel
theorem dX6_insert_59 : decode cX6_insert 59 = .ok (.iload_n 1, 1) := by decide +kernel
theorem dX6_insert_60 : decode cX6_insert 60 = .ok (.dup2, 1) := by decide +kernel
theorem dX6_insert_61 : decode cX6_insert 61 = .ok (.iaload, 1) := by decide +kernel
theorem dX6_insert_62 : decode cX6_insert 62 = .ok (.iconst 1, 1) := by decide +kernel
theorem dX6_insert_63 : decode cX6_insert 63 = .ok (.iadd, 1) := by decide +kernel
theorem dX6_insert_64 : decode cX6_insert 64 = .ok (.iastore, 1) := by decide +kernel
theorem dX6_insert_65 : decode cX6_insert 65 = .ok (.aload_n 0, 1) := by decide +kernel
theorem dX6_insert_66 : decode cX6_insert 66 = .ok (.getfield 29, 3) := by decide +kernel
theorem dX6_insert_69 : decode cX6_insert 69 = .ok (.iload_n 2, 1) := by decide +kernel
theorem dX6_insert_70 : decode cX6_insert 70 = .ok (.iload_n 1, 1) := by decide +kernel
theorem dX6_insert_71 : decode cX6_insert 71 = .ok (.iastore, 1) := by decide +kernel
theorem dX6_insert_72 : decode cX6_insert 72 = .ok (.aload_n 0, 1) := by decide +kernel
theorem dX6_insert_73 : decode cX6_insert 73 = .ok (.dup, 1) := by decide +kernel
theorem dX6_insert_74 : decode cX6_insert 74 = .ok (.getfield 46, 3) := by decide +kernel
theorem dX6_insert_77 : decode cX6_insert 77 = .ok (.iload_n 2, 1) := by decide +kernel
theorem dX6_insert_78 : decode cX6_insert 78 = .ok (.invokestatic 61, 3) := by decide +kernel
theorem dX6_insert_81 : decode cX6_insert 81 = .ok (.lor, 1) := by decide +kernel
theorem dX6_insert_82 : decode cX6_insert 82 = .ok (.putfield 46, 3) := by decide +kernel
theorem dX6_insert_85 : decode cX6_insert 85 = .ok (.return_, 1) := by decide +kernel
set_option maxRecDepth 20000 in
theorem ggX6_release_X6_closeGap : GoodIn wsX6_release wsX6_closeGap := goodIn_r _ [9, 3, 4, 10, 11, 8, 12, 22, 23, 24, 25, 26, 27, 28, 29] (by decide +kernel) (by decide +kernel)
set_option maxRecDepth 20000 in
theorem gX6_release_X6_closeGap : GoodIn wsX6_release (wsV RX6 65 RX6 yX6_closeGap wsX6_closeGap) := goodIn_app (goodIn_of _ (by decide +kernel)) ggX6_release_X6_closeGap
set_option maxRecDepth 20000 in
theorem ggX6_release_X6_leave : GoodIn wsX6_release wsX6_leave := goodIn_r _ [16, 1, 17, 18, 19, 20, 21, 22, 23, 24, 25, 26, 27, 28, 29] (by decide +kernel) (by decide +kernel)
set_option maxRecDepth 20000 in
theorem gX6_release_X6_leave : GoodIn wsX6_release (wsV RX6 69 RX6 yX6_leave wsX6_leave) := goodIn_app (goodIn_of _ (by decide +kernel)) ggX6_release_X6_leave
set_option maxRecDepth 20000 in
theorem ggX6_release_X6_spot : GoodIn wsX6_release wsX6_spot := goodIn_r _ [12] (by decide +kernel) (by decide +kernel)
set_option maxRecDepth 20000 in
theorem gX6_release_X6_spot : GoodIn wsX6_release (va_wsS RX6 57 yX6_spot wsX6_spot) := goodIn_app (goodIn_of _ (by decide +kernel)) ggX6_release_X6_spot
theorem dX6_release_0 : decode cX6_release 0 = .ok (.aload_n 0, 1) := by decide +kernel
theorem dX6_release_1 : decode cX6_release 1 = .ok (.getfield 29, 3) := by decide +kernel
theorem dX6_release_4 : decode cX6_release 4 = .ok (.iload_n 1, 1) := by decide +kernel
theorem dX6_release_5 : decode cX6_release 5 = .ok (.iaload, 1) := by decide +kernel
theorem dX6_release_6 : decode cX6_release 6 = .ok (.istore_n 2, 1) := by decide +kernel
theorem dX6_release_7 : decode cX6_release 7 = .ok (.iload_n 2, 1) := by decide +kernel
theorem dX6_release_8 : decode cX6_release 8 = .ok (.iconst (-1), 1) := by decide +kernel
theorem dX6_release_9 : decode cX6_release 9 = .ok (.if_icmp .ne 4, 3) := by decide +kernel
theorem dX6_release_12 : decode cX6_release 12 = .ok (.return_, 1) := by decide +kernel
theorem dX6_release_13 : decode cX6_release 13 = .ok (.aload_n 0, 1) := by decide +kernel
theorem dX6_release_14 : decode cX6_release 14 = .ok (.iload_n 2, 1) := by decide +kernel
theorem dX6_release_15 : decode cX6_release 15 = .ok (.iload_n 1, 1) := by decide +kernel
theorem dX6_release_16 : decode cX6_release 16 = .ok (.invokevirtual 65, 3) := by decide +kernel
theorem dX6_release_19 : decode cX6_release 19 = .ok (.aload_n 0, 1) := by decide +kernel
theorem dX6_release_20 : decode cX6_release 20 = .ok (.iload_n 1, 1) := by decide +kernel
theorem dX6_release_21 : decode cX6_release 21 = .ok (.invokevirtual 69, 3) := by decide +kernel
theorem dX6_release_24 : decode cX6_release 24 = .ok (.aload_n 0, 1) := by decide +kernel
theorem dX6_release_25 : decode cX6_release 25 = .ok (.getfield 22, 3) := by decide +kernel
theorem dX6_release_28 : decode cX6_release 28 = .ok (.iload_n 2, 1) := by decide +kernel
theorem dX6_release_29 : decode cX6_release 29 = .ok (.iaload, 1) := by decide +kernel
theorem dX6_release_30 : decode cX6_release 30 = .ok (.iload_n 1, 1) := by decide +kernel
theorem dX6_release_31 : decode cX6_release 31 = .ok (.if_icmp .ne 10, 3) := by decide +kernel
theorem dX6_release_34 : decode cX6_release 34 = .ok (.aload_n 0, 1) := by decide +kernel
theorem dX6_release_35 : decode cX6_release 35 = .ok (.getfield 22, 3) := by decide +kernel
theorem dX6_release_38 : decode cX6_release 38 = .ok (.iload_n 2, 1) := by decide +kernel
theorem dX6_release_39 : decode cX6_release 39 = .ok (.iconst (-1), 1) := by decide +kernel
theorem dX6_release_40 : decode cX6_release 40 = .ok (.iastore, 1) := by decide +kernel
theorem dX6_release_41 : decode cX6_release 41 = .ok (.aload_n 0, 1) := by decide +kernel
theorem dX6_release_42 : decode cX6_release 42 = .ok (.getfield 19, 3) := by decide +kernel
theorem dX6_release_45 : decode cX6_release 45 = .ok (.iload_n 2, 1) := by decide +kernel
theorem dX6_release_46 : decode cX6_release 46 = .ok (.iaload, 1) := by decide +kernel
theorem dX6_release_47 : decode cX6_release 47 = .ok (.iconst 1, 1) := by decide +kernel
theorem dX6_release_48 : decode cX6_release 48 = .ok (.if_icmp .ne 24, 3) := by decide +kernel
theorem dX6_release_51 : decode cX6_release 51 = .ok (.aload_n 0, 1) := by decide +kernel
theorem dX6_release_52 : decode cX6_release 52 = .ok (.aload_n 0, 1) := by decide +kernel
theorem dX6_release_53 : decode cX6_release 53 = .ok (.getfield 15, 3) := by decide +kernel
theorem dX6_release_56 : decode cX6_release 56 = .ok (.iload_n 2, 1) := by decide +kernel
theorem dX6_release_57 : decode cX6_release 57 = .ok (.iconst 0, 1) := by decide +kernel
theorem dX6_release_58 : decode cX6_release 58 = .ok (.invokestatic 57, 3) := by decide +kernel
theorem dX6_release_61 : decode cX6_release 61 = .ok (.iaload, 1) := by decide +kernel
theorem dX6_release_62 : decode cX6_release 62 = .ok (.invokevirtual 69, 3) := by decide +kernel
theorem dX6_release_65 : decode cX6_release 65 = .ok (.aload_n 0, 1) := by decide +kernel
theorem dX6_release_66 : decode cX6_release 66 = .ok (.getfield 19, 3) := by decide +kernel
theorem dX6_release_69 : decode cX6_release 69 = .ok (.iload_n 2, 1) := by decide +kernel
theorem dX6_release_70 : decode cX6_release 70 = .ok (.iconst 0, 1) := by decide +kernel
theorem dX6_release_71 : decode cX6_release 71 = .ok (.iastore, 1) := by decide +kernel
theorem dX6_release_72 : decode cX6_release 72 = .ok (.return_, 1) := by decide +kernel
set_option maxRecDepth 20000 in
theorem ggX6_closeGap_X6_spot : GoodIn wsX6_closeGap wsX6_spot := goodIn_r _ [6] (by decide +kernel) (by decide +kernel)
set_option maxRecDepth 20000 in
theorem gX6_closeGap_X6_spot : GoodIn wsX6_closeGap (va_wsS RX6 57 yX6_spot wsX6_spot) := goodIn_app (goodIn_of _ (by decide +kernel)) ggX6_closeGap_X6_spot
theorem dX6_closeGap_0 : decode cX6_closeGap 0 = .ok (.iconst 0, 1) := by decide +kernel
theorem dX6_closeGap_1 : decode cX6_closeGap 1 = .ok (.istore_n 3, 1) := by decide +kernel
theorem dX6_closeGap_2 : decode cX6_closeGap 2 = .ok (.iconst 0, 1) := by decide +kernel
theorem dX6_closeGap_3 : decode cX6_closeGap 3 = .ok (.istore 4, 2) := by decide +kernel
theorem dX6_closeGap_5 : decode cX6_closeGap 5 = .ok (.iload 4, 2) := by decide +kernel
theorem dX6_closeGap_7 : decode cX6_closeGap 7 = .ok (.aload_n 0, 1) := by decide +kernel
theorem dX6_closeGap_8 : decode cX6_closeGap 8 = .ok (.getfield 19, 3) := by decide +kernel
theorem dX6_closeGap_11 : decode cX6_closeGap 11 = .ok (.iload_n 1, 1) := by decide +kernel
theorem dX6_closeGap_12 : decode cX6_closeGap 12 = .ok (.iaload, 1) := by decide +kernel
theorem dX6_closeGap_13 : decode cX6_closeGap 13 = .ok (.if_icmp .ge 43, 3) := by decide +kernel
theorem dX6_closeGap_16 : decode cX6_closeGap 16 = .ok (.aload_n 0, 1) := by decide +kernel
theorem dX6_closeGap_17 : decode cX6_closeGap 17 = .ok (.getfield 15, 3) := by decide +kernel
theorem dX6_closeGap_20 : decode cX6_closeGap 20 = .ok (.iload_n 1, 1) := by decide +kernel
theorem dX6_closeGap_21 : decode cX6_closeGap 21 = .ok (.iload 4, 2) := by decide +kernel
theorem dX6_closeGap_23 : decode cX6_closeGap 23 = .ok (.invokestatic 57, 3) := by decide +kernel
theorem dX6_closeGap_26 : decode cX6_closeGap 26 = .ok (.iaload, 1) := by decide +kernel
theorem dX6_closeGap_27 : decode cX6_closeGap 27 = .ok (.istore 5, 2) := by decide +kernel
theorem dX6_closeGap_29 : decode cX6_closeGap 29 = .ok (.iload 5, 2) := by decide +kernel
theorem dX6_closeGap_31 : decode cX6_closeGap 31 = .ok (.iload_n 2, 1) := by decide +kernel
theorem dX6_closeGap_32 : decode cX6_closeGap 32 = .ok (.if_icmp .eq 18, 3) := by decide +kernel
theorem dX6_closeGap_35 : decode cX6_closeGap 35 = .ok (.aload_n 0, 1) := by decide +kernel
theorem dX6_closeGap_36 : decode cX6_closeGap 36 = .ok (.getfield 15, 3) := by decide +kernel
theorem dX6_closeGap_39 : decode cX6_closeGap 39 = .ok (.iload_n 1, 1) := by decide +kernel
theorem dX6_closeGap_40 : decode cX6_closeGap 40 = .ok (.iload_n 3, 1) := by decide +kernel
theorem dX6_closeGap_41 : decode cX6_closeGap 41 = .ok (.invokestatic 57, 3) := by decide +kernel
theorem dX6_closeGap_44 : decode cX6_closeGap 44 = .ok (.iload 5, 2) := by decide +kernel
theorem dX6_closeGap_46 : decode cX6_closeGap 46 = .ok (.iastore, 1) := by decide +kernel
theorem dX6_closeGap_47 : decode cX6_closeGap 47 = .ok (.iinc 3 1, 3) := by decide +kernel
theorem dX6_closeGap_50 : decode cX6_closeGap 50 = .ok (.iinc 4 1, 3) := by decide +kernel
theorem dX6_closeGap_53 : decode cX6_closeGap 53 = .ok (.goto (-48), 3) := by decide +kernel
theorem dX6_closeGap_56 : decode cX6_closeGap 56 = .ok (.aload_n 0, 1) := by decide +kernel
theorem dX6_closeGap_57 : decode cX6_closeGap 57 = .ok (.getfield 19, 3) := by decide +kernel
theorem dX6_closeGap_60 : decode cX6_closeGap 60 = .ok (.iload_n 1, 1) := by decide +kernel
theorem dX6_closeGap_61 : decode cX6_closeGap 61 = .ok (.iload_n 3, 1) := by decide +kernel
theorem dX6_closeGap_62 : decode cX6_closeGap 62 = .ok (.iastore, 1) := by decide +kernel
theorem dX6_closeGap_63 : decode cX6_closeGap 63 = .ok (.return_, 1) := by decide +kernel
set_option maxRecDepth 20000 in
theorem ggX6_leave_X8_only : GoodIn wsX6_leave wsX8_only := goodIn_r _ [6] (by decide +kernel) (by decide +kernel)
set_option maxRecDepth 20000 in
theorem gX6_leave_X8_only_n61 : GoodIn wsX6_leave (wsX8_only) := ggX6_leave_X8_only
theorem dX6_leave_0 : decode cX6_leave 0 = .ok (.aload_n 0, 1) := by decide +kernel
theorem dX6_leave_1 : decode cX6_leave 1 = .ok (.getfield 29, 3) := by decide +kernel
theorem dX6_leave_4 : decode cX6_leave 4 = .ok (.iload_n 1, 1) := by decide +kernel
theorem dX6_leave_5 : decode cX6_leave 5 = .ok (.iconst (-1), 1) := by decide +kernel
theorem dX6_leave_6 : decode cX6_leave 6 = .ok (.iastore, 1) := by decide +kernel
theorem dX6_leave_7 : decode cX6_leave 7 = .ok (.aload_n 0, 1) := by decide +kernel
theorem dX6_leave_8 : decode cX6_leave 8 = .ok (.dup, 1) := by decide +kernel
theorem dX6_leave_9 : decode cX6_leave 9 = .ok (.getfield 46, 3) := by decide +kernel
theorem dX6_leave_12 : decode cX6_leave 12 = .ok (.iload_n 1, 1) := by decide +kernel
theorem dX6_leave_13 : decode cX6_leave 13 = .ok (.invokestatic 61, 3) := by decide +kernel
theorem dX6_leave_16 : decode cX6_leave 16 = .ok (.ldc2_w 73, 3) := by decide +kernel
theorem dX6_leave_19 : decode cX6_leave 19 = .ok (.lxor, 1) := by decide +kernel
theorem dX6_leave_20 : decode cX6_leave 20 = .ok (.land, 1) := by decide +kernel
theorem dX6_leave_21 : decode cX6_leave 21 = .ok (.putfield 46, 3) := by decide +kernel
theorem dX6_leave_24 : decode cX6_leave 24 = .ok (.return_, 1) := by decide +kernel
set_option maxRecDepth 20000 in
theorem ggX6_fileAt_X6_spot : GoodIn wsX6_fileAt wsX6_spot := goodIn_r _ [6] (by decide +kernel) (by decide +kernel)
set_option maxRecDepth 20000 in
theorem gX6_fileAt_X6_spot : GoodIn wsX6_fileAt (va_wsS RX6 57 yX6_spot wsX6_spot) := goodIn_app (goodIn_of _ (by decide +kernel)) ggX6_fileAt_X6_spot
theorem dX6_fileAt_0 : decode cX6_fileAt 0 = .ok (.iload_n 2, 1) := by decide +kernel
theorem dX6_fileAt_1 : decode cX6_fileAt 1 = .ok (.aload_n 0, 1) := by decide +kernel
theorem dX6_fileAt_2 : decode cX6_fileAt 2 = .ok (.getfield 19, 3) := by decide +kernel
theorem dX6_fileAt_5 : decode cX6_fileAt 5 = .ok (.iload_n 1, 1) := by decide +kernel
theorem dX6_fileAt_6 : decode cX6_fileAt 6 = .ok (.iaload, 1) := by decide +kernel
theorem dX6_fileAt_7 : decode cX6_fileAt 7 = .ok (.if_icmp .ge 16, 3) := by decide +kernel
theorem dX6_fileAt_10 : decode cX6_fileAt 10 = .ok (.aload_n 0, 1) := by decide +kernel
theorem dX6_fileAt_11 : decode cX6_fileAt 11 = .ok (.getfield 15, 3) := by decide +kernel
theorem dX6_fileAt_14 : decode cX6_fileAt 14 = .ok (.iload_n 1, 1) := by decide +kernel
theorem dX6_fileAt_15 : decode cX6_fileAt 15 = .ok (.iload_n 2, 1) := by decide +kernel
theorem dX6_fileAt_16 : decode cX6_fileAt 16 = .ok (.invokestatic 57, 3) := by decide +kernel
theorem dX6_fileAt_19 : decode cX6_fileAt 19 = .ok (.iaload, 1) := by decide +kernel
theorem dX6_fileAt_20 : decode cX6_fileAt 20 = .ok (.goto 4, 3) := by decide +kernel
theorem dX6_fileAt_23 : decode cX6_fileAt 23 = .ok (.iconst (-1), 1) := by decide +kernel
theorem dX6_fileAt_24 : decode cX6_fileAt 24 = .ok (.ireturn, 1) := by decide +kernel
set_option maxRecDepth 20000 in
theorem ggX6_cover_X6_spot : GoodIn wsX6_cover wsX6_spot := goodIn_r _ [8] (by decide +kernel) (by decide +kernel)
set_option maxRecDepth 20000 in
theorem gX6_cover_X6_spot : GoodIn wsX6_cover (va_wsS RX6 57 yX6_spot wsX6_spot) := goodIn_app (goodIn_of _ (by decide +kernel)) ggX6_cover_X6_spot
set_option maxRecDepth 20000 in
theorem ggX6_cover_X1_settledValue : GoodIn wsX6_cover wsX1_settledValue := goodIn_r _ [13, 14, 23, 24, 25, 26, 27, 28] (by decide +kernel) (by decide +kernel)
set_option maxRecDepth 20000 in
theorem gX6_cover_X1_settledValue : GoodIn wsX6_cover (wsV RX6 75 RX1 yX1_settledValue wsX1_settledValue) := goodIn_app (goodIn_of _ (by decide +kernel)) ggX6_cover_X1_settledValue
theorem dX6_cover_0 : decode cX6_cover 0 = .ok (.aload_n 0, 1) := by decide +kernel
theorem dX6_cover_1 : decode cX6_cover 1 = .ok (.getfield 22, 3) := by decide +kernel
theorem dX6_cover_4 : decode cX6_cover 4 = .ok (.iload_n 1, 1) := by decide +kernel
theorem dX6_cover_5 : decode cX6_cover 5 = .ok (.iaload, 1) := by decide +kernel
theorem dX6_cover_6 : decode cX6_cover 6 = .ok (.iconst (-1), 1) := by decide +kernel
theorem dX6_cover_7 : decode cX6_cover 7 = .ok (.if_icmp .eq 10, 3) := by decide +kernel
theorem dX6_cover_10 : decode cX6_cover 10 = .ok (.aload_n 0, 1) := by decide +kernel
theorem dX6_cover_11 : decode cX6_cover 11 = .ok (.getfield 22, 3) := by decide +kernel
theorem dX6_cover_14 : decode cX6_cover 14 = .ok (.iload_n 1, 1) := by decide +kernel
theorem dX6_cover_15 : decode cX6_cover 15 = .ok (.iaload, 1) := by decide +kernel
theorem dX6_cover_16 : decode cX6_cover 16 = .ok (.ireturn, 1) := by decide +kernel
theorem dX6_cover_17 : decode cX6_cover 17 = .ok (.aload_n 0, 1) := by decide +kernel
theorem dX6_cover_18 : decode cX6_cover 18 = .ok (.getfield 15, 3) := by decide +kernel
theorem dX6_cover_21 : decode cX6_cover 21 = .ok (.iload_n 1, 1) := by decide +kernel
theorem dX6_cover_22 : decode cX6_cover 22 = .ok (.iconst 0, 1) := by decide +kernel
theorem dX6_cover_23 : decode cX6_cover 23 = .ok (.invokestatic 57, 3) := by decide +kernel
theorem dX6_cover_26 : decode cX6_cover 26 = .ok (.iaload, 1) := by decide +kernel
theorem dX6_cover_27 : decode cX6_cover 27 = .ok (.istore_n 2, 1) := by decide +kernel
theorem dX6_cover_28 : decode cX6_cover 28 = .ok (.iconst 1, 1) := by decide +kernel
theorem dX6_cover_29 : decode cX6_cover 29 = .ok (.istore_n 3, 1) := by decide +kernel
theorem dX6_cover_30 : decode cX6_cover 30 = .ok (.iload_n 3, 1) := by decide +kernel
theorem dX6_cover_31 : decode cX6_cover 31 = .ok (.aload_n 0, 1) := by decide +kernel
theorem dX6_cover_32 : decode cX6_cover 32 = .ok (.getfield 19, 3) := by decide +kernel
theorem dX6_cover_35 : decode cX6_cover 35 = .ok (.iload_n 1, 1) := by decide +kernel
theorem dX6_cover_36 : decode cX6_cover 36 = .ok (.iaload, 1) := by decide +kernel
theorem dX6_cover_37 : decode cX6_cover 37 = .ok (.if_icmp .ge 46, 3) := by decide +kernel
theorem dX6_cover_40 : decode cX6_cover 40 = .ok (.aload_n 0, 1) := by decide +kernel
theorem dX6_cover_41 : decode cX6_cover 41 = .ok (.getfield 15, 3) := by decide +kernel
theorem dX6_cover_44 : decode cX6_cover 44 = .ok (.iload_n 1, 1) := by decide +kernel
theorem dX6_cover_45 : decode cX6_cover 45 = .ok (.iload_n 3, 1) := by decide +kernel
theorem dX6_cover_46 : decode cX6_cover 46 = .ok (.invokestatic 57, 3) := by decide +kernel
theorem dX6_cover_49 : decode cX6_cover 49 = .ok (.iaload, 1) := by decide +kernel
theorem dX6_cover_50 : decode cX6_cover 50 = .ok (.istore 4, 2) := by decide +kernel
theorem dX6_cover_52 : decode cX6_cover 52 = .ok (.aload_n 0, 1) := by decide +kernel
theorem dX6_cover_53 : decode cX6_cover 53 = .ok (.getfield 9, 3) := by decide +kernel
theorem dX6_cover_56 : decode cX6_cover 56 = .ok (.iload 4, 2) := by decide +kernel
theorem dX6_cover_58 : decode cX6_cover 58 = .ok (.iconst 1, 1) := by decide +kernel
theorem dX6_cover_59 : decode cX6_cover 59 = .ok (.invokevirtual 75, 3) := by decide +kernel
theorem dX6_cover_62 : decode cX6_cover 62 = .ok (.aload_n 0, 1) := by decide +kernel
theorem dX6_cover_63 : decode cX6_cover 63 = .ok (.getfield 9, 3) := by decide +kernel
theorem dX6_cover_66 : decode cX6_cover 66 = .ok (.iload_n 2, 1) := by decide +kernel
theorem dX6_cover_67 : decode cX6_cover 67 = .ok (.iconst 1, 1) := by decide +kernel
theorem dX6_cover_68 : decode cX6_cover 68 = .ok (.invokevirtual 75, 3) := by decide +kernel
theorem dX6_cover_71 : decode cX6_cover 71 = .ok (.if_icmp .le 6, 3) := by decide +kernel
theorem dX6_cover_74 : decode cX6_cover 74 = .ok (.iload 4, 2) := by decide +kernel
theorem dX6_cover_76 : decode cX6_cover 76 = .ok (.istore_n 2, 1) := by decide +kernel
theorem dX6_cover_77 : decode cX6_cover 77 = .ok (.iinc 3 1, 3) := by decide +kernel
theorem dX6_cover_80 : decode cX6_cover 80 = .ok (.goto (-50), 3) := by decide +kernel
theorem dX6_cover_83 : decode cX6_cover 83 = .ok (.iload_n 2, 1) := by decide +kernel
theorem dX6_cover_84 : decode cX6_cover 84 = .ok (.ireturn, 1) := by decide +kernel
set_option maxRecDepth 20000 in
theorem ggX6_findCovers_X6_has : GoodIn wsX6_findCovers wsX6_has := goodIn_r _ [6, 7, 8, 9, 10, 29, 30, 31, 32, 33, 34, 35, 36] (by decide +kernel) (by decide +kernel)
set_option maxRecDepth 20000 in
theorem gX6_findCovers_X6_has : GoodIn wsX6_findCovers (wsV RX6 42 RX6 yX6_has wsX6_has) := goodIn_app (goodIn_of _ (by decide +kernel)) ggX6_findCovers_X6_has
set_option maxRecDepth 20000 in
theorem ggX6_findCovers_X6_cover : GoodIn wsX6_findCovers wsX6_cover := goodIn_r _ [14, 15, 16, 7, 17, 18, 19, 5, 20, 21, 22, 23, 24, 25, 26, 29, 30, 31, 32, 33, 34, 35, 36, 37, 38, 39, 40, 41, 42] (by decide +kernel) (by decide +kernel)
set_option maxRecDepth 20000 in
theorem gX6_findCovers_X6_cover : GoodIn wsX6_findCovers (wsV RX6 80 RX6 yX6_cover wsX6_cover) := goodIn_app (goodIn_of _ (by decide +kernel)) ggX6_findCovers_X6_cover
set_option maxRecDepth 20000 in
theorem ggX6_findCovers_X8_only : GoodIn wsX6_findCovers wsX8_only := goodIn_r _ [28] (by decide +kernel) (by decide +kernel)
set_option maxRecDepth 20000 in
theorem gX6_findCovers_X8_only_n61 : GoodIn wsX6_findCovers (wsX8_only) := ggX6_findCovers_X8_only
theorem dX6_findCovers_0 : decode cX6_findCovers 0 = .ok (.aload_n 0, 1) := by decide +kernel
theorem dX6_findCovers_1 : decode cX6_findCovers 1 = .ok (.lconst 0, 1) := by decide +kernel
theorem dX6_findCovers_2 : decode cX6_findCovers 2 = .ok (.putfield 50, 3) := by decide +kernel
theorem dX6_findCovers_5 : decode cX6_findCovers 5 = .ok (.iconst 0, 1) := by decide +kernel
theorem dX6_findCovers_6 : decode cX6_findCovers 6 = .ok (.istore_n 1, 1) := by decide +kernel
theorem dX6_findCovers_7 : decode cX6_findCovers 7 = .ok (.iload_n 1, 1) := by decide +kernel
theorem dX6_findCovers_8 : decode cX6_findCovers 8 = .ok (.bipush 10, 2) := by decide +kernel
theorem dX6_findCovers_10 : decode cX6_findCovers 10 = .ok (.if_icmp .ge 34, 3) := by decide +kernel
theorem dX6_findCovers_13 : decode cX6_findCovers 13 = .ok (.aload_n 0, 1) := by decide +kernel
theorem dX6_findCovers_14 : decode cX6_findCovers 14 = .ok (.iload_n 1, 1) := by decide +kernel
theorem dX6_findCovers_15 : decode cX6_findCovers 15 = .ok (.invokevirtual 42, 3) := by decide +kernel
theorem dX6_findCovers_18 : decode cX6_findCovers 18 = .ok (.ifCond .eq 20, 3) := by decide +kernel
theorem dX6_findCovers_21 : decode cX6_findCovers 21 = .ok (.aload_n 0, 1) := by decide +kernel
theorem dX6_findCovers_22 : decode cX6_findCovers 22 = .ok (.dup, 1) := by decide +kernel
theorem dX6_findCovers_23 : decode cX6_findCovers 23 = .ok (.getfield 50, 3) := by decide +kernel
theorem dX6_findCovers_26 : decode cX6_findCovers 26 = .ok (.aload_n 0, 1) := by decide +kernel
theorem dX6_findCovers_27 : decode cX6_findCovers 27 = .ok (.iload_n 1, 1) := by decide +kernel
theorem dX6_findCovers_28 : decode cX6_findCovers 28 = .ok (.invokevirtual 80, 3) := by decide +kernel
theorem dX6_findCovers_31 : decode cX6_findCovers 31 = .ok (.invokestatic 61, 3) := by decide +kernel
theorem dX6_findCovers_34 : decode cX6_findCovers 34 = .ok (.lor, 1) := by decide +kernel
theorem dX6_findCovers_35 : decode cX6_findCovers 35 = .ok (.putfield 50, 3) := by decide +kernel
theorem dX6_findCovers_38 : decode cX6_findCovers 38 = .ok (.iinc 1 1, 3) := by decide +kernel
theorem dX6_findCovers_41 : decode cX6_findCovers 41 = .ok (.goto (-34), 3) := by decide +kernel
theorem dX6_findCovers_44 : decode cX6_findCovers 44 = .ok (.return_, 1) := by decide +kernel
set_option maxRecDepth 20000 in
theorem ggX6_withoutHidden_X6_spot : GoodIn wsX6_withoutHidden wsX6_spot := goodIn_r _ [7] (by decide +kernel) (by decide +kernel)
set_option maxRecDepth 20000 in
theorem gX6_withoutHidden_X6_spot : GoodIn wsX6_withoutHidden (va_wsS RX6 57 yX6_spot wsX6_spot) := goodIn_app (goodIn_of _ (by decide +kernel)) ggX6_withoutHidden_X6_spot
set_option maxRecDepth 20000 in
theorem ggX6_withoutHidden_X8_holds : GoodIn wsX6_withoutHidden wsX8_holds := goodIn_r _ [10] (by decide +kernel) (by decide +kernel)
set_option maxRecDepth 20000 in
theorem gX6_withoutHidden_X8_holds_n84 : GoodIn wsX6_withoutHidden (wsX8_holds) := ggX6_withoutHidden_X8_holds
set_option maxRecDepth 20000 in
theorem ggX6_withoutHidden_X8_only : GoodIn wsX6_withoutHidden wsX8_only := goodIn_r _ [12] (by decide +kernel) (by decide +kernel)
set_option maxRecDepth 20000 in
theorem gX6_withoutHidden_X8_only_n61 : GoodIn wsX6_withoutHidden (wsX8_only) := ggX6_withoutHidden_X8_only
set_option maxRecDepth 20000 in
theorem ggX6_withoutHidden_X6_cover : GoodIn wsX6_withoutHidden wsX6_cover := goodIn_r _ [16, 17, 2, 1, 18, 4, 5, 6, 7, 19, 20, 21, 22, 23, 24, 25, 26, 27, 28, 29, 30, 31, 32, 33, 34, 35, 36, 37, 38] (by decide +kernel) (by decide +kernel)
set_option maxRecDepth 20000 in
theorem gX6_withoutHidden_X6_cover : GoodIn wsX6_withoutHidden (wsV RX6 80 RX6 yX6_cover wsX6_cover) := goodIn_app (goodIn_of _ (by decide +kernel)) ggX6_withoutHidden_X6_cover
theorem dX6_withoutHidden_0 : decode cX6_withoutHidden 0 = .ok (.lload_n 2, 1) := by decide +kernel
theorem dX6_withoutHidden_1 : decode cX6_withoutHidden 1 = .ok (.lstore 4, 2) := by decide +kernel
theorem dX6_withoutHidden_3 : decode cX6_withoutHidden 3 = .ok (.iconst (-1), 1) := by decide +kernel
theorem dX6_withoutHidden_4 : decode cX6_withoutHidden 4 = .ok (.istore 6, 2) := by decide +kernel
theorem dX6_withoutHidden_6 : decode cX6_withoutHidden 6 = .ok (.iconst 0, 1) := by decide +kernel
theorem dX6_withoutHidden_7 : decode cX6_withoutHidden 7 = .ok (.istore 7, 2) := by decide +kernel
theorem dX6_withoutHidden_9 : decode cX6_withoutHidden 9 = .ok (.iload 7, 2) := by decide +kernel
theorem dX6_withoutHidden_11 : decode cX6_withoutHidden 11 = .ok (.aload_n 0, 1) := by decide +kernel
theorem dX6_withoutHidden_12 : decode cX6_withoutHidden 12 = .ok (.getfield 19, 3) := by decide +kernel
theorem dX6_withoutHidden_15 : decode cX6_withoutHidden 15 = .ok (.iload_n 1, 1) := by decide +kernel
theorem dX6_withoutHidden_16 : decode cX6_withoutHidden 16 = .ok (.iaload, 1) := by decide +kernel
theorem dX6_withoutHidden_17 : decode cX6_withoutHidden 17 = .ok (.if_icmp .ge 55, 3) := by decide +kernel
theorem dX6_withoutHidden_20 : decode cX6_withoutHidden 20 = .ok (.aload_n 0, 1) := by decide +kernel
theorem dX6_withoutHidden_21 : decode cX6_withoutHidden 21 = .ok (.getfield 15, 3) := by decide +kernel
theorem dX6_withoutHidden_24 : decode cX6_withoutHidden 24 = .ok (.iload_n 1, 1) := by decide +kernel
theorem dX6_withoutHidden_25 : decode cX6_withoutHidden 25 = .ok (.iload 7, 2) := by decide +kernel
theorem dX6_withoutHidden_27 : decode cX6_withoutHidden 27 = .ok (.invokestatic 57, 3) := by decide +kernel
theorem dX6_withoutHidden_30 : decode cX6_withoutHidden 30 = .ok (.iaload, 1) := by decide +kernel
theorem dX6_withoutHidden_31 : decode cX6_withoutHidden 31 = .ok (.istore 8, 2) := by decide +kernel
theorem dX6_withoutHidden_33 : decode cX6_withoutHidden 33 = .ok (.iload 6, 2) := by decide +kernel
theorem dX6_withoutHidden_35 : decode cX6_withoutHidden 35 = .ok (.iconst (-1), 1) := by decide +kernel
theorem dX6_withoutHidden_36 : decode cX6_withoutHidden 36 = .ok (.if_icmp .ne 16, 3) := by decide +kernel
theorem dX6_withoutHidden_39 : decode cX6_withoutHidden 39 = .ok (.lload_n 2, 1) := by decide +kernel
theorem dX6_withoutHidden_40 : decode cX6_withoutHidden 40 = .ok (.iload 8, 2) := by decide +kernel
theorem dX6_withoutHidden_42 : decode cX6_withoutHidden 42 = .ok (.invokestatic 84, 3) := by decide +kernel
theorem dX6_withoutHidden_45 : decode cX6_withoutHidden 45 = .ok (.ifCond .eq 7, 3) := by decide +kernel
theorem dX6_withoutHidden_48 : decode cX6_withoutHidden 48 = .ok (.iload 8, 2) := by decide +kernel
theorem dX6_withoutHidden_50 : decode cX6_withoutHidden 50 = .ok (.istore 6, 2) := by decide +kernel
theorem dX6_withoutHidden_52 : decode cX6_withoutHidden 52 = .ok (.lload 4, 2) := by decide +kernel
theorem dX6_withoutHidden_54 : decode cX6_withoutHidden 54 = .ok (.iload 8, 2) := by decide +kernel
theorem dX6_withoutHidden_56 : decode cX6_withoutHidden 56 = .ok (.invokestatic 61, 3) := by decide +kernel
theorem dX6_withoutHidden_59 : decode cX6_withoutHidden 59 = .ok (.ldc2_w 73, 3) := by decide +kernel
theorem dX6_withoutHidden_62 : decode cX6_withoutHidden 62 = .ok (.lxor, 1) := by decide +kernel
theorem dX6_withoutHidden_63 : decode cX6_withoutHidden 63 = .ok (.land, 1) := by decide +kernel
theorem dX6_withoutHidden_64 : decode cX6_withoutHidden 64 = .ok (.lstore 4, 2) := by decide +kernel
theorem dX6_withoutHidden_66 : decode cX6_withoutHidden 66 = .ok (.iinc 7 1, 3) := by decide +kernel
theorem dX6_withoutHidden_69 : decode cX6_withoutHidden 69 = .ok (.goto (-60), 3) := by decide +kernel
theorem dX6_withoutHidden_72 : decode cX6_withoutHidden 72 = .ok (.iload 6, 2) := by decide +kernel
theorem dX6_withoutHidden_74 : decode cX6_withoutHidden 74 = .ok (.iconst (-1), 1) := by decide +kernel
theorem dX6_withoutHidden_75 : decode cX6_withoutHidden 75 = .ok (.if_icmp .ne 5, 3) := by decide +kernel
theorem dX6_withoutHidden_78 : decode cX6_withoutHidden 78 = .ok (.lload_n 2, 1) := by decide +kernel
theorem dX6_withoutHidden_79 : decode cX6_withoutHidden 79 = .ok (.lreturn, 1) := by decide +kernel
theorem dX6_withoutHidden_80 : decode cX6_withoutHidden 80 = .ok (.aload_n 0, 1) := by decide +kernel
theorem dX6_withoutHidden_81 : decode cX6_withoutHidden 81 = .ok (.iload_n 1, 1) := by decide +kernel
theorem dX6_withoutHidden_82 : decode cX6_withoutHidden 82 = .ok (.invokevirtual 80, 3) := by decide +kernel
theorem dX6_withoutHidden_85 : decode cX6_withoutHidden 85 = .ok (.istore 7, 2) := by decide +kernel
theorem dX6_withoutHidden_87 : decode cX6_withoutHidden 87 = .ok (.lload 4, 2) := by decide +kernel
theorem dX6_withoutHidden_89 : decode cX6_withoutHidden 89 = .ok (.lload_n 2, 1) := by decide +kernel
theorem dX6_withoutHidden_90 : decode cX6_withoutHidden 90 = .ok (.iload 7, 2) := by decide +kernel
theorem dX6_withoutHidden_92 : decode cX6_withoutHidden 92 = .ok (.invokestatic 84, 3) := by decide +kernel
theorem dX6_withoutHidden_95 : decode cX6_withoutHidden 95 = .ok (.ifCond .eq 8, 3) := by decide +kernel
theorem dX6_withoutHidden_98 : decode cX6_withoutHidden 98 = .ok (.iload 7, 2) := by decide +kernel
theorem dX6_withoutHidden_100 : decode cX6_withoutHidden 100 = .ok (.goto 5, 3) := by decide +kernel
theorem dX6_withoutHidden_103 : decode cX6_withoutHidden 103 = .ok (.iload 6, 2) := by decide +kernel
theorem dX6_withoutHidden_105 : decode cX6_withoutHidden 105 = .ok (.invokestatic 61, 3) := by decide +kernel
theorem dX6_withoutHidden_108 : decode cX6_withoutHidden 108 = .ok (.lor, 1) := by decide +kernel
theorem dX6_withoutHidden_109 : decode cX6_withoutHidden 109 = .ok (.lreturn, 1) := by decide +kernel
theorem dX6_spot_0 : decode cX6_spot 0 = .ok (.iload_n 0, 1) := by decide +kernel
theorem dX6_spot_1 : decode cX6_spot 1 = .ok (.bipush 8, 2) := by decide +kernel
theorem dX6_spot_3 : decode cX6_spot 3 = .ok (.imul, 1) := by decide +kernel
theorem dX6_spot_4 : decode cX6_spot 4 = .ok (.iload_n 1, 1) := by decide +kernel
theorem dX6_spot_5 : decode cX6_spot 5 = .ok (.iadd, 1) := by decide +kernel
theorem dX6_spot_6 : decode cX6_spot 6 = .ok (.ireturn, 1) := by decide +kernel
theorem dX7_init_0 : decode cX7_init 0 = .ok (.aload_n 0, 1) := by decide +kernel
theorem dX7_init_1 : decode cX7_init 1 = .ok (.invokespecial 3, 3) := by decide +kernel
theorem dX7_init_4 : decode cX7_init 4 = .ok (.aload_n 0, 1) := by decide +kernel
theorem dX7_init_5 : decode cX7_init 5 = .ok (.aload_n 1, 1) := by decide +kernel
theorem dX7_init_6 : decode cX7_init 6 = .ok (.putfield 9, 3) := by decide +kernel
theorem dX7_init_9 : decode cX7_init 9 = .ok (.aload_n 0, 1) := by decide +kernel
theorem dX7_init_10 : decode cX7_init 10 = .ok (.aload_n 2, 1) := by decide +kernel
theorem dX7_init_11 : decode cX7_init 11 = .ok (.putfield 15, 3) := by decide +kernel
theorem dX7_init_14 : decode cX7_init 14 = .ok (.return_, 1) := by decide +kernel
set_option maxRecDepth 20000 in
theorem ggX7_shown_X0_members : GoodIn wsX7_shown wsX0_members := goodIn_r _ [6, 7, 49, 50, 51, 52, 53, 54, 55] (by decide +kernel) (by decide +kernel)
set_option maxRecDepth 20000 in
theorem gX7_shown_X0_members : GoodIn wsX7_shown (wsV RX7 19 RX0 yX0_members wsX0_members) := goodIn_app (goodIn_of _ (by decide +kernel)) ggX7_shown_X0_members
set_option maxRecDepth 20000 in
theorem ggX7_shown_X6_has : GoodIn wsX7_shown wsX6_has := goodIn_r _ [12, 13, 14, 15, 16, 56, 57, 58, 59, 60, 61, 62, 63] (by decide +kernel) (by decide +kernel)
set_option maxRecDepth 20000 in
theorem gX7_shown_X6_has : GoodIn wsX7_shown (wsV RX7 25 RX6 yX6_has wsX6_has) := goodIn_app (goodIn_of _ (by decide +kernel)) ggX7_shown_X6_has
set_option maxRecDepth 20000 in
theorem ggX7_shown_X6_isCollapsed : GoodIn wsX7_shown wsX6_isCollapsed := goodIn_r _ [20, 21, 56, 57, 58, 59, 60, 61, 62, 63] (by decide +kernel) (by decide +kernel)
set_option maxRecDepth 20000 in
theorem gX7_shown_X6_isCollapsed : GoodIn wsX7_shown (wsV RX7 31 RX6 yX6_isCollapsed wsX6_isCollapsed) := goodIn_app (goodIn_of _ (by decide +kernel)) ggX7_shown_X6_isCollapsed
set_option maxRecDepth 20000 in
theorem ggX7_shown_X6_withoutHidden : GoodIn wsX7_shown wsX6_withoutHidden := goodIn_r _ [25, 13, 26, 27, 28, 29, 11, 30, 31, 15, 32, 33, 34, 35, 36, 37, 38, 39, 40, 41, 42, 43, 44, 45, 46, 56, 57, 58, 59, 60, 61, 62, 63, 64, 65, 66, 67, 68, 69] (by decide +kernel) (by decide +kernel)
set_option maxRecDepth 20000 in
theorem gX7_shown_X6_withoutHidden : GoodIn wsX7_shown (wsV RX7 34 RX6 yX6_withoutHidden wsX6_withoutHidden) := goodIn_app (goodIn_of _ (by decide +kernel)) ggX7_shown_X6_withoutHidden
theorem dX7_shown_0 : decode cX7_shown 0 = .ok (.aload_n 1, 1) := by decide +kernel
theorem dX7_shown_1 : decode cX7_shown 1 = .ok (.invokevirtual 19, 3) := by decide +kernel
theorem dX7_shown_4 : decode cX7_shown 4 = .ok (.lstore_n 2, 1) := by decide +kernel
theorem dX7_shown_5 : decode cX7_shown 5 = .ok (.iconst 0, 1) := by decide +kernel
theorem dX7_shown_6 : decode cX7_shown 6 = .ok (.istore 4, 2) := by decide +kernel
theorem dX7_shown_8 : decode cX7_shown 8 = .ok (.iload 4, 2) := by decide +kernel
theorem dX7_shown_10 : decode cX7_shown 10 = .ok (.bipush 10, 2) := by decide +kernel
theorem dX7_shown_12 : decode cX7_shown 12 = .ok (.if_icmp .ge 44, 3) := by decide +kernel
theorem dX7_shown_15 : decode cX7_shown 15 = .ok (.aload_n 0, 1) := by decide +kernel
theorem dX7_shown_16 : decode cX7_shown 16 = .ok (.getfield 15, 3) := by decide +kernel
theorem dX7_shown_19 : decode cX7_shown 19 = .ok (.iload 4, 2) := by decide +kernel
theorem dX7_shown_21 : decode cX7_shown 21 = .ok (.invokevirtual 25, 3) := by decide +kernel
theorem dX7_shown_24 : decode cX7_shown 24 = .ok (.ifCond .eq 26, 3) := by decide +kernel
theorem dX7_shown_27 : decode cX7_shown 27 = .ok (.aload_n 0, 1) := by decide +kernel
theorem dX7_shown_28 : decode cX7_shown 28 = .ok (.getfield 15, 3) := by decide +kernel
theorem dX7_shown_31 : decode cX7_shown 31 = .ok (.iload 4, 2) := by decide +kernel
theorem dX7_shown_33 : decode cX7_shown 33 = .ok (.invokevirtual 31, 3) := by decide +kernel
theorem dX7_shown_36 : decode cX7_shown 36 = .ok (.ifCond .eq 14, 3) := by decide +kernel
theorem dX7_shown_39 : decode cX7_shown 39 = .ok (.aload_n 0, 1) := by decide +kernel
theorem dX7_shown_40 : decode cX7_shown 40 = .ok (.getfield 15, 3) := by decide +kernel
theorem dX7_shown_43 : decode cX7_shown 43 = .ok (.iload 4, 2) := by decide +kernel
theorem dX7_shown_45 : decode cX7_shown 45 = .ok (.lload_n 2, 1) := by decide +kernel
theorem dX7_shown_46 : decode cX7_shown 46 = .ok (.invokevirtual 34, 3) := by decide +kernel
theorem dX7_shown_49 : decode cX7_shown 49 = .ok (.lstore_n 2, 1) := by decide +kernel
theorem dX7_shown_50 : decode cX7_shown 50 = .ok (.iinc 4 1, 3) := by decide +kernel
theorem dX7_shown_53 : decode cX7_shown 53 = .ok (.goto (-45), 3) := by decide +kernel
theorem dX7_shown_56 : decode cX7_shown 56 = .ok (.lload_n 2, 1) := by decide +kernel
theorem dX7_shown_57 : decode cX7_shown 57 = .ok (.lreturn, 1) := by decide +kernel
set_option maxRecDepth 20000 in
theorem ggX7_fileAt_X7_shown : GoodIn wsX7_fileAt wsX7_shown := goodIn_r _ [5, 6, 7, 8, 9, 10, 11, 12, 13, 14, 15, 16, 17, 18, 19, 20, 21, 22, 23, 24, 25, 26, 27, 28, 29, 30, 31, 32, 33, 34, 35, 36, 37, 38, 39, 40, 41, 42, 43, 44, 45, 46, 47, 48, 49, 50, 51, 72, 73, 74, 75, 76, 77, 78, 79, 80, 81, 82, 83, 84, 85, 86, 87, 88, 89, 90, 91, 92, 93, 94] (by decide +kernel) (by decide +kernel)
set_option maxRecDepth 20000 in
theorem gX7_fileAt_X7_shown : GoodIn wsX7_fileAt (wsV RX7 38 RX7 yX7_shown wsX7_shown) := goodIn_app (goodIn_of _ (by decide +kernel)) ggX7_fileAt_X7_shown
set_option maxRecDepth 20000 in
theorem ggX7_fileAt_X8_holds : GoodIn wsX7_fileAt wsX8_holds := goodIn_r _ [37] (by decide +kernel) (by decide +kernel)
set_option maxRecDepth 20000 in
theorem gX7_fileAt_X8_holds_n42 : GoodIn wsX7_fileAt (wsX8_holds) := ggX7_fileAt_X8_holds
set_option maxRecDepth 20000 in
theorem ggX7_fileAt_X7_placeOf : GoodIn wsX7_fileAt wsX7_placeOf := goodIn_r _ [55, 36, 20, 37, 56, 57, 58, 4, 59, 60, 61, 62, 63, 10, 64, 65, 66, 47, 48, 49, 50, 51, 67, 68, 69, 70, 71, 72, 73, 74, 75, 76, 77, 78, 79, 80, 89, 90, 91, 92, 93, 94] (by decide +kernel) (by decide +kernel)
set_option maxRecDepth 20000 in
theorem gX7_fileAt_X7_placeOf : GoodIn wsX7_fileAt (wsV RX7 46 RX7 yX7_placeOf wsX7_placeOf) := goodIn_app (goodIn_of _ (by decide +kernel)) ggX7_fileAt_X7_placeOf
theorem dX7_fileAt_0 : decode cX7_fileAt 0 = .ok (.aload_n 0, 1) := by decide +kernel
theorem dX7_fileAt_1 : decode cX7_fileAt 1 = .ok (.aload_n 1, 1) := by decide +kernel
theorem dX7_fileAt_2 : decode cX7_fileAt 2 = .ok (.invokevirtual 38, 3) := by decide +kernel
theorem dX7_fileAt_5 : decode cX7_fileAt 5 = .ok (.lstore_n 3, 1) := by decide +kernel
theorem dX7_fileAt_6 : decode cX7_fileAt 6 = .ok (.iconst 0, 1) := by decide +kernel
theorem dX7_fileAt_7 : decode cX7_fileAt 7 = .ok (.istore 5, 2) := by decide +kernel
theorem dX7_fileAt_9 : decode cX7_fileAt 9 = .ok (.iload 5, 2) := by decide +kernel
theorem dX7_fileAt_11 : decode cX7_fileAt 11 = .ok (.bipush 40, 2) := by decide +kernel
theorem dX7_fileAt_13 : decode cX7_fileAt 13 = .ok (.if_icmp .ge 33, 3) := by decide +kernel
theorem dX7_fileAt_16 : decode cX7_fileAt 16 = .ok (.lload_n 3, 1) := by decide +kernel
theorem dX7_fileAt_17 : decode cX7_fileAt 17 = .ok (.iload 5, 2) := by decide +kernel
theorem dX7_fileAt_19 : decode cX7_fileAt 19 = .ok (.invokestatic 42, 3) := by decide +kernel
theorem dX7_fileAt_22 : decode cX7_fileAt 22 = .ok (.ifCond .eq 18, 3) := by decide +kernel
theorem dX7_fileAt_25 : decode cX7_fileAt 25 = .ok (.aload_n 0, 1) := by decide +kernel
theorem dX7_fileAt_26 : decode cX7_fileAt 26 = .ok (.aload_n 1, 1) := by decide +kernel
theorem dX7_fileAt_27 : decode cX7_fileAt 27 = .ok (.lload_n 3, 1) := by decide +kernel
theorem dX7_fileAt_28 : decode cX7_fileAt 28 = .ok (.iload 5, 2) := by decide +kernel
theorem dX7_fileAt_30 : decode cX7_fileAt 30 = .ok (.invokevirtual 46, 3) := by decide +kernel
theorem dX7_fileAt_33 : decode cX7_fileAt 33 = .ok (.iload_n 2, 1) := by decide +kernel
theorem dX7_fileAt_34 : decode cX7_fileAt 34 = .ok (.if_icmp .ne 6, 3) := by decide +kernel
theorem dX7_fileAt_37 : decode cX7_fileAt 37 = .ok (.iload 5, 2) := by decide +kernel
theorem dX7_fileAt_39 : decode cX7_fileAt 39 = .ok (.ireturn, 1) := by decide +kernel
theorem dX7_fileAt_40 : decode cX7_fileAt 40 = .ok (.iinc 5 1, 3) := by decide +kernel
theorem dX7_fileAt_43 : decode cX7_fileAt 43 = .ok (.goto (-34), 3) := by decide +kernel
theorem dX7_fileAt_46 : decode cX7_fileAt 46 = .ok (.iconst (-1), 1) := by decide +kernel
theorem dX7_fileAt_47 : decode cX7_fileAt 47 = .ok (.ireturn, 1) := by decide +kernel
set_option maxRecDepth 20000 in
theorem ggX7_placeOf_X8_holds : GoodIn wsX7_placeOf wsX8_holds := goodIn_r _ [3] (by decide +kernel) (by decide +kernel)
set_option maxRecDepth 20000 in
theorem gX7_placeOf_X8_holds_n42 : GoodIn wsX7_placeOf (wsX8_holds) := ggX7_placeOf_X8_holds
set_option maxRecDepth 20000 in
theorem ggX7_placeOf_X7_comesBefore : GoodIn wsX7_placeOf wsX7_comesBefore := goodIn_r _ [8, 9, 10, 11, 12, 13, 14, 15, 16, 17, 18, 19, 20, 21, 22, 23, 24, 25, 26, 27, 28, 29, 30, 31, 32, 33, 34, 35, 36, 37, 38, 39, 40, 41] (by decide +kernel) (by decide +kernel)
set_option maxRecDepth 20000 in
theorem gX7_placeOf_X7_comesBefore : GoodIn wsX7_placeOf (wsV RX7 50 RX7 yX7_comesBefore wsX7_comesBefore) := goodIn_app (goodIn_of _ (by decide +kernel)) ggX7_placeOf_X7_comesBefore
theorem dX7_placeOf_0 : decode cX7_placeOf 0 = .ok (.iconst 0, 1) := by decide +kernel
theorem dX7_placeOf_1 : decode cX7_placeOf 1 = .ok (.istore 5, 2) := by decide +kernel
theorem dX7_placeOf_3 : decode cX7_placeOf 3 = .ok (.iconst 0, 1) := by decide +kernel
theorem dX7_placeOf_4 : decode cX7_placeOf 4 = .ok (.istore 6, 2) := by decide +kernel
theorem dX7_placeOf_6 : decode cX7_placeOf 6 = .ok (.iload 6, 2) := by decide +kernel
theorem dX7_placeOf_8 : decode cX7_placeOf 8 = .ok (.bipush 40, 2) := by decide +kernel
theorem dX7_placeOf_10 : decode cX7_placeOf 10 = .ok (.if_icmp .ge 33, 3) := by decide +kernel
theorem dX7_placeOf_13 : decode cX7_placeOf 13 = .ok (.lload_n 2, 1) := by decide +kernel
theorem dX7_placeOf_14 : decode cX7_placeOf 14 = .ok (.iload 6, 2) := by decide +kernel
theorem dX7_placeOf_16 : decode cX7_placeOf 16 = .ok (.invokestatic 42, 3) := by decide +kernel
theorem dX7_placeOf_19 : decode cX7_placeOf 19 = .ok (.ifCond .eq 18, 3) := by decide +kernel
theorem dX7_placeOf_22 : decode cX7_placeOf 22 = .ok (.aload_n 0, 1) := by decide +kernel
theorem dX7_placeOf_23 : decode cX7_placeOf 23 = .ok (.aload_n 1, 1) := by decide +kernel
theorem dX7_placeOf_24 : decode cX7_placeOf 24 = .ok (.iload 6, 2) := by decide +kernel
theorem dX7_placeOf_26 : decode cX7_placeOf 26 = .ok (.iload 4, 2) := by decide +kernel
theorem dX7_placeOf_28 : decode cX7_placeOf 28 = .ok (.invokevirtual 50, 3) := by decide +kernel
theorem dX7_placeOf_31 : decode cX7_placeOf 31 = .ok (.ifCond .eq 6, 3) := by decide +kernel
theorem dX7_placeOf_34 : decode cX7_placeOf 34 = .ok (.iinc 5 1, 3) := by decide +kernel
theorem dX7_placeOf_37 : decode cX7_placeOf 37 = .ok (.iinc 6 1, 3) := by decide +kernel
theorem dX7_placeOf_40 : decode cX7_placeOf 40 = .ok (.goto (-34), 3) := by decide +kernel
theorem dX7_placeOf_43 : decode cX7_placeOf 43 = .ok (.iload 5, 2) := by decide +kernel
theorem dX7_placeOf_45 : decode cX7_placeOf 45 = .ok (.ireturn, 1) := by decide +kernel
set_option maxRecDepth 20000 in
theorem ggX7_comesBefore_X0_sortField : GoodIn wsX7_comesBefore wsX0_sortField := goodIn_r _ [6, 7, 21, 22, 23, 24, 25, 26, 27] (by decide +kernel) (by decide +kernel)
set_option maxRecDepth 20000 in
theorem gX7_comesBefore_X0_sortField : GoodIn wsX7_comesBefore (wsV RX7 54 RX0 yX0_sortField wsX0_sortField) := goodIn_app (goodIn_of _ (by decide +kernel)) ggX7_comesBefore_X0_sortField
set_option maxRecDepth 20000 in
theorem ggX7_comesBefore_X1_settledValue : GoodIn wsX7_comesBefore wsX1_settledValue := goodIn_r _ [12, 13, 28, 29, 30, 31, 32, 33] (by decide +kernel) (by decide +kernel)
set_option maxRecDepth 20000 in
theorem gX7_comesBefore_X1_settledValue : GoodIn wsX7_comesBefore (wsV RX7 58 RX1 yX1_settledValue wsX1_settledValue) := goodIn_app (goodIn_of _ (by decide +kernel)) ggX7_comesBefore_X1_settledValue
set_option maxRecDepth 20000 in
theorem ggX7_comesBefore_X0_isDescending : GoodIn wsX7_comesBefore wsX0_isDescending := goodIn_r _ [17, 18, 21, 22, 23, 24, 25, 26, 27] (by decide +kernel) (by decide +kernel)
set_option maxRecDepth 20000 in
theorem gX7_comesBefore_X0_isDescending : GoodIn wsX7_comesBefore (wsV RX7 64 RX0 yX0_isDescending wsX0_isDescending) := goodIn_app (goodIn_of _ (by decide +kernel)) ggX7_comesBefore_X0_isDescending
theorem dX7_comesBefore_0 : decode cX7_comesBefore 0 = .ok (.aload_n 0, 1) := by decide +kernel
theorem dX7_comesBefore_1 : decode cX7_comesBefore 1 = .ok (.getfield 9, 3) := by decide +kernel
theorem dX7_comesBefore_4 : decode cX7_comesBefore 4 = .ok (.iload_n 2, 1) := by decide +kernel
theorem dX7_comesBefore_5 : decode cX7_comesBefore 5 = .ok (.aload_n 1, 1) := by decide +kernel
theorem dX7_comesBefore_6 : decode cX7_comesBefore 6 = .ok (.invokevirtual 54, 3) := by decide +kernel
theorem dX7_comesBefore_9 : decode cX7_comesBefore 9 = .ok (.invokevirtual 58, 3) := by decide +kernel
theorem dX7_comesBefore_12 : decode cX7_comesBefore 12 = .ok (.istore 4, 2) := by decide +kernel
theorem dX7_comesBefore_14 : decode cX7_comesBefore 14 = .ok (.aload_n 0, 1) := by decide +kernel
theorem dX7_comesBefore_15 : decode cX7_comesBefore 15 = .ok (.getfield 9, 3) := by decide +kernel
theorem dX7_comesBefore_18 : decode cX7_comesBefore 18 = .ok (.iload_n 3, 1) := by decide +kernel
theorem dX7_comesBefore_19 : decode cX7_comesBefore 19 = .ok (.aload_n 1, 1) := by decide +kernel
theorem dX7_comesBefore_20 : decode cX7_comesBefore 20 = .ok (.invokevirtual 54, 3) := by decide +kernel
theorem dX7_comesBefore_23 : decode cX7_comesBefore 23 = .ok (.invokevirtual 58, 3) := by decide +kernel
theorem dX7_comesBefore_26 : decode cX7_comesBefore 26 = .ok (.istore 5, 2) := by decide +kernel
theorem dX7_comesBefore_28 : decode cX7_comesBefore 28 = .ok (.iload 4, 2) := by decide +kernel
theorem dX7_comesBefore_30 : decode cX7_comesBefore 30 = .ok (.iload 5, 2) := by decide +kernel
theorem dX7_comesBefore_32 : decode cX7_comesBefore 32 = .ok (.if_icmp .ne 14, 3) := by decide +kernel
theorem dX7_comesBefore_35 : decode cX7_comesBefore 35 = .ok (.iload_n 2, 1) := by decide +kernel
theorem dX7_comesBefore_36 : decode cX7_comesBefore 36 = .ok (.iload_n 3, 1) := by decide +kernel
theorem dX7_comesBefore_37 : decode cX7_comesBefore 37 = .ok (.if_icmp .ge 7, 3) := by decide +kernel
theorem dX7_comesBefore_40 : decode cX7_comesBefore 40 = .ok (.iconst 1, 1) := by decide +kernel
theorem dX7_comesBefore_41 : decode cX7_comesBefore 41 = .ok (.goto 4, 3) := by decide +kernel
theorem dX7_comesBefore_44 : decode cX7_comesBefore 44 = .ok (.iconst 0, 1) := by decide +kernel
theorem dX7_comesBefore_45 : decode cX7_comesBefore 45 = .ok (.ireturn, 1) := by decide +kernel
theorem dX7_comesBefore_46 : decode cX7_comesBefore 46 = .ok (.iload 4, 2) := by decide +kernel
theorem dX7_comesBefore_48 : decode cX7_comesBefore 48 = .ok (.iconst (-1), 1) := by decide +kernel
theorem dX7_comesBefore_49 : decode cX7_comesBefore 49 = .ok (.if_icmp .eq 9, 3) := by decide +kernel
theorem dX7_comesBefore_52 : decode cX7_comesBefore 52 = .ok (.iload 5, 2) := by decide +kernel
theorem dX7_comesBefore_54 : decode cX7_comesBefore 54 = .ok (.iconst (-1), 1) := by decide +kernel
theorem dX7_comesBefore_55 : decode cX7_comesBefore 55 = .ok (.if_icmp .ne 15, 3) := by decide +kernel
theorem dX7_comesBefore_58 : decode cX7_comesBefore 58 = .ok (.iload 5, 2) := by decide +kernel
theorem dX7_comesBefore_60 : decode cX7_comesBefore 60 = .ok (.iconst (-1), 1) := by decide +kernel
theorem dX7_comesBefore_61 : decode cX7_comesBefore 61 = .ok (.if_icmp .ne 7, 3) := by decide +kernel
theorem dX7_comesBefore_64 : decode cX7_comesBefore 64 = .ok (.iconst 1, 1) := by decide +kernel
theorem dX7_comesBefore_65 : decode cX7_comesBefore 65 = .ok (.goto 4, 3) := by decide +kernel
theorem dX7_comesBefore_68 : decode cX7_comesBefore 68 = .ok (.iconst 0, 1) := by decide +kernel
theorem dX7_comesBefore_69 : decode cX7_comesBefore 69 = .ok (.ireturn, 1) := by decide +kernel
theorem dX7_comesBefore_70 : decode cX7_comesBefore 70 = .ok (.aload_n 1, 1) := by decide +kernel
theorem dX7_comesBefore_71 : decode cX7_comesBefore 71 = .ok (.invokevirtual 64, 3) := by decide +kernel
theorem dX7_comesBefore_74 : decode cX7_comesBefore 74 = .ok (.ifCond .eq 18, 3) := by decide +kernel
theorem dX7_comesBefore_77 : decode cX7_comesBefore 77 = .ok (.iload 4, 2) := by decide +kernel
theorem dX7_comesBefore_79 : decode cX7_comesBefore 79 = .ok (.iload 5, 2) := by decide +kernel
theorem dX7_comesBefore_81 : decode cX7_comesBefore 81 = .ok (.if_icmp .le 7, 3) := by decide +kernel
theorem dX7_comesBefore_84 : decode cX7_comesBefore 84 = .ok (.iconst 1, 1) := by decide +kernel
theorem dX7_comesBefore_85 : decode cX7_comesBefore 85 = .ok (.goto 19, 3) := by decide +kernel
theorem dX7_comesBefore_88 : decode cX7_comesBefore 88 = .ok (.iconst 0, 1) := by decide +kernel
theorem dX7_comesBefore_89 : decode cX7_comesBefore 89 = .ok (.goto 15, 3) := by decide +kernel
theorem dX7_comesBefore_92 : decode cX7_comesBefore 92 = .ok (.iload 4, 2) := by decide +kernel
theorem dX7_comesBefore_94 : decode cX7_comesBefore 94 = .ok (.iload 5, 2) := by decide +kernel
theorem dX7_comesBefore_96 : decode cX7_comesBefore 96 = .ok (.if_icmp .ge 7, 3) := by decide +kernel
theorem dX7_comesBefore_99 : decode cX7_comesBefore 99 = .ok (.iconst 1, 1) := by decide +kernel
theorem dX7_comesBefore_100 : decode cX7_comesBefore 100 = .ok (.goto 4, 3) := by decide +kernel
theorem dX7_comesBefore_103 : decode cX7_comesBefore 103 = .ok (.iconst 0, 1) := by decide +kernel
theorem dX7_comesBefore_104 : decode cX7_comesBefore 104 = .ok (.ireturn, 1) := by decide +kernel
set_option maxRecDepth 20000 in
theorem ggX8_init_X1_init : GoodIn wsX8_init wsX1_init := goodIn_r _ [38, 39, 2, 3, 40, 41, 42, 43, 44, 45, 104, 105, 106, 107, 108, 109] (by decide +kernel) (by decide +kernel)
set_option maxRecDepth 20000 in
theorem gX8_init_X1_init : GoodIn wsX8_init (wsX1_init) := ggX8_init_X1_init
set_option maxRecDepth 20000 in
theorem ggX8_init_X2_init : GoodIn wsX8_init wsX2_init := goodIn_r _ [48, 49, 2, 3, 50, 118, 119, 120] (by decide +kernel) (by decide +kernel)
set_option maxRecDepth 20000 in
theorem gX8_init_X2_init : GoodIn wsX8_init (wsX2_init) := ggX8_init_X2_init
set_option maxRecDepth 20000 in
theorem ggX8_init_X6_init : GoodIn wsX8_init wsX6_init := goodIn_r _ [53, 54, 2, 3, 55, 40, 56, 57, 58, 59, 60, 61, 62, 63, 64, 65, 121, 122, 123, 124, 125, 126, 127, 128] (by decide +kernel) (by decide +kernel)
set_option maxRecDepth 20000 in
theorem gX8_init_X6_init : GoodIn wsX8_init (wsX6_init) := ggX8_init_X6_init
set_option maxRecDepth 20000 in
theorem ggX8_init_X5_init : GoodIn wsX8_init wsX5_init := goodIn_r _ [68, 69, 2, 3, 70, 71, 129, 130] (by decide +kernel) (by decide +kernel)
set_option maxRecDepth 20000 in
theorem gX8_init_X5_init : GoodIn wsX8_init (wsX5_init) := ggX8_init_X5_init
set_option maxRecDepth 20000 in
theorem ggX8_init_X0_init : GoodIn wsX8_init wsX0_init := goodIn_r _ [74, 75, 2, 3, 76, 17, 18, 77, 78, 67, 68, 69, 70, 71, 129, 130, 131, 132, 133, 134, 135, 136, 137] (by decide +kernel) (by decide +kernel)
set_option maxRecDepth 20000 in
theorem gX8_init_X0_init : GoodIn wsX8_init (wsX0_init) := ggX8_init_X0_init
set_option maxRecDepth 20000 in
theorem ggX8_init_X4_init : GoodIn wsX8_init wsX4_init := goodIn_r _ [81, 82, 2, 3, 83, 84, 85, 86, 87, 88, 89, 59, 90, 138, 139, 140, 141, 142, 143, 144, 145] (by decide +kernel) (by decide +kernel)
set_option maxRecDepth 20000 in
theorem gX8_init_X4_init : GoodIn wsX8_init (wsX4_init) := ggX8_init_X4_init
set_option maxRecDepth 20000 in
theorem ggX8_init_X7_init : GoodIn wsX8_init wsX7_init := goodIn_r _ [93, 94, 2, 3, 95, 96, 146, 147] (by decide +kernel) (by decide +kernel)
set_option maxRecDepth 20000 in
theorem gX8_init_X7_init : GoodIn wsX8_init (wsX7_init) := ggX8_init_X7_init
set_option maxRecDepth 20000 in
theorem ggX8_init_X3_init : GoodIn wsX8_init wsX3_init := goodIn_r _ [99, 100, 2, 3, 40, 101, 102, 59, 103, 148, 149, 150, 151, 152] (by decide +kernel) (by decide +kernel)
set_option maxRecDepth 20000 in
theorem gX8_init_X3_init : GoodIn wsX8_init (wsX3_init) := ggX8_init_X3_init
theorem dX8_init_0 : decode cX8_init 0 = .ok (.aload_n 0, 1) := by decide +kernel
theorem dX8_init_1 : decode cX8_init 1 = .ok (.invokespecial 1, 3) := by decide +kernel
theorem dX8_init_4 : decode cX8_init 4 = .ok (.aload_n 0, 1) := by decide +kernel
theorem dX8_init_5 : decode cX8_init 5 = .ok (.new 7, 3) := by decide +kernel
theorem dX8_init_8 : decode cX8_init 8 = .ok (.dup, 1) := by decide +kernel
theorem dX8_init_9 : decode cX8_init 9 = .ok (.invokespecial 9, 3) := by decide +kernel
theorem dX8_init_12 : decode cX8_init 12 = .ok (.putfield 10, 3) := by decide +kernel
theorem dX8_init_15 : decode cX8_init 15 = .ok (.aload_n 0, 1) := by decide +kernel
theorem dX8_init_16 : decode cX8_init 16 = .ok (.new 16, 3) := by decide +kernel
theorem dX8_init_19 : decode cX8_init 19 = .ok (.dup, 1) := by decide +kernel
theorem dX8_init_20 : decode cX8_init 20 = .ok (.aload_n 0, 1) := by decide +kernel
theorem dX8_init_21 : decode cX8_init 21 = .ok (.getfield 10, 3) := by decide +kernel
theorem dX8_init_24 : decode cX8_init 24 = .ok (.invokespecial 18, 3) := by decide +kernel
theorem dX8_init_27 : decode cX8_init 27 = .ok (.putfield 21, 3) := by decide +kernel
theorem dX8_init_30 : decode cX8_init 30 = .ok (.aload_n 0, 1) := by decide +kernel
theorem dX8_init_31 : decode cX8_init 31 = .ok (.new 25, 3) := by decide +kernel
theorem dX8_init_34 : decode cX8_init 34 = .ok (.dup, 1) := by decide +kernel
theorem dX8_init_35 : decode cX8_init 35 = .ok (.aload_n 0, 1) := by decide +kernel
theorem dX8_init_36 : decode cX8_init 36 = .ok (.getfield 10, 3) := by decide +kernel
theorem dX8_init_39 : decode cX8_init 39 = .ok (.invokespecial 27, 3) := by decide +kernel
theorem dX8_init_42 : decode cX8_init 42 = .ok (.putfield 28, 3) := by decide +kernel
theorem dX8_init_45 : decode cX8_init 45 = .ok (.aload_n 0, 1) := by decide +kernel
theorem dX8_init_46 : decode cX8_init 46 = .ok (.new 32, 3) := by decide +kernel
theorem dX8_init_49 : decode cX8_init 49 = .ok (.dup, 1) := by decide +kernel
theorem dX8_init_50 : decode cX8_init 50 = .ok (.invokespecial 34, 3) := by decide +kernel
theorem dX8_init_53 : decode cX8_init 53 = .ok (.putfield 35, 3) := by decide +kernel
theorem dX8_init_56 : decode cX8_init 56 = .ok (.aload_n 0, 1) := by decide +kernel
theorem dX8_init_57 : decode cX8_init 57 = .ok (.bipush 8, 2) := by decide +kernel
theorem dX8_init_59 : decode cX8_init 59 = .ok (.anewarray 39, 3) := by decide +kernel
theorem dX8_init_62 : decode cX8_init 62 = .ok (.putfield 41, 3) := by decide +kernel
theorem dX8_init_65 : decode cX8_init 65 = .ok (.iconst 0, 1) := by decide +kernel
theorem dX8_init_66 : decode cX8_init 66 = .ok (.istore_n 1, 1) := by decide +kernel
theorem dX8_init_67 : decode cX8_init 67 = .ok (.iload_n 1, 1) := by decide +kernel
theorem dX8_init_68 : decode cX8_init 68 = .ok (.bipush 8, 2) := by decide +kernel
theorem dX8_init_70 : decode cX8_init 70 = .ok (.if_icmp .ge 22, 3) := by decide +kernel
theorem dX8_init_73 : decode cX8_init 73 = .ok (.aload_n 0, 1) := by decide +kernel
theorem dX8_init_74 : decode cX8_init 74 = .ok (.getfield 41, 3) := by decide +kernel
theorem dX8_init_77 : decode cX8_init 77 = .ok (.iload_n 1, 1) := by decide +kernel
theorem dX8_init_78 : decode cX8_init 78 = .ok (.new 39, 3) := by decide +kernel
theorem dX8_init_81 : decode cX8_init 81 = .ok (.dup, 1) := by decide +kernel
theorem dX8_init_82 : decode cX8_init 82 = .ok (.invokespecial 45, 3) := by decide +kernel
theorem dX8_init_85 : decode cX8_init 85 = .ok (.aastore, 1) := by decide +kernel
theorem dX8_init_86 : decode cX8_init 86 = .ok (.iinc 1 1, 3) := by decide +kernel
theorem dX8_init_89 : decode cX8_init 89 = .ok (.goto (-22), 3) := by decide +kernel
theorem dX8_init_92 : decode cX8_init 92 = .ok (.aload_n 0, 1) := by decide +kernel
theorem dX8_init_93 : decode cX8_init 93 = .ok (.new 46, 3) := by decide +kernel
theorem dX8_init_96 : decode cX8_init 96 = .ok (.dup, 1) := by decide +kernel
theorem dX8_init_97 : decode cX8_init 97 = .ok (.aload_n 0, 1) := by decide +kernel
theorem dX8_init_98 : decode cX8_init 98 = .ok (.getfield 10, 3) := by decide +kernel
theorem dX8_init_101 : decode cX8_init 101 = .ok (.aload_n 0, 1) := by decide +kernel
theorem dX8_init_102 : decode cX8_init 102 = .ok (.getfield 21, 3) := by decide +kernel
theorem dX8_init_105 : decode cX8_init 105 = .ok (.aload_n 0, 1) := by decide +kernel
theorem dX8_init_106 : decode cX8_init 106 = .ok (.getfield 28, 3) := by decide +kernel
theorem dX8_init_109 : decode cX8_init 109 = .ok (.aload_n 0, 1) := by decide +kernel
theorem dX8_init_110 : decode cX8_init 110 = .ok (.getfield 41, 3) := by decide +kernel
theorem dX8_init_113 : decode cX8_init 113 = .ok (.invokespecial 48, 3) := by decide +kernel
theorem dX8_init_116 : decode cX8_init 116 = .ok (.putfield 51, 3) := by decide +kernel
theorem dX8_init_119 : decode cX8_init 119 = .ok (.aload_n 0, 1) := by decide +kernel
theorem dX8_init_120 : decode cX8_init 120 = .ok (.new 55, 3) := by decide +kernel
theorem dX8_init_123 : decode cX8_init 123 = .ok (.dup, 1) := by decide +kernel
theorem dX8_init_124 : decode cX8_init 124 = .ok (.aload_n 0, 1) := by decide +kernel
theorem dX8_init_125 : decode cX8_init 125 = .ok (.getfield 10, 3) := by decide +kernel
theorem dX8_init_128 : decode cX8_init 128 = .ok (.aload_n 0, 1) := by decide +kernel
theorem dX8_init_129 : decode cX8_init 129 = .ok (.getfield 28, 3) := by decide +kernel
theorem dX8_init_132 : decode cX8_init 132 = .ok (.invokespecial 57, 3) := by decide +kernel
theorem dX8_init_135 : decode cX8_init 135 = .ok (.putfield 60, 3) := by decide +kernel
theorem dX8_init_138 : decode cX8_init 138 = .ok (.aload_n 0, 1) := by decide +kernel
theorem dX8_init_139 : decode cX8_init 139 = .ok (.new 64, 3) := by decide +kernel
theorem dX8_init_142 : decode cX8_init 142 = .ok (.dup, 1) := by decide +kernel
theorem dX8_init_143 : decode cX8_init 143 = .ok (.invokespecial 66, 3) := by decide +kernel
theorem dX8_init_146 : decode cX8_init 146 = .ok (.putfield 67, 3) := by decide +kernel
theorem dX8_init_149 : decode cX8_init 149 = .ok (.return_, 1) := by decide +kernel
set_option maxRecDepth 20000 in
theorem ggX8_add_X8_isWithin : GoodIn wsX8_add wsX8_isWithin := goodIn_r _ [6] (by decide +kernel) (by decide +kernel)
set_option maxRecDepth 20000 in
theorem gX8_add_X8_isWithin : GoodIn wsX8_add (va_wsS RX8 71 yX8_isWithin wsX8_isWithin) := goodIn_app (goodIn_of _ (by decide +kernel)) ggX8_add_X8_isWithin
set_option maxRecDepth 20000 in
theorem ggX8_add_X1_freeNumber : GoodIn wsX8_add wsX1_freeNumber := goodIn_r _ [11, 12, 13, 5, 14, 268, 269, 270, 271, 272, 273] (by decide +kernel) (by decide +kernel)
set_option maxRecDepth 20000 in
theorem gX8_add_X1_freeNumber : GoodIn wsX8_add (wsV RX8 76 RX1 yX1_freeNumber wsX1_freeNumber) := goodIn_app (goodIn_of _ (by decide +kernel)) ggX8_add_X1_freeNumber
set_option maxRecDepth 20000 in
theorem ggX8_add_X1_enter : GoodIn wsX8_add wsX1_enter := goodIn_r _ [18, 12, 19, 20, 21, 22, 5, 23, 24, 25, 10, 26, 27, 28, 29, 30, 31, 32, 33, 268, 269, 270, 271, 272, 273] (by decide +kernel) (by decide +kernel)
set_option maxRecDepth 20000 in
theorem gX8_add_X1_enter : GoodIn wsX8_add (wsV RX8 80 RX1 yX1_enter wsX1_enter) := goodIn_app (goodIn_of _ (by decide +kernel)) ggX8_add_X1_enter
set_option maxRecDepth 20000 in
theorem ggX8_add_X8_settle : GoodIn wsX8_add wsX8_settle := goodIn_r _ [37, 2, 38, 39, 40, 41, 42, 43, 44, 45, 10, 46, 12, 13, 5, 14, 47, 48, 49, 50, 51, 52, 53, 54, 55, 56, 57, 58, 59, 60, 61, 62, 63, 64, 21, 24, 25, 26, 65, 66, 67, 68, 69, 70, 71, 72, 73, 74, 75, 76, 77, 78, 79, 80, 81, 19, 22, 23, 82, 83, 84, 85, 86, 87, 88, 89, 90, 91, 92, 93, 94, 95, 96, 97, 98, 99, 100, 101, 102, 103, 104, 105, 106, 107, 108, 109, 110, 111, 112, 113, 114, 115, 4, 6, 116, 117, 118, 119, 120, 121, 122, 123, 124, 125, 126, 127, 128, 129, 130, 3, 131, 132, 133, 134, 135, 136, 137, 138, 139, 140, 141, 142, 143, 144, 145, 146, 147, 148, 149, 150, 151, 152, 153, 154, 155, 156, 157, 158, 159, 160, 161, 162, 163, 164, 165, 166, 167, 168, 169, 170, 171, 172, 173, 174, 175, 176, 177, 178, 179, 180, 181, 182, 183, 184, 185, 186, 187, 188, 189, 190, 191, 192, 193, 194, 195, 196, 197, 198, 199, 200, 201, 202, 203, 204, 205, 206, 207, 208, 209, 210, 211, 212, 213, 214, 215, 216, 217, 218, 219, 220, 221, 222, 223, 224, 225, 226, 227, 228, 229, 230, 231, 232, 233, 234, 235, 236, 237, 238, 239, 240, 241, 242, 243, 244, 245, 246, 247, 248, 249, 250, 251, 252, 253, 254, 255, 256, 257, 258, 259, 260, 261, 262, 263, 264, 265, 266, 267, 268, 269, 270, 271, 272, 273, 274, 275, 276, 277, 278, 279, 280, 281, 282, 283, 284, 285, 286, 287, 288, 289, 290, 291, 292, 293, 294, 295, 296, 297, 298, 299, 300, 301, 302, 303, 304, 305, 306] (by decide +kernel) (by decide +kernel)
set_option maxRecDepth 20000 in
theorem gX8_add_X8_settle : GoodIn wsX8_add (wsV RX8 84 RX8 yX8_settle wsX8_settle) := goodIn_app (goodIn_of _ (by decide +kernel)) ggX8_add_X8_settle
theorem dX8_add_0 : decode cX8_add 0 = .ok (.iload_n 1, 1) := by decide +kernel
theorem dX8_add_1 : decode cX8_add 1 = .ok (.iconst 0, 1) := by decide +kernel
theorem dX8_add_2 : decode cX8_add 2 = .ok (.sipush 9999, 3) := by decide +kernel
theorem dX8_add_5 : decode cX8_add 5 = .ok (.invokestatic 71, 3) := by decide +kernel
theorem dX8_add_8 : decode cX8_add 8 = .ok (.ifCond .eq 13, 3) := by decide +kernel
theorem dX8_add_11 : decode cX8_add 11 = .ok (.iload_n 2, 1) := by decide +kernel
theorem dX8_add_12 : decode cX8_add 12 = .ok (.iconst 1, 1) := by decide +kernel
theorem dX8_add_13 : decode cX8_add 13 = .ok (.ldc 75, 2) := by decide +kernel
theorem dX8_add_15 : decode cX8_add 15 = .ok (.invokestatic 71, 3) := by decide +kernel
theorem dX8_add_18 : decode cX8_add 18 = .ok (.ifCond .ne 5, 3) := by decide +kernel
theorem dX8_add_21 : decode cX8_add 21 = .ok (.iconst (-1), 1) := by decide +kernel
theorem dX8_add_22 : decode cX8_add 22 = .ok (.ireturn, 1) := by decide +kernel
theorem dX8_add_23 : decode cX8_add 23 = .ok (.aload_n 0, 1) := by decide +kernel
theorem dX8_add_24 : decode cX8_add 24 = .ok (.getfield 10, 3) := by decide +kernel
theorem dX8_add_27 : decode cX8_add 27 = .ok (.invokevirtual 76, 3) := by decide +kernel
theorem dX8_add_30 : decode cX8_add 30 = .ok (.istore_n 3, 1) := by decide +kernel
theorem dX8_add_31 : decode cX8_add 31 = .ok (.iload_n 3, 1) := by decide +kernel
theorem dX8_add_32 : decode cX8_add 32 = .ok (.iconst (-1), 1) := by decide +kernel
theorem dX8_add_33 : decode cX8_add 33 = .ok (.if_icmp .ne 6, 3) := by decide +kernel
theorem dX8_add_36 : decode cX8_add 36 = .ok (.bipush (-3), 2) := by decide +kernel
theorem dX8_add_38 : decode cX8_add 38 = .ok (.ireturn, 1) := by decide +kernel
theorem dX8_add_39 : decode cX8_add 39 = .ok (.aload_n 0, 1) := by decide +kernel
theorem dX8_add_40 : decode cX8_add 40 = .ok (.getfield 10, 3) := by decide +kernel
theorem dX8_add_43 : decode cX8_add 43 = .ok (.iload_n 3, 1) := by decide +kernel
theorem dX8_add_44 : decode cX8_add 44 = .ok (.iload_n 1, 1) := by decide +kernel
theorem dX8_add_45 : decode cX8_add 45 = .ok (.iload_n 2, 1) := by decide +kernel
theorem dX8_add_46 : decode cX8_add 46 = .ok (.invokevirtual 80, 3) := by decide +kernel
theorem dX8_add_49 : decode cX8_add 49 = .ok (.aload_n 0, 1) := by decide +kernel
theorem dX8_add_50 : decode cX8_add 50 = .ok (.invokevirtual 84, 3) := by decide +kernel
theorem dX8_add_53 : decode cX8_add 53 = .ok (.iload_n 3, 1) := by decide +kernel
theorem dX8_add_54 : decode cX8_add 54 = .ok (.ireturn, 1) := by decide +kernel
set_option maxRecDepth 20000 in
theorem ggX8_remove_X1_has : GoodIn wsX8_remove wsX1_has := goodIn_r _ [6, 7, 8, 9, 10, 11, 12, 283, 284, 285, 286, 287, 288] (by decide +kernel) (by decide +kernel)
set_option maxRecDepth 20000 in
theorem gX8_remove_X1_has : GoodIn wsX8_remove (wsV RX8 87 RX1 yX1_has wsX1_has) := goodIn_app (goodIn_of _ (by decide +kernel)) ggX8_remove_X1_has
set_option maxRecDepth 20000 in
theorem ggX8_remove_X8_discard : GoodIn wsX8_remove wsX8_discard := goodIn_r _ [16, 17, 1, 18, 19, 20, 21, 22, 23, 24, 25, 26, 27, 28, 29, 30, 31, 32, 33, 34, 35, 36, 37, 38, 39, 40, 9, 41, 42, 43, 44, 5, 45, 7, 46, 275, 276, 277, 278, 279, 280, 281, 282, 289, 290, 291, 292, 293, 294, 295, 296, 283, 284, 285, 286, 287, 288] (by decide +kernel) (by decide +kernel)
set_option maxRecDepth 20000 in
theorem gX8_remove_X8_discard : GoodIn wsX8_remove (wsV RX8 91 RX8 yX8_discard wsX8_discard) := goodIn_app (goodIn_of _ (by decide +kernel)) ggX8_remove_X8_discard
set_option maxRecDepth 20000 in
theorem ggX8_remove_X8_settle : GoodIn wsX8_remove wsX8_settle := goodIn_r _ [50, 1, 51, 17, 52, 53, 54, 55, 56, 57, 5, 58, 7, 11, 9, 12, 59, 60, 61, 62, 63, 64, 65, 66, 67, 68, 69, 70, 71, 72, 73, 74, 75, 76, 77, 78, 79, 80, 81, 82, 83, 84, 85, 86, 87, 88, 89, 90, 91, 92, 93, 94, 95, 96, 97, 98, 40, 41, 99, 100, 101, 102, 103, 104, 105, 106, 107, 108, 109, 110, 111, 112, 113, 114, 115, 116, 117, 118, 119, 120, 121, 122, 123, 124, 21, 125, 126, 127, 128, 129, 130, 25, 8, 10, 131, 132, 133, 134, 24, 26, 135, 31, 32, 33, 136, 137, 138, 139, 140, 141, 142, 143, 144, 145, 146, 147, 148, 149, 150, 151, 152, 153, 154, 155, 156, 157, 158, 159, 160, 161, 162, 163, 164, 165, 166, 167, 168, 169, 170, 171, 172, 173, 174, 175, 176, 177, 178, 179, 180, 181, 182, 183, 184, 185, 186, 187, 188, 189, 190, 191, 192, 193, 194, 195, 196, 197, 198, 199, 200, 201, 202, 203, 204, 205, 206, 207, 208, 209, 210, 211, 38, 212, 213, 214, 215, 216, 217, 218, 219, 220, 221, 222, 223, 224, 225, 226, 227, 228, 229, 230, 231, 232, 233, 234, 235, 236, 237, 238, 239, 240, 241, 242, 243, 244, 245, 246, 247, 248, 249, 250, 251, 252, 253, 254, 255, 256, 257, 258, 259, 260, 261, 262, 263, 264, 265, 266, 267, 268, 269, 275, 276, 277, 278, 279, 280, 281, 282, 283, 284, 285, 286, 287, 288, 297, 298, 299, 289, 290, 291, 292, 293, 294, 295, 296, 300, 301, 302, 303, 304, 305, 306, 307, 308, 309, 310, 311, 312, 313, 314, 315, 316, 317, 318, 319, 320, 321] (by decide +kernel) (by decide +kernel)
set_option maxRecDepth 20000 in
theorem gX8_remove_X8_settle : GoodIn wsX8_remove (wsV RX8 84 RX8 yX8_settle wsX8_settle) := goodIn_app (goodIn_of _ (by decide +kernel)) ggX8_remove_X8_settle
set_option maxRecDepth 20000 in
theorem ggX8_remove_X1_howMany : GoodIn wsX8_remove wsX1_howMany := goodIn_r _ [273, 7, 274, 116, 117, 118, 119, 120, 121, 283, 284, 285, 286, 287, 288] (by decide +kernel) (by decide +kernel)
set_option maxRecDepth 20000 in
theorem gX8_remove_X1_howMany : GoodIn wsX8_remove (wsV RX8 95 RX1 yX1_howMany wsX1_howMany) := goodIn_app (goodIn_of _ (by decide +kernel)) ggX8_remove_X1_howMany
theorem dX8_remove_0 : decode cX8_remove 0 = .ok (.aload_n 0, 1) := by decide +kernel
theorem dX8_remove_1 : decode cX8_remove 1 = .ok (.getfield 10, 3) := by decide +kernel
theorem dX8_remove_4 : decode cX8_remove 4 = .ok (.iload_n 1, 1) := by decide +kernel
theorem dX8_remove_5 : decode cX8_remove 5 = .ok (.invokevirtual 87, 3) := by decide +kernel
theorem dX8_remove_8 : decode cX8_remove 8 = .ok (.ifCond .ne 5, 3) := by decide +kernel
theorem dX8_remove_11 : decode cX8_remove 11 = .ok (.iconst (-1), 1) := by decide +kernel
theorem dX8_remove_12 : decode cX8_remove 12 = .ok (.ireturn, 1) := by decide +kernel
theorem dX8_remove_13 : decode cX8_remove 13 = .ok (.aload_n 0, 1) := by decide +kernel
theorem dX8_remove_14 : decode cX8_remove 14 = .ok (.iload_n 1, 1) := by decide +kernel
theorem dX8_remove_15 : decode cX8_remove 15 = .ok (.invokevirtual 91, 3) := by decide +kernel
theorem dX8_remove_18 : decode cX8_remove 18 = .ok (.aload_n 0, 1) := by decide +kernel
theorem dX8_remove_19 : decode cX8_remove 19 = .ok (.invokevirtual 84, 3) := by decide +kernel
theorem dX8_remove_22 : decode cX8_remove 22 = .ok (.aload_n 0, 1) := by decide +kernel
theorem dX8_remove_23 : decode cX8_remove 23 = .ok (.getfield 10, 3) := by decide +kernel
theorem dX8_remove_26 : decode cX8_remove 26 = .ok (.invokevirtual 95, 3) := by decide +kernel
theorem dX8_remove_29 : decode cX8_remove 29 = .ok (.ireturn, 1) := by decide +kernel
set_option maxRecDepth 20000 in
theorem ggX8_fileCount_X1_howMany : GoodIn wsX8_fileCount wsX1_howMany := goodIn_r _ [6, 7, 8, 9, 10, 11, 12, 13, 14, 23, 24, 25, 26, 27, 28] (by decide +kernel) (by decide +kernel)
set_option maxRecDepth 20000 in
theorem gX8_fileCount_X1_howMany : GoodIn wsX8_fileCount (wsV RX8 95 RX1 yX1_howMany wsX1_howMany) := goodIn_app (goodIn_of _ (by decide +kernel)) ggX8_fileCount_X1_howMany
theorem dX8_fileCount_0 : decode cX8_fileCount 0 = .ok (.aload_n 0, 1) := by decide +kernel
theorem dX8_fileCount_1 : decode cX8_fileCount 1 = .ok (.getfield 10, 3) := by decide +kernel
theorem dX8_fileCount_4 : decode cX8_fileCount 4 = .ok (.invokevirtual 95, 3) := by decide +kernel
theorem dX8_fileCount_7 : decode cX8_fileCount 7 = .ok (.ireturn, 1) := by decide +kernel
set_option maxRecDepth 20000 in
theorem ggX8_setDigest_X1_has : GoodIn wsX8_setDigest wsX1_has := goodIn_r _ [6, 7, 8, 9, 10, 11, 12, 263, 264, 265, 266, 267, 268] (by decide +kernel) (by decide +kernel)
set_option maxRecDepth 20000 in
theorem gX8_setDigest_X1_has : GoodIn wsX8_setDigest (wsV RX8 87 RX1 yX1_has wsX1_has) := goodIn_app (goodIn_of _ (by decide +kernel)) ggX8_setDigest_X1_has
set_option maxRecDepth 20000 in
theorem ggX8_setDigest_X8_isWithin : GoodIn wsX8_setDigest wsX8_isWithin := goodIn_r _ [10] (by decide +kernel) (by decide +kernel)
set_option maxRecDepth 20000 in
theorem gX8_setDigest_X8_isWithin : GoodIn wsX8_setDigest (va_wsS RX8 71 yX8_isWithin wsX8_isWithin) := goodIn_app (goodIn_of _ (by decide +kernel)) ggX8_setDigest_X8_isWithin
set_option maxRecDepth 20000 in
theorem ggX8_setDigest_X1_digest : GoodIn wsX8_setDigest wsX1_digest := goodIn_r _ [17, 18, 263, 264, 265, 266, 267, 268] (by decide +kernel) (by decide +kernel)
set_option maxRecDepth 20000 in
theorem gX8_setDigest_X1_digest : GoodIn wsX8_setDigest (wsV RX8 98 RX1 yX1_digest wsX1_digest) := goodIn_app (goodIn_of _ (by decide +kernel)) ggX8_setDigest_X1_digest
set_option maxRecDepth 20000 in
theorem ggX8_setDigest_X1_changeDigest : GoodIn wsX8_setDigest wsX1_changeDigest := goodIn_r _ [22, 18, 263, 264, 265, 266, 267, 268] (by decide +kernel) (by decide +kernel)
set_option maxRecDepth 20000 in
theorem gX8_setDigest_X1_changeDigest : GoodIn wsX8_setDigest (wsV RX8 102 RX1 yX1_changeDigest wsX1_changeDigest) := goodIn_app (goodIn_of _ (by decide +kernel)) ggX8_setDigest_X1_changeDigest
set_option maxRecDepth 20000 in
theorem ggX8_setDigest_X8_settle : GoodIn wsX8_setDigest wsX8_settle := goodIn_r _ [26, 1, 27, 28, 29, 30, 31, 32, 33, 34, 5, 35, 7, 11, 9, 12, 36, 37, 38, 39, 40, 41, 42, 43, 44, 45, 46, 47, 48, 49, 50, 51, 52, 53, 54, 55, 56, 57, 58, 59, 60, 61, 62, 63, 64, 65, 66, 67, 68, 69, 70, 71, 72, 73, 74, 18, 75, 76, 77, 78, 79, 80, 81, 82, 83, 84, 85, 86, 87, 88, 89, 90, 91, 92, 93, 94, 95, 96, 97, 98, 99, 100, 101, 102, 103, 104, 105, 106, 107, 108, 109, 110, 8, 10, 111, 112, 113, 114, 115, 116, 117, 118, 119, 120, 121, 122, 123, 124, 125, 13, 126, 127, 128, 129, 130, 131, 132, 133, 134, 135, 136, 137, 138, 139, 140, 141, 142, 143, 144, 145, 146, 147, 148, 149, 150, 151, 152, 153, 154, 155, 156, 157, 158, 159, 160, 161, 162, 163, 164, 165, 166, 167, 168, 169, 170, 171, 172, 173, 174, 175, 176, 177, 178, 179, 180, 181, 182, 183, 184, 185, 186, 187, 188, 189, 190, 191, 192, 193, 194, 195, 196, 197, 198, 199, 200, 201, 202, 203, 204, 205, 206, 207, 208, 209, 210, 211, 212, 213, 214, 215, 216, 217, 218, 219, 220, 221, 222, 223, 224, 225, 226, 227, 228, 229, 230, 231, 232, 233, 234, 235, 236, 237, 238, 239, 240, 241, 242, 243, 244, 245, 246, 247, 248, 249, 250, 251, 252, 253, 254, 255, 256, 257, 258, 259, 260, 261, 262, 263, 264, 265, 266, 267, 268, 269, 270, 271, 272, 273, 274, 275, 276, 277, 278, 279, 280, 281, 282, 283, 284, 285, 286, 287, 288, 289, 290, 291, 292, 293, 294, 295, 296, 297, 298, 299, 300, 301] (by decide +kernel) (by decide +kernel)
set_option maxRecDepth 20000 in
theorem gX8_setDigest_X8_settle : GoodIn wsX8_setDigest (wsV RX8 84 RX8 yX8_settle wsX8_settle) := goodIn_app (goodIn_of _ (by decide +kernel)) ggX8_setDigest_X8_settle
theorem dX8_setDigest_0 : decode cX8_setDigest 0 = .ok (.aload_n 0, 1) := by decide +kernel
theorem dX8_setDigest_1 : decode cX8_setDigest 1 = .ok (.getfield 10, 3) := by decide +kernel
theorem dX8_setDigest_4 : decode cX8_setDigest 4 = .ok (.iload_n 1, 1) := by decide +kernel
theorem dX8_setDigest_5 : decode cX8_setDigest 5 = .ok (.invokevirtual 87, 3) := by decide +kernel
theorem dX8_setDigest_8 : decode cX8_setDigest 8 = .ok (.ifCond .eq 14, 3) := by decide +kernel
theorem dX8_setDigest_11 : decode cX8_setDigest 11 = .ok (.iload_n 2, 1) := by decide +kernel
theorem dX8_setDigest_12 : decode cX8_setDigest 12 = .ok (.iconst 0, 1) := by decide +kernel
theorem dX8_setDigest_13 : decode cX8_setDigest 13 = .ok (.sipush 9999, 3) := by decide +kernel
theorem dX8_setDigest_16 : decode cX8_setDigest 16 = .ok (.invokestatic 71, 3) := by decide +kernel
theorem dX8_setDigest_19 : decode cX8_setDigest 19 = .ok (.ifCond .ne 5, 3) := by decide +kernel
theorem dX8_setDigest_22 : decode cX8_setDigest 22 = .ok (.iconst (-1), 1) := by decide +kernel
theorem dX8_setDigest_23 : decode cX8_setDigest 23 = .ok (.ireturn, 1) := by decide +kernel
theorem dX8_setDigest_24 : decode cX8_setDigest 24 = .ok (.aload_n 0, 1) := by decide +kernel
theorem dX8_setDigest_25 : decode cX8_setDigest 25 = .ok (.getfield 10, 3) := by decide +kernel
theorem dX8_setDigest_28 : decode cX8_setDigest 28 = .ok (.iload_n 1, 1) := by decide +kernel
theorem dX8_setDigest_29 : decode cX8_setDigest 29 = .ok (.invokevirtual 98, 3) := by decide +kernel
theorem dX8_setDigest_32 : decode cX8_setDigest 32 = .ok (.istore_n 3, 1) := by decide +kernel
theorem dX8_setDigest_33 : decode cX8_setDigest 33 = .ok (.aload_n 0, 1) := by decide +kernel
theorem dX8_setDigest_34 : decode cX8_setDigest 34 = .ok (.getfield 10, 3) := by decide +kernel
theorem dX8_setDigest_37 : decode cX8_setDigest 37 = .ok (.iload_n 1, 1) := by decide +kernel
theorem dX8_setDigest_38 : decode cX8_setDigest 38 = .ok (.iload_n 2, 1) := by decide +kernel
theorem dX8_setDigest_39 : decode cX8_setDigest 39 = .ok (.invokevirtual 102, 3) := by decide +kernel
theorem dX8_setDigest_42 : decode cX8_setDigest 42 = .ok (.aload_n 0, 1) := by decide +kernel
theorem dX8_setDigest_43 : decode cX8_setDigest 43 = .ok (.invokevirtual 84, 3) := by decide +kernel
theorem dX8_setDigest_46 : decode cX8_setDigest 46 = .ok (.iload_n 3, 1) := by decide +kernel
theorem dX8_setDigest_47 : decode cX8_setDigest 47 = .ok (.ireturn, 1) := by decide +kernel
set_option maxRecDepth 20000 in
theorem ggX8_setValue_X8_isSlot : GoodIn wsX8_setValue wsX8_isSlot := goodIn_r _ [8, 3, 9, 10, 11, 12, 13, 14, 15, 7, 16, 17, 18, 19, 20, 21, 22, 264, 265, 266, 267, 268, 269, 270, 271, 272, 273, 274, 275, 276, 277] (by decide +kernel) (by decide +kernel)
set_option maxRecDepth 20000 in
theorem gX8_setValue_X8_isSlot : GoodIn wsX8_setValue (wsV RX8 106 RX8 yX8_isSlot wsX8_isSlot) := goodIn_app (goodIn_of _ (by decide +kernel)) ggX8_setValue_X8_isSlot
set_option maxRecDepth 20000 in
theorem ggX8_setValue_X8_isWithin : GoodIn wsX8_setValue wsX8_isWithin := goodIn_r _ [16] (by decide +kernel) (by decide +kernel)
set_option maxRecDepth 20000 in
theorem gX8_setValue_X8_isWithin : GoodIn wsX8_setValue (va_wsS RX8 71 yX8_isWithin wsX8_isWithin) := goodIn_app (goodIn_of _ (by decide +kernel)) ggX8_setValue_X8_isWithin
set_option maxRecDepth 20000 in
theorem ggX8_setValue_X1_told : GoodIn wsX8_setValue wsX1_told := goodIn_r _ [26, 27, 28, 29, 12, 30, 272, 273, 274, 275, 276, 277] (by decide +kernel) (by decide +kernel)
set_option maxRecDepth 20000 in
theorem gX8_setValue_X1_told : GoodIn wsX8_setValue (wsV RX8 116 RX1 yX1_told wsX1_told) := goodIn_app (goodIn_of _ (by decide +kernel)) ggX8_setValue_X1_told
set_option maxRecDepth 20000 in
theorem ggX8_setValue_X1_tell : GoodIn wsX8_setValue wsX1_tell := goodIn_r _ [34, 27, 28, 29, 12, 30, 272, 273, 274, 275, 276, 277] (by decide +kernel) (by decide +kernel)
set_option maxRecDepth 20000 in
theorem gX8_setValue_X1_tell : GoodIn wsX8_setValue (wsV RX8 120 RX1 yX1_tell wsX1_tell) := goodIn_app (goodIn_of _ (by decide +kernel)) ggX8_setValue_X1_tell
set_option maxRecDepth 20000 in
theorem ggX8_setValue_X8_settle : GoodIn wsX8_setValue wsX8_settle := goodIn_r _ [38, 3, 39, 40, 41, 42, 43, 44, 45, 46, 12, 47, 14, 17, 7, 18, 48, 49, 50, 51, 52, 53, 54, 55, 56, 57, 58, 59, 60, 61, 62, 24, 25, 26, 27, 28, 29, 30, 63, 64, 65, 66, 67, 68, 69, 70, 71, 72, 73, 74, 75, 76, 77, 78, 79, 80, 81, 82, 83, 84, 85, 86, 87, 88, 89, 90, 91, 92, 93, 94, 95, 96, 97, 98, 99, 100, 101, 102, 103, 104, 105, 106, 107, 108, 109, 110, 111, 112, 113, 114, 115, 116, 15, 16, 117, 118, 119, 120, 121, 122, 123, 124, 125, 126, 127, 128, 129, 130, 131, 22, 132, 133, 134, 135, 136, 137, 138, 139, 140, 141, 142, 143, 144, 145, 146, 147, 148, 149, 150, 151, 152, 153, 154, 155, 156, 157, 158, 159, 160, 161, 162, 163, 164, 165, 166, 167, 168, 169, 170, 171, 172, 173, 174, 175, 176, 177, 178, 179, 180, 181, 182, 183, 184, 185, 186, 187, 188, 189, 190, 191, 192, 193, 194, 195, 196, 197, 198, 199, 200, 201, 202, 203, 204, 205, 206, 207, 208, 209, 210, 211, 212, 213, 214, 215, 216, 217, 218, 219, 220, 221, 222, 223, 224, 225, 226, 227, 228, 229, 230, 231, 232, 233, 234, 235, 236, 237, 238, 239, 240, 241, 242, 243, 244, 245, 246, 247, 248, 249, 250, 251, 252, 253, 254, 255, 256, 257, 258, 259, 260, 264, 265, 266, 267, 268, 269, 270, 271, 272, 273, 274, 275, 276, 277, 278, 279, 280, 281, 282, 283, 284, 285, 286, 287, 288, 289, 290, 291, 292, 293, 294, 295, 296, 297, 298, 299, 300, 301, 302, 303, 304, 305, 306, 307, 308, 309, 310] (by decide +kernel) (by decide +kernel)
set_option maxRecDepth 20000 in
theorem gX8_setValue_X8_settle : GoodIn wsX8_setValue (wsV RX8 84 RX8 yX8_settle wsX8_settle) := goodIn_app (goodIn_of _ (by decide +kernel)) ggX8_setValue_X8_settle
set_option maxRecDepth 20000 in
theorem ggX8_setValue_X8_orNotFound : GoodIn wsX8_setValue wsX8_orNotFound := goodIn_r _ [263] (by decide +kernel) (by decide +kernel)
set_option maxRecDepth 20000 in
theorem gX8_setValue_X8_orNotFound : GoodIn wsX8_setValue (va_wsS RX8 124 yX8_orNotFound wsX8_orNotFound) := goodIn_app (goodIn_of _ (by decide +kernel)) ggX8_setValue_X8_orNotFound
theorem dX8_setValue_0 : decode cX8_setValue 0 = .ok (.aload_n 0, 1) := by decide +kernel
theorem dX8_setValue_1 : decode cX8_setValue 1 = .ok (.iload_n 1, 1) := by decide +kernel
theorem dX8_setValue_2 : decode cX8_setValue 2 = .ok (.iload_n 2, 1) := by decide +kernel
theorem dX8_setValue_3 : decode cX8_setValue 3 = .ok (.iload_n 3, 1) := by decide +kernel
theorem dX8_setValue_4 : decode cX8_setValue 4 = .ok (.invokevirtual 106, 3) := by decide +kernel
theorem dX8_setValue_7 : decode cX8_setValue 7 = .ok (.ifCond .eq 21, 3) := by decide +kernel
theorem dX8_setValue_10 : decode cX8_setValue 10 = .ok (.iload 4, 2) := by decide +kernel
theorem dX8_setValue_12 : decode cX8_setValue 12 = .ok (.getstatic 109, 3) := by decide +kernel
theorem dX8_setValue_15 : decode cX8_setValue 15 = .ok (.iload_n 3, 1) := by decide +kernel
theorem dX8_setValue_16 : decode cX8_setValue 16 = .ok (.iaload, 1) := by decide +kernel
theorem dX8_setValue_17 : decode cX8_setValue 17 = .ok (.getstatic 113, 3) := by decide +kernel
theorem dX8_setValue_20 : decode cX8_setValue 20 = .ok (.iload_n 3, 1) := by decide +kernel
theorem dX8_setValue_21 : decode cX8_setValue 21 = .ok (.iaload, 1) := by decide +kernel
theorem dX8_setValue_22 : decode cX8_setValue 22 = .ok (.invokestatic 71, 3) := by decide +kernel
theorem dX8_setValue_25 : decode cX8_setValue 25 = .ok (.ifCond .ne 5, 3) := by decide +kernel
theorem dX8_setValue_28 : decode cX8_setValue 28 = .ok (.iconst (-1), 1) := by decide +kernel
theorem dX8_setValue_29 : decode cX8_setValue 29 = .ok (.ireturn, 1) := by decide +kernel
theorem dX8_setValue_30 : decode cX8_setValue 30 = .ok (.aload_n 0, 1) := by decide +kernel
theorem dX8_setValue_31 : decode cX8_setValue 31 = .ok (.getfield 10, 3) := by decide +kernel
theorem dX8_setValue_34 : decode cX8_setValue 34 = .ok (.iload_n 1, 1) := by decide +kernel
theorem dX8_setValue_35 : decode cX8_setValue 35 = .ok (.iload_n 2, 1) := by decide +kernel
theorem dX8_setValue_36 : decode cX8_setValue 36 = .ok (.iload_n 3, 1) := by decide +kernel
theorem dX8_setValue_37 : decode cX8_setValue 37 = .ok (.invokevirtual 116, 3) := by decide +kernel
theorem dX8_setValue_40 : decode cX8_setValue 40 = .ok (.istore 5, 2) := by decide +kernel
theorem dX8_setValue_42 : decode cX8_setValue 42 = .ok (.aload_n 0, 1) := by decide +kernel
theorem dX8_setValue_43 : decode cX8_setValue 43 = .ok (.getfield 10, 3) := by decide +kernel
theorem dX8_setValue_46 : decode cX8_setValue 46 = .ok (.iload_n 1, 1) := by decide +kernel
theorem dX8_setValue_47 : decode cX8_setValue 47 = .ok (.iload_n 2, 1) := by decide +kernel
theorem dX8_setValue_48 : decode cX8_setValue 48 = .ok (.iload_n 3, 1) := by decide +kernel
theorem dX8_setValue_49 : decode cX8_setValue 49 = .ok (.iload 4, 2) := by decide +kernel
theorem dX8_setValue_51 : decode cX8_setValue 51 = .ok (.invokevirtual 120, 3) := by decide +kernel
theorem dX8_setValue_54 : decode cX8_setValue 54 = .ok (.aload_n 0, 1) := by decide +kernel
theorem dX8_setValue_55 : decode cX8_setValue 55 = .ok (.invokevirtual 84, 3) := by decide +kernel
theorem dX8_setValue_58 : decode cX8_setValue 58 = .ok (.iload 5, 2) := by decide +kernel
theorem dX8_setValue_60 : decode cX8_setValue 60 = .ok (.invokestatic 124, 3) := by decide +kernel
theorem dX8_setValue_63 : decode cX8_setValue 63 = .ok (.ireturn, 1) := by decide +kernel
set_option maxRecDepth 20000 in
theorem ggX8_clearValue_X8_isSlot : GoodIn wsX8_clearValue wsX8_isSlot := goodIn_r _ [6, 1, 7, 8, 9, 10, 11, 12, 13, 5, 14, 15, 16, 17, 18, 19, 20, 259, 260, 261, 262, 263, 264, 265, 266, 267, 268, 269, 270, 271, 272] (by decide +kernel) (by decide +kernel)
set_option maxRecDepth 20000 in
theorem gX8_clearValue_X8_isSlot : GoodIn wsX8_clearValue (wsV RX8 106 RX8 yX8_isSlot wsX8_isSlot) := goodIn_app (goodIn_of _ (by decide +kernel)) ggX8_clearValue_X8_isSlot
set_option maxRecDepth 20000 in
theorem ggX8_clearValue_X1_told : GoodIn wsX8_clearValue wsX1_told := goodIn_r _ [24, 25, 26, 27, 10, 28, 267, 268, 269, 270, 271, 272] (by decide +kernel) (by decide +kernel)
set_option maxRecDepth 20000 in
theorem gX8_clearValue_X1_told : GoodIn wsX8_clearValue (wsV RX8 116 RX1 yX1_told wsX1_told) := goodIn_app (goodIn_of _ (by decide +kernel)) ggX8_clearValue_X1_told
set_option maxRecDepth 20000 in
theorem ggX8_clearValue_X1_tell : GoodIn wsX8_clearValue wsX1_tell := goodIn_r _ [32, 25, 26, 27, 10, 28, 267, 268, 269, 270, 271, 272] (by decide +kernel) (by decide +kernel)
set_option maxRecDepth 20000 in
theorem gX8_clearValue_X1_tell : GoodIn wsX8_clearValue (wsV RX8 120 RX1 yX1_tell wsX1_tell) := goodIn_app (goodIn_of _ (by decide +kernel)) ggX8_clearValue_X1_tell
set_option maxRecDepth 20000 in
theorem ggX8_clearValue_X8_settle : GoodIn wsX8_clearValue wsX8_settle := goodIn_r _ [36, 1, 37, 38, 39, 40, 41, 42, 43, 44, 10, 45, 12, 15, 5, 16, 46, 47, 48, 49, 50, 51, 52, 53, 54, 55, 56, 57, 58, 59, 60, 22, 23, 24, 25, 26, 27, 28, 61, 62, 63, 64, 65, 66, 67, 68, 69, 70, 71, 72, 73, 74, 75, 76, 77, 78, 79, 80, 81, 82, 83, 84, 85, 86, 87, 88, 89, 90, 91, 92, 93, 94, 95, 96, 97, 98, 99, 100, 101, 102, 103, 104, 105, 106, 107, 108, 109, 110, 111, 112, 113, 114, 13, 14, 115, 116, 117, 118, 119, 120, 121, 122, 123, 124, 125, 126, 127, 128, 129, 20, 130, 131, 132, 133, 134, 135, 136, 137, 138, 139, 140, 141, 142, 143, 144, 145, 146, 147, 148, 149, 150, 151, 152, 153, 154, 155, 156, 157, 158, 159, 160, 161, 162, 163, 164, 165, 166, 167, 168, 169, 170, 171, 172, 173, 174, 175, 176, 177, 178, 179, 180, 181, 182, 183, 184, 185, 186, 187, 188, 189, 190, 191, 192, 193, 194, 195, 196, 197, 198, 199, 200, 201, 202, 203, 204, 205, 206, 207, 208, 209, 210, 211, 212, 213, 214, 215, 216, 217, 218, 219, 220, 221, 222, 223, 224, 225, 226, 227, 228, 229, 230, 231, 232, 233, 234, 235, 236, 237, 238, 239, 240, 241, 242, 243, 244, 245, 246, 247, 248, 249, 250, 251, 252, 253, 254, 255, 256, 257, 258, 259, 260, 261, 262, 263, 264, 265, 266, 267, 268, 269, 270, 271, 272, 273, 274, 275, 276, 277, 278, 279, 280, 281, 282, 283, 284, 285, 286, 287, 288, 289, 290, 291, 292, 293, 294, 295, 296, 297, 298, 299, 300, 301, 302, 303, 304, 305] (by decide +kernel) (by decide +kernel)
set_option maxRecDepth 20000 in
theorem gX8_clearValue_X8_settle : GoodIn wsX8_clearValue (wsV RX8 84 RX8 yX8_settle wsX8_settle) := goodIn_app (goodIn_of _ (by decide +kernel)) ggX8_clearValue_X8_settle
theorem dX8_clearValue_0 : decode cX8_clearValue 0 = .ok (.aload_n 0, 1) := by decide +kernel
theorem dX8_clearValue_1 : decode cX8_clearValue 1 = .ok (.iload_n 1, 1) := by decide +kernel
theorem dX8_clearValue_2 : decode cX8_clearValue 2 = .ok (.iload_n 2, 1) := by decide +kernel
theorem dX8_clearValue_3 : decode cX8_clearValue 3 = .ok (.iload_n 3, 1) := by decide +kernel
theorem dX8_clearValue_4 : decode cX8_clearValue 4 = .ok (.invokevirtual 106, 3) := by decide +kernel
theorem dX8_clearValue_7 : decode cX8_clearValue 7 = .ok (.ifCond .ne 5, 3) := by decide +kernel
theorem dX8_clearValue_10 : decode cX8_clearValue 10 = .ok (.iconst (-1), 1) := by decide +kernel
theorem dX8_clearValue_11 : decode cX8_clearValue 11 = .ok (.ireturn, 1) := by decide +kernel
theorem dX8_clearValue_12 : decode cX8_clearValue 12 = .ok (.aload_n 0, 1) := by decide +kernel
theorem dX8_clearValue_13 : decode cX8_clearValue 13 = .ok (.getfield 10, 3) := by decide +kernel
theorem dX8_clearValue_16 : decode cX8_clearValue 16 = .ok (.iload_n 1, 1) := by decide +kernel
theorem dX8_clearValue_17 : decode cX8_clearValue 17 = .ok (.iload_n 2, 1) := by decide +kernel
theorem dX8_clearValue_18 : decode cX8_clearValue 18 = .ok (.iload_n 3, 1) := by decide +kernel
theorem dX8_clearValue_19 : decode cX8_clearValue 19 = .ok (.invokevirtual 116, 3) := by decide +kernel
theorem dX8_clearValue_22 : decode cX8_clearValue 22 = .ok (.istore 4, 2) := by decide +kernel
theorem dX8_clearValue_24 : decode cX8_clearValue 24 = .ok (.iload 4, 2) := by decide +kernel
theorem dX8_clearValue_26 : decode cX8_clearValue 26 = .ok (.iconst (-1), 1) := by decide +kernel
theorem dX8_clearValue_27 : decode cX8_clearValue 27 = .ok (.if_icmp .ne 6, 3) := by decide +kernel
theorem dX8_clearValue_30 : decode cX8_clearValue 30 = .ok (.bipush (-4), 2) := by decide +kernel
theorem dX8_clearValue_32 : decode cX8_clearValue 32 = .ok (.ireturn, 1) := by decide +kernel
theorem dX8_clearValue_33 : decode cX8_clearValue 33 = .ok (.aload_n 0, 1) := by decide +kernel
theorem dX8_clearValue_34 : decode cX8_clearValue 34 = .ok (.getfield 10, 3) := by decide +kernel
theorem dX8_clearValue_37 : decode cX8_clearValue 37 = .ok (.iload_n 1, 1) := by decide +kernel
theorem dX8_clearValue_38 : decode cX8_clearValue 38 = .ok (.iload_n 2, 1) := by decide +kernel
theorem dX8_clearValue_39 : decode cX8_clearValue 39 = .ok (.iload_n 3, 1) := by decide +kernel
theorem dX8_clearValue_40 : decode cX8_clearValue 40 = .ok (.iconst (-1), 1) := by decide +kernel
theorem dX8_clearValue_41 : decode cX8_clearValue 41 = .ok (.invokevirtual 120, 3) := by decide +kernel
theorem dX8_clearValue_44 : decode cX8_clearValue 44 = .ok (.aload_n 0, 1) := by decide +kernel
theorem dX8_clearValue_45 : decode cX8_clearValue 45 = .ok (.invokevirtual 84, 3) := by decide +kernel
theorem dX8_clearValue_48 : decode cX8_clearValue 48 = .ok (.iload 4, 2) := by decide +kernel
theorem dX8_clearValue_50 : decode cX8_clearValue 50 = .ok (.ireturn, 1) := by decide +kernel
set_option maxRecDepth 20000 in
theorem ggX8_value_X1_has : GoodIn wsX8_value wsX1_has := goodIn_r _ [6, 7, 8, 9, 10, 11, 12, 40, 41, 42, 43, 44, 45] (by decide +kernel) (by decide +kernel)
set_option maxRecDepth 20000 in
theorem gX8_value_X1_has : GoodIn wsX8_value (wsV RX8 87 RX1 yX1_has wsX1_has) := goodIn_app (goodIn_of _ (by decide +kernel)) ggX8_value_X1_has
set_option maxRecDepth 20000 in
theorem ggX8_value_X8_isWithin : GoodIn wsX8_value wsX8_isWithin := goodIn_r _ [10] (by decide +kernel) (by decide +kernel)
set_option maxRecDepth 20000 in
theorem gX8_value_X8_isWithin : GoodIn wsX8_value (va_wsS RX8 71 yX8_isWithin wsX8_isWithin) := goodIn_app (goodIn_of _ (by decide +kernel)) ggX8_value_X8_isWithin
set_option maxRecDepth 20000 in
theorem ggX8_value_X1_digest : GoodIn wsX8_value wsX1_digest := goodIn_r _ [17, 18, 40, 41, 42, 43, 44, 45] (by decide +kernel) (by decide +kernel)
set_option maxRecDepth 20000 in
theorem gX8_value_X1_digest : GoodIn wsX8_value (wsV RX8 98 RX1 yX1_digest wsX1_digest) := goodIn_app (goodIn_of _ (by decide +kernel)) ggX8_value_X1_digest
set_option maxRecDepth 20000 in
theorem ggX8_value_X1_bytes : GoodIn wsX8_value wsX1_bytes := goodIn_r _ [22, 23, 40, 41, 42, 43, 44, 45] (by decide +kernel) (by decide +kernel)
set_option maxRecDepth 20000 in
theorem gX8_value_X1_bytes : GoodIn wsX8_value (wsV RX8 127 RX1 yX1_bytes wsX1_bytes) := goodIn_app (goodIn_of _ (by decide +kernel)) ggX8_value_X1_bytes
set_option maxRecDepth 20000 in
theorem ggX8_value_X1_settledValue : GoodIn wsX8_value wsX1_settledValue := goodIn_r _ [27, 28, 40, 41, 42, 43, 44, 45] (by decide +kernel) (by decide +kernel)
set_option maxRecDepth 20000 in
theorem gX8_value_X1_settledValue : GoodIn wsX8_value (wsV RX8 130 RX1 yX1_settledValue wsX1_settledValue) := goodIn_app (goodIn_of _ (by decide +kernel)) ggX8_value_X1_settledValue
set_option maxRecDepth 20000 in
theorem ggX8_value_X8_orNotFound : GoodIn wsX8_value wsX8_orNotFound := goodIn_r _ [31] (by decide +kernel) (by decide +kernel)
set_option maxRecDepth 20000 in
theorem gX8_value_X8_orNotFound : GoodIn wsX8_value (va_wsS RX8 124 yX8_orNotFound wsX8_orNotFound) := goodIn_app (goodIn_of _ (by decide +kernel)) ggX8_value_X8_orNotFound
theorem dX8_value_0 : decode cX8_value 0 = .ok (.aload_n 0, 1) := by decide +kernel
theorem dX8_value_1 : decode cX8_value 1 = .ok (.getfield 10, 3) := by decide +kernel
theorem dX8_value_4 : decode cX8_value 4 = .ok (.iload_n 1, 1) := by decide +kernel
theorem dX8_value_5 : decode cX8_value 5 = .ok (.invokevirtual 87, 3) := by decide +kernel
theorem dX8_value_8 : decode cX8_value 8 = .ok (.ifCond .eq 13, 3) := by decide +kernel
theorem dX8_value_11 : decode cX8_value 11 = .ok (.iload_n 2, 1) := by decide +kernel
theorem dX8_value_12 : decode cX8_value 12 = .ok (.iconst 0, 1) := by decide +kernel
theorem dX8_value_13 : decode cX8_value 13 = .ok (.bipush 7, 2) := by decide +kernel
theorem dX8_value_15 : decode cX8_value 15 = .ok (.invokestatic 71, 3) := by decide +kernel
theorem dX8_value_18 : decode cX8_value 18 = .ok (.ifCond .ne 5, 3) := by decide +kernel
theorem dX8_value_21 : decode cX8_value 21 = .ok (.iconst (-1), 1) := by decide +kernel
theorem dX8_value_22 : decode cX8_value 22 = .ok (.ireturn, 1) := by decide +kernel
theorem dX8_value_23 : decode cX8_value 23 = .ok (.iload_n 2, 1) := by decide +kernel
theorem dX8_value_24 : decode cX8_value 24 = .ok (.lookupswitch 46 #[(6, 28), (7, 37)], 28) := by decide +kernel
theorem dX8_value_52 : decode cX8_value 52 = .ok (.aload_n 0, 1) := by decide +kernel
theorem dX8_value_53 : decode cX8_value 53 = .ok (.getfield 10, 3) := by decide +kernel
theorem dX8_value_56 : decode cX8_value 56 = .ok (.iload_n 1, 1) := by decide +kernel
theorem dX8_value_57 : decode cX8_value 57 = .ok (.invokevirtual 98, 3) := by decide +kernel
theorem dX8_value_60 : decode cX8_value 60 = .ok (.ireturn, 1) := by decide +kernel
theorem dX8_value_61 : decode cX8_value 61 = .ok (.aload_n 0, 1) := by decide +kernel
theorem dX8_value_62 : decode cX8_value 62 = .ok (.getfield 10, 3) := by decide +kernel
theorem dX8_value_65 : decode cX8_value 65 = .ok (.iload_n 1, 1) := by decide +kernel
theorem dX8_value_66 : decode cX8_value 66 = .ok (.invokevirtual 127, 3) := by decide +kernel
theorem dX8_value_69 : decode cX8_value 69 = .ok (.ireturn, 1) := by decide +kernel
theorem dX8_value_70 : decode cX8_value 70 = .ok (.aload_n 0, 1) := by decide +kernel
theorem dX8_value_71 : decode cX8_value 71 = .ok (.getfield 10, 3) := by decide +kernel
theorem dX8_value_74 : decode cX8_value 74 = .ok (.iload_n 1, 1) := by decide +kernel
theorem dX8_value_75 : decode cX8_value 75 = .ok (.iload_n 2, 1) := by decide +kernel
theorem dX8_value_76 : decode cX8_value 76 = .ok (.invokevirtual 130, 3) := by decide +kernel
theorem dX8_value_79 : decode cX8_value 79 = .ok (.invokestatic 124, 3) := by decide +kernel
theorem dX8_value_82 : decode cX8_value 82 = .ok (.ireturn, 1) := by decide +kernel
set_option maxRecDepth 20000 in
theorem ggX8_setOrder_X8_isSource : GoodIn wsX8_setOrder wsX8_isSource := goodIn_r _ [5, 6, 7, 4, 8] (by decide +kernel) (by decide +kernel)
set_option maxRecDepth 20000 in
theorem gX8_setOrder_X8_isSource : GoodIn wsX8_setOrder (va_wsS RX8 137 yX8_isSource wsX8_isSource) := goodIn_app (goodIn_of _ (by decide +kernel)) ggX8_setOrder_X8_isSource
set_option maxRecDepth 20000 in
theorem ggX8_setOrder_X1_orderCode : GoodIn wsX8_setOrder wsX1_orderCode := goodIn_r _ [13, 14, 262, 263, 264, 265, 266, 267] (by decide +kernel) (by decide +kernel)
set_option maxRecDepth 20000 in
theorem gX8_setOrder_X1_orderCode : GoodIn wsX8_setOrder (wsV RX8 140 RX1 yX1_orderCode wsX1_orderCode) := goodIn_app (goodIn_of _ (by decide +kernel)) ggX8_setOrder_X1_orderCode
set_option maxRecDepth 20000 in
theorem ggX8_setOrder_X1_reorder : GoodIn wsX8_setOrder wsX1_reorder := goodIn_r _ [18, 14, 262, 263, 264, 265, 266, 267] (by decide +kernel) (by decide +kernel)
set_option maxRecDepth 20000 in
theorem gX8_setOrder_X1_reorder : GoodIn wsX8_setOrder (wsV RX8 143 RX1 yX1_reorder wsX1_reorder) := goodIn_app (goodIn_of _ (by decide +kernel)) ggX8_setOrder_X1_reorder
set_option maxRecDepth 20000 in
theorem ggX8_setOrder_X8_settle : GoodIn wsX8_setOrder wsX8_settle := goodIn_r _ [22, 1, 23, 24, 25, 26, 27, 28, 29, 30, 12, 31, 32, 33, 4, 34, 35, 36, 37, 38, 39, 40, 41, 42, 43, 44, 45, 46, 47, 14, 48, 49, 50, 51, 52, 53, 54, 55, 56, 57, 58, 59, 60, 61, 62, 63, 64, 65, 66, 67, 68, 69, 70, 71, 72, 73, 74, 75, 76, 77, 78, 79, 80, 81, 82, 83, 84, 85, 86, 87, 88, 89, 90, 91, 92, 93, 94, 95, 96, 97, 98, 99, 100, 101, 102, 103, 104, 105, 106, 107, 108, 109, 7, 8, 110, 111, 112, 113, 114, 115, 116, 117, 118, 119, 120, 121, 122, 123, 124, 6, 125, 126, 127, 128, 129, 130, 131, 132, 133, 134, 135, 136, 137, 138, 139, 140, 141, 142, 143, 144, 145, 146, 147, 148, 149, 150, 151, 152, 153, 154, 155, 156, 157, 158, 159, 160, 161, 162, 163, 164, 165, 166, 167, 168, 169, 170, 171, 172, 173, 174, 175, 176, 177, 178, 179, 180, 181, 182, 183, 184, 185, 186, 187, 188, 189, 190, 191, 192, 193, 194, 195, 196, 197, 198, 199, 200, 201, 202, 203, 204, 205, 206, 207, 208, 209, 210, 211, 212, 213, 214, 215, 216, 217, 218, 219, 220, 221, 222, 223, 224, 225, 226, 227, 228, 229, 230, 231, 232, 233, 234, 235, 236, 237, 238, 239, 240, 241, 242, 243, 244, 245, 246, 247, 248, 249, 250, 251, 252, 253, 254, 255, 256, 257, 258, 259, 260, 261, 262, 263, 264, 265, 266, 267, 268, 269, 270, 271, 272, 273, 274, 275, 276, 277, 278, 279, 280, 281, 282, 283, 284, 285, 286, 287, 288, 289, 290, 291, 292, 293, 294, 295, 296, 297, 298, 299, 300] (by decide +kernel) (by decide +kernel)
set_option maxRecDepth 20000 in
theorem gX8_setOrder_X8_settle : GoodIn wsX8_setOrder (wsV RX8 84 RX8 yX8_settle wsX8_settle) := goodIn_app (goodIn_of _ (by decide +kernel)) ggX8_setOrder_X8_settle
theorem dX8_setOrder_0 : decode cX8_setOrder 0 = .ok (.iload_n 1, 1) := by decide +kernel
theorem dX8_setOrder_1 : decode cX8_setOrder 1 = .ok (.invokestatic 137, 3) := by decide +kernel
theorem dX8_setOrder_4 : decode cX8_setOrder 4 = .ok (.ifCond .eq 32, 3) := by decide +kernel
theorem dX8_setOrder_7 : decode cX8_setOrder 7 = .ok (.iload_n 2, 1) := by decide +kernel
theorem dX8_setOrder_8 : decode cX8_setOrder 8 = .ok (.invokestatic 137, 3) := by decide +kernel
theorem dX8_setOrder_11 : decode cX8_setOrder 11 = .ok (.ifCond .eq 25, 3) := by decide +kernel
theorem dX8_setOrder_14 : decode cX8_setOrder 14 = .ok (.iload_n 3, 1) := by decide +kernel
theorem dX8_setOrder_15 : decode cX8_setOrder 15 = .ok (.invokestatic 137, 3) := by decide +kernel
theorem dX8_setOrder_18 : decode cX8_setOrder 18 = .ok (.ifCond .eq 18, 3) := by decide +kernel
theorem dX8_setOrder_21 : decode cX8_setOrder 21 = .ok (.iload_n 1, 1) := by decide +kernel
theorem dX8_setOrder_22 : decode cX8_setOrder 22 = .ok (.iload_n 2, 1) := by decide +kernel
theorem dX8_setOrder_23 : decode cX8_setOrder 23 = .ok (.if_icmp .eq 13, 3) := by decide +kernel
theorem dX8_setOrder_26 : decode cX8_setOrder 26 = .ok (.iload_n 1, 1) := by decide +kernel
theorem dX8_setOrder_27 : decode cX8_setOrder 27 = .ok (.iload_n 3, 1) := by decide +kernel
theorem dX8_setOrder_28 : decode cX8_setOrder 28 = .ok (.if_icmp .eq 8, 3) := by decide +kernel
theorem dX8_setOrder_31 : decode cX8_setOrder 31 = .ok (.iload_n 2, 1) := by decide +kernel
theorem dX8_setOrder_32 : decode cX8_setOrder 32 = .ok (.iload_n 3, 1) := by decide +kernel
theorem dX8_setOrder_33 : decode cX8_setOrder 33 = .ok (.if_icmp .ne 5, 3) := by decide +kernel
theorem dX8_setOrder_36 : decode cX8_setOrder 36 = .ok (.iconst (-1), 1) := by decide +kernel
theorem dX8_setOrder_37 : decode cX8_setOrder 37 = .ok (.ireturn, 1) := by decide +kernel
theorem dX8_setOrder_38 : decode cX8_setOrder 38 = .ok (.aload_n 0, 1) := by decide +kernel
theorem dX8_setOrder_39 : decode cX8_setOrder 39 = .ok (.getfield 10, 3) := by decide +kernel
theorem dX8_setOrder_42 : decode cX8_setOrder 42 = .ok (.invokevirtual 140, 3) := by decide +kernel
theorem dX8_setOrder_45 : decode cX8_setOrder 45 = .ok (.istore 4, 2) := by decide +kernel
theorem dX8_setOrder_47 : decode cX8_setOrder 47 = .ok (.aload_n 0, 1) := by decide +kernel
theorem dX8_setOrder_48 : decode cX8_setOrder 48 = .ok (.getfield 10, 3) := by decide +kernel
theorem dX8_setOrder_51 : decode cX8_setOrder 51 = .ok (.iload_n 1, 1) := by decide +kernel
theorem dX8_setOrder_52 : decode cX8_setOrder 52 = .ok (.iload_n 2, 1) := by decide +kernel
theorem dX8_setOrder_53 : decode cX8_setOrder 53 = .ok (.iload_n 3, 1) := by decide +kernel
theorem dX8_setOrder_54 : decode cX8_setOrder 54 = .ok (.invokevirtual 143, 3) := by decide +kernel
theorem dX8_setOrder_57 : decode cX8_setOrder 57 = .ok (.aload_n 0, 1) := by decide +kernel
theorem dX8_setOrder_58 : decode cX8_setOrder 58 = .ok (.invokevirtual 84, 3) := by decide +kernel
theorem dX8_setOrder_61 : decode cX8_setOrder 61 = .ok (.iload 4, 2) := by decide +kernel
theorem dX8_setOrder_63 : decode cX8_setOrder 63 = .ok (.ireturn, 1) := by decide +kernel
set_option maxRecDepth 20000 in
theorem ggX8_keeperOf_X1_has : GoodIn wsX8_keeperOf wsX1_has := goodIn_r _ [7, 8, 9, 10, 11, 12, 13, 52, 53, 54, 55, 56, 57] (by decide +kernel) (by decide +kernel)
set_option maxRecDepth 20000 in
theorem gX8_keeperOf_X1_has : GoodIn wsX8_keeperOf (wsV RX8 87 RX1 yX1_has wsX1_has) := goodIn_app (goodIn_of _ (by decide +kernel)) ggX8_keeperOf_X1_has
set_option maxRecDepth 20000 in
theorem ggX8_keeperOf_X2_keeper : GoodIn wsX8_keeperOf wsX2_keeper := goodIn_r _ [18, 19, 20, 21, 22, 6, 23, 8, 24, 12, 10, 13, 25, 26, 27, 28, 29, 17, 30, 31, 32, 33, 34, 35, 36, 37, 38, 39, 40, 41, 42, 43, 58, 59, 60, 52, 53, 54, 55, 56, 57] (by decide +kernel) (by decide +kernel)
set_option maxRecDepth 20000 in
theorem gX8_keeperOf_X2_keeper : GoodIn wsX8_keeperOf (wsV RX8 146 RX2 yX2_keeper wsX2_keeper) := goodIn_app (goodIn_of _ (by decide +kernel)) ggX8_keeperOf_X2_keeper
theorem dX8_keeperOf_0 : decode cX8_keeperOf 0 = .ok (.aload_n 0, 1) := by decide +kernel
theorem dX8_keeperOf_1 : decode cX8_keeperOf 1 = .ok (.getfield 10, 3) := by decide +kernel
theorem dX8_keeperOf_4 : decode cX8_keeperOf 4 = .ok (.iload_n 1, 1) := by decide +kernel
theorem dX8_keeperOf_5 : decode cX8_keeperOf 5 = .ok (.invokevirtual 87, 3) := by decide +kernel
theorem dX8_keeperOf_8 : decode cX8_keeperOf 8 = .ok (.ifCond .ne 5, 3) := by decide +kernel
theorem dX8_keeperOf_11 : decode cX8_keeperOf 11 = .ok (.iconst (-1), 1) := by decide +kernel
theorem dX8_keeperOf_12 : decode cX8_keeperOf 12 = .ok (.ireturn, 1) := by decide +kernel
theorem dX8_keeperOf_13 : decode cX8_keeperOf 13 = .ok (.aload_n 0, 1) := by decide +kernel
theorem dX8_keeperOf_14 : decode cX8_keeperOf 14 = .ok (.getfield 21, 3) := by decide +kernel
theorem dX8_keeperOf_17 : decode cX8_keeperOf 17 = .ok (.iload_n 1, 1) := by decide +kernel
theorem dX8_keeperOf_18 : decode cX8_keeperOf 18 = .ok (.invokevirtual 146, 3) := by decide +kernel
theorem dX8_keeperOf_21 : decode cX8_keeperOf 21 = .ok (.ireturn, 1) := by decide +kernel
set_option maxRecDepth 20000 in
theorem ggX8_groupSize_X1_has : GoodIn wsX8_groupSize wsX1_has := goodIn_r _ [6, 7, 8, 9, 10, 11, 12, 35, 36, 37, 38, 39, 40] (by decide +kernel) (by decide +kernel)
set_option maxRecDepth 20000 in
theorem gX8_groupSize_X1_has : GoodIn wsX8_groupSize (wsV RX8 87 RX1 yX1_has wsX1_has) := goodIn_app (goodIn_of _ (by decide +kernel)) ggX8_groupSize_X1_has
set_option maxRecDepth 20000 in
theorem ggX8_groupSize_X1_alike : GoodIn wsX8_groupSize wsX1_alike := goodIn_r _ [16, 7, 17, 11, 9, 12, 18, 19, 35, 36, 37, 38, 39, 40] (by decide +kernel) (by decide +kernel)
set_option maxRecDepth 20000 in
theorem gX8_groupSize_X1_alike : GoodIn wsX8_groupSize (wsV RX8 149 RX1 yX1_alike wsX1_alike) := goodIn_app (goodIn_of _ (by decide +kernel)) ggX8_groupSize_X1_alike
set_option maxRecDepth 20000 in
theorem ggX8_groupSize_J13_bitCount_95d88 : GoodIn wsX8_groupSize wsJ13_bitCount_95d88 := goodIn_r _ [23, 24, 25, 26] (by decide +kernel) (by decide +kernel)
set_option maxRecDepth 20000 in
theorem gX8_groupSize_J13_bitCount_95d88 : GoodIn wsX8_groupSize (va_wsS RX8 153 yJ13_bitCount_95d88 wsJ13_bitCount_95d88) := goodIn_app (goodIn_of _ (by decide +kernel)) ggX8_groupSize_J13_bitCount_95d88
theorem dX8_groupSize_0 : decode cX8_groupSize 0 = .ok (.aload_n 0, 1) := by decide +kernel
theorem dX8_groupSize_1 : decode cX8_groupSize 1 = .ok (.getfield 10, 3) := by decide +kernel
theorem dX8_groupSize_4 : decode cX8_groupSize 4 = .ok (.iload_n 1, 1) := by decide +kernel
theorem dX8_groupSize_5 : decode cX8_groupSize 5 = .ok (.invokevirtual 87, 3) := by decide +kernel
theorem dX8_groupSize_8 : decode cX8_groupSize 8 = .ok (.ifCond .ne 5, 3) := by decide +kernel
theorem dX8_groupSize_11 : decode cX8_groupSize 11 = .ok (.iconst (-1), 1) := by decide +kernel
theorem dX8_groupSize_12 : decode cX8_groupSize 12 = .ok (.ireturn, 1) := by decide +kernel
theorem dX8_groupSize_13 : decode cX8_groupSize 13 = .ok (.aload_n 0, 1) := by decide +kernel
theorem dX8_groupSize_14 : decode cX8_groupSize 14 = .ok (.getfield 10, 3) := by decide +kernel
theorem dX8_groupSize_17 : decode cX8_groupSize 17 = .ok (.iload_n 1, 1) := by decide +kernel
theorem dX8_groupSize_18 : decode cX8_groupSize 18 = .ok (.invokevirtual 149, 3) := by decide +kernel
theorem dX8_groupSize_21 : decode cX8_groupSize 21 = .ok (.invokestatic 153, 3) := by decide +kernel
theorem dX8_groupSize_24 : decode cX8_groupSize 24 = .ok (.ireturn, 1) := by decide +kernel
set_option maxRecDepth 20000 in
theorem ggX8_wasted_X1_all : GoodIn wsX8_wasted wsX1_all := goodIn_r _ [8, 9, 32, 33, 34, 35, 36, 37] (by decide +kernel) (by decide +kernel)
set_option maxRecDepth 20000 in
theorem gX8_wasted_X1_all : GoodIn wsX8_wasted (wsV RX8 159 RX1 yX1_all wsX1_all) := goodIn_app (goodIn_of _ (by decide +kernel)) ggX8_wasted_X1_all
set_option maxRecDepth 20000 in
theorem ggX8_wasted_X2_keepers : GoodIn wsX8_wasted wsX2_keepers := goodIn_r _ [14, 15, 38, 39, 40] (by decide +kernel) (by decide +kernel)
set_option maxRecDepth 20000 in
theorem gX8_wasted_X2_keepers : GoodIn wsX8_wasted (wsV RX8 163 RX2 yX2_keepers wsX2_keepers) := goodIn_app (goodIn_of _ (by decide +kernel)) ggX8_wasted_X2_keepers
set_option maxRecDepth 20000 in
theorem ggX8_wasted_X1_sumOfSizes : GoodIn wsX8_wasted wsX1_sumOfSizes := goodIn_r _ [19, 20, 21, 22, 23, 32, 33, 34, 35, 36, 37] (by decide +kernel) (by decide +kernel)
set_option maxRecDepth 20000 in
theorem gX8_wasted_X1_sumOfSizes : GoodIn wsX8_wasted (wsV RX8 168 RX1 yX1_sumOfSizes wsX1_sumOfSizes) := goodIn_app (goodIn_of _ (by decide +kernel)) ggX8_wasted_X1_sumOfSizes
theorem dX8_wasted_0 : decode cX8_wasted 0 = .ok (.aload_n 0, 1) := by decide +kernel
theorem dX8_wasted_1 : decode cX8_wasted 1 = .ok (.getfield 10, 3) := by decide +kernel
theorem dX8_wasted_4 : decode cX8_wasted 4 = .ok (.aload_n 0, 1) := by decide +kernel
theorem dX8_wasted_5 : decode cX8_wasted 5 = .ok (.getfield 10, 3) := by decide +kernel
theorem dX8_wasted_8 : decode cX8_wasted 8 = .ok (.invokevirtual 159, 3) := by decide +kernel
theorem dX8_wasted_11 : decode cX8_wasted 11 = .ok (.aload_n 0, 1) := by decide +kernel
theorem dX8_wasted_12 : decode cX8_wasted 12 = .ok (.getfield 21, 3) := by decide +kernel
theorem dX8_wasted_15 : decode cX8_wasted 15 = .ok (.invokevirtual 163, 3) := by decide +kernel
theorem dX8_wasted_18 : decode cX8_wasted 18 = .ok (.ldc2_w 166, 3) := by decide +kernel
theorem dX8_wasted_21 : decode cX8_wasted 21 = .ok (.lxor, 1) := by decide +kernel
theorem dX8_wasted_22 : decode cX8_wasted 22 = .ok (.land, 1) := by decide +kernel
theorem dX8_wasted_23 : decode cX8_wasted 23 = .ok (.invokevirtual 168, 3) := by decide +kernel
theorem dX8_wasted_26 : decode cX8_wasted 26 = .ok (.ireturn, 1) := by decide +kernel
set_option maxRecDepth 20000 in
theorem ggX8_merge_X1_has : GoodIn wsX8_merge wsX1_has := goodIn_r _ [8, 9, 10, 11, 12, 13, 14, 302, 303, 304, 305, 306, 307] (by decide +kernel) (by decide +kernel)
set_option maxRecDepth 20000 in
theorem gX8_merge_X1_has : GoodIn wsX8_merge (wsV RX8 87 RX1 yX1_has wsX1_has) := goodIn_app (goodIn_of _ (by decide +kernel)) ggX8_merge_X1_has
set_option maxRecDepth 20000 in
theorem ggX8_merge_X2_keeper : GoodIn wsX8_merge wsX2_keeper := goodIn_r _ [19, 20, 21, 22, 23, 7, 24, 9, 25, 13, 11, 14, 26, 27, 28, 29, 30, 18, 31, 32, 33, 34, 35, 36, 37, 38, 39, 40, 41, 42, 43, 44, 308, 309, 310, 302, 303, 304, 305, 306, 307] (by decide +kernel) (by decide +kernel)
set_option maxRecDepth 20000 in
theorem gX8_merge_X2_keeper : GoodIn wsX8_merge (wsV RX8 146 RX2 yX2_keeper wsX2_keeper) := goodIn_app (goodIn_of _ (by decide +kernel)) ggX8_merge_X2_keeper
set_option maxRecDepth 20000 in
theorem ggX8_merge_X1_alike : GoodIn wsX8_merge wsX1_alike := goodIn_r _ [24, 9, 25, 13, 11, 14, 26, 27, 302, 303, 304, 305, 306, 307] (by decide +kernel) (by decide +kernel)
set_option maxRecDepth 20000 in
theorem gX8_merge_X1_alike : GoodIn wsX8_merge (wsV RX8 149 RX1 yX1_alike wsX1_alike) := goodIn_app (goodIn_of _ (by decide +kernel)) ggX8_merge_X1_alike
set_option maxRecDepth 20000 in
theorem ggX8_merge_X8_only : GoodIn wsX8_merge wsX8_only := goodIn_r _ [27] (by decide +kernel) (by decide +kernel)
set_option maxRecDepth 20000 in
theorem gX8_merge_X8_only : GoodIn wsX8_merge (va_wsS RX8 171 yX8_only wsX8_only) := goodIn_app (goodIn_of _ (by decide +kernel)) ggX8_merge_X8_only
set_option maxRecDepth 20000 in
theorem ggX8_merge_X1_absorb : GoodIn wsX8_merge wsX1_absorb := goodIn_r _ [50, 13, 11, 14, 51, 52, 53, 7, 54, 55, 56, 57, 58, 59, 60, 61, 62, 63, 64, 65, 66, 67, 68, 69, 302, 303, 304, 305, 306, 307] (by decide +kernel) (by decide +kernel)
set_option maxRecDepth 20000 in
theorem gX8_merge_X1_absorb : GoodIn wsX8_merge (wsV RX8 174 RX1 yX1_absorb wsX1_absorb) := goodIn_app (goodIn_of _ (by decide +kernel)) ggX8_merge_X1_absorb
set_option maxRecDepth 20000 in
theorem ggX8_merge_X8_holds : GoodIn wsX8_merge wsX8_holds := goodIn_r _ [14] (by decide +kernel) (by decide +kernel)
set_option maxRecDepth 20000 in
theorem gX8_merge_X8_holds : GoodIn wsX8_merge (va_wsS RX8 178 yX8_holds wsX8_holds) := goodIn_app (goodIn_of _ (by decide +kernel)) ggX8_merge_X8_holds
set_option maxRecDepth 20000 in
theorem ggX8_merge_X8_discard : GoodIn wsX8_merge wsX8_discard := goodIn_r _ [74, 75, 1, 76, 77, 78, 79, 80, 81, 82, 83, 84, 85, 86, 87, 88, 89, 90, 91, 92, 93, 94, 95, 96, 97, 26, 11, 27, 98, 99, 100, 7, 101, 9, 102, 294, 295, 296, 297, 298, 299, 300, 301, 311, 312, 313, 314, 315, 316, 317, 318, 302, 303, 304, 305, 306, 307] (by decide +kernel) (by decide +kernel)
set_option maxRecDepth 20000 in
theorem gX8_merge_X8_discard : GoodIn wsX8_merge (wsV RX8 91 RX8 yX8_discard wsX8_discard) := goodIn_app (goodIn_of _ (by decide +kernel)) ggX8_merge_X8_discard
set_option maxRecDepth 20000 in
theorem ggX8_merge_X8_settle : GoodIn wsX8_merge wsX8_settle := goodIn_r _ [106, 1, 2, 75, 107, 108, 109, 110, 111, 112, 7, 113, 9, 13, 11, 14, 114, 115, 116, 117, 40, 118, 119, 120, 121, 122, 123, 124, 125, 126, 55, 56, 57, 58, 59, 60, 61, 62, 127, 128, 129, 18, 130, 131, 132, 20, 133, 134, 135, 136, 137, 21, 22, 23, 24, 25, 26, 27, 28, 29, 30, 31, 32, 33, 34, 35, 36, 37, 38, 39, 41, 42, 43, 44, 138, 139, 140, 141, 142, 143, 144, 145, 146, 147, 79, 148, 149, 150, 151, 152, 153, 83, 10, 12, 154, 155, 156, 157, 82, 84, 158, 89, 90, 91, 159, 160, 161, 162, 163, 164, 165, 166, 167, 168, 169, 170, 171, 172, 173, 174, 175, 176, 177, 178, 179, 180, 181, 182, 183, 184, 185, 186, 187, 188, 189, 190, 191, 192, 193, 194, 195, 196, 197, 198, 199, 200, 201, 202, 203, 204, 205, 206, 207, 208, 209, 210, 211, 212, 213, 214, 215, 216, 217, 218, 219, 220, 221, 222, 223, 224, 225, 226, 227, 228, 229, 230, 231, 232, 233, 234, 96, 235, 236, 237, 238, 239, 240, 241, 242, 243, 244, 245, 246, 247, 248, 249, 250, 251, 252, 253, 254, 255, 256, 257, 258, 259, 260, 261, 262, 263, 264, 265, 266, 267, 268, 269, 270, 271, 272, 273, 274, 275, 276, 277, 278, 279, 280, 281, 282, 283, 284, 285, 286, 287, 288, 289, 290, 291, 292, 294, 295, 296, 297, 298, 299, 300, 301, 302, 303, 304, 305, 306, 307, 308, 309, 310, 311, 312, 313, 314, 315, 316, 317, 318, 319, 320, 321, 322, 323, 324, 325, 326, 327, 328, 329, 330, 331, 332, 333, 334, 335, 336, 337, 338, 339, 340] (by decide +kernel) (by decide +kernel)
set_option maxRecDepth 20000 in
theorem gX8_merge_X8_settle : GoodIn wsX8_merge (wsV RX8 84 RX8 yX8_settle wsX8_settle) := goodIn_app (goodIn_of _ (by decide +kernel)) ggX8_merge_X8_settle
set_option maxRecDepth 20000 in
theorem ggX8_merge_J13_bitCount_95d88 : GoodIn wsX8_merge wsJ13_bitCount_95d88 := goodIn_r _ [141, 142, 143, 144] (by decide +kernel) (by decide +kernel)
set_option maxRecDepth 20000 in
theorem gX8_merge_J13_bitCount_95d88 : GoodIn wsX8_merge (va_wsS RX8 153 yJ13_bitCount_95d88 wsJ13_bitCount_95d88) := goodIn_app (goodIn_of _ (by decide +kernel)) ggX8_merge_J13_bitCount_95d88
theorem dX8_merge_0 : decode cX8_merge 0 = .ok (.aload_n 0, 1) := by decide +kernel
theorem dX8_merge_1 : decode cX8_merge 1 = .ok (.getfield 10, 3) := by decide +kernel
theorem dX8_merge_4 : decode cX8_merge 4 = .ok (.iload_n 1, 1) := by decide +kernel
theorem dX8_merge_5 : decode cX8_merge 5 = .ok (.invokevirtual 87, 3) := by decide +kernel
theorem dX8_merge_8 : decode cX8_merge 8 = .ok (.ifCond .ne 5, 3) := by decide +kernel
theorem dX8_merge_11 : decode cX8_merge 11 = .ok (.iconst (-1), 1) := by decide +kernel
theorem dX8_merge_12 : decode cX8_merge 12 = .ok (.ireturn, 1) := by decide +kernel
theorem dX8_merge_13 : decode cX8_merge 13 = .ok (.aload_n 0, 1) := by decide +kernel
theorem dX8_merge_14 : decode cX8_merge 14 = .ok (.getfield 21, 3) := by decide +kernel
theorem dX8_merge_17 : decode cX8_merge 17 = .ok (.iload_n 1, 1) := by decide +kernel
theorem dX8_merge_18 : decode cX8_merge 18 = .ok (.invokevirtual 146, 3) := by decide +kernel
theorem dX8_merge_21 : decode cX8_merge 21 = .ok (.istore_n 2, 1) := by decide +kernel
theorem dX8_merge_22 : decode cX8_merge 22 = .ok (.aload_n 0, 1) := by decide +kernel
theorem dX8_merge_23 : decode cX8_merge 23 = .ok (.getfield 10, 3) := by decide +kernel
theorem dX8_merge_26 : decode cX8_merge 26 = .ok (.iload_n 1, 1) := by decide +kernel
theorem dX8_merge_27 : decode cX8_merge 27 = .ok (.invokevirtual 149, 3) := by decide +kernel
theorem dX8_merge_30 : decode cX8_merge 30 = .ok (.iload_n 2, 1) := by decide +kernel
theorem dX8_merge_31 : decode cX8_merge 31 = .ok (.invokestatic 171, 3) := by decide +kernel
theorem dX8_merge_34 : decode cX8_merge 34 = .ok (.ldc2_w 166, 3) := by decide +kernel
theorem dX8_merge_37 : decode cX8_merge 37 = .ok (.lxor, 1) := by decide +kernel
theorem dX8_merge_38 : decode cX8_merge 38 = .ok (.land, 1) := by decide +kernel
theorem dX8_merge_39 : decode cX8_merge 39 = .ok (.lstore_n 3, 1) := by decide +kernel
theorem dX8_merge_40 : decode cX8_merge 40 = .ok (.lload_n 3, 1) := by decide +kernel
theorem dX8_merge_41 : decode cX8_merge 41 = .ok (.lconst 0, 1) := by decide +kernel
theorem dX8_merge_42 : decode cX8_merge 42 = .ok (.lcmp, 1) := by decide +kernel
theorem dX8_merge_43 : decode cX8_merge 43 = .ok (.ifCond .ne 6, 3) := by decide +kernel
theorem dX8_merge_46 : decode cX8_merge 46 = .ok (.bipush (-2), 2) := by decide +kernel
theorem dX8_merge_48 : decode cX8_merge 48 = .ok (.ireturn, 1) := by decide +kernel
theorem dX8_merge_49 : decode cX8_merge 49 = .ok (.aload_n 0, 1) := by decide +kernel
theorem dX8_merge_50 : decode cX8_merge 50 = .ok (.getfield 10, 3) := by decide +kernel
theorem dX8_merge_53 : decode cX8_merge 53 = .ok (.iload_n 2, 1) := by decide +kernel
theorem dX8_merge_54 : decode cX8_merge 54 = .ok (.lload_n 3, 1) := by decide +kernel
theorem dX8_merge_55 : decode cX8_merge 55 = .ok (.invokevirtual 174, 3) := by decide +kernel
theorem dX8_merge_58 : decode cX8_merge 58 = .ok (.iconst 0, 1) := by decide +kernel
theorem dX8_merge_59 : decode cX8_merge 59 = .ok (.istore 5, 2) := by decide +kernel
theorem dX8_merge_61 : decode cX8_merge 61 = .ok (.iload 5, 2) := by decide +kernel
theorem dX8_merge_63 : decode cX8_merge 63 = .ok (.bipush 40, 2) := by decide +kernel
theorem dX8_merge_65 : decode cX8_merge 65 = .ok (.if_icmp .ge 24, 3) := by decide +kernel
theorem dX8_merge_68 : decode cX8_merge 68 = .ok (.lload_n 3, 1) := by decide +kernel
theorem dX8_merge_69 : decode cX8_merge 69 = .ok (.iload 5, 2) := by decide +kernel
theorem dX8_merge_71 : decode cX8_merge 71 = .ok (.invokestatic 178, 3) := by decide +kernel
theorem dX8_merge_74 : decode cX8_merge 74 = .ok (.ifCond .eq 9, 3) := by decide +kernel
theorem dX8_merge_77 : decode cX8_merge 77 = .ok (.aload_n 0, 1) := by decide +kernel
theorem dX8_merge_78 : decode cX8_merge 78 = .ok (.iload 5, 2) := by decide +kernel
theorem dX8_merge_80 : decode cX8_merge 80 = .ok (.invokevirtual 91, 3) := by decide +kernel
theorem dX8_merge_83 : decode cX8_merge 83 = .ok (.iinc 5 1, 3) := by decide +kernel
theorem dX8_merge_86 : decode cX8_merge 86 = .ok (.goto (-25), 3) := by decide +kernel
theorem dX8_merge_89 : decode cX8_merge 89 = .ok (.aload_n 0, 1) := by decide +kernel
theorem dX8_merge_90 : decode cX8_merge 90 = .ok (.invokevirtual 84, 3) := by decide +kernel
theorem dX8_merge_93 : decode cX8_merge 93 = .ok (.lload_n 3, 1) := by decide +kernel
theorem dX8_merge_94 : decode cX8_merge 94 = .ok (.invokestatic 153, 3) := by decide +kernel
theorem dX8_merge_97 : decode cX8_merge 97 = .ok (.ireturn, 1) := by decide +kernel
set_option maxRecDepth 20000 in
theorem ggX8_stack_X1_has : GoodIn wsX8_stack wsX1_has := goodIn_r _ [7, 8, 9, 10, 11, 12, 13, 273, 274, 275, 276, 277, 278] (by decide +kernel) (by decide +kernel)
set_option maxRecDepth 20000 in
theorem gX8_stack_X1_has : GoodIn wsX8_stack (wsV RX8 87 RX1 yX1_has wsX1_has) := goodIn_app (goodIn_of _ (by decide +kernel)) ggX8_stack_X1_has
set_option maxRecDepth 20000 in
theorem ggX8_stack_X6_home : GoodIn wsX8_stack wsX6_home := goodIn_r _ [18, 19, 279, 280, 281, 282, 283, 284, 285, 286] (by decide +kernel) (by decide +kernel)
set_option maxRecDepth 20000 in
theorem gX8_stack_X6_home : GoodIn wsX8_stack (wsV RX8 182 RX6 yX6_home wsX6_home) := goodIn_app (goodIn_of _ (by decide +kernel)) ggX8_stack_X6_home
set_option maxRecDepth 20000 in
theorem ggX8_stack_X6_freeNumber : GoodIn wsX8_stack wsX6_freeNumber := goodIn_r _ [23, 24, 25, 26, 17, 27, 28, 9, 10, 11, 279, 280, 281, 282, 283, 284, 285, 286] (by decide +kernel) (by decide +kernel)
set_option maxRecDepth 20000 in
theorem gX8_stack_X6_freeNumber : GoodIn wsX8_stack (wsV RX8 185 RX6 yX6_freeNumber wsX6_freeNumber) := goodIn_app (goodIn_of _ (by decide +kernel)) ggX8_stack_X6_freeNumber
set_option maxRecDepth 20000 in
theorem ggX8_stack_X6_begin : GoodIn wsX8_stack wsX6_begin := goodIn_r _ [32, 33, 34, 35, 36, 37, 17, 38, 28, 39, 19, 40, 41, 42, 43, 44, 10, 45, 279, 280, 281, 282, 283, 284, 285, 286] (by decide +kernel) (by decide +kernel)
set_option maxRecDepth 20000 in
theorem gX8_stack_X6_begin : GoodIn wsX8_stack (wsV RX8 186 RX6 yX6_begin wsX6_begin) := goodIn_app (goodIn_of _ (by decide +kernel)) ggX8_stack_X6_begin
set_option maxRecDepth 20000 in
theorem ggX8_stack_X8_settle : GoodIn wsX8_stack wsX8_settle := goodIn_r _ [49, 1, 50, 2, 51, 52, 53, 54, 55, 56, 6, 57, 8, 12, 10, 13, 58, 59, 60, 61, 62, 63, 64, 65, 66, 67, 68, 69, 70, 71, 72, 73, 74, 75, 76, 77, 78, 79, 80, 81, 82, 83, 84, 85, 86, 87, 88, 89, 90, 91, 92, 93, 94, 95, 96, 97, 44, 45, 98, 99, 100, 101, 102, 103, 104, 105, 106, 107, 108, 109, 110, 111, 112, 113, 114, 115, 116, 117, 118, 119, 120, 121, 122, 123, 17, 124, 125, 24, 25, 26, 27, 28, 9, 11, 126, 127, 128, 129, 33, 39, 130, 41, 42, 43, 131, 132, 133, 134, 135, 136, 137, 138, 139, 140, 141, 142, 143, 144, 145, 146, 147, 148, 149, 150, 151, 152, 153, 154, 155, 156, 157, 158, 159, 160, 161, 162, 163, 164, 165, 166, 167, 168, 169, 170, 171, 172, 173, 174, 175, 176, 177, 178, 179, 180, 181, 182, 183, 184, 185, 186, 187, 188, 189, 190, 191, 192, 193, 194, 195, 196, 197, 198, 199, 200, 201, 202, 203, 204, 205, 206, 40, 207, 208, 209, 210, 211, 212, 213, 214, 215, 216, 217, 218, 219, 220, 221, 222, 223, 224, 225, 226, 227, 228, 229, 230, 231, 232, 233, 234, 235, 236, 237, 238, 239, 240, 241, 242, 243, 244, 245, 246, 247, 248, 249, 250, 251, 252, 253, 254, 255, 256, 257, 258, 259, 260, 261, 262, 263, 264, 265, 266, 267, 268, 269, 270, 271, 272, 273, 274, 275, 276, 277, 278, 287, 288, 289, 279, 280, 281, 282, 283, 284, 285, 286, 290, 291, 292, 293, 294, 295, 296, 297, 298, 299, 300, 301, 302, 303, 304, 305, 306, 307, 308, 309, 310, 311] (by decide +kernel) (by decide +kernel)
set_option maxRecDepth 20000 in
theorem gX8_stack_X8_settle : GoodIn wsX8_stack (wsV RX8 84 RX8 yX8_settle wsX8_settle) := goodIn_app (goodIn_of _ (by decide +kernel)) ggX8_stack_X8_settle
theorem dX8_stack_0 : decode cX8_stack 0 = .ok (.aload_n 0, 1) := by decide +kernel
theorem dX8_stack_1 : decode cX8_stack 1 = .ok (.getfield 10, 3) := by decide +kernel
theorem dX8_stack_4 : decode cX8_stack 4 = .ok (.iload_n 1, 1) := by decide +kernel
theorem dX8_stack_5 : decode cX8_stack 5 = .ok (.invokevirtual 87, 3) := by decide +kernel
theorem dX8_stack_8 : decode cX8_stack 8 = .ok (.ifCond .eq 19, 3) := by decide +kernel
theorem dX8_stack_11 : decode cX8_stack 11 = .ok (.aload_n 0, 1) := by decide +kernel
theorem dX8_stack_12 : decode cX8_stack 12 = .ok (.getfield 10, 3) := by decide +kernel
theorem dX8_stack_15 : decode cX8_stack 15 = .ok (.iload_n 2, 1) := by decide +kernel
theorem dX8_stack_16 : decode cX8_stack 16 = .ok (.invokevirtual 87, 3) := by decide +kernel
theorem dX8_stack_19 : decode cX8_stack 19 = .ok (.ifCond .eq 8, 3) := by decide +kernel
theorem dX8_stack_22 : decode cX8_stack 22 = .ok (.iload_n 1, 1) := by decide +kernel
theorem dX8_stack_23 : decode cX8_stack 23 = .ok (.iload_n 2, 1) := by decide +kernel
theorem dX8_stack_24 : decode cX8_stack 24 = .ok (.if_icmp .ne 5, 3) := by decide +kernel
theorem dX8_stack_27 : decode cX8_stack 27 = .ok (.iconst (-1), 1) := by decide +kernel
theorem dX8_stack_28 : decode cX8_stack 28 = .ok (.ireturn, 1) := by decide +kernel
theorem dX8_stack_29 : decode cX8_stack 29 = .ok (.aload_n 0, 1) := by decide +kernel
theorem dX8_stack_30 : decode cX8_stack 30 = .ok (.getfield 28, 3) := by decide +kernel
theorem dX8_stack_33 : decode cX8_stack 33 = .ok (.iload_n 1, 1) := by decide +kernel
theorem dX8_stack_34 : decode cX8_stack 34 = .ok (.invokevirtual 182, 3) := by decide +kernel
theorem dX8_stack_37 : decode cX8_stack 37 = .ok (.iconst (-1), 1) := by decide +kernel
theorem dX8_stack_38 : decode cX8_stack 38 = .ok (.if_icmp .ne 15, 3) := by decide +kernel
theorem dX8_stack_41 : decode cX8_stack 41 = .ok (.aload_n 0, 1) := by decide +kernel
theorem dX8_stack_42 : decode cX8_stack 42 = .ok (.getfield 28, 3) := by decide +kernel
theorem dX8_stack_45 : decode cX8_stack 45 = .ok (.iload_n 2, 1) := by decide +kernel
theorem dX8_stack_46 : decode cX8_stack 46 = .ok (.invokevirtual 182, 3) := by decide +kernel
theorem dX8_stack_49 : decode cX8_stack 49 = .ok (.iconst (-1), 1) := by decide +kernel
theorem dX8_stack_50 : decode cX8_stack 50 = .ok (.if_icmp .eq 6, 3) := by decide +kernel
theorem dX8_stack_53 : decode cX8_stack 53 = .ok (.bipush (-2), 2) := by decide +kernel
theorem dX8_stack_55 : decode cX8_stack 55 = .ok (.ireturn, 1) := by decide +kernel
theorem dX8_stack_56 : decode cX8_stack 56 = .ok (.aload_n 0, 1) := by decide +kernel
theorem dX8_stack_57 : decode cX8_stack 57 = .ok (.getfield 28, 3) := by decide +kernel
theorem dX8_stack_60 : decode cX8_stack 60 = .ok (.invokevirtual 185, 3) := by decide +kernel
theorem dX8_stack_63 : decode cX8_stack 63 = .ok (.istore_n 3, 1) := by decide +kernel
theorem dX8_stack_64 : decode cX8_stack 64 = .ok (.iload_n 3, 1) := by decide +kernel
theorem dX8_stack_65 : decode cX8_stack 65 = .ok (.iconst (-1), 1) := by decide +kernel
theorem dX8_stack_66 : decode cX8_stack 66 = .ok (.if_icmp .ne 6, 3) := by decide +kernel
theorem dX8_stack_69 : decode cX8_stack 69 = .ok (.bipush (-3), 2) := by decide +kernel
theorem dX8_stack_71 : decode cX8_stack 71 = .ok (.ireturn, 1) := by decide +kernel
theorem dX8_stack_72 : decode cX8_stack 72 = .ok (.aload_n 0, 1) := by decide +kernel
theorem dX8_stack_73 : decode cX8_stack 73 = .ok (.getfield 28, 3) := by decide +kernel
theorem dX8_stack_76 : decode cX8_stack 76 = .ok (.iload_n 3, 1) := by decide +kernel
theorem dX8_stack_77 : decode cX8_stack 77 = .ok (.iload_n 1, 1) := by decide +kernel
theorem dX8_stack_78 : decode cX8_stack 78 = .ok (.iload_n 2, 1) := by decide +kernel
theorem dX8_stack_79 : decode cX8_stack 79 = .ok (.invokevirtual 186, 3) := by decide +kernel
theorem dX8_stack_82 : decode cX8_stack 82 = .ok (.aload_n 0, 1) := by decide +kernel
theorem dX8_stack_83 : decode cX8_stack 83 = .ok (.invokevirtual 84, 3) := by decide +kernel
theorem dX8_stack_86 : decode cX8_stack 86 = .ok (.iload_n 3, 1) := by decide +kernel
theorem dX8_stack_87 : decode cX8_stack 87 = .ok (.ireturn, 1) := by decide +kernel
set_option maxRecDepth 20000 in
theorem ggX8_putInto_X6_has : GoodIn wsX8_putInto wsX6_has := goodIn_r _ [7, 8, 9, 10, 11, 269, 270, 271, 272, 273, 274, 275, 276] (by decide +kernel) (by decide +kernel)
set_option maxRecDepth 20000 in
theorem gX8_putInto_X6_has : GoodIn wsX8_putInto (wsV RX8 189 RX6 yX6_has wsX6_has) := goodIn_app (goodIn_of _ (by decide +kernel)) ggX8_putInto_X6_has
set_option maxRecDepth 20000 in
theorem ggX8_putInto_X1_has : GoodIn wsX8_putInto wsX1_has := goodIn_r _ [16, 17, 9, 10, 11, 18, 19, 277, 278, 279, 280, 281, 282] (by decide +kernel) (by decide +kernel)
set_option maxRecDepth 20000 in
theorem gX8_putInto_X1_has : GoodIn wsX8_putInto (wsV RX8 87 RX1 yX1_has wsX1_has) := goodIn_app (goodIn_of _ (by decide +kernel)) ggX8_putInto_X1_has
set_option maxRecDepth 20000 in
theorem ggX8_putInto_X6_height : GoodIn wsX8_putInto wsX6_height := goodIn_r _ [23, 8, 269, 270, 271, 272, 273, 274, 275, 276] (by decide +kernel) (by decide +kernel)
set_option maxRecDepth 20000 in
theorem gX8_putInto_X6_height : GoodIn wsX8_putInto (wsV RX8 190 RX6 yX6_height wsX6_height) := goodIn_app (goodIn_of _ (by decide +kernel)) ggX8_putInto_X6_height
set_option maxRecDepth 20000 in
theorem ggX8_putInto_X8_isWithin : GoodIn wsX8_putInto wsX8_isWithin := goodIn_r _ [11] (by decide +kernel) (by decide +kernel)
set_option maxRecDepth 20000 in
theorem gX8_putInto_X8_isWithin : GoodIn wsX8_putInto (va_wsS RX8 71 yX8_isWithin wsX8_isWithin) := goodIn_app (goodIn_of _ (by decide +kernel)) ggX8_putInto_X8_isWithin
set_option maxRecDepth 20000 in
theorem ggX8_putInto_X6_home : GoodIn wsX8_putInto wsX6_home := goodIn_r _ [28, 29, 269, 270, 271, 272, 273, 274, 275, 276] (by decide +kernel) (by decide +kernel)
set_option maxRecDepth 20000 in
theorem gX8_putInto_X6_home : GoodIn wsX8_putInto (wsV RX8 182 RX6 yX6_home wsX6_home) := goodIn_app (goodIn_of _ (by decide +kernel)) ggX8_putInto_X6_home
set_option maxRecDepth 20000 in
theorem ggX8_putInto_X6_insert : GoodIn wsX8_putInto wsX6_insert := goodIn_r _ [33, 8, 34, 29, 35, 36, 37, 6, 38, 39, 10, 40, 269, 270, 271, 272, 273, 274, 275, 276] (by decide +kernel) (by decide +kernel)
set_option maxRecDepth 20000 in
theorem gX8_putInto_X6_insert : GoodIn wsX8_putInto (wsV RX8 193 RX6 yX6_insert wsX6_insert) := goodIn_app (goodIn_of _ (by decide +kernel)) ggX8_putInto_X6_insert
set_option maxRecDepth 20000 in
theorem ggX8_putInto_X8_settle : GoodIn wsX8_putInto wsX8_settle := goodIn_r _ [44, 2, 45, 1, 46, 47, 48, 49, 50, 51, 15, 52, 17, 18, 10, 19, 53, 54, 55, 56, 57, 58, 59, 60, 61, 62, 63, 64, 65, 66, 67, 68, 69, 70, 71, 72, 73, 74, 75, 76, 77, 78, 79, 80, 81, 82, 83, 84, 85, 86, 87, 88, 89, 90, 91, 92, 39, 40, 93, 94, 95, 96, 97, 98, 99, 100, 101, 102, 103, 104, 105, 106, 107, 108, 109, 110, 111, 112, 113, 114, 115, 116, 117, 118, 6, 119, 120, 121, 4, 5, 7, 8, 9, 11, 122, 123, 124, 125, 126, 34, 127, 36, 37, 38, 128, 129, 130, 131, 132, 24, 133, 134, 135, 136, 137, 138, 139, 140, 141, 142, 143, 144, 145, 146, 147, 148, 149, 150, 151, 152, 153, 154, 155, 156, 157, 158, 159, 160, 161, 162, 163, 164, 165, 166, 167, 168, 169, 170, 171, 172, 173, 174, 175, 176, 177, 178, 179, 180, 181, 182, 183, 184, 185, 186, 187, 188, 189, 190, 191, 192, 193, 194, 195, 196, 197, 198, 199, 200, 201, 202, 35, 203, 204, 205, 206, 207, 208, 209, 210, 211, 212, 213, 214, 215, 216, 217, 218, 219, 220, 221, 222, 223, 224, 225, 226, 227, 228, 229, 230, 231, 232, 233, 234, 235, 236, 237, 238, 239, 240, 241, 242, 243, 244, 245, 246, 247, 248, 249, 250, 251, 252, 253, 254, 255, 256, 257, 258, 259, 260, 261, 262, 263, 264, 265, 266, 267, 268, 277, 278, 279, 280, 281, 282, 283, 284, 285, 269, 270, 271, 272, 273, 274, 275, 276, 286, 287, 288, 289, 290, 291, 292, 293, 294, 295, 296, 297, 298, 299, 300, 301, 302, 303, 304, 305, 306, 307] (by decide +kernel) (by decide +kernel)
set_option maxRecDepth 20000 in
theorem gX8_putInto_X8_settle : GoodIn wsX8_putInto (wsV RX8 84 RX8 yX8_settle wsX8_settle) := goodIn_app (goodIn_of _ (by decide +kernel)) ggX8_putInto_X8_settle
theorem dX8_putInto_0 : decode cX8_putInto 0 = .ok (.aload_n 0, 1) := by decide +kernel
theorem dX8_putInto_1 : decode cX8_putInto 1 = .ok (.getfield 28, 3) := by decide +kernel
theorem dX8_putInto_4 : decode cX8_putInto 4 = .ok (.iload_n 1, 1) := by decide +kernel
theorem dX8_putInto_5 : decode cX8_putInto 5 = .ok (.invokevirtual 189, 3) := by decide +kernel
theorem dX8_putInto_8 : decode cX8_putInto 8 = .ok (.ifCond .eq 30, 3) := by decide +kernel
theorem dX8_putInto_11 : decode cX8_putInto 11 = .ok (.aload_n 0, 1) := by decide +kernel
theorem dX8_putInto_12 : decode cX8_putInto 12 = .ok (.getfield 10, 3) := by decide +kernel
theorem dX8_putInto_15 : decode cX8_putInto 15 = .ok (.iload_n 2, 1) := by decide +kernel
theorem dX8_putInto_16 : decode cX8_putInto 16 = .ok (.invokevirtual 87, 3) := by decide +kernel
theorem dX8_putInto_19 : decode cX8_putInto 19 = .ok (.ifCond .eq 19, 3) := by decide +kernel
theorem dX8_putInto_22 : decode cX8_putInto 22 = .ok (.iload_n 3, 1) := by decide +kernel
theorem dX8_putInto_23 : decode cX8_putInto 23 = .ok (.iconst 0, 1) := by decide +kernel
theorem dX8_putInto_24 : decode cX8_putInto 24 = .ok (.aload_n 0, 1) := by decide +kernel
theorem dX8_putInto_25 : decode cX8_putInto 25 = .ok (.getfield 28, 3) := by decide +kernel
theorem dX8_putInto_28 : decode cX8_putInto 28 = .ok (.iload_n 1, 1) := by decide +kernel
theorem dX8_putInto_29 : decode cX8_putInto 29 = .ok (.invokevirtual 190, 3) := by decide +kernel
theorem dX8_putInto_32 : decode cX8_putInto 32 = .ok (.invokestatic 71, 3) := by decide +kernel
theorem dX8_putInto_35 : decode cX8_putInto 35 = .ok (.ifCond .ne 5, 3) := by decide +kernel
theorem dX8_putInto_38 : decode cX8_putInto 38 = .ok (.iconst (-1), 1) := by decide +kernel
theorem dX8_putInto_39 : decode cX8_putInto 39 = .ok (.ireturn, 1) := by decide +kernel
theorem dX8_putInto_40 : decode cX8_putInto 40 = .ok (.aload_n 0, 1) := by decide +kernel
theorem dX8_putInto_41 : decode cX8_putInto 41 = .ok (.getfield 28, 3) := by decide +kernel
theorem dX8_putInto_44 : decode cX8_putInto 44 = .ok (.iload_n 2, 1) := by decide +kernel
theorem dX8_putInto_45 : decode cX8_putInto 45 = .ok (.invokevirtual 182, 3) := by decide +kernel
theorem dX8_putInto_48 : decode cX8_putInto 48 = .ok (.iconst (-1), 1) := by decide +kernel
theorem dX8_putInto_49 : decode cX8_putInto 49 = .ok (.if_icmp .eq 6, 3) := by decide +kernel
theorem dX8_putInto_52 : decode cX8_putInto 52 = .ok (.bipush (-2), 2) := by decide +kernel
theorem dX8_putInto_54 : decode cX8_putInto 54 = .ok (.ireturn, 1) := by decide +kernel
theorem dX8_putInto_55 : decode cX8_putInto 55 = .ok (.aload_n 0, 1) := by decide +kernel
theorem dX8_putInto_56 : decode cX8_putInto 56 = .ok (.getfield 28, 3) := by decide +kernel
theorem dX8_putInto_59 : decode cX8_putInto 59 = .ok (.iload_n 1, 1) := by decide +kernel
theorem dX8_putInto_60 : decode cX8_putInto 60 = .ok (.invokevirtual 190, 3) := by decide +kernel
theorem dX8_putInto_63 : decode cX8_putInto 63 = .ok (.bipush 8, 2) := by decide +kernel
theorem dX8_putInto_65 : decode cX8_putInto 65 = .ok (.if_icmp .ne 6, 3) := by decide +kernel
theorem dX8_putInto_68 : decode cX8_putInto 68 = .ok (.bipush (-3), 2) := by decide +kernel
theorem dX8_putInto_70 : decode cX8_putInto 70 = .ok (.ireturn, 1) := by decide +kernel
theorem dX8_putInto_71 : decode cX8_putInto 71 = .ok (.aload_n 0, 1) := by decide +kernel
theorem dX8_putInto_72 : decode cX8_putInto 72 = .ok (.getfield 28, 3) := by decide +kernel
theorem dX8_putInto_75 : decode cX8_putInto 75 = .ok (.iload_n 1, 1) := by decide +kernel
theorem dX8_putInto_76 : decode cX8_putInto 76 = .ok (.iload_n 2, 1) := by decide +kernel
theorem dX8_putInto_77 : decode cX8_putInto 77 = .ok (.iload_n 3, 1) := by decide +kernel
theorem dX8_putInto_78 : decode cX8_putInto 78 = .ok (.invokevirtual 193, 3) := by decide +kernel
theorem dX8_putInto_81 : decode cX8_putInto 81 = .ok (.aload_n 0, 1) := by decide +kernel
theorem dX8_putInto_82 : decode cX8_putInto 82 = .ok (.invokevirtual 84, 3) := by decide +kernel
theorem dX8_putInto_85 : decode cX8_putInto 85 = .ok (.aload_n 0, 1) := by decide +kernel
theorem dX8_putInto_86 : decode cX8_putInto 86 = .ok (.getfield 28, 3) := by decide +kernel
theorem dX8_putInto_89 : decode cX8_putInto 89 = .ok (.iload_n 1, 1) := by decide +kernel
theorem dX8_putInto_90 : decode cX8_putInto 90 = .ok (.invokevirtual 190, 3) := by decide +kernel
theorem dX8_putInto_93 : decode cX8_putInto 93 = .ok (.ireturn, 1) := by decide +kernel
set_option maxRecDepth 20000 in
theorem ggX8_takeOut_X1_has : GoodIn wsX8_takeOut wsX1_has := goodIn_r _ [7, 8, 9, 10, 11, 12, 13, 277, 278, 279, 280, 281, 282] (by decide +kernel) (by decide +kernel)
set_option maxRecDepth 20000 in
theorem gX8_takeOut_X1_has : GoodIn wsX8_takeOut (wsV RX8 87 RX1 yX1_has wsX1_has) := goodIn_app (goodIn_of _ (by decide +kernel)) ggX8_takeOut_X1_has
set_option maxRecDepth 20000 in
theorem ggX8_takeOut_X6_home : GoodIn wsX8_takeOut wsX6_home := goodIn_r _ [18, 19, 283, 284, 285, 286, 287, 288, 289, 290] (by decide +kernel) (by decide +kernel)
set_option maxRecDepth 20000 in
theorem gX8_takeOut_X6_home : GoodIn wsX8_takeOut (wsV RX8 182 RX6 yX6_home wsX6_home) := goodIn_app (goodIn_of _ (by decide +kernel)) ggX8_takeOut_X6_home
set_option maxRecDepth 20000 in
theorem ggX8_takeOut_X6_release : GoodIn wsX8_takeOut wsX6_release := goodIn_r _ [23, 19, 24, 25, 26, 27, 28, 29, 17, 30, 31, 32, 33, 34, 35, 36, 37, 38, 39, 40, 10, 41, 283, 284, 285, 286, 287, 288, 289, 290] (by decide +kernel) (by decide +kernel)
set_option maxRecDepth 20000 in
theorem gX8_takeOut_X6_release : GoodIn wsX8_takeOut (wsV RX8 196 RX6 yX6_release wsX6_release) := goodIn_app (goodIn_of _ (by decide +kernel)) ggX8_takeOut_X6_release
set_option maxRecDepth 20000 in
theorem ggX8_takeOut_X8_settle : GoodIn wsX8_takeOut wsX8_settle := goodIn_r _ [45, 1, 46, 2, 47, 48, 49, 50, 51, 52, 6, 53, 8, 12, 10, 13, 54, 55, 56, 57, 58, 59, 60, 61, 62, 63, 64, 65, 66, 67, 68, 69, 70, 71, 72, 73, 74, 75, 76, 77, 78, 79, 80, 81, 82, 83, 84, 85, 86, 87, 88, 89, 90, 91, 92, 93, 40, 41, 94, 95, 96, 97, 98, 99, 100, 101, 102, 103, 104, 105, 106, 107, 108, 109, 110, 111, 112, 113, 114, 115, 116, 117, 118, 119, 17, 120, 121, 122, 123, 124, 125, 25, 9, 11, 126, 127, 128, 129, 24, 26, 130, 31, 32, 33, 131, 132, 133, 134, 135, 136, 137, 138, 139, 140, 141, 142, 143, 144, 145, 146, 147, 148, 149, 150, 151, 152, 153, 154, 155, 156, 157, 158, 159, 160, 161, 162, 163, 164, 165, 166, 167, 168, 169, 170, 171, 172, 173, 174, 175, 176, 177, 178, 179, 180, 181, 182, 183, 184, 185, 186, 187, 188, 189, 190, 191, 192, 193, 194, 195, 196, 197, 198, 199, 200, 201, 202, 203, 204, 205, 206, 38, 207, 208, 209, 210, 211, 212, 213, 214, 215, 216, 217, 218, 219, 220, 221, 222, 223, 224, 225, 226, 227, 228, 229, 230, 231, 232, 233, 234, 235, 236, 237, 238, 239, 240, 241, 242, 243, 244, 245, 246, 247, 248, 249, 250, 251, 252, 253, 254, 255, 256, 257, 258, 259, 260, 261, 262, 263, 264, 269, 270, 271, 272, 273, 274, 275, 276, 277, 278, 279, 280, 281, 282, 291, 292, 293, 283, 284, 285, 286, 287, 288, 289, 290, 294, 295, 296, 297, 298, 299, 300, 301, 302, 303, 304, 305, 306, 307, 308, 309, 310, 311, 312, 313, 314, 315] (by decide +kernel) (by decide +kernel)
set_option maxRecDepth 20000 in
theorem gX8_takeOut_X8_settle : GoodIn wsX8_takeOut (wsV RX8 84 RX8 yX8_settle wsX8_settle) := goodIn_app (goodIn_of _ (by decide +kernel)) ggX8_takeOut_X8_settle
set_option maxRecDepth 20000 in
theorem ggX8_takeOut_X6_height : GoodIn wsX8_takeOut wsX6_height := goodIn_r _ [268, 25, 283, 284, 285, 286, 287, 288, 289, 290] (by decide +kernel) (by decide +kernel)
set_option maxRecDepth 20000 in
theorem gX8_takeOut_X6_height : GoodIn wsX8_takeOut (wsV RX8 190 RX6 yX6_height wsX6_height) := goodIn_app (goodIn_of _ (by decide +kernel)) ggX8_takeOut_X6_height
theorem dX8_takeOut_0 : decode cX8_takeOut 0 = .ok (.aload_n 0, 1) := by decide +kernel
theorem dX8_takeOut_1 : decode cX8_takeOut 1 = .ok (.getfield 10, 3) := by decide +kernel
theorem dX8_takeOut_4 : decode cX8_takeOut 4 = .ok (.iload_n 1, 1) := by decide +kernel
theorem dX8_takeOut_5 : decode cX8_takeOut 5 = .ok (.invokevirtual 87, 3) := by decide +kernel
theorem dX8_takeOut_8 : decode cX8_takeOut 8 = .ok (.ifCond .ne 5, 3) := by decide +kernel
theorem dX8_takeOut_11 : decode cX8_takeOut 11 = .ok (.iconst (-1), 1) := by decide +kernel
theorem dX8_takeOut_12 : decode cX8_takeOut 12 = .ok (.ireturn, 1) := by decide +kernel
theorem dX8_takeOut_13 : decode cX8_takeOut 13 = .ok (.aload_n 0, 1) := by decide +kernel
theorem dX8_takeOut_14 : decode cX8_takeOut 14 = .ok (.getfield 28, 3) := by decide +kernel
theorem dX8_takeOut_17 : decode cX8_takeOut 17 = .ok (.iload_n 1, 1) := by decide +kernel
theorem dX8_takeOut_18 : decode cX8_takeOut 18 = .ok (.invokevirtual 182, 3) := by decide +kernel
theorem dX8_takeOut_21 : decode cX8_takeOut 21 = .ok (.istore_n 2, 1) := by decide +kernel
theorem dX8_takeOut_22 : decode cX8_takeOut 22 = .ok (.iload_n 2, 1) := by decide +kernel
theorem dX8_takeOut_23 : decode cX8_takeOut 23 = .ok (.iconst (-1), 1) := by decide +kernel
theorem dX8_takeOut_24 : decode cX8_takeOut 24 = .ok (.if_icmp .ne 6, 3) := by decide +kernel
theorem dX8_takeOut_27 : decode cX8_takeOut 27 = .ok (.bipush (-2), 2) := by decide +kernel
theorem dX8_takeOut_29 : decode cX8_takeOut 29 = .ok (.ireturn, 1) := by decide +kernel
theorem dX8_takeOut_30 : decode cX8_takeOut 30 = .ok (.aload_n 0, 1) := by decide +kernel
theorem dX8_takeOut_31 : decode cX8_takeOut 31 = .ok (.getfield 28, 3) := by decide +kernel
theorem dX8_takeOut_34 : decode cX8_takeOut 34 = .ok (.iload_n 1, 1) := by decide +kernel
theorem dX8_takeOut_35 : decode cX8_takeOut 35 = .ok (.invokevirtual 196, 3) := by decide +kernel
theorem dX8_takeOut_38 : decode cX8_takeOut 38 = .ok (.aload_n 0, 1) := by decide +kernel
theorem dX8_takeOut_39 : decode cX8_takeOut 39 = .ok (.invokevirtual 84, 3) := by decide +kernel
theorem dX8_takeOut_42 : decode cX8_takeOut 42 = .ok (.aload_n 0, 1) := by decide +kernel
theorem dX8_takeOut_43 : decode cX8_takeOut 43 = .ok (.getfield 28, 3) := by decide +kernel
theorem dX8_takeOut_46 : decode cX8_takeOut 46 = .ok (.iload_n 2, 1) := by decide +kernel
theorem dX8_takeOut_47 : decode cX8_takeOut 47 = .ok (.invokevirtual 190, 3) := by decide +kernel
theorem dX8_takeOut_50 : decode cX8_takeOut 50 = .ok (.ireturn, 1) := by decide +kernel
set_option maxRecDepth 20000 in
theorem ggX8_chooseCover_X6_has : GoodIn wsX8_chooseCover wsX6_has := goodIn_r _ [7, 8, 9, 10, 11, 266, 267, 268, 269, 270, 271, 272, 273] (by decide +kernel) (by decide +kernel)
set_option maxRecDepth 20000 in
theorem gX8_chooseCover_X6_has : GoodIn wsX8_chooseCover (wsV RX8 189 RX6 yX6_has wsX6_has) := goodIn_app (goodIn_of _ (by decide +kernel)) ggX8_chooseCover_X6_has
set_option maxRecDepth 20000 in
theorem ggX8_chooseCover_X1_has : GoodIn wsX8_chooseCover wsX1_has := goodIn_r _ [16, 17, 9, 10, 11, 18, 19, 274, 275, 276, 277, 278, 279] (by decide +kernel) (by decide +kernel)
set_option maxRecDepth 20000 in
theorem gX8_chooseCover_X1_has : GoodIn wsX8_chooseCover (wsV RX8 87 RX1 yX1_has wsX1_has) := goodIn_app (goodIn_of _ (by decide +kernel)) ggX8_chooseCover_X1_has
set_option maxRecDepth 20000 in
theorem ggX8_chooseCover_X6_home : GoodIn wsX8_chooseCover wsX6_home := goodIn_r _ [23, 24, 266, 267, 268, 269, 270, 271, 272, 273] (by decide +kernel) (by decide +kernel)
set_option maxRecDepth 20000 in
theorem gX8_chooseCover_X6_home : GoodIn wsX8_chooseCover (wsV RX8 182 RX6 yX6_home wsX6_home) := goodIn_app (goodIn_of _ (by decide +kernel)) ggX8_chooseCover_X6_home
set_option maxRecDepth 20000 in
theorem ggX8_chooseCover_X6_choose : GoodIn wsX8_chooseCover wsX6_choose := goodIn_r _ [28, 29, 266, 267, 268, 269, 270, 271, 272, 273] (by decide +kernel) (by decide +kernel)
set_option maxRecDepth 20000 in
theorem gX8_chooseCover_X6_choose : GoodIn wsX8_chooseCover (wsV RX8 199 RX6 yX6_choose wsX6_choose) := goodIn_app (goodIn_of _ (by decide +kernel)) ggX8_chooseCover_X6_choose
set_option maxRecDepth 20000 in
theorem ggX8_chooseCover_X8_settle : GoodIn wsX8_chooseCover wsX8_settle := goodIn_r _ [33, 2, 34, 1, 35, 36, 37, 38, 39, 40, 15, 41, 17, 18, 10, 19, 42, 43, 44, 45, 46, 47, 48, 49, 50, 51, 52, 53, 54, 55, 56, 57, 58, 59, 60, 61, 62, 63, 64, 65, 66, 67, 68, 69, 70, 71, 72, 73, 74, 75, 76, 77, 78, 79, 80, 81, 82, 83, 84, 85, 86, 87, 88, 89, 90, 91, 92, 93, 94, 95, 96, 97, 98, 99, 100, 101, 102, 103, 104, 105, 106, 107, 108, 109, 6, 110, 111, 112, 4, 5, 7, 8, 9, 11, 113, 114, 115, 116, 29, 117, 118, 119, 120, 121, 122, 123, 124, 125, 126, 127, 128, 129, 130, 131, 132, 133, 134, 135, 136, 137, 138, 139, 140, 141, 142, 143, 144, 145, 146, 147, 148, 149, 150, 151, 152, 153, 154, 155, 156, 157, 158, 159, 160, 161, 162, 163, 164, 165, 166, 167, 168, 169, 170, 171, 172, 173, 174, 175, 176, 177, 178, 179, 180, 181, 182, 183, 184, 185, 186, 187, 188, 189, 190, 191, 192, 193, 194, 195, 196, 197, 198, 199, 200, 201, 202, 203, 204, 205, 206, 207, 208, 209, 210, 211, 212, 213, 214, 215, 216, 217, 218, 219, 220, 221, 222, 223, 224, 225, 226, 227, 228, 229, 230, 231, 232, 233, 234, 235, 236, 237, 238, 239, 240, 241, 242, 243, 244, 245, 246, 247, 248, 249, 250, 251, 252, 253, 254, 255, 256, 258, 259, 260, 261, 262, 263, 264, 265, 274, 275, 276, 277, 278, 279, 280, 281, 282, 266, 267, 268, 269, 270, 271, 272, 273, 283, 284, 285, 286, 287, 288, 289, 290, 291, 292, 293, 294, 295, 296, 297, 298, 299, 300, 301, 302, 303, 304] (by decide +kernel) (by decide +kernel)
set_option maxRecDepth 20000 in
theorem gX8_chooseCover_X8_settle : GoodIn wsX8_chooseCover (wsV RX8 84 RX8 yX8_settle wsX8_settle) := goodIn_app (goodIn_of _ (by decide +kernel)) ggX8_chooseCover_X8_settle
set_option maxRecDepth 20000 in
theorem ggX8_chooseCover_X6_cover : GoodIn wsX8_chooseCover wsX6_cover := goodIn_r _ [116, 29, 117, 8, 118, 119, 120, 6, 121, 122, 93, 94, 15, 95, 46, 266, 267, 268, 269, 270, 271, 272, 273, 274, 275, 276, 277, 278, 279] (by decide +kernel) (by decide +kernel)
set_option maxRecDepth 20000 in
theorem gX8_chooseCover_X6_cover : GoodIn wsX8_chooseCover (wsV RX8 202 RX6 yX6_cover wsX6_cover) := goodIn_app (goodIn_of _ (by decide +kernel)) ggX8_chooseCover_X6_cover
theorem dX8_chooseCover_0 : decode cX8_chooseCover 0 = .ok (.aload_n 0, 1) := by decide +kernel
theorem dX8_chooseCover_1 : decode cX8_chooseCover 1 = .ok (.getfield 28, 3) := by decide +kernel
theorem dX8_chooseCover_4 : decode cX8_chooseCover 4 = .ok (.iload_n 1, 1) := by decide +kernel
theorem dX8_chooseCover_5 : decode cX8_chooseCover 5 = .ok (.invokevirtual 189, 3) := by decide +kernel
theorem dX8_chooseCover_8 : decode cX8_chooseCover 8 = .ok (.ifCond .eq 19, 3) := by decide +kernel
theorem dX8_chooseCover_11 : decode cX8_chooseCover 11 = .ok (.iload_n 2, 1) := by decide +kernel
theorem dX8_chooseCover_12 : decode cX8_chooseCover 12 = .ok (.iconst (-1), 1) := by decide +kernel
theorem dX8_chooseCover_13 : decode cX8_chooseCover 13 = .ok (.if_icmp .eq 16, 3) := by decide +kernel
theorem dX8_chooseCover_16 : decode cX8_chooseCover 16 = .ok (.aload_n 0, 1) := by decide +kernel
theorem dX8_chooseCover_17 : decode cX8_chooseCover 17 = .ok (.getfield 10, 3) := by decide +kernel
theorem dX8_chooseCover_20 : decode cX8_chooseCover 20 = .ok (.iload_n 2, 1) := by decide +kernel
theorem dX8_chooseCover_21 : decode cX8_chooseCover 21 = .ok (.invokevirtual 87, 3) := by decide +kernel
theorem dX8_chooseCover_24 : decode cX8_chooseCover 24 = .ok (.ifCond .ne 5, 3) := by decide +kernel
theorem dX8_chooseCover_27 : decode cX8_chooseCover 27 = .ok (.iconst (-1), 1) := by decide +kernel
theorem dX8_chooseCover_28 : decode cX8_chooseCover 28 = .ok (.ireturn, 1) := by decide +kernel
theorem dX8_chooseCover_29 : decode cX8_chooseCover 29 = .ok (.iload_n 2, 1) := by decide +kernel
theorem dX8_chooseCover_30 : decode cX8_chooseCover 30 = .ok (.iconst (-1), 1) := by decide +kernel
theorem dX8_chooseCover_31 : decode cX8_chooseCover 31 = .ok (.if_icmp .eq 18, 3) := by decide +kernel
theorem dX8_chooseCover_34 : decode cX8_chooseCover 34 = .ok (.aload_n 0, 1) := by decide +kernel
theorem dX8_chooseCover_35 : decode cX8_chooseCover 35 = .ok (.getfield 28, 3) := by decide +kernel
theorem dX8_chooseCover_38 : decode cX8_chooseCover 38 = .ok (.iload_n 2, 1) := by decide +kernel
theorem dX8_chooseCover_39 : decode cX8_chooseCover 39 = .ok (.invokevirtual 182, 3) := by decide +kernel
end
section
theorem dX8_chooseCover_42 : decode cX8_chooseCover 42 = .ok (.iload_n 1, 1) := by decide +kernel
theorem dX8_chooseCover_43 : decode cX8_chooseCover 43 = .ok (.if_icmp .eq 6, 3) := by decide +kernel
theorem dX8_chooseCover_46 : decode cX8_chooseCover 46 = .ok (.bipush (-2), 2) := by decide +kernel
theorem dX8_chooseCover_48 : decode cX8_chooseCover 48 = .ok (.ireturn, 1) := by decide +kernel
theorem dX8_chooseCover_49 : decode cX8_chooseCover 49 = .ok (.aload_n 0, 1) := by decide +kernel
theorem dX8_chooseCover_50 : decode cX8_chooseCover 50 = .ok (.getfield 28, 3) := by decide +kernel
theorem dX8_chooseCover_53 : decode cX8_chooseCover 53 = .ok (.iload_n 1, 1) := by decide +kernel
theorem dX8_chooseCover_54 : decode cX8_chooseCover 54 = .ok (.iload_n 2, 1) := by decide +kernel
theorem dX8_chooseCover_55 : decode cX8_chooseCover 55 = .ok (.invokevirtual 199, 3) := by decide +kernel
theorem dX8_chooseCover_58 : decode cX8_chooseCover 58 = .ok (.aload_n 0, 1) := by decide +kernel
theorem dX8_chooseCover_59 : decode cX8_chooseCover 59 = .ok (.invokevirtual 84, 3) := by decide +kernel
theorem dX8_chooseCover_62 : decode cX8_chooseCover 62 = .ok (.aload_n 0, 1) := by decide +kernel
theorem dX8_chooseCover_63 : decode cX8_chooseCover 63 = .ok (.getfield 28, 3) := by decide +kernel
theorem dX8_chooseCover_66 : decode cX8_chooseCover 66 = .ok (.iload_n 1, 1) := by decide +kernel
theorem dX8_chooseCover_67 : decode cX8_chooseCover 67 = .ok (.invokevirtual 202, 3) := by decide +kernel
theorem dX8_chooseCover_70 : decode cX8_chooseCover 70 = .ok (.ireturn, 1) := by decide +kernel
set_option maxRecDepth 20000 in
theorem ggX8_collapse_X6_has : GoodIn wsX8_collapse wsX6_has := goodIn_r _ [6, 7, 8, 9, 10, 29, 30, 31, 32, 33, 34, 35, 36] (by decide +kernel) (by decide +kernel)
set_option maxRecDepth 20000 in
theorem gX8_collapse_X6_has : GoodIn wsX8_collapse (wsV RX8 189 RX6 yX6_has wsX6_has) := goodIn_app (goodIn_of _ (by decide +kernel)) ggX8_collapse_X6_has
set_option maxRecDepth 20000 in
theorem ggX8_collapse_X8_isWithin : GoodIn wsX8_collapse wsX8_isWithin := goodIn_r _ [10] (by decide +kernel) (by decide +kernel)
set_option maxRecDepth 20000 in
theorem gX8_collapse_X8_isWithin : GoodIn wsX8_collapse (va_wsS RX8 71 yX8_isWithin wsX8_isWithin) := goodIn_app (goodIn_of _ (by decide +kernel)) ggX8_collapse_X8_isWithin
set_option maxRecDepth 20000 in
theorem ggX8_collapse_X6_isCollapsed : GoodIn wsX8_collapse wsX6_isCollapsed := goodIn_r _ [15, 16, 29, 30, 31, 32, 33, 34, 35, 36] (by decide +kernel) (by decide +kernel)
set_option maxRecDepth 20000 in
theorem gX8_collapse_X6_isCollapsed : GoodIn wsX8_collapse (wsV RX8 205 RX6 yX6_isCollapsed wsX6_isCollapsed) := goodIn_app (goodIn_of _ (by decide +kernel)) ggX8_collapse_X6_isCollapsed
set_option maxRecDepth 20000 in
theorem ggX8_collapse_X6_fold : GoodIn wsX8_collapse wsX6_fold := goodIn_r _ [20, 16, 29, 30, 31, 32, 33, 34, 35, 36] (by decide +kernel) (by decide +kernel)
set_option maxRecDepth 20000 in
theorem gX8_collapse_X6_fold : GoodIn wsX8_collapse (wsV RX8 208 RX6 yX6_fold wsX6_fold) := goodIn_app (goodIn_of _ (by decide +kernel)) ggX8_collapse_X6_fold
theorem dX8_collapse_0 : decode cX8_collapse 0 = .ok (.aload_n 0, 1) := by decide +kernel
theorem dX8_collapse_1 : decode cX8_collapse 1 = .ok (.getfield 28, 3) := by decide +kernel
theorem dX8_collapse_4 : decode cX8_collapse 4 = .ok (.iload_n 1, 1) := by decide +kernel
theorem dX8_collapse_5 : decode cX8_collapse 5 = .ok (.invokevirtual 189, 3) := by decide +kernel
theorem dX8_collapse_8 : decode cX8_collapse 8 = .ok (.ifCond .eq 12, 3) := by decide +kernel
theorem dX8_collapse_11 : decode cX8_collapse 11 = .ok (.iload_n 2, 1) := by decide +kernel
theorem dX8_collapse_12 : decode cX8_collapse 12 = .ok (.iconst 0, 1) := by decide +kernel
theorem dX8_collapse_13 : decode cX8_collapse 13 = .ok (.iconst 1, 1) := by decide +kernel
theorem dX8_collapse_14 : decode cX8_collapse 14 = .ok (.invokestatic 71, 3) := by decide +kernel
theorem dX8_collapse_17 : decode cX8_collapse 17 = .ok (.ifCond .ne 5, 3) := by decide +kernel
theorem dX8_collapse_20 : decode cX8_collapse 20 = .ok (.iconst (-1), 1) := by decide +kernel
theorem dX8_collapse_21 : decode cX8_collapse 21 = .ok (.ireturn, 1) := by decide +kernel
theorem dX8_collapse_22 : decode cX8_collapse 22 = .ok (.aload_n 0, 1) := by decide +kernel
theorem dX8_collapse_23 : decode cX8_collapse 23 = .ok (.getfield 28, 3) := by decide +kernel
theorem dX8_collapse_26 : decode cX8_collapse 26 = .ok (.iload_n 1, 1) := by decide +kernel
theorem dX8_collapse_27 : decode cX8_collapse 27 = .ok (.invokevirtual 205, 3) := by decide +kernel
theorem dX8_collapse_30 : decode cX8_collapse 30 = .ok (.ifCond .eq 7, 3) := by decide +kernel
theorem dX8_collapse_33 : decode cX8_collapse 33 = .ok (.iconst 1, 1) := by decide +kernel
theorem dX8_collapse_34 : decode cX8_collapse 34 = .ok (.goto 4, 3) := by decide +kernel
theorem dX8_collapse_37 : decode cX8_collapse 37 = .ok (.iconst 0, 1) := by decide +kernel
theorem dX8_collapse_38 : decode cX8_collapse 38 = .ok (.istore_n 3, 1) := by decide +kernel
theorem dX8_collapse_39 : decode cX8_collapse 39 = .ok (.aload_n 0, 1) := by decide +kernel
theorem dX8_collapse_40 : decode cX8_collapse 40 = .ok (.getfield 28, 3) := by decide +kernel
theorem dX8_collapse_43 : decode cX8_collapse 43 = .ok (.iload_n 1, 1) := by decide +kernel
theorem dX8_collapse_44 : decode cX8_collapse 44 = .ok (.iload_n 2, 1) := by decide +kernel
theorem dX8_collapse_45 : decode cX8_collapse 45 = .ok (.iconst 1, 1) := by decide +kernel
theorem dX8_collapse_46 : decode cX8_collapse 46 = .ok (.if_icmp .ne 7, 3) := by decide +kernel
theorem dX8_collapse_49 : decode cX8_collapse 49 = .ok (.iconst 1, 1) := by decide +kernel
theorem dX8_collapse_50 : decode cX8_collapse 50 = .ok (.goto 4, 3) := by decide +kernel
theorem dX8_collapse_53 : decode cX8_collapse 53 = .ok (.iconst 0, 1) := by decide +kernel
theorem dX8_collapse_54 : decode cX8_collapse 54 = .ok (.invokevirtual 208, 3) := by decide +kernel
theorem dX8_collapse_57 : decode cX8_collapse 57 = .ok (.iload_n 3, 1) := by decide +kernel
theorem dX8_collapse_58 : decode cX8_collapse 58 = .ok (.ireturn, 1) := by decide +kernel
set_option maxRecDepth 20000 in
theorem ggX8_stackOf_X1_has : GoodIn wsX8_stackOf wsX1_has := goodIn_r _ [7, 8, 9, 10, 11, 12, 13, 31, 32, 33, 34, 35, 36] (by decide +kernel) (by decide +kernel)
set_option maxRecDepth 20000 in
theorem gX8_stackOf_X1_has : GoodIn wsX8_stackOf (wsV RX8 87 RX1 yX1_has wsX1_has) := goodIn_app (goodIn_of _ (by decide +kernel)) ggX8_stackOf_X1_has
set_option maxRecDepth 20000 in
theorem ggX8_stackOf_X6_home : GoodIn wsX8_stackOf wsX6_home := goodIn_r _ [18, 19, 37, 38, 39, 40, 41, 42, 43, 44] (by decide +kernel) (by decide +kernel)
set_option maxRecDepth 20000 in
theorem gX8_stackOf_X6_home : GoodIn wsX8_stackOf (wsV RX8 182 RX6 yX6_home wsX6_home) := goodIn_app (goodIn_of _ (by decide +kernel)) ggX8_stackOf_X6_home
set_option maxRecDepth 20000 in
theorem ggX8_stackOf_X8_orNotFound : GoodIn wsX8_stackOf wsX8_orNotFound := goodIn_r _ [22] (by decide +kernel) (by decide +kernel)
set_option maxRecDepth 20000 in
theorem gX8_stackOf_X8_orNotFound : GoodIn wsX8_stackOf (va_wsS RX8 124 yX8_orNotFound wsX8_orNotFound) := goodIn_app (goodIn_of _ (by decide +kernel)) ggX8_stackOf_X8_orNotFound
theorem dX8_stackOf_0 : decode cX8_stackOf 0 = .ok (.aload_n 0, 1) := by decide +kernel
theorem dX8_stackOf_1 : decode cX8_stackOf 1 = .ok (.getfield 10, 3) := by decide +kernel
theorem dX8_stackOf_4 : decode cX8_stackOf 4 = .ok (.iload_n 1, 1) := by decide +kernel
theorem dX8_stackOf_5 : decode cX8_stackOf 5 = .ok (.invokevirtual 87, 3) := by decide +kernel
theorem dX8_stackOf_8 : decode cX8_stackOf 8 = .ok (.ifCond .ne 5, 3) := by decide +kernel
theorem dX8_stackOf_11 : decode cX8_stackOf 11 = .ok (.iconst (-1), 1) := by decide +kernel
theorem dX8_stackOf_12 : decode cX8_stackOf 12 = .ok (.ireturn, 1) := by decide +kernel
theorem dX8_stackOf_13 : decode cX8_stackOf 13 = .ok (.aload_n 0, 1) := by decide +kernel
theorem dX8_stackOf_14 : decode cX8_stackOf 14 = .ok (.getfield 28, 3) := by decide +kernel
theorem dX8_stackOf_17 : decode cX8_stackOf 17 = .ok (.iload_n 1, 1) := by decide +kernel
theorem dX8_stackOf_18 : decode cX8_stackOf 18 = .ok (.invokevirtual 182, 3) := by decide +kernel
theorem dX8_stackOf_21 : decode cX8_stackOf 21 = .ok (.invokestatic 124, 3) := by decide +kernel
theorem dX8_stackOf_24 : decode cX8_stackOf 24 = .ok (.ireturn, 1) := by decide +kernel
set_option maxRecDepth 20000 in
theorem ggX8_coverOf_X6_has : GoodIn wsX8_coverOf wsX6_has := goodIn_r _ [6, 7, 8, 9, 10, 35, 36, 37, 38, 39, 40, 41, 42] (by decide +kernel) (by decide +kernel)
set_option maxRecDepth 20000 in
theorem gX8_coverOf_X6_has : GoodIn wsX8_coverOf (wsV RX8 189 RX6 yX6_has wsX6_has) := goodIn_app (goodIn_of _ (by decide +kernel)) ggX8_coverOf_X6_has
set_option maxRecDepth 20000 in
theorem ggX8_coverOf_X6_cover : GoodIn wsX8_coverOf wsX6_cover := goodIn_r _ [14, 15, 16, 7, 17, 18, 19, 5, 20, 21, 22, 23, 24, 25, 26, 35, 36, 37, 38, 39, 40, 41, 42, 43, 44, 45, 46, 47, 48] (by decide +kernel) (by decide +kernel)
set_option maxRecDepth 20000 in
theorem gX8_coverOf_X6_cover : GoodIn wsX8_coverOf (wsV RX8 202 RX6 yX6_cover wsX6_cover) := goodIn_app (goodIn_of _ (by decide +kernel)) ggX8_coverOf_X6_cover
theorem dX8_coverOf_0 : decode cX8_coverOf 0 = .ok (.aload_n 0, 1) := by decide +kernel
theorem dX8_coverOf_1 : decode cX8_coverOf 1 = .ok (.getfield 28, 3) := by decide +kernel
theorem dX8_coverOf_4 : decode cX8_coverOf 4 = .ok (.iload_n 1, 1) := by decide +kernel
theorem dX8_coverOf_5 : decode cX8_coverOf 5 = .ok (.invokevirtual 189, 3) := by decide +kernel
theorem dX8_coverOf_8 : decode cX8_coverOf 8 = .ok (.ifCond .ne 5, 3) := by decide +kernel
theorem dX8_coverOf_11 : decode cX8_coverOf 11 = .ok (.iconst (-1), 1) := by decide +kernel
theorem dX8_coverOf_12 : decode cX8_coverOf 12 = .ok (.ireturn, 1) := by decide +kernel
theorem dX8_coverOf_13 : decode cX8_coverOf 13 = .ok (.aload_n 0, 1) := by decide +kernel
theorem dX8_coverOf_14 : decode cX8_coverOf 14 = .ok (.getfield 28, 3) := by decide +kernel
theorem dX8_coverOf_17 : decode cX8_coverOf 17 = .ok (.iload_n 1, 1) := by decide +kernel
theorem dX8_coverOf_18 : decode cX8_coverOf 18 = .ok (.invokevirtual 202, 3) := by decide +kernel
theorem dX8_coverOf_21 : decode cX8_coverOf 21 = .ok (.ireturn, 1) := by decide +kernel
set_option maxRecDepth 20000 in
theorem ggX8_stackAt_X6_has : GoodIn wsX8_stackAt wsX6_has := goodIn_r _ [6, 7, 8, 9, 10, 30, 31, 32, 33, 34, 35, 36, 37] (by decide +kernel) (by decide +kernel)
set_option maxRecDepth 20000 in
theorem gX8_stackAt_X6_has : GoodIn wsX8_stackAt (wsV RX8 189 RX6 yX6_has wsX6_has) := goodIn_app (goodIn_of _ (by decide +kernel)) ggX8_stackAt_X6_has
set_option maxRecDepth 20000 in
theorem ggX8_stackAt_X6_fileAt : GoodIn wsX8_stackAt wsX6_fileAt := goodIn_r _ [14, 7, 15, 16, 17, 5, 18, 30, 31, 32, 33, 34, 35, 36, 37] (by decide +kernel) (by decide +kernel)
set_option maxRecDepth 20000 in
theorem gX8_stackAt_X6_fileAt : GoodIn wsX8_stackAt (wsV RX8 212 RX6 yX6_fileAt wsX6_fileAt) := goodIn_app (goodIn_of _ (by decide +kernel)) ggX8_stackAt_X6_fileAt
set_option maxRecDepth 20000 in
theorem ggX8_stackAt_X8_orNotFound : GoodIn wsX8_stackAt wsX8_orNotFound := goodIn_r _ [21] (by decide +kernel) (by decide +kernel)
set_option maxRecDepth 20000 in
theorem gX8_stackAt_X8_orNotFound : GoodIn wsX8_stackAt (va_wsS RX8 124 yX8_orNotFound wsX8_orNotFound) := goodIn_app (goodIn_of _ (by decide +kernel)) ggX8_stackAt_X8_orNotFound
theorem dX8_stackAt_0 : decode cX8_stackAt 0 = .ok (.aload_n 0, 1) := by decide +kernel
theorem dX8_stackAt_1 : decode cX8_stackAt 1 = .ok (.getfield 28, 3) := by decide +kernel
theorem dX8_stackAt_4 : decode cX8_stackAt 4 = .ok (.iload_n 1, 1) := by decide +kernel
theorem dX8_stackAt_5 : decode cX8_stackAt 5 = .ok (.invokevirtual 189, 3) := by decide +kernel
theorem dX8_stackAt_8 : decode cX8_stackAt 8 = .ok (.ifCond .eq 7, 3) := by decide +kernel
theorem dX8_stackAt_11 : decode cX8_stackAt 11 = .ok (.iload_n 2, 1) := by decide +kernel
theorem dX8_stackAt_12 : decode cX8_stackAt 12 = .ok (.ifCond .ge 5, 3) := by decide +kernel
theorem dX8_stackAt_15 : decode cX8_stackAt 15 = .ok (.iconst (-1), 1) := by decide +kernel
theorem dX8_stackAt_16 : decode cX8_stackAt 16 = .ok (.ireturn, 1) := by decide +kernel
theorem dX8_stackAt_17 : decode cX8_stackAt 17 = .ok (.aload_n 0, 1) := by decide +kernel
theorem dX8_stackAt_18 : decode cX8_stackAt 18 = .ok (.getfield 28, 3) := by decide +kernel
theorem dX8_stackAt_21 : decode cX8_stackAt 21 = .ok (.iload_n 1, 1) := by decide +kernel
theorem dX8_stackAt_22 : decode cX8_stackAt 22 = .ok (.iload_n 2, 1) := by decide +kernel
theorem dX8_stackAt_23 : decode cX8_stackAt 23 = .ok (.invokevirtual 212, 3) := by decide +kernel
theorem dX8_stackAt_26 : decode cX8_stackAt 26 = .ok (.invokestatic 124, 3) := by decide +kernel
theorem dX8_stackAt_29 : decode cX8_stackAt 29 = .ok (.ireturn, 1) := by decide +kernel
set_option maxRecDepth 20000 in
theorem ggX8_type_X8_isWithin : GoodIn wsX8_type wsX8_isWithin := goodIn_r _ [5] (by decide +kernel) (by decide +kernel)
set_option maxRecDepth 20000 in
theorem gX8_type_X8_isWithin : GoodIn wsX8_type (va_wsS RX8 71 yX8_isWithin wsX8_isWithin) := goodIn_app (goodIn_of _ (by decide +kernel)) ggX8_type_X8_isWithin
set_option maxRecDepth 20000 in
theorem ggX8_type_X5_length : GoodIn wsX8_type wsX5_length := goodIn_r _ [10, 11, 25, 26] (by decide +kernel) (by decide +kernel)
set_option maxRecDepth 20000 in
theorem gX8_type_X5_length : GoodIn wsX8_type (wsV RX8 215 RX5 yX5_length wsX5_length) := goodIn_app (goodIn_of _ (by decide +kernel)) ggX8_type_X5_length
set_option maxRecDepth 20000 in
theorem ggX8_type_X5_append : GoodIn wsX8_type wsX5_append := goodIn_r _ [15, 11, 16, 25, 26] (by decide +kernel) (by decide +kernel)
set_option maxRecDepth 20000 in
theorem gX8_type_X5_append : GoodIn wsX8_type (wsV RX8 218 RX5 yX5_append wsX5_append) := goodIn_app (goodIn_of _ (by decide +kernel)) ggX8_type_X5_append
theorem dX8_type_0 : decode cX8_type 0 = .ok (.iload_n 1, 1) := by decide +kernel
theorem dX8_type_1 : decode cX8_type 1 = .ok (.bipush 33, 2) := by decide +kernel
theorem dX8_type_3 : decode cX8_type 3 = .ok (.bipush 126, 2) := by decide +kernel
theorem dX8_type_5 : decode cX8_type 5 = .ok (.invokestatic 71, 3) := by decide +kernel
theorem dX8_type_8 : decode cX8_type 8 = .ok (.ifCond .ne 5, 3) := by decide +kernel
theorem dX8_type_11 : decode cX8_type 11 = .ok (.iconst (-1), 1) := by decide +kernel
theorem dX8_type_12 : decode cX8_type 12 = .ok (.ireturn, 1) := by decide +kernel
theorem dX8_type_13 : decode cX8_type 13 = .ok (.aload_n 0, 1) := by decide +kernel
theorem dX8_type_14 : decode cX8_type 14 = .ok (.getfield 35, 3) := by decide +kernel
theorem dX8_type_17 : decode cX8_type 17 = .ok (.invokevirtual 215, 3) := by decide +kernel
theorem dX8_type_20 : decode cX8_type 20 = .ok (.bipush 80, 2) := by decide +kernel
theorem dX8_type_22 : decode cX8_type 22 = .ok (.if_icmp .ne 6, 3) := by decide +kernel
theorem dX8_type_25 : decode cX8_type 25 = .ok (.bipush (-3), 2) := by decide +kernel
theorem dX8_type_27 : decode cX8_type 27 = .ok (.ireturn, 1) := by decide +kernel
theorem dX8_type_28 : decode cX8_type 28 = .ok (.aload_n 0, 1) := by decide +kernel
theorem dX8_type_29 : decode cX8_type 29 = .ok (.getfield 35, 3) := by decide +kernel
theorem dX8_type_32 : decode cX8_type 32 = .ok (.iload_n 1, 1) := by decide +kernel
theorem dX8_type_33 : decode cX8_type 33 = .ok (.i2c, 1) := by decide +kernel
theorem dX8_type_34 : decode cX8_type 34 = .ok (.invokevirtual 218, 3) := by decide +kernel
theorem dX8_type_37 : decode cX8_type 37 = .ok (.aload_n 0, 1) := by decide +kernel
theorem dX8_type_38 : decode cX8_type 38 = .ok (.getfield 35, 3) := by decide +kernel
theorem dX8_type_41 : decode cX8_type 41 = .ok (.invokevirtual 215, 3) := by decide +kernel
theorem dX8_type_44 : decode cX8_type 44 = .ok (.ireturn, 1) := by decide +kernel
set_option maxRecDepth 20000 in
theorem ggX8_clearRule_X5_length : GoodIn wsX8_clearRule wsX5_length := goodIn_r _ [6, 7, 20, 21] (by decide +kernel) (by decide +kernel)
set_option maxRecDepth 20000 in
theorem gX8_clearRule_X5_length : GoodIn wsX8_clearRule (wsV RX8 215 RX5 yX5_length wsX5_length) := goodIn_app (goodIn_of _ (by decide +kernel)) ggX8_clearRule_X5_length
set_option maxRecDepth 20000 in
theorem ggX8_clearRule_X5_empty : GoodIn wsX8_clearRule wsX5_empty := goodIn_r _ [11, 7, 20, 21] (by decide +kernel) (by decide +kernel)
set_option maxRecDepth 20000 in
theorem gX8_clearRule_X5_empty : GoodIn wsX8_clearRule (wsV RX8 222 RX5 yX5_empty wsX5_empty) := goodIn_app (goodIn_of _ (by decide +kernel)) ggX8_clearRule_X5_empty
theorem dX8_clearRule_0 : decode cX8_clearRule 0 = .ok (.aload_n 0, 1) := by decide +kernel
theorem dX8_clearRule_1 : decode cX8_clearRule 1 = .ok (.getfield 35, 3) := by decide +kernel
theorem dX8_clearRule_4 : decode cX8_clearRule 4 = .ok (.invokevirtual 215, 3) := by decide +kernel
theorem dX8_clearRule_7 : decode cX8_clearRule 7 = .ok (.istore_n 1, 1) := by decide +kernel
theorem dX8_clearRule_8 : decode cX8_clearRule 8 = .ok (.aload_n 0, 1) := by decide +kernel
theorem dX8_clearRule_9 : decode cX8_clearRule 9 = .ok (.getfield 35, 3) := by decide +kernel
theorem dX8_clearRule_12 : decode cX8_clearRule 12 = .ok (.invokevirtual 222, 3) := by decide +kernel
theorem dX8_clearRule_15 : decode cX8_clearRule 15 = .ok (.iload_n 1, 1) := by decide +kernel
theorem dX8_clearRule_16 : decode cX8_clearRule 16 = .ok (.ireturn, 1) := by decide +kernel
set_option maxRecDepth 20000 in
theorem ggX8_satisfies_X1_has : GoodIn wsX8_satisfies wsX1_has := goodIn_r _ [8, 9, 10, 11, 12, 13, 14, 177, 178, 179, 180, 181, 182] (by decide +kernel) (by decide +kernel)
set_option maxRecDepth 20000 in
theorem gX8_satisfies_X1_has : GoodIn wsX8_satisfies (wsV RX8 87 RX1 yX1_has wsX1_has) := goodIn_app (goodIn_of _ (by decide +kernel)) ggX8_satisfies_X1_has
set_option maxRecDepth 20000 in
theorem ggX8_satisfies_X8_isTextUsable : GoodIn wsX8_satisfies wsX8_isTextUsable := goodIn_r _ [18, 3, 19, 20, 21, 22, 23, 24, 25, 26, 27, 28, 29, 30, 31, 32, 33, 34, 35, 36, 37, 38, 39, 40, 41, 42, 43, 44, 45, 46, 47, 48, 49, 50, 51, 52, 53, 54, 55, 56, 57, 11, 58, 59, 60, 10, 12, 61, 62, 63, 64, 65, 66, 169, 170, 171, 172, 173, 174, 175, 176, 183, 184, 185, 186, 187, 188, 189, 190, 191] (by decide +kernel) (by decide +kernel)
set_option maxRecDepth 20000 in
theorem gX8_satisfies_X8_isTextUsable : GoodIn wsX8_satisfies (wsV RX8 228 RX8 yX8_isTextUsable wsX8_isTextUsable) := goodIn_app (goodIn_of _ (by decide +kernel)) ggX8_satisfies_X8_isTextUsable
set_option maxRecDepth 20000 in
theorem ggX8_satisfies_X4_filesFor : GoodIn wsX8_satisfies wsX4_filesFor := goodIn_r _ [71, 72, 73, 74, 75, 76, 77, 70, 78, 79, 80, 81, 82, 83, 7, 84, 9, 85, 86, 87, 22, 88, 24, 89, 52, 53, 54, 25, 90, 91, 92, 93, 94, 95, 96, 97, 98, 99, 51, 38, 39, 40, 100, 101, 102, 103, 13, 11, 14, 104, 105, 106, 107, 108, 109, 110, 111, 112, 113, 114, 115, 10, 12, 116, 117, 118, 64, 119, 120, 121, 122, 123, 124, 125, 126, 127, 128, 129, 130, 131, 132, 133, 134, 135, 136, 137, 138, 139, 140, 141, 142, 143, 144, 145, 146, 147, 33, 34, 148, 149, 150, 151, 152, 153, 154, 155, 156, 157, 158, 159, 160, 161, 162, 163, 164, 165, 166, 167, 192, 193, 194, 195, 196, 197, 198, 199, 177, 178, 179, 180, 181, 182, 183, 184, 185, 186, 187, 188, 189, 190, 191, 200, 201, 202, 203, 204, 205, 206, 207, 208, 209, 210] (by decide +kernel) (by decide +kernel)
set_option maxRecDepth 20000 in
theorem gX8_satisfies_X4_filesFor : GoodIn wsX8_satisfies (wsV RX8 231 RX4 yX4_filesFor wsX4_filesFor) := goodIn_app (goodIn_of _ (by decide +kernel)) ggX8_satisfies_X4_filesFor
set_option maxRecDepth 20000 in
theorem ggX8_satisfies_X8_holds : GoodIn wsX8_satisfies wsX8_holds := goodIn_r _ [14] (by decide +kernel) (by decide +kernel)
set_option maxRecDepth 20000 in
theorem gX8_satisfies_X8_holds : GoodIn wsX8_satisfies (va_wsS RX8 178 yX8_holds wsX8_holds) := goodIn_app (goodIn_of _ (by decide +kernel)) ggX8_satisfies_X8_holds
theorem dX8_satisfies_0 : decode cX8_satisfies 0 = .ok (.aload_n 0, 1) := by decide +kernel
theorem dX8_satisfies_1 : decode cX8_satisfies 1 = .ok (.getfield 10, 3) := by decide +kernel
theorem dX8_satisfies_4 : decode cX8_satisfies 4 = .ok (.iload_n 1, 1) := by decide +kernel
theorem dX8_satisfies_5 : decode cX8_satisfies 5 = .ok (.invokevirtual 87, 3) := by decide +kernel
theorem dX8_satisfies_8 : decode cX8_satisfies 8 = .ok (.ifCond .ne 5, 3) := by decide +kernel
theorem dX8_satisfies_11 : decode cX8_satisfies 11 = .ok (.iconst (-1), 1) := by decide +kernel
theorem dX8_satisfies_12 : decode cX8_satisfies 12 = .ok (.ireturn, 1) := by decide +kernel
theorem dX8_satisfies_13 : decode cX8_satisfies 13 = .ok (.aload_n 0, 1) := by decide +kernel
theorem dX8_satisfies_14 : decode cX8_satisfies 14 = .ok (.bipush 8, 2) := by decide +kernel
theorem dX8_satisfies_16 : decode cX8_satisfies 16 = .ok (.invokevirtual 228, 3) := by decide +kernel
theorem dX8_satisfies_19 : decode cX8_satisfies 19 = .ok (.ifCond .ne 6, 3) := by decide +kernel
theorem dX8_satisfies_22 : decode cX8_satisfies 22 = .ok (.bipush (-2), 2) := by decide +kernel
theorem dX8_satisfies_24 : decode cX8_satisfies 24 = .ok (.ireturn, 1) := by decide +kernel
theorem dX8_satisfies_25 : decode cX8_satisfies 25 = .ok (.aload_n 0, 1) := by decide +kernel
theorem dX8_satisfies_26 : decode cX8_satisfies 26 = .ok (.getfield 51, 3) := by decide +kernel
theorem dX8_satisfies_29 : decode cX8_satisfies 29 = .ok (.aload_n 0, 1) := by decide +kernel
theorem dX8_satisfies_30 : decode cX8_satisfies 30 = .ok (.getfield 35, 3) := by decide +kernel
theorem dX8_satisfies_33 : decode cX8_satisfies 33 = .ok (.invokevirtual 231, 3) := by decide +kernel
theorem dX8_satisfies_36 : decode cX8_satisfies 36 = .ok (.iload_n 1, 1) := by decide +kernel
theorem dX8_satisfies_37 : decode cX8_satisfies 37 = .ok (.invokestatic 178, 3) := by decide +kernel
theorem dX8_satisfies_40 : decode cX8_satisfies 40 = .ok (.ifCond .eq 7, 3) := by decide +kernel
theorem dX8_satisfies_43 : decode cX8_satisfies 43 = .ok (.iconst 1, 1) := by decide +kernel
theorem dX8_satisfies_44 : decode cX8_satisfies 44 = .ok (.goto 4, 3) := by decide +kernel
theorem dX8_satisfies_47 : decode cX8_satisfies 47 = .ok (.iconst 0, 1) := by decide +kernel
theorem dX8_satisfies_48 : decode cX8_satisfies 48 = .ok (.ireturn, 1) := by decide +kernel
set_option maxRecDepth 20000 in
theorem ggX8_select_X8_isTextUsable : GoodIn wsX8_select wsX8_isTextUsable := goodIn_r _ [7, 2, 8, 9, 10, 11, 12, 13, 14, 15, 16, 17, 18, 19, 20, 21, 22, 23, 24, 25, 26, 27, 28, 29, 30, 31, 32, 33, 34, 35, 36, 37, 38, 39, 40, 41, 42, 43, 44, 45, 46, 6, 47, 48, 49, 50, 51, 52, 53, 54, 55, 56, 57, 170, 171, 172, 173, 174, 175, 176, 177, 178, 179, 180, 181, 182, 183, 184, 185, 186] (by decide +kernel) (by decide +kernel)
set_option maxRecDepth 20000 in
theorem gX8_select_X8_isTextUsable : GoodIn wsX8_select (wsV RX8 228 RX8 yX8_isTextUsable wsX8_isTextUsable) := goodIn_app (goodIn_of _ (by decide +kernel)) ggX8_select_X8_isTextUsable
set_option maxRecDepth 20000 in
theorem ggX8_select_X4_filesFor : GoodIn wsX8_select wsX4_filesFor := goodIn_r _ [62, 63, 64, 65, 66, 67, 68, 61, 69, 70, 71, 72, 73, 74, 75, 76, 77, 78, 79, 80, 11, 81, 13, 82, 41, 42, 43, 14, 83, 84, 85, 86, 87, 88, 89, 90, 91, 92, 40, 27, 28, 29, 93, 94, 95, 96, 97, 6, 98, 99, 100, 101, 102, 103, 104, 105, 106, 107, 108, 109, 110, 50, 51, 111, 112, 113, 55, 114, 115, 116, 117, 118, 119, 120, 121, 122, 123, 124, 125, 126, 127, 128, 129, 130, 131, 132, 133, 134, 135, 136, 137, 138, 139, 140, 141, 142, 22, 23, 143, 144, 145, 146, 147, 148, 149, 150, 151, 152, 153, 154, 155, 156, 157, 158, 159, 160, 161, 162, 187, 188, 189, 190, 191, 192, 193, 194, 195, 196, 197, 198, 199, 200, 178, 179, 180, 181, 182, 183, 184, 185, 186, 201, 202, 203, 204, 205, 206, 207, 208, 209, 210, 211] (by decide +kernel) (by decide +kernel)
set_option maxRecDepth 20000 in
theorem gX8_select_X4_filesFor : GoodIn wsX8_select (wsV RX8 231 RX4 yX4_filesFor wsX4_filesFor) := goodIn_app (goodIn_of _ (by decide +kernel)) ggX8_select_X4_filesFor
set_option maxRecDepth 20000 in
theorem ggX8_select_J13_bitCount_95d88 : GoodIn wsX8_select wsJ13_bitCount_95d88 := goodIn_r _ [166, 167, 168, 169] (by decide +kernel) (by decide +kernel)
set_option maxRecDepth 20000 in
theorem gX8_select_J13_bitCount_95d88 : GoodIn wsX8_select (va_wsS RX8 153 yJ13_bitCount_95d88 wsJ13_bitCount_95d88) := goodIn_app (goodIn_of _ (by decide +kernel)) ggX8_select_J13_bitCount_95d88
theorem dX8_select_0 : decode cX8_select 0 = .ok (.aload_n 0, 1) := by decide +kernel
theorem dX8_select_1 : decode cX8_select 1 = .ok (.bipush 8, 2) := by decide +kernel
theorem dX8_select_3 : decode cX8_select 3 = .ok (.invokevirtual 228, 3) := by decide +kernel
theorem dX8_select_6 : decode cX8_select 6 = .ok (.ifCond .ne 6, 3) := by decide +kernel
theorem dX8_select_9 : decode cX8_select 9 = .ok (.bipush (-2), 2) := by decide +kernel
theorem dX8_select_11 : decode cX8_select 11 = .ok (.ireturn, 1) := by decide +kernel
theorem dX8_select_12 : decode cX8_select 12 = .ok (.aload_n 0, 1) := by decide +kernel
theorem dX8_select_13 : decode cX8_select 13 = .ok (.getfield 51, 3) := by decide +kernel
theorem dX8_select_16 : decode cX8_select 16 = .ok (.aload_n 0, 1) := by decide +kernel
theorem dX8_select_17 : decode cX8_select 17 = .ok (.getfield 35, 3) := by decide +kernel
theorem dX8_select_20 : decode cX8_select 20 = .ok (.invokevirtual 231, 3) := by decide +kernel
theorem dX8_select_23 : decode cX8_select 23 = .ok (.invokestatic 153, 3) := by decide +kernel
theorem dX8_select_26 : decode cX8_select 26 = .ok (.ireturn, 1) := by decide +kernel
set_option maxRecDepth 20000 in
theorem ggX8_makeAlbum_X8_freeAlbum : GoodIn wsX8_makeAlbum wsX8_freeAlbum := goodIn_r _ [7, 8, 9, 10, 6, 11, 1, 12, 13, 14, 15, 16, 17, 18, 19, 20, 298, 299, 300, 301, 302, 303, 304, 305, 306, 307, 308, 309, 310, 311, 312] (by decide +kernel) (by decide +kernel)
set_option maxRecDepth 20000 in
theorem gX8_makeAlbum_X8_freeAlbum : GoodIn wsX8_makeAlbum (wsV RX8 235 RX8 yX8_freeAlbum wsX8_freeAlbum) := goodIn_app (goodIn_of _ (by decide +kernel)) ggX8_makeAlbum_X8_freeAlbum
set_option maxRecDepth 20000 in
theorem ggX8_makeAlbum_X8_isTextUsable : GoodIn wsX8_makeAlbum wsX8_isTextUsable := goodIn_r _ [24, 2, 25, 26, 27, 28, 29, 30, 31, 32, 33, 34, 35, 36, 37, 38, 39, 40, 41, 42, 43, 44, 45, 46, 47, 48, 49, 50, 51, 52, 53, 54, 55, 56, 57, 58, 59, 60, 8, 9, 10, 6, 11, 1, 12, 13, 14, 15, 16, 17, 18, 19, 20, 298, 299, 300, 301, 302, 303, 304, 305, 313, 314, 306, 307, 308, 309, 310, 311, 312] (by decide +kernel) (by decide +kernel)
set_option maxRecDepth 20000 in
theorem gX8_makeAlbum_X8_isTextUsable : GoodIn wsX8_makeAlbum (wsV RX8 228 RX8 yX8_isTextUsable wsX8_isTextUsable) := goodIn_app (goodIn_of _ (by decide +kernel)) ggX8_makeAlbum_X8_isTextUsable
set_option maxRecDepth 20000 in
theorem ggX8_makeAlbum_X0_begin : GoodIn wsX8_makeAlbum wsX0_begin := goodIn_r _ [64, 20, 65, 66, 67, 68, 69, 70, 18, 71, 72, 73, 74, 75, 76, 77, 78, 79, 80, 81, 28, 82, 31, 30, 83, 84, 85, 86, 306, 307, 308, 309, 310, 311, 312, 313, 314] (by decide +kernel) (by decide +kernel)
set_option maxRecDepth 20000 in
theorem gX8_makeAlbum_X0_begin : GoodIn wsX8_makeAlbum (wsV RX8 238 RX0 yX0_begin wsX0_begin) := goodIn_app (goodIn_of _ (by decide +kernel)) ggX8_makeAlbum_X0_begin
set_option maxRecDepth 20000 in
theorem ggX8_makeAlbum_X8_settle : GoodIn wsX8_makeAlbum wsX8_settle := goodIn_r _ [90, 91, 92, 93, 94, 1, 95, 96, 97, 98, 99, 100, 101, 102, 6, 103, 104, 105, 106, 107, 108, 109, 110, 111, 112, 113, 114, 115, 116, 117, 118, 119, 120, 121, 122, 123, 124, 125, 126, 127, 128, 129, 130, 131, 132, 133, 134, 135, 136, 137, 138, 139, 140, 141, 142, 143, 144, 145, 146, 147, 148, 149, 150, 151, 152, 153, 154, 155, 156, 157, 158, 159, 160, 161, 162, 163, 164, 165, 166, 167, 168, 169, 170, 171, 172, 173, 174, 175, 176, 177, 178, 179, 13, 14, 180, 181, 182, 183, 184, 185, 186, 187, 188, 189, 190, 8, 9, 10, 11, 12, 15, 16, 17, 18, 19, 20, 191, 192, 193, 194, 78, 195, 196, 197, 198, 199, 200, 201, 202, 203, 204, 205, 206, 207, 208, 209, 210, 211, 212, 28, 213, 30, 214, 58, 59, 60, 31, 215, 216, 217, 218, 219, 220, 221, 222, 223, 224, 57, 44, 45, 46, 225, 226, 227, 228, 229, 230, 231, 232, 233, 234, 235, 236, 237, 238, 65, 239, 240, 241, 242, 243, 244, 245, 246, 247, 248, 249, 250, 251, 252, 253, 254, 255, 256, 257, 258, 259, 260, 39, 40, 261, 262, 263, 264, 265, 266, 267, 268, 269, 270, 271, 272, 273, 274, 275, 276, 277, 278, 279, 280, 281, 282, 283, 284, 66, 67, 285, 286, 287, 288, 289, 290, 291, 292, 293, 294, 295, 296, 297, 298, 299, 300, 301, 302, 303, 304, 305, 315, 316, 317, 318, 319, 320, 321, 322, 323, 324, 325, 326, 327, 328, 329, 330, 331, 306, 307, 308, 309, 310, 311, 312, 332, 333, 334, 335, 336, 337, 338, 339, 313, 314, 340, 341, 342, 343, 344] (by decide +kernel) (by decide +kernel)
set_option maxRecDepth 20000 in
theorem gX8_makeAlbum_X8_settle : GoodIn wsX8_makeAlbum (wsV RX8 84 RX8 yX8_settle wsX8_settle) := goodIn_app (goodIn_of _ (by decide +kernel)) ggX8_makeAlbum_X8_settle
theorem dX8_makeAlbum_0 : decode cX8_makeAlbum 0 = .ok (.aload_n 0, 1) := by decide +kernel
theorem dX8_makeAlbum_1 : decode cX8_makeAlbum 1 = .ok (.invokevirtual 235, 3) := by decide +kernel
theorem dX8_makeAlbum_4 : decode cX8_makeAlbum 4 = .ok (.istore_n 1, 1) := by decide +kernel
theorem dX8_makeAlbum_5 : decode cX8_makeAlbum 5 = .ok (.aload_n 0, 1) := by decide +kernel
theorem dX8_makeAlbum_6 : decode cX8_makeAlbum 6 = .ok (.iload_n 1, 1) := by decide +kernel
theorem dX8_makeAlbum_7 : decode cX8_makeAlbum 7 = .ok (.invokevirtual 228, 3) := by decide +kernel
theorem dX8_makeAlbum_10 : decode cX8_makeAlbum 10 = .ok (.ifCond .ne 6, 3) := by decide +kernel
theorem dX8_makeAlbum_13 : decode cX8_makeAlbum 13 = .ok (.bipush (-2), 2) := by decide +kernel
theorem dX8_makeAlbum_15 : decode cX8_makeAlbum 15 = .ok (.ireturn, 1) := by decide +kernel
theorem dX8_makeAlbum_16 : decode cX8_makeAlbum 16 = .ok (.iload_n 1, 1) := by decide +kernel
theorem dX8_makeAlbum_17 : decode cX8_makeAlbum 17 = .ok (.bipush 8, 2) := by decide +kernel
theorem dX8_makeAlbum_19 : decode cX8_makeAlbum 19 = .ok (.if_icmp .ne 6, 3) := by decide +kernel
theorem dX8_makeAlbum_22 : decode cX8_makeAlbum 22 = .ok (.bipush (-3), 2) := by decide +kernel
theorem dX8_makeAlbum_24 : decode cX8_makeAlbum 24 = .ok (.ireturn, 1) := by decide +kernel
theorem dX8_makeAlbum_25 : decode cX8_makeAlbum 25 = .ok (.aload_n 0, 1) := by decide +kernel
theorem dX8_makeAlbum_26 : decode cX8_makeAlbum 26 = .ok (.getfield 41, 3) := by decide +kernel
theorem dX8_makeAlbum_29 : decode cX8_makeAlbum 29 = .ok (.iload_n 1, 1) := by decide +kernel
theorem dX8_makeAlbum_30 : decode cX8_makeAlbum 30 = .ok (.aaload, 1) := by decide +kernel
theorem dX8_makeAlbum_31 : decode cX8_makeAlbum 31 = .ok (.aload_n 0, 1) := by decide +kernel
theorem dX8_makeAlbum_32 : decode cX8_makeAlbum 32 = .ok (.getfield 35, 3) := by decide +kernel
theorem dX8_makeAlbum_35 : decode cX8_makeAlbum 35 = .ok (.invokevirtual 238, 3) := by decide +kernel
theorem dX8_makeAlbum_38 : decode cX8_makeAlbum 38 = .ok (.aload_n 0, 1) := by decide +kernel
theorem dX8_makeAlbum_39 : decode cX8_makeAlbum 39 = .ok (.invokevirtual 84, 3) := by decide +kernel
theorem dX8_makeAlbum_42 : decode cX8_makeAlbum 42 = .ok (.iload_n 1, 1) := by decide +kernel
theorem dX8_makeAlbum_43 : decode cX8_makeAlbum 43 = .ok (.ireturn, 1) := by decide +kernel
set_option maxRecDepth 20000 in
theorem ggX8_albumSize_X8_hasAlbum : GoodIn wsX8_albumSize wsX8_hasAlbum := goodIn_r _ [6, 1, 7, 8, 5, 9, 10, 11, 12, 13, 14, 15, 28, 29, 30, 31, 32, 33, 34, 35, 36, 37, 38, 39, 40, 41, 42] (by decide +kernel) (by decide +kernel)
set_option maxRecDepth 20000 in
theorem gX8_albumSize_X8_hasAlbum : GoodIn wsX8_albumSize (wsV RX8 241 RX8 yX8_hasAlbum wsX8_hasAlbum) := goodIn_app (goodIn_of _ (by decide +kernel)) ggX8_albumSize_X8_hasAlbum
set_option maxRecDepth 20000 in
theorem ggX8_albumSize_X0_members : GoodIn wsX8_albumSize wsX0_members := goodIn_r _ [19, 20, 36, 37, 38, 39, 40, 41, 42] (by decide +kernel) (by decide +kernel)
set_option maxRecDepth 20000 in
theorem gX8_albumSize_X0_members : GoodIn wsX8_albumSize (wsV RX8 256 RX0 yX0_members wsX0_members) := goodIn_app (goodIn_of _ (by decide +kernel)) ggX8_albumSize_X0_members
set_option maxRecDepth 20000 in
theorem ggX8_albumSize_J13_bitCount_95d88 : GoodIn wsX8_albumSize wsJ13_bitCount_95d88 := goodIn_r _ [24, 25, 26, 27] (by decide +kernel) (by decide +kernel)
set_option maxRecDepth 20000 in
theorem gX8_albumSize_J13_bitCount_95d88 : GoodIn wsX8_albumSize (va_wsS RX8 153 yJ13_bitCount_95d88 wsJ13_bitCount_95d88) := goodIn_app (goodIn_of _ (by decide +kernel)) ggX8_albumSize_J13_bitCount_95d88
theorem dX8_albumSize_0 : decode cX8_albumSize 0 = .ok (.aload_n 0, 1) := by decide +kernel
theorem dX8_albumSize_1 : decode cX8_albumSize 1 = .ok (.iload_n 1, 1) := by decide +kernel
theorem dX8_albumSize_2 : decode cX8_albumSize 2 = .ok (.invokevirtual 241, 3) := by decide +kernel
theorem dX8_albumSize_5 : decode cX8_albumSize 5 = .ok (.ifCond .ne 5, 3) := by decide +kernel
theorem dX8_albumSize_8 : decode cX8_albumSize 8 = .ok (.iconst (-1), 1) := by decide +kernel
theorem dX8_albumSize_9 : decode cX8_albumSize 9 = .ok (.ireturn, 1) := by decide +kernel
theorem dX8_albumSize_10 : decode cX8_albumSize 10 = .ok (.aload_n 0, 1) := by decide +kernel
theorem dX8_albumSize_11 : decode cX8_albumSize 11 = .ok (.getfield 41, 3) := by decide +kernel
theorem dX8_albumSize_14 : decode cX8_albumSize 14 = .ok (.iload_n 1, 1) := by decide +kernel
theorem dX8_albumSize_15 : decode cX8_albumSize 15 = .ok (.aaload, 1) := by decide +kernel
theorem dX8_albumSize_16 : decode cX8_albumSize 16 = .ok (.invokevirtual 256, 3) := by decide +kernel
theorem dX8_albumSize_19 : decode cX8_albumSize 19 = .ok (.invokestatic 153, 3) := by decide +kernel
theorem dX8_albumSize_22 : decode cX8_albumSize 22 = .ok (.ireturn, 1) := by decide +kernel
set_option maxRecDepth 20000 in
theorem ggX8_isIn_X8_hasAlbum : GoodIn wsX8_isIn wsX8_hasAlbum := goodIn_r _ [7, 2, 8, 9, 6, 10, 11, 12, 13, 14, 15, 16, 31, 32, 33, 34, 35, 36, 37, 38, 39, 40, 41, 42, 43, 44, 45] (by decide +kernel) (by decide +kernel)
set_option maxRecDepth 20000 in
theorem gX8_isIn_X8_hasAlbum : GoodIn wsX8_isIn (wsV RX8 241 RX8 yX8_hasAlbum wsX8_hasAlbum) := goodIn_app (goodIn_of _ (by decide +kernel)) ggX8_isIn_X8_hasAlbum
set_option maxRecDepth 20000 in
theorem ggX8_isIn_X1_has : GoodIn wsX8_isIn wsX1_has := goodIn_r _ [21, 22, 9, 6, 10, 23, 24, 46, 47, 48, 49, 50, 51] (by decide +kernel) (by decide +kernel)
set_option maxRecDepth 20000 in
theorem gX8_isIn_X1_has : GoodIn wsX8_isIn (wsV RX8 87 RX1 yX1_has wsX1_has) := goodIn_app (goodIn_of _ (by decide +kernel)) ggX8_isIn_X1_has
set_option maxRecDepth 20000 in
theorem ggX8_isIn_X0_members : GoodIn wsX8_isIn wsX0_members := goodIn_r _ [28, 29, 39, 40, 41, 42, 43, 44, 45] (by decide +kernel) (by decide +kernel)
set_option maxRecDepth 20000 in
theorem gX8_isIn_X0_members : GoodIn wsX8_isIn (wsV RX8 256 RX0 yX0_members wsX0_members) := goodIn_app (goodIn_of _ (by decide +kernel)) ggX8_isIn_X0_members
set_option maxRecDepth 20000 in
theorem ggX8_isIn_X8_holds : GoodIn wsX8_isIn wsX8_holds := goodIn_r _ [24] (by decide +kernel) (by decide +kernel)
set_option maxRecDepth 20000 in
theorem gX8_isIn_X8_holds : GoodIn wsX8_isIn (va_wsS RX8 178 yX8_holds wsX8_holds) := goodIn_app (goodIn_of _ (by decide +kernel)) ggX8_isIn_X8_holds
theorem dX8_isIn_0 : decode cX8_isIn 0 = .ok (.aload_n 0, 1) := by decide +kernel
theorem dX8_isIn_1 : decode cX8_isIn 1 = .ok (.iload_n 1, 1) := by decide +kernel
theorem dX8_isIn_2 : decode cX8_isIn 2 = .ok (.invokevirtual 241, 3) := by decide +kernel
theorem dX8_isIn_5 : decode cX8_isIn 5 = .ok (.ifCond .eq 14, 3) := by decide +kernel
theorem dX8_isIn_8 : decode cX8_isIn 8 = .ok (.aload_n 0, 1) := by decide +kernel
theorem dX8_isIn_9 : decode cX8_isIn 9 = .ok (.getfield 10, 3) := by decide +kernel
theorem dX8_isIn_12 : decode cX8_isIn 12 = .ok (.iload_n 2, 1) := by decide +kernel
theorem dX8_isIn_13 : decode cX8_isIn 13 = .ok (.invokevirtual 87, 3) := by decide +kernel
theorem dX8_isIn_16 : decode cX8_isIn 16 = .ok (.ifCond .ne 5, 3) := by decide +kernel
theorem dX8_isIn_19 : decode cX8_isIn 19 = .ok (.iconst (-1), 1) := by decide +kernel
theorem dX8_isIn_20 : decode cX8_isIn 20 = .ok (.ireturn, 1) := by decide +kernel
theorem dX8_isIn_21 : decode cX8_isIn 21 = .ok (.aload_n 0, 1) := by decide +kernel
theorem dX8_isIn_22 : decode cX8_isIn 22 = .ok (.getfield 41, 3) := by decide +kernel
theorem dX8_isIn_25 : decode cX8_isIn 25 = .ok (.iload_n 1, 1) := by decide +kernel
theorem dX8_isIn_26 : decode cX8_isIn 26 = .ok (.aaload, 1) := by decide +kernel
theorem dX8_isIn_27 : decode cX8_isIn 27 = .ok (.invokevirtual 256, 3) := by decide +kernel
theorem dX8_isIn_30 : decode cX8_isIn 30 = .ok (.iload_n 2, 1) := by decide +kernel
theorem dX8_isIn_31 : decode cX8_isIn 31 = .ok (.invokestatic 178, 3) := by decide +kernel
theorem dX8_isIn_34 : decode cX8_isIn 34 = .ok (.ifCond .eq 7, 3) := by decide +kernel
theorem dX8_isIn_37 : decode cX8_isIn 37 = .ok (.iconst 1, 1) := by decide +kernel
theorem dX8_isIn_38 : decode cX8_isIn 38 = .ok (.goto 4, 3) := by decide +kernel
theorem dX8_isIn_41 : decode cX8_isIn 41 = .ok (.iconst 0, 1) := by decide +kernel
theorem dX8_isIn_42 : decode cX8_isIn 42 = .ok (.ireturn, 1) := by decide +kernel
set_option maxRecDepth 20000 in
theorem ggX8_viewSize_X8_hasAlbum : GoodIn wsX8_viewSize wsX8_hasAlbum := goodIn_r _ [7, 2, 8, 9, 6, 10, 11, 12, 13, 14, 15, 16, 71, 72, 73, 74, 75, 76, 77, 78, 79, 80, 81, 82, 83, 84, 85] (by decide +kernel) (by decide +kernel)
set_option maxRecDepth 20000 in
theorem gX8_viewSize_X8_hasAlbum : GoodIn wsX8_viewSize (wsV RX8 241 RX8 yX8_hasAlbum wsX8_hasAlbum) := goodIn_app (goodIn_of _ (by decide +kernel)) ggX8_viewSize_X8_hasAlbum
set_option maxRecDepth 20000 in
theorem ggX8_viewSize_X7_shown : GoodIn wsX8_viewSize wsX7_shown := goodIn_r _ [21, 22, 23, 24, 25, 14, 26, 27, 28, 29, 30, 31, 32, 33, 9, 6, 10, 34, 35, 36, 37, 38, 39, 40, 41, 42, 43, 44, 45, 46, 47, 48, 49, 50, 51, 52, 53, 54, 55, 56, 57, 58, 59, 60, 61, 62, 63, 86, 87, 79, 80, 81, 82, 83, 84, 85, 88, 89, 90, 91, 92, 93, 94, 95, 96, 97, 98, 99, 100, 101] (by decide +kernel) (by decide +kernel)
set_option maxRecDepth 20000 in
theorem gX8_viewSize_X7_shown : GoodIn wsX8_viewSize (wsV RX8 265 RX7 yX7_shown wsX7_shown) := goodIn_app (goodIn_of _ (by decide +kernel)) ggX8_viewSize_X7_shown
set_option maxRecDepth 20000 in
theorem ggX8_viewSize_J13_bitCount_95d88 : GoodIn wsX8_viewSize wsJ13_bitCount_95d88 := goodIn_r _ [67, 68, 69, 70] (by decide +kernel) (by decide +kernel)
set_option maxRecDepth 20000 in
theorem gX8_viewSize_J13_bitCount_95d88 : GoodIn wsX8_viewSize (va_wsS RX8 153 yJ13_bitCount_95d88 wsJ13_bitCount_95d88) := goodIn_app (goodIn_of _ (by decide +kernel)) ggX8_viewSize_J13_bitCount_95d88
theorem dX8_viewSize_0 : decode cX8_viewSize 0 = .ok (.aload_n 0, 1) := by decide +kernel
theorem dX8_viewSize_1 : decode cX8_viewSize 1 = .ok (.iload_n 1, 1) := by decide +kernel
theorem dX8_viewSize_2 : decode cX8_viewSize 2 = .ok (.invokevirtual 241, 3) := by decide +kernel
theorem dX8_viewSize_5 : decode cX8_viewSize 5 = .ok (.ifCond .ne 5, 3) := by decide +kernel
theorem dX8_viewSize_8 : decode cX8_viewSize 8 = .ok (.iconst (-1), 1) := by decide +kernel
theorem dX8_viewSize_9 : decode cX8_viewSize 9 = .ok (.ireturn, 1) := by decide +kernel
theorem dX8_viewSize_10 : decode cX8_viewSize 10 = .ok (.aload_n 0, 1) := by decide +kernel
theorem dX8_viewSize_11 : decode cX8_viewSize 11 = .ok (.getfield 60, 3) := by decide +kernel
theorem dX8_viewSize_14 : decode cX8_viewSize 14 = .ok (.aload_n 0, 1) := by decide +kernel
theorem dX8_viewSize_15 : decode cX8_viewSize 15 = .ok (.getfield 41, 3) := by decide +kernel
theorem dX8_viewSize_18 : decode cX8_viewSize 18 = .ok (.iload_n 1, 1) := by decide +kernel
theorem dX8_viewSize_19 : decode cX8_viewSize 19 = .ok (.aaload, 1) := by decide +kernel
theorem dX8_viewSize_20 : decode cX8_viewSize 20 = .ok (.invokevirtual 265, 3) := by decide +kernel
theorem dX8_viewSize_23 : decode cX8_viewSize 23 = .ok (.invokestatic 153, 3) := by decide +kernel
theorem dX8_viewSize_26 : decode cX8_viewSize 26 = .ok (.ireturn, 1) := by decide +kernel
set_option maxRecDepth 20000 in
theorem ggX8_viewAt_X8_hasAlbum : GoodIn wsX8_viewAt wsX8_hasAlbum := goodIn_r _ [7, 2, 8, 9, 6, 10, 11, 12, 13, 14, 15, 16, 91, 92, 93, 94, 95, 96, 97, 98, 99, 100, 101, 102, 103, 104, 105] (by decide +kernel) (by decide +kernel)
set_option maxRecDepth 20000 in
theorem gX8_viewAt_X8_hasAlbum : GoodIn wsX8_viewAt (wsV RX8 241 RX8 yX8_hasAlbum wsX8_hasAlbum) := goodIn_app (goodIn_of _ (by decide +kernel)) ggX8_viewAt_X8_hasAlbum
set_option maxRecDepth 20000 in
theorem ggX8_viewAt_X7_fileAt : GoodIn wsX8_viewAt wsX7_fileAt := goodIn_r _ [21, 22, 23, 24, 20, 25, 26, 27, 28, 29, 14, 30, 31, 32, 33, 34, 35, 36, 37, 9, 6, 10, 38, 39, 40, 41, 42, 43, 44, 45, 46, 47, 48, 49, 50, 51, 52, 53, 54, 55, 56, 57, 58, 59, 60, 61, 62, 63, 64, 65, 66, 67, 68, 69, 70, 71, 72, 73, 74, 75, 76, 77, 78, 79, 80, 81, 82, 83, 84, 85, 86, 87, 106, 107, 99, 100, 101, 102, 103, 104, 105, 108, 109, 110, 111, 112, 113, 114, 115, 116, 117, 118, 119, 120, 121] (by decide +kernel) (by decide +kernel)
set_option maxRecDepth 20000 in
theorem gX8_viewAt_X7_fileAt : GoodIn wsX8_viewAt (wsV RX8 269 RX7 yX7_fileAt wsX7_fileAt) := goodIn_app (goodIn_of _ (by decide +kernel)) ggX8_viewAt_X7_fileAt
set_option maxRecDepth 20000 in
theorem ggX8_viewAt_X8_orNotFound : GoodIn wsX8_viewAt wsX8_orNotFound := goodIn_r _ [90] (by decide +kernel) (by decide +kernel)
set_option maxRecDepth 20000 in
theorem gX8_viewAt_X8_orNotFound : GoodIn wsX8_viewAt (va_wsS RX8 124 yX8_orNotFound wsX8_orNotFound) := goodIn_app (goodIn_of _ (by decide +kernel)) ggX8_viewAt_X8_orNotFound
theorem dX8_viewAt_0 : decode cX8_viewAt 0 = .ok (.aload_n 0, 1) := by decide +kernel
theorem dX8_viewAt_1 : decode cX8_viewAt 1 = .ok (.iload_n 1, 1) := by decide +kernel
theorem dX8_viewAt_2 : decode cX8_viewAt 2 = .ok (.invokevirtual 241, 3) := by decide +kernel
theorem dX8_viewAt_5 : decode cX8_viewAt 5 = .ok (.ifCond .eq 7, 3) := by decide +kernel
theorem dX8_viewAt_8 : decode cX8_viewAt 8 = .ok (.iload_n 2, 1) := by decide +kernel
theorem dX8_viewAt_9 : decode cX8_viewAt 9 = .ok (.ifCond .ge 5, 3) := by decide +kernel
theorem dX8_viewAt_12 : decode cX8_viewAt 12 = .ok (.iconst (-1), 1) := by decide +kernel
theorem dX8_viewAt_13 : decode cX8_viewAt 13 = .ok (.ireturn, 1) := by decide +kernel
theorem dX8_viewAt_14 : decode cX8_viewAt 14 = .ok (.aload_n 0, 1) := by decide +kernel
theorem dX8_viewAt_15 : decode cX8_viewAt 15 = .ok (.getfield 60, 3) := by decide +kernel
theorem dX8_viewAt_18 : decode cX8_viewAt 18 = .ok (.aload_n 0, 1) := by decide +kernel
theorem dX8_viewAt_19 : decode cX8_viewAt 19 = .ok (.getfield 41, 3) := by decide +kernel
theorem dX8_viewAt_22 : decode cX8_viewAt 22 = .ok (.iload_n 1, 1) := by decide +kernel
theorem dX8_viewAt_23 : decode cX8_viewAt 23 = .ok (.aaload, 1) := by decide +kernel
theorem dX8_viewAt_24 : decode cX8_viewAt 24 = .ok (.iload_n 2, 1) := by decide +kernel
theorem dX8_viewAt_25 : decode cX8_viewAt 25 = .ok (.invokevirtual 269, 3) := by decide +kernel
theorem dX8_viewAt_28 : decode cX8_viewAt 28 = .ok (.invokestatic 124, 3) := by decide +kernel
theorem dX8_viewAt_31 : decode cX8_viewAt 31 = .ok (.ireturn, 1) := by decide +kernel
set_option maxRecDepth 20000 in
theorem ggX8_journalSize_X3_length : GoodIn wsX8_journalSize wsX3_length := goodIn_r _ [6, 7, 16, 17, 18, 19, 20] (by decide +kernel) (by decide +kernel)
set_option maxRecDepth 20000 in
theorem gX8_journalSize_X3_length : GoodIn wsX8_journalSize (wsV RX8 272 RX3 yX3_length wsX3_length) := goodIn_app (goodIn_of _ (by decide +kernel)) ggX8_journalSize_X3_length
theorem dX8_journalSize_0 : decode cX8_journalSize 0 = .ok (.aload_n 0, 1) := by decide +kernel
theorem dX8_journalSize_1 : decode cX8_journalSize 1 = .ok (.getfield 67, 3) := by decide +kernel
theorem dX8_journalSize_4 : decode cX8_journalSize 4 = .ok (.invokevirtual 272, 3) := by decide +kernel
theorem dX8_journalSize_7 : decode cX8_journalSize 7 = .ok (.ireturn, 1) := by decide +kernel
set_option maxRecDepth 20000 in
theorem ggX8_turnover_X8_hasAlbum : GoodIn wsX8_turnover wsX8_hasAlbum := goodIn_r _ [6, 1, 7, 8, 5, 9, 10, 11, 12, 13, 14, 15, 26, 27, 28, 29, 30, 31, 32, 33, 34, 35, 36, 37, 38, 39, 40] (by decide +kernel) (by decide +kernel)
set_option maxRecDepth 20000 in
theorem gX8_turnover_X8_hasAlbum : GoodIn wsX8_turnover (wsV RX8 241 RX8 yX8_hasAlbum wsX8_hasAlbum) := goodIn_app (goodIn_of _ (by decide +kernel)) ggX8_turnover_X8_hasAlbum
set_option maxRecDepth 20000 in
theorem ggX8_turnover_X8_isWithin : GoodIn wsX8_turnover wsX8_isWithin := goodIn_r _ [9] (by decide +kernel) (by decide +kernel)
set_option maxRecDepth 20000 in
theorem gX8_turnover_X8_isWithin : GoodIn wsX8_turnover (va_wsS RX8 71 yX8_isWithin wsX8_isWithin) := goodIn_app (goodIn_of _ (by decide +kernel)) ggX8_turnover_X8_isWithin
set_option maxRecDepth 20000 in
theorem ggX8_turnover_X0_joined : GoodIn wsX8_turnover wsX0_joined := goodIn_r _ [19, 20, 34, 35, 36, 37, 38, 39, 40] (by decide +kernel) (by decide +kernel)
set_option maxRecDepth 20000 in
theorem gX8_turnover_X0_joined : GoodIn wsX8_turnover (wsV RX8 282 RX0 yX0_joined wsX0_joined) := goodIn_app (goodIn_of _ (by decide +kernel)) ggX8_turnover_X0_joined
set_option maxRecDepth 20000 in
theorem ggX8_turnover_X0_left : GoodIn wsX8_turnover wsX0_left := goodIn_r _ [24, 25, 34, 35, 36, 37, 38, 39, 40] (by decide +kernel) (by decide +kernel)
set_option maxRecDepth 20000 in
theorem gX8_turnover_X0_left : GoodIn wsX8_turnover (wsV RX8 285 RX0 yX0_left wsX0_left) := goodIn_app (goodIn_of _ (by decide +kernel)) ggX8_turnover_X0_left
theorem dX8_turnover_0 : decode cX8_turnover 0 = .ok (.aload_n 0, 1) := by decide +kernel
theorem dX8_turnover_1 : decode cX8_turnover 1 = .ok (.iload_n 1, 1) := by decide +kernel
theorem dX8_turnover_2 : decode cX8_turnover 2 = .ok (.invokevirtual 241, 3) := by decide +kernel
theorem dX8_turnover_5 : decode cX8_turnover 5 = .ok (.ifCond .eq 12, 3) := by decide +kernel
theorem dX8_turnover_8 : decode cX8_turnover 8 = .ok (.iload_n 2, 1) := by decide +kernel
theorem dX8_turnover_9 : decode cX8_turnover 9 = .ok (.iconst 0, 1) := by decide +kernel
theorem dX8_turnover_10 : decode cX8_turnover 10 = .ok (.iconst 1, 1) := by decide +kernel
theorem dX8_turnover_11 : decode cX8_turnover 11 = .ok (.invokestatic 71, 3) := by decide +kernel
theorem dX8_turnover_14 : decode cX8_turnover 14 = .ok (.ifCond .ne 5, 3) := by decide +kernel
theorem dX8_turnover_17 : decode cX8_turnover 17 = .ok (.iconst (-1), 1) := by decide +kernel
theorem dX8_turnover_18 : decode cX8_turnover 18 = .ok (.ireturn, 1) := by decide +kernel
theorem dX8_turnover_19 : decode cX8_turnover 19 = .ok (.iload_n 2, 1) := by decide +kernel
theorem dX8_turnover_20 : decode cX8_turnover 20 = .ok (.iconst 1, 1) := by decide +kernel
theorem dX8_turnover_21 : decode cX8_turnover 21 = .ok (.if_icmp .ne 15, 3) := by decide +kernel
theorem dX8_turnover_24 : decode cX8_turnover 24 = .ok (.aload_n 0, 1) := by decide +kernel
theorem dX8_turnover_25 : decode cX8_turnover 25 = .ok (.getfield 41, 3) := by decide +kernel
theorem dX8_turnover_28 : decode cX8_turnover 28 = .ok (.iload_n 1, 1) := by decide +kernel
theorem dX8_turnover_29 : decode cX8_turnover 29 = .ok (.aaload, 1) := by decide +kernel
theorem dX8_turnover_30 : decode cX8_turnover 30 = .ok (.invokevirtual 282, 3) := by decide +kernel
theorem dX8_turnover_33 : decode cX8_turnover 33 = .ok (.goto 12, 3) := by decide +kernel
theorem dX8_turnover_36 : decode cX8_turnover 36 = .ok (.aload_n 0, 1) := by decide +kernel
theorem dX8_turnover_37 : decode cX8_turnover 37 = .ok (.getfield 41, 3) := by decide +kernel
theorem dX8_turnover_40 : decode cX8_turnover 40 = .ok (.iload_n 1, 1) := by decide +kernel
theorem dX8_turnover_41 : decode cX8_turnover 41 = .ok (.aaload, 1) := by decide +kernel
theorem dX8_turnover_42 : decode cX8_turnover 42 = .ok (.invokevirtual 285, 3) := by decide +kernel
theorem dX8_turnover_45 : decode cX8_turnover 45 = .ok (.ireturn, 1) := by decide +kernel
set_option maxRecDepth 20000 in
theorem ggX8_count_X6_howMany : GoodIn wsX8_count wsX6_howMany := goodIn_r _ [8, 9, 10, 11, 7, 12, 13, 14, 15, 16, 77, 78, 79, 80, 81, 82, 83, 84] (by decide +kernel) (by decide +kernel)
set_option maxRecDepth 20000 in
theorem gX8_count_X6_howMany : GoodIn wsX8_count (wsV RX8 288 RX6 yX6_howMany wsX6_howMany) := goodIn_app (goodIn_of _ (by decide +kernel)) ggX8_count_X6_howMany
set_option maxRecDepth 20000 in
theorem ggX8_count_X8_albumCount : GoodIn wsX8_count wsX8_albumCount := goodIn_r _ [20, 21, 22, 23, 15, 24, 25, 26, 14, 16, 27, 28, 29, 30, 31, 32, 69, 70, 71, 72, 73, 74, 75, 76, 85, 86, 87, 88, 89, 90, 91] (by decide +kernel) (by decide +kernel)
set_option maxRecDepth 20000 in
theorem gX8_count_X8_albumCount : GoodIn wsX8_count (wsV RX8 250 RX8 yX8_albumCount wsX8_albumCount) := goodIn_app (goodIn_of _ (by decide +kernel)) ggX8_count_X8_albumCount
set_option maxRecDepth 20000 in
theorem ggX8_count_X2_keepers : GoodIn wsX8_count wsX2_keepers := goodIn_r _ [37, 38, 92, 93, 94] (by decide +kernel) (by decide +kernel)
set_option maxRecDepth 20000 in
theorem gX8_count_X2_keepers : GoodIn wsX8_count (wsV RX8 163 RX2 yX2_keepers wsX2_keepers) := goodIn_app (goodIn_of _ (by decide +kernel)) ggX8_count_X2_keepers
set_option maxRecDepth 20000 in
theorem ggX8_count_X2_duplicates : GoodIn wsX8_count wsX2_duplicates := goodIn_r _ [42, 43, 92, 93, 94] (by decide +kernel) (by decide +kernel)
set_option maxRecDepth 20000 in
theorem gX8_count_X2_duplicates : GoodIn wsX8_count (wsV RX8 289 RX2 yX2_duplicates wsX2_duplicates) := goodIn_app (goodIn_of _ (by decide +kernel)) ggX8_count_X2_duplicates
set_option maxRecDepth 20000 in
theorem ggX8_count_J13_bitCount_95d88 : GoodIn wsX8_count wsJ13_bitCount_95d88 := goodIn_r _ [47, 48, 49, 50] (by decide +kernel) (by decide +kernel)
set_option maxRecDepth 20000 in
theorem gX8_count_J13_bitCount_95d88 : GoodIn wsX8_count (va_wsS RX8 153 yJ13_bitCount_95d88 wsJ13_bitCount_95d88) := goodIn_app (goodIn_of _ (by decide +kernel)) ggX8_count_J13_bitCount_95d88
set_option maxRecDepth 20000 in
theorem ggX8_count_X6_stacked : GoodIn wsX8_count wsX6_stacked := goodIn_r _ [54, 55, 77, 78, 79, 80, 81, 82, 83, 84] (by decide +kernel) (by decide +kernel)
set_option maxRecDepth 20000 in
theorem gX8_count_X6_stacked : GoodIn wsX8_count (wsV RX8 292 RX6 yX6_stacked wsX6_stacked) := goodIn_app (goodIn_of _ (by decide +kernel)) ggX8_count_X6_stacked
set_option maxRecDepth 20000 in
theorem ggX8_count_X1_all : GoodIn wsX8_count wsX1_all := goodIn_r _ [60, 61, 95, 96, 97, 98, 99, 100] (by decide +kernel) (by decide +kernel)
set_option maxRecDepth 20000 in
theorem gX8_count_X1_all : GoodIn wsX8_count (wsV RX8 159 RX1 yX1_all wsX1_all) := goodIn_app (goodIn_of _ (by decide +kernel)) ggX8_count_X1_all
set_option maxRecDepth 20000 in
theorem ggX8_count_X1_sumOfSizes : GoodIn wsX8_count wsX1_sumOfSizes := goodIn_r _ [65, 66, 67, 15, 68, 95, 96, 97, 98, 99, 100] (by decide +kernel) (by decide +kernel)
set_option maxRecDepth 20000 in
theorem gX8_count_X1_sumOfSizes : GoodIn wsX8_count (wsV RX8 168 RX1 yX1_sumOfSizes wsX1_sumOfSizes) := goodIn_app (goodIn_of _ (by decide +kernel)) ggX8_count_X1_sumOfSizes
theorem dX8_count_0 : decode cX8_count 0 = .ok (.iload_n 1, 1) := by decide +kernel
theorem dX8_count_1 : decode cX8_count 1 = .ok (.tableswitch 93 0 4 #[35, 43, 48, 67, 78], 35) := by decide +kernel
theorem dX8_count_36 : decode cX8_count 36 = .ok (.aload_n 0, 1) := by decide +kernel
theorem dX8_count_37 : decode cX8_count 37 = .ok (.getfield 28, 3) := by decide +kernel
theorem dX8_count_40 : decode cX8_count 40 = .ok (.invokevirtual 288, 3) := by decide +kernel
theorem dX8_count_43 : decode cX8_count 43 = .ok (.ireturn, 1) := by decide +kernel
theorem dX8_count_44 : decode cX8_count 44 = .ok (.aload_n 0, 1) := by decide +kernel
theorem dX8_count_45 : decode cX8_count 45 = .ok (.invokevirtual 250, 3) := by decide +kernel
theorem dX8_count_48 : decode cX8_count 48 = .ok (.ireturn, 1) := by decide +kernel
theorem dX8_count_49 : decode cX8_count 49 = .ok (.aload_n 0, 1) := by decide +kernel
theorem dX8_count_50 : decode cX8_count 50 = .ok (.getfield 21, 3) := by decide +kernel
theorem dX8_count_53 : decode cX8_count 53 = .ok (.invokevirtual 163, 3) := by decide +kernel
theorem dX8_count_56 : decode cX8_count 56 = .ok (.aload_n 0, 1) := by decide +kernel
theorem dX8_count_57 : decode cX8_count 57 = .ok (.getfield 21, 3) := by decide +kernel
theorem dX8_count_60 : decode cX8_count 60 = .ok (.invokevirtual 289, 3) := by decide +kernel
theorem dX8_count_63 : decode cX8_count 63 = .ok (.land, 1) := by decide +kernel
theorem dX8_count_64 : decode cX8_count 64 = .ok (.invokestatic 153, 3) := by decide +kernel
theorem dX8_count_67 : decode cX8_count 67 = .ok (.ireturn, 1) := by decide +kernel
theorem dX8_count_68 : decode cX8_count 68 = .ok (.aload_n 0, 1) := by decide +kernel
theorem dX8_count_69 : decode cX8_count 69 = .ok (.getfield 28, 3) := by decide +kernel
theorem dX8_count_72 : decode cX8_count 72 = .ok (.invokevirtual 292, 3) := by decide +kernel
theorem dX8_count_75 : decode cX8_count 75 = .ok (.invokestatic 153, 3) := by decide +kernel
theorem dX8_count_78 : decode cX8_count 78 = .ok (.ireturn, 1) := by decide +kernel
theorem dX8_count_79 : decode cX8_count 79 = .ok (.aload_n 0, 1) := by decide +kernel
theorem dX8_count_80 : decode cX8_count 80 = .ok (.getfield 10, 3) := by decide +kernel
theorem dX8_count_83 : decode cX8_count 83 = .ok (.aload_n 0, 1) := by decide +kernel
theorem dX8_count_84 : decode cX8_count 84 = .ok (.getfield 10, 3) := by decide +kernel
theorem dX8_count_87 : decode cX8_count 87 = .ok (.invokevirtual 159, 3) := by decide +kernel
theorem dX8_count_90 : decode cX8_count 90 = .ok (.invokevirtual 168, 3) := by decide +kernel
theorem dX8_count_93 : decode cX8_count 93 = .ok (.ireturn, 1) := by decide +kernel
theorem dX8_count_94 : decode cX8_count 94 = .ok (.iconst (-1), 1) := by decide +kernel
theorem dX8_count_95 : decode cX8_count 95 = .ok (.ireturn, 1) := by decide +kernel
theorem dX8_isWithin_0 : decode cX8_isWithin 0 = .ok (.iload_n 0, 1) := by decide +kernel
theorem dX8_isWithin_1 : decode cX8_isWithin 1 = .ok (.iload_n 1, 1) := by decide +kernel
theorem dX8_isWithin_2 : decode cX8_isWithin 2 = .ok (.if_icmp .lt 12, 3) := by decide +kernel
theorem dX8_isWithin_5 : decode cX8_isWithin 5 = .ok (.iload_n 0, 1) := by decide +kernel
theorem dX8_isWithin_6 : decode cX8_isWithin 6 = .ok (.iload_n 2, 1) := by decide +kernel
theorem dX8_isWithin_7 : decode cX8_isWithin 7 = .ok (.if_icmp .gt 7, 3) := by decide +kernel
theorem dX8_isWithin_10 : decode cX8_isWithin 10 = .ok (.iconst 1, 1) := by decide +kernel
theorem dX8_isWithin_11 : decode cX8_isWithin 11 = .ok (.goto 4, 3) := by decide +kernel
theorem dX8_isWithin_14 : decode cX8_isWithin 14 = .ok (.iconst 0, 1) := by decide +kernel
theorem dX8_isWithin_15 : decode cX8_isWithin 15 = .ok (.ireturn, 1) := by decide +kernel
set_option maxRecDepth 20000 in
theorem ggX8_isSource_X8_isWithin : GoodIn wsX8_isSource wsX8_isWithin := goodIn_r _ [4] (by decide +kernel) (by decide +kernel)
set_option maxRecDepth 20000 in
theorem gX8_isSource_X8_isWithin : GoodIn wsX8_isSource (va_wsS RX8 71 yX8_isWithin wsX8_isWithin) := goodIn_app (goodIn_of _ (by decide +kernel)) ggX8_isSource_X8_isWithin
theorem dX8_isSource_0 : decode cX8_isSource 0 = .ok (.iload_n 0, 1) := by decide +kernel
theorem dX8_isSource_1 : decode cX8_isSource 1 = .ok (.iconst 0, 1) := by decide +kernel
theorem dX8_isSource_2 : decode cX8_isSource 2 = .ok (.iconst 2, 1) := by decide +kernel
theorem dX8_isSource_3 : decode cX8_isSource 3 = .ok (.invokestatic 71, 3) := by decide +kernel
theorem dX8_isSource_6 : decode cX8_isSource 6 = .ok (.ireturn, 1) := by decide +kernel
theorem dX8_orNotFound_0 : decode cX8_orNotFound 0 = .ok (.iload_n 0, 1) := by decide +kernel
theorem dX8_orNotFound_1 : decode cX8_orNotFound 1 = .ok (.iconst (-1), 1) := by decide +kernel
theorem dX8_orNotFound_2 : decode cX8_orNotFound 2 = .ok (.if_icmp .ne 8, 3) := by decide +kernel
theorem dX8_orNotFound_5 : decode cX8_orNotFound 5 = .ok (.bipush (-4), 2) := by decide +kernel
theorem dX8_orNotFound_7 : decode cX8_orNotFound 7 = .ok (.goto 4, 3) := by decide +kernel
theorem dX8_orNotFound_10 : decode cX8_orNotFound 10 = .ok (.iload_n 0, 1) := by decide +kernel
theorem dX8_orNotFound_11 : decode cX8_orNotFound 11 = .ok (.ireturn, 1) := by decide +kernel
theorem dX8_holds_0 : decode cX8_holds 0 = .ok (.lload_n 0, 1) := by decide +kernel
theorem dX8_holds_1 : decode cX8_holds 1 = .ok (.iload_n 2, 1) := by decide +kernel
theorem dX8_holds_2 : decode cX8_holds 2 = .ok (.lushr, 1) := by decide +kernel
theorem dX8_holds_3 : decode cX8_holds 3 = .ok (.lconst 1, 1) := by decide +kernel
theorem dX8_holds_4 : decode cX8_holds 4 = .ok (.land, 1) := by decide +kernel
theorem dX8_holds_5 : decode cX8_holds 5 = .ok (.lconst 1, 1) := by decide +kernel
theorem dX8_holds_6 : decode cX8_holds 6 = .ok (.lcmp, 1) := by decide +kernel
theorem dX8_holds_7 : decode cX8_holds 7 = .ok (.ifCond .ne 7, 3) := by decide +kernel
theorem dX8_holds_10 : decode cX8_holds 10 = .ok (.iconst 1, 1) := by decide +kernel
theorem dX8_holds_11 : decode cX8_holds 11 = .ok (.goto 4, 3) := by decide +kernel
theorem dX8_holds_14 : decode cX8_holds 14 = .ok (.iconst 0, 1) := by decide +kernel
theorem dX8_holds_15 : decode cX8_holds 15 = .ok (.ireturn, 1) := by decide +kernel
theorem dX8_only_0 : decode cX8_only 0 = .ok (.lconst 1, 1) := by decide +kernel
theorem dX8_only_1 : decode cX8_only 1 = .ok (.iload_n 0, 1) := by decide +kernel
theorem dX8_only_2 : decode cX8_only 2 = .ok (.lshl, 1) := by decide +kernel
theorem dX8_only_3 : decode cX8_only 3 = .ok (.lreturn, 1) := by decide +kernel
set_option maxRecDepth 20000 in
theorem ggX8_isSlot_X1_has : GoodIn wsX8_isSlot wsX1_has := goodIn_r _ [6, 7, 8, 9, 10, 11, 12, 25, 26, 27, 28, 29, 30] (by decide +kernel) (by decide +kernel)
set_option maxRecDepth 20000 in
theorem gX8_isSlot_X1_has : GoodIn wsX8_isSlot (wsV RX8 87 RX1 yX1_has wsX1_has) := goodIn_app (goodIn_of _ (by decide +kernel)) ggX8_isSlot_X1_has
set_option maxRecDepth 20000 in
theorem ggX8_isSlot_X8_isSource : GoodIn wsX8_isSlot wsX8_isSource := goodIn_r _ [15, 16, 8, 9, 10] (by decide +kernel) (by decide +kernel)
set_option maxRecDepth 20000 in
theorem gX8_isSlot_X8_isSource : GoodIn wsX8_isSlot (va_wsS RX8 137 yX8_isSource wsX8_isSource) := goodIn_app (goodIn_of _ (by decide +kernel)) ggX8_isSlot_X8_isSource
set_option maxRecDepth 20000 in
theorem ggX8_isSlot_X8_isWithin : GoodIn wsX8_isSlot wsX8_isWithin := goodIn_r _ [10] (by decide +kernel) (by decide +kernel)
set_option maxRecDepth 20000 in
theorem gX8_isSlot_X8_isWithin : GoodIn wsX8_isSlot (va_wsS RX8 71 yX8_isWithin wsX8_isWithin) := goodIn_app (goodIn_of _ (by decide +kernel)) ggX8_isSlot_X8_isWithin
theorem dX8_isSlot_0 : decode cX8_isSlot 0 = .ok (.aload_n 0, 1) := by decide +kernel
theorem dX8_isSlot_1 : decode cX8_isSlot 1 = .ok (.getfield 10, 3) := by decide +kernel
theorem dX8_isSlot_4 : decode cX8_isSlot 4 = .ok (.iload_n 1, 1) := by decide +kernel
theorem dX8_isSlot_5 : decode cX8_isSlot 5 = .ok (.invokevirtual 87, 3) := by decide +kernel
theorem dX8_isSlot_8 : decode cX8_isSlot 8 = .ok (.ifCond .eq 23, 3) := by decide +kernel
theorem dX8_isSlot_11 : decode cX8_isSlot 11 = .ok (.iload_n 2, 1) := by decide +kernel
theorem dX8_isSlot_12 : decode cX8_isSlot 12 = .ok (.invokestatic 137, 3) := by decide +kernel
theorem dX8_isSlot_15 : decode cX8_isSlot 15 = .ok (.ifCond .eq 16, 3) := by decide +kernel
theorem dX8_isSlot_18 : decode cX8_isSlot 18 = .ok (.iload_n 3, 1) := by decide +kernel
theorem dX8_isSlot_19 : decode cX8_isSlot 19 = .ok (.iconst 0, 1) := by decide +kernel
theorem dX8_isSlot_20 : decode cX8_isSlot 20 = .ok (.iconst 5, 1) := by decide +kernel
theorem dX8_isSlot_21 : decode cX8_isSlot 21 = .ok (.invokestatic 71, 3) := by decide +kernel
theorem dX8_isSlot_24 : decode cX8_isSlot 24 = .ok (.ifCond .eq 7, 3) := by decide +kernel
theorem dX8_isSlot_27 : decode cX8_isSlot 27 = .ok (.iconst 1, 1) := by decide +kernel
theorem dX8_isSlot_28 : decode cX8_isSlot 28 = .ok (.goto 4, 3) := by decide +kernel
theorem dX8_isSlot_31 : decode cX8_isSlot 31 = .ok (.iconst 0, 1) := by decide +kernel
theorem dX8_isSlot_32 : decode cX8_isSlot 32 = .ok (.ireturn, 1) := by decide +kernel
set_option maxRecDepth 20000 in
theorem ggX8_discard_X6_release : GoodIn wsX8_discard wsX6_release := goodIn_r _ [7, 8, 9, 10, 11, 12, 13, 14, 6, 15, 16, 17, 18, 19, 20, 21, 22, 23, 24, 25, 26, 27, 43, 44, 45, 46, 47, 48, 49, 50] (by decide +kernel) (by decide +kernel)
set_option maxRecDepth 20000 in
theorem gX8_discard_X6_release : GoodIn wsX8_discard (wsV RX8 196 RX6 yX6_release wsX6_release) := goodIn_app (goodIn_of _ (by decide +kernel)) ggX8_discard_X6_release
set_option maxRecDepth 20000 in
theorem ggX8_discard_X1_drop : GoodIn wsX8_discard wsX1_drop := goodIn_r _ [32, 33, 34, 25, 26, 27, 51, 52, 53, 54, 55, 56] (by decide +kernel) (by decide +kernel)
set_option maxRecDepth 20000 in
theorem gX8_discard_X1_drop : GoodIn wsX8_discard (wsV RX8 295 RX1 yX1_drop wsX1_drop) := goodIn_app (goodIn_of _ (by decide +kernel)) ggX8_discard_X1_drop
theorem dX8_discard_0 : decode cX8_discard 0 = .ok (.aload_n 0, 1) := by decide +kernel
theorem dX8_discard_1 : decode cX8_discard 1 = .ok (.getfield 28, 3) := by decide +kernel
theorem dX8_discard_4 : decode cX8_discard 4 = .ok (.iload_n 1, 1) := by decide +kernel
theorem dX8_discard_5 : decode cX8_discard 5 = .ok (.invokevirtual 196, 3) := by decide +kernel
theorem dX8_discard_8 : decode cX8_discard 8 = .ok (.aload_n 0, 1) := by decide +kernel
theorem dX8_discard_9 : decode cX8_discard 9 = .ok (.getfield 10, 3) := by decide +kernel
theorem dX8_discard_12 : decode cX8_discard 12 = .ok (.iload_n 1, 1) := by decide +kernel
theorem dX8_discard_13 : decode cX8_discard 13 = .ok (.invokevirtual 295, 3) := by decide +kernel
theorem dX8_discard_16 : decode cX8_discard 16 = .ok (.return_, 1) := by decide +kernel
set_option maxRecDepth 20000 in
theorem ggX8_hasAlbum_X8_isWithin : GoodIn wsX8_hasAlbum wsX8_isWithin := goodIn_r _ [5] (by decide +kernel) (by decide +kernel)
set_option maxRecDepth 20000 in
theorem gX8_hasAlbum_X8_isWithin : GoodIn wsX8_hasAlbum (va_wsS RX8 71 yX8_isWithin wsX8_isWithin) := goodIn_app (goodIn_of _ (by decide +kernel)) ggX8_hasAlbum_X8_isWithin
set_option maxRecDepth 20000 in
theorem ggX8_hasAlbum_X0_exists : GoodIn wsX8_hasAlbum wsX0_exists := goodIn_r _ [10, 11, 20, 21, 22, 23, 24, 25, 26] (by decide +kernel) (by decide +kernel)
set_option maxRecDepth 20000 in
theorem gX8_hasAlbum_X0_exists : GoodIn wsX8_hasAlbum (wsV RX8 298 RX0 yX0_exists wsX0_exists) := goodIn_app (goodIn_of _ (by decide +kernel)) ggX8_hasAlbum_X0_exists
theorem dX8_hasAlbum_0 : decode cX8_hasAlbum 0 = .ok (.iload_n 1, 1) := by decide +kernel
theorem dX8_hasAlbum_1 : decode cX8_hasAlbum 1 = .ok (.iconst 0, 1) := by decide +kernel
theorem dX8_hasAlbum_2 : decode cX8_hasAlbum 2 = .ok (.bipush 7, 2) := by decide +kernel
theorem dX8_hasAlbum_4 : decode cX8_hasAlbum 4 = .ok (.invokestatic 71, 3) := by decide +kernel
theorem dX8_hasAlbum_7 : decode cX8_hasAlbum 7 = .ok (.ifCond .eq 19, 3) := by decide +kernel
theorem dX8_hasAlbum_10 : decode cX8_hasAlbum 10 = .ok (.aload_n 0, 1) := by decide +kernel
theorem dX8_hasAlbum_11 : decode cX8_hasAlbum 11 = .ok (.getfield 41, 3) := by decide +kernel
theorem dX8_hasAlbum_14 : decode cX8_hasAlbum 14 = .ok (.iload_n 1, 1) := by decide +kernel
theorem dX8_hasAlbum_15 : decode cX8_hasAlbum 15 = .ok (.aaload, 1) := by decide +kernel
theorem dX8_hasAlbum_16 : decode cX8_hasAlbum 16 = .ok (.invokevirtual 298, 3) := by decide +kernel
theorem dX8_hasAlbum_19 : decode cX8_hasAlbum 19 = .ok (.ifCond .eq 7, 3) := by decide +kernel
theorem dX8_hasAlbum_22 : decode cX8_hasAlbum 22 = .ok (.iconst 1, 1) := by decide +kernel
theorem dX8_hasAlbum_23 : decode cX8_hasAlbum 23 = .ok (.goto 4, 3) := by decide +kernel
theorem dX8_hasAlbum_26 : decode cX8_hasAlbum 26 = .ok (.iconst 0, 1) := by decide +kernel
theorem dX8_hasAlbum_27 : decode cX8_hasAlbum 27 = .ok (.ireturn, 1) := by decide +kernel
set_option maxRecDepth 20000 in
theorem ggX8_albumCount_X8_hasAlbum : GoodIn wsX8_albumCount wsX8_hasAlbum := goodIn_r _ [5, 6, 7, 8, 4, 9, 10, 11, 12, 13, 14, 15, 16, 17, 18, 19, 20, 21, 22, 23, 24, 25, 26, 27, 28, 29, 30] (by decide +kernel) (by decide +kernel)
set_option maxRecDepth 20000 in
theorem gX8_albumCount_X8_hasAlbum : GoodIn wsX8_albumCount (wsV RX8 241 RX8 yX8_hasAlbum wsX8_hasAlbum) := goodIn_app (goodIn_of _ (by decide +kernel)) ggX8_albumCount_X8_hasAlbum
theorem dX8_albumCount_0 : decode cX8_albumCount 0 = .ok (.iconst 0, 1) := by decide +kernel
theorem dX8_albumCount_1 : decode cX8_albumCount 1 = .ok (.istore_n 1, 1) := by decide +kernel
theorem dX8_albumCount_2 : decode cX8_albumCount 2 = .ok (.iconst 0, 1) := by decide +kernel
theorem dX8_albumCount_3 : decode cX8_albumCount 3 = .ok (.istore_n 2, 1) := by decide +kernel
theorem dX8_albumCount_4 : decode cX8_albumCount 4 = .ok (.iload_n 2, 1) := by decide +kernel
theorem dX8_albumCount_5 : decode cX8_albumCount 5 = .ok (.bipush 8, 2) := by decide +kernel
theorem dX8_albumCount_7 : decode cX8_albumCount 7 = .ok (.if_icmp .ge 20, 3) := by decide +kernel
theorem dX8_albumCount_10 : decode cX8_albumCount 10 = .ok (.aload_n 0, 1) := by decide +kernel
theorem dX8_albumCount_11 : decode cX8_albumCount 11 = .ok (.iload_n 2, 1) := by decide +kernel
theorem dX8_albumCount_12 : decode cX8_albumCount 12 = .ok (.invokevirtual 241, 3) := by decide +kernel
theorem dX8_albumCount_15 : decode cX8_albumCount 15 = .ok (.ifCond .eq 6, 3) := by decide +kernel
theorem dX8_albumCount_18 : decode cX8_albumCount 18 = .ok (.iinc 1 1, 3) := by decide +kernel
theorem dX8_albumCount_21 : decode cX8_albumCount 21 = .ok (.iinc 2 1, 3) := by decide +kernel
theorem dX8_albumCount_24 : decode cX8_albumCount 24 = .ok (.goto (-20), 3) := by decide +kernel
theorem dX8_albumCount_27 : decode cX8_albumCount 27 = .ok (.iload_n 1, 1) := by decide +kernel
theorem dX8_albumCount_28 : decode cX8_albumCount 28 = .ok (.ireturn, 1) := by decide +kernel
set_option maxRecDepth 20000 in
theorem ggX8_freeAlbum_X8_hasAlbum : GoodIn wsX8_freeAlbum wsX8_hasAlbum := goodIn_r _ [5, 6, 7, 8, 4, 9, 10, 11, 12, 13, 14, 15, 16, 17, 18, 19, 20, 21, 22, 23, 24, 25, 26, 27, 28, 29, 30] (by decide +kernel) (by decide +kernel)
set_option maxRecDepth 20000 in
theorem gX8_freeAlbum_X8_hasAlbum : GoodIn wsX8_freeAlbum (wsV RX8 241 RX8 yX8_hasAlbum wsX8_hasAlbum) := goodIn_app (goodIn_of _ (by decide +kernel)) ggX8_freeAlbum_X8_hasAlbum
theorem dX8_freeAlbum_0 : decode cX8_freeAlbum 0 = .ok (.iconst 0, 1) := by decide +kernel
theorem dX8_freeAlbum_1 : decode cX8_freeAlbum 1 = .ok (.istore_n 1, 1) := by decide +kernel
theorem dX8_freeAlbum_2 : decode cX8_freeAlbum 2 = .ok (.iload_n 1, 1) := by decide +kernel
theorem dX8_freeAlbum_3 : decode cX8_freeAlbum 3 = .ok (.bipush 8, 2) := by decide +kernel
theorem dX8_freeAlbum_5 : decode cX8_freeAlbum 5 = .ok (.if_icmp .ge 17, 3) := by decide +kernel
theorem dX8_freeAlbum_8 : decode cX8_freeAlbum 8 = .ok (.aload_n 0, 1) := by decide +kernel
theorem dX8_freeAlbum_9 : decode cX8_freeAlbum 9 = .ok (.iload_n 1, 1) := by decide +kernel
theorem dX8_freeAlbum_10 : decode cX8_freeAlbum 10 = .ok (.invokevirtual 241, 3) := by decide +kernel
theorem dX8_freeAlbum_13 : decode cX8_freeAlbum 13 = .ok (.ifCond .eq 9, 3) := by decide +kernel
theorem dX8_freeAlbum_16 : decode cX8_freeAlbum 16 = .ok (.iinc 1 1, 3) := by decide +kernel
theorem dX8_freeAlbum_19 : decode cX8_freeAlbum 19 = .ok (.goto (-17), 3) := by decide +kernel
theorem dX8_freeAlbum_22 : decode cX8_freeAlbum 22 = .ok (.iload_n 1, 1) := by decide +kernel
theorem dX8_freeAlbum_23 : decode cX8_freeAlbum 23 = .ok (.ireturn, 1) := by decide +kernel
set_option maxRecDepth 20000 in
theorem ggX8_isTextUsable_X5_firstFault : GoodIn wsX8_isTextUsable wsX5_firstFault := goodIn_r _ [6, 7, 8, 9, 10, 5, 11, 12, 13, 14, 15, 16, 17, 18, 19, 20, 21, 22, 23, 24, 25, 26, 27, 28, 29, 61, 62] (by decide +kernel) (by decide +kernel)
set_option maxRecDepth 20000 in
theorem gX8_isTextUsable_X5_firstFault : GoodIn wsX8_isTextUsable (wsV RX8 225 RX5 yX5_firstFault wsX5_firstFault) := goodIn_app (goodIn_of _ (by decide +kernel)) ggX8_isTextUsable_X5_firstFault
set_option maxRecDepth 20000 in
theorem ggX8_isTextUsable_X5_names : GoodIn wsX8_isTextUsable wsX5_names := goodIn_r _ [33, 7, 34, 35, 36, 5, 37, 8, 61, 62] (by decide +kernel) (by decide +kernel)
set_option maxRecDepth 20000 in
theorem gX8_isTextUsable_X5_names : GoodIn wsX8_isTextUsable (wsV RX8 305 RX5 yX5_names wsX5_names) := goodIn_app (goodIn_of _ (by decide +kernel)) ggX8_isTextUsable_X5_names
set_option maxRecDepth 20000 in
theorem ggX8_isTextUsable_X8_hasAlbum : GoodIn wsX8_isTextUsable wsX8_hasAlbum := goodIn_r _ [42, 43, 44, 45, 41, 46, 47, 48, 49, 50, 51, 52, 53, 54, 55, 56, 57, 58, 59, 60, 63, 64, 65, 66, 67, 68, 69] (by decide +kernel) (by decide +kernel)
set_option maxRecDepth 20000 in
theorem gX8_isTextUsable_X8_hasAlbum : GoodIn wsX8_isTextUsable (wsV RX8 241 RX8 yX8_hasAlbum wsX8_hasAlbum) := goodIn_app (goodIn_of _ (by decide +kernel)) ggX8_isTextUsable_X8_hasAlbum
theorem dX8_isTextUsable_0 : decode cX8_isTextUsable 0 = .ok (.aload_n 0, 1) := by decide +kernel
theorem dX8_isTextUsable_1 : decode cX8_isTextUsable 1 = .ok (.getfield 35, 3) := by decide +kernel
theorem dX8_isTextUsable_4 : decode cX8_isTextUsable 4 = .ok (.invokevirtual 225, 3) := by decide +kernel
theorem dX8_isTextUsable_7 : decode cX8_isTextUsable 7 = .ok (.iconst (-1), 1) := by decide +kernel
theorem dX8_isTextUsable_8 : decode cX8_isTextUsable 8 = .ok (.if_icmp .eq 5, 3) := by decide +kernel
theorem dX8_isTextUsable_11 : decode cX8_isTextUsable 11 = .ok (.iconst 0, 1) := by decide +kernel
theorem dX8_isTextUsable_12 : decode cX8_isTextUsable 12 = .ok (.ireturn, 1) := by decide +kernel
theorem dX8_isTextUsable_13 : decode cX8_isTextUsable 13 = .ok (.iconst 0, 1) := by decide +kernel
theorem dX8_isTextUsable_14 : decode cX8_isTextUsable 14 = .ok (.istore_n 2, 1) := by decide +kernel
theorem dX8_isTextUsable_15 : decode cX8_isTextUsable 15 = .ok (.iload_n 2, 1) := by decide +kernel
theorem dX8_isTextUsable_16 : decode cX8_isTextUsable 16 = .ok (.bipush 9, 2) := by decide +kernel
theorem dX8_isTextUsable_18 : decode cX8_isTextUsable 18 = .ok (.if_icmp .gt 35, 3) := by decide +kernel
theorem dX8_isTextUsable_21 : decode cX8_isTextUsable 21 = .ok (.aload_n 0, 1) := by decide +kernel
theorem dX8_isTextUsable_22 : decode cX8_isTextUsable 22 = .ok (.getfield 35, 3) := by decide +kernel
theorem dX8_isTextUsable_25 : decode cX8_isTextUsable 25 = .ok (.iload_n 2, 1) := by decide +kernel
theorem dX8_isTextUsable_26 : decode cX8_isTextUsable 26 = .ok (.invokevirtual 305, 3) := by decide +kernel
theorem dX8_isTextUsable_29 : decode cX8_isTextUsable 29 = .ok (.ifCond .eq 18, 3) := by decide +kernel
theorem dX8_isTextUsable_32 : decode cX8_isTextUsable 32 = .ok (.iload_n 2, 1) := by decide +kernel
theorem dX8_isTextUsable_33 : decode cX8_isTextUsable 33 = .ok (.iload_n 1, 1) := by decide +kernel
theorem dX8_isTextUsable_34 : decode cX8_isTextUsable 34 = .ok (.if_icmp .ge 11, 3) := by decide +kernel
theorem dX8_isTextUsable_37 : decode cX8_isTextUsable 37 = .ok (.aload_n 0, 1) := by decide +kernel
theorem dX8_isTextUsable_38 : decode cX8_isTextUsable 38 = .ok (.iload_n 2, 1) := by decide +kernel
theorem dX8_isTextUsable_39 : decode cX8_isTextUsable 39 = .ok (.invokevirtual 241, 3) := by decide +kernel
theorem dX8_isTextUsable_42 : decode cX8_isTextUsable 42 = .ok (.ifCond .ne 5, 3) := by decide +kernel
theorem dX8_isTextUsable_45 : decode cX8_isTextUsable 45 = .ok (.iconst 0, 1) := by decide +kernel
theorem dX8_isTextUsable_46 : decode cX8_isTextUsable 46 = .ok (.ireturn, 1) := by decide +kernel
theorem dX8_isTextUsable_47 : decode cX8_isTextUsable 47 = .ok (.iinc 2 1, 3) := by decide +kernel
theorem dX8_isTextUsable_50 : decode cX8_isTextUsable 50 = .ok (.goto (-35), 3) := by decide +kernel
theorem dX8_isTextUsable_53 : decode cX8_isTextUsable 53 = .ok (.iconst 1, 1) := by decide +kernel
theorem dX8_isTextUsable_54 : decode cX8_isTextUsable 54 = .ok (.ireturn, 1) := by decide +kernel
set_option maxRecDepth 20000 in
theorem ggX8_settle_X1_settleValues : GoodIn wsX8_settle wsX1_settleValues := goodIn_r _ [11, 12, 13, 14, 15, 16, 17, 18, 10, 19, 20, 21, 22, 23, 24, 25, 26, 27, 28, 29, 30, 31, 32, 33, 34, 35, 36, 37, 247, 248, 249, 250, 251, 252] (by decide +kernel) (by decide +kernel)
set_option maxRecDepth 20000 in
theorem gX8_settle_X1_settleValues : GoodIn wsX8_settle (wsV RX8 306 RX1 yX1_settleValues wsX1_settleValues) := goodIn_app (goodIn_of _ (by decide +kernel)) ggX8_settle_X1_settleValues
set_option maxRecDepth 20000 in
theorem ggX8_settle_X2_regroup : GoodIn wsX8_settle wsX2_regroup := goodIn_r _ [42, 43, 44, 45, 46, 47, 48, 49, 10, 50, 12, 13, 14, 15, 51, 52, 53, 54, 55, 56, 57, 58, 59, 60, 41, 61, 62, 63, 64, 65, 66, 67, 68, 69, 20, 70, 71, 72, 73, 74, 75, 76, 77, 78, 79, 80, 253, 254, 255, 247, 248, 249, 250, 251, 252] (by decide +kernel) (by decide +kernel)
set_option maxRecDepth 20000 in
theorem gX8_settle_X2_regroup : GoodIn wsX8_settle (wsV RX8 309 RX2 yX2_regroup wsX2_regroup) := goodIn_app (goodIn_of _ (by decide +kernel)) ggX8_settle_X2_regroup
set_option maxRecDepth 20000 in
theorem ggX8_settle_X6_findCovers : GoodIn wsX8_settle wsX6_findCovers := goodIn_r _ [85, 86, 87, 88, 89, 84, 90, 91, 92, 14, 93, 94, 95, 96, 97, 98, 99, 100, 101, 102, 103, 104, 67, 68, 10, 69, 20, 56, 57, 256, 257, 258, 259, 260, 261, 262, 263, 247, 248, 249, 250, 251, 252] (by decide +kernel) (by decide +kernel)
set_option maxRecDepth 20000 in
theorem gX8_settle_X6_findCovers : GoodIn wsX8_settle (wsV RX8 312 RX6 yX6_findCovers wsX6_findCovers) := goodIn_app (goodIn_of _ (by decide +kernel)) ggX8_settle_X6_findCovers
set_option maxRecDepth 20000 in
theorem ggX8_settle_X8_hasAlbum : GoodIn wsX8_settle wsX8_hasAlbum := goodIn_r _ [108, 5, 109, 92, 14, 93, 110, 111, 112, 113, 114, 115, 239, 240, 241, 242, 243, 244, 245, 246, 264, 265, 266, 267, 268, 269, 270] (by decide +kernel) (by decide +kernel)
set_option maxRecDepth 20000 in
theorem gX8_settle_X8_hasAlbum : GoodIn wsX8_settle (wsV RX8 241 RX8 yX8_hasAlbum wsX8_hasAlbum) := goodIn_app (goodIn_of _ (by decide +kernel)) ggX8_settle_X8_hasAlbum
set_option maxRecDepth 20000 in
theorem ggX8_settle_X0_rule : GoodIn wsX8_settle wsX0_rule := goodIn_r _ [119, 120, 264, 265, 266, 267, 268, 269, 270] (by decide +kernel) (by decide +kernel)
set_option maxRecDepth 20000 in
theorem gX8_settle_X0_rule : GoodIn wsX8_settle (wsV RX8 315 RX0 yX0_rule wsX0_rule) := goodIn_app (goodIn_of _ (by decide +kernel)) ggX8_settle_X0_rule
set_option maxRecDepth 20000 in
theorem ggX8_settle_X4_filesFor : GoodIn wsX8_settle wsX4_filesFor := goodIn_r _ [125, 126, 127, 128, 129, 130, 131, 124, 132, 133, 134, 135, 48, 49, 10, 50, 12, 136, 137, 138, 139, 140, 141, 142, 143, 144, 145, 146, 147, 148, 149, 150, 151, 152, 153, 154, 155, 156, 157, 158, 159, 160, 161, 162, 163, 164, 13, 14, 15, 165, 67, 68, 69, 20, 56, 57, 166, 167, 168, 169, 170, 92, 93, 171, 172, 173, 113, 174, 175, 176, 177, 178, 84, 179, 180, 181, 182, 183, 184, 86, 185, 186, 187, 41, 188, 44, 189, 190, 191, 192, 43, 193, 194, 195, 196, 197, 198, 199, 200, 201, 202, 203, 204, 205, 206, 207, 208, 209, 210, 211, 212, 213, 214, 215, 216, 217, 218, 219, 271, 272, 273, 274, 275, 276, 277, 278, 247, 248, 249, 250, 251, 252, 279, 280, 264, 265, 266, 267, 268, 269, 270, 256, 257, 258, 259, 260, 261, 262, 263, 253, 254, 255] (by decide +kernel) (by decide +kernel)
set_option maxRecDepth 20000 in
theorem gX8_settle_X4_filesFor : GoodIn wsX8_settle (wsV RX8 231 RX4 yX4_filesFor wsX4_filesFor) := goodIn_app (goodIn_of _ (by decide +kernel)) ggX8_settle_X4_filesFor
set_option maxRecDepth 20000 in
theorem ggX8_settle_X0_become : GoodIn wsX8_settle wsX0_become := goodIn_r _ [223, 175, 224, 225, 13, 14, 15, 226, 227, 228, 229, 230, 231, 232, 233, 234, 235, 236, 237, 23, 238, 264, 265, 266, 267, 268, 269, 270, 281, 282, 283, 284, 285] (by decide +kernel) (by decide +kernel)
set_option maxRecDepth 20000 in
theorem gX8_settle_X0_become : GoodIn wsX8_settle (wsV RX8 319 RX0 yX0_become wsX0_become) := goodIn_app (goodIn_of _ (by decide +kernel)) ggX8_settle_X0_become
theorem dX8_settle_0 : decode cX8_settle 0 = .ok (.aload_n 0, 1) := by decide +kernel
theorem dX8_settle_1 : decode cX8_settle 1 = .ok (.getfield 10, 3) := by decide +kernel
theorem dX8_settle_4 : decode cX8_settle 4 = .ok (.invokevirtual 306, 3) := by decide +kernel
theorem dX8_settle_7 : decode cX8_settle 7 = .ok (.aload_n 0, 1) := by decide +kernel
theorem dX8_settle_8 : decode cX8_settle 8 = .ok (.getfield 21, 3) := by decide +kernel
theorem dX8_settle_11 : decode cX8_settle 11 = .ok (.invokevirtual 309, 3) := by decide +kernel
theorem dX8_settle_14 : decode cX8_settle 14 = .ok (.aload_n 0, 1) := by decide +kernel
theorem dX8_settle_15 : decode cX8_settle 15 = .ok (.getfield 28, 3) := by decide +kernel
theorem dX8_settle_18 : decode cX8_settle 18 = .ok (.invokevirtual 312, 3) := by decide +kernel
theorem dX8_settle_21 : decode cX8_settle 21 = .ok (.iconst 0, 1) := by decide +kernel
theorem dX8_settle_22 : decode cX8_settle 22 = .ok (.istore_n 1, 1) := by decide +kernel
theorem dX8_settle_23 : decode cX8_settle 23 = .ok (.iload_n 1, 1) := by decide +kernel
theorem dX8_settle_24 : decode cX8_settle 24 = .ok (.bipush 8, 2) := by decide +kernel
theorem dX8_settle_26 : decode cX8_settle 26 = .ok (.if_icmp .ge 49, 3) := by decide +kernel
theorem dX8_settle_29 : decode cX8_settle 29 = .ok (.aload_n 0, 1) := by decide +kernel
theorem dX8_settle_30 : decode cX8_settle 30 = .ok (.iload_n 1, 1) := by decide +kernel
theorem dX8_settle_31 : decode cX8_settle 31 = .ok (.invokevirtual 241, 3) := by decide +kernel
theorem dX8_settle_34 : decode cX8_settle 34 = .ok (.ifCond .eq 35, 3) := by decide +kernel
theorem dX8_settle_37 : decode cX8_settle 37 = .ok (.aload_n 0, 1) := by decide +kernel
theorem dX8_settle_38 : decode cX8_settle 38 = .ok (.getfield 51, 3) := by decide +kernel
theorem dX8_settle_41 : decode cX8_settle 41 = .ok (.aload_n 0, 1) := by decide +kernel
theorem dX8_settle_42 : decode cX8_settle 42 = .ok (.getfield 41, 3) := by decide +kernel
theorem dX8_settle_45 : decode cX8_settle 45 = .ok (.iload_n 1, 1) := by decide +kernel
theorem dX8_settle_46 : decode cX8_settle 46 = .ok (.aaload, 1) := by decide +kernel
theorem dX8_settle_47 : decode cX8_settle 47 = .ok (.invokevirtual 315, 3) := by decide +kernel
theorem dX8_settle_50 : decode cX8_settle 50 = .ok (.invokevirtual 231, 3) := by decide +kernel
theorem dX8_settle_53 : decode cX8_settle 53 = .ok (.lstore_n 2, 1) := by decide +kernel
theorem dX8_settle_54 : decode cX8_settle 54 = .ok (.aload_n 0, 1) := by decide +kernel
theorem dX8_settle_55 : decode cX8_settle 55 = .ok (.getfield 41, 3) := by decide +kernel
theorem dX8_settle_58 : decode cX8_settle 58 = .ok (.iload_n 1, 1) := by decide +kernel
theorem dX8_settle_59 : decode cX8_settle 59 = .ok (.aaload, 1) := by decide +kernel
theorem dX8_settle_60 : decode cX8_settle 60 = .ok (.lload_n 2, 1) := by decide +kernel
theorem dX8_settle_61 : decode cX8_settle 61 = .ok (.iload_n 1, 1) := by decide +kernel
theorem dX8_settle_62 : decode cX8_settle 62 = .ok (.aload_n 0, 1) := by decide +kernel
theorem dX8_settle_63 : decode cX8_settle 63 = .ok (.getfield 67, 3) := by decide +kernel
theorem dX8_settle_66 : decode cX8_settle 66 = .ok (.invokevirtual 319, 3) := by decide +kernel
theorem dX8_settle_69 : decode cX8_settle 69 = .ok (.iinc 1 1, 3) := by decide +kernel
theorem dX8_settle_72 : decode cX8_settle 72 = .ok (.goto (-49), 3) := by decide +kernel
theorem dX8_settle_75 : decode cX8_settle 75 = .ok (.return_, 1) := by decide +kernel
theorem dJ13_bitCount_95d88_0 : decode cJ13_bitCount_95d88 0 = .ok (.lload_n 0, 1) := by decide +kernel
theorem dJ13_bitCount_95d88_1 : decode cJ13_bitCount_95d88 1 = .ok (.lload_n 0, 1) := by decide +kernel
theorem dJ13_bitCount_95d88_2 : decode cJ13_bitCount_95d88 2 = .ok (.iconst 1, 1) := by decide +kernel
theorem dJ13_bitCount_95d88_3 : decode cJ13_bitCount_95d88 3 = .ok (.lushr, 1) := by decide +kernel
theorem dJ13_bitCount_95d88_4 : decode cJ13_bitCount_95d88 4 = .ok (.ldc2_w 314, 3) := by decide +kernel
theorem dJ13_bitCount_95d88_7 : decode cJ13_bitCount_95d88 7 = .ok (.land, 1) := by decide +kernel
theorem dJ13_bitCount_95d88_8 : decode cJ13_bitCount_95d88 8 = .ok (.lsub, 1) := by decide +kernel
theorem dJ13_bitCount_95d88_9 : decode cJ13_bitCount_95d88 9 = .ok (.lstore_n 0, 1) := by decide +kernel
theorem dJ13_bitCount_95d88_10 : decode cJ13_bitCount_95d88 10 = .ok (.lload_n 0, 1) := by decide +kernel
theorem dJ13_bitCount_95d88_11 : decode cJ13_bitCount_95d88 11 = .ok (.ldc2_w 316, 3) := by decide +kernel
theorem dJ13_bitCount_95d88_14 : decode cJ13_bitCount_95d88 14 = .ok (.land, 1) := by decide +kernel
theorem dJ13_bitCount_95d88_15 : decode cJ13_bitCount_95d88 15 = .ok (.lload_n 0, 1) := by decide +kernel
theorem dJ13_bitCount_95d88_16 : decode cJ13_bitCount_95d88 16 = .ok (.iconst 2, 1) := by decide +kernel
theorem dJ13_bitCount_95d88_17 : decode cJ13_bitCount_95d88 17 = .ok (.lushr, 1) := by decide +kernel
theorem dJ13_bitCount_95d88_18 : decode cJ13_bitCount_95d88 18 = .ok (.ldc2_w 316, 3) := by decide +kernel
theorem dJ13_bitCount_95d88_21 : decode cJ13_bitCount_95d88 21 = .ok (.land, 1) := by decide +kernel
theorem dJ13_bitCount_95d88_22 : decode cJ13_bitCount_95d88 22 = .ok (.ladd, 1) := by decide +kernel
theorem dJ13_bitCount_95d88_23 : decode cJ13_bitCount_95d88 23 = .ok (.lstore_n 0, 1) := by decide +kernel
theorem dJ13_bitCount_95d88_24 : decode cJ13_bitCount_95d88 24 = .ok (.lload_n 0, 1) := by decide +kernel
theorem dJ13_bitCount_95d88_25 : decode cJ13_bitCount_95d88 25 = .ok (.lload_n 0, 1) := by decide +kernel
theorem dJ13_bitCount_95d88_26 : decode cJ13_bitCount_95d88 26 = .ok (.iconst 4, 1) := by decide +kernel
theorem dJ13_bitCount_95d88_27 : decode cJ13_bitCount_95d88 27 = .ok (.lushr, 1) := by decide +kernel
theorem dJ13_bitCount_95d88_28 : decode cJ13_bitCount_95d88 28 = .ok (.ladd, 1) := by decide +kernel
theorem dJ13_bitCount_95d88_29 : decode cJ13_bitCount_95d88 29 = .ok (.ldc2_w 318, 3) := by decide +kernel
theorem dJ13_bitCount_95d88_32 : decode cJ13_bitCount_95d88 32 = .ok (.land, 1) := by decide +kernel
theorem dJ13_bitCount_95d88_33 : decode cJ13_bitCount_95d88 33 = .ok (.lstore_n 0, 1) := by decide +kernel
theorem dJ13_bitCount_95d88_34 : decode cJ13_bitCount_95d88 34 = .ok (.lload_n 0, 1) := by decide +kernel
theorem dJ13_bitCount_95d88_35 : decode cJ13_bitCount_95d88 35 = .ok (.lload_n 0, 1) := by decide +kernel
theorem dJ13_bitCount_95d88_36 : decode cJ13_bitCount_95d88 36 = .ok (.bipush 8, 2) := by decide +kernel
theorem dJ13_bitCount_95d88_38 : decode cJ13_bitCount_95d88 38 = .ok (.lushr, 1) := by decide +kernel
theorem dJ13_bitCount_95d88_39 : decode cJ13_bitCount_95d88 39 = .ok (.ladd, 1) := by decide +kernel
theorem dJ13_bitCount_95d88_40 : decode cJ13_bitCount_95d88 40 = .ok (.lstore_n 0, 1) := by decide +kernel
theorem dJ13_bitCount_95d88_41 : decode cJ13_bitCount_95d88 41 = .ok (.lload_n 0, 1) := by decide +kernel
theorem dJ13_bitCount_95d88_42 : decode cJ13_bitCount_95d88 42 = .ok (.lload_n 0, 1) := by decide +kernel
theorem dJ13_bitCount_95d88_43 : decode cJ13_bitCount_95d88 43 = .ok (.bipush 16, 2) := by decide +kernel
theorem dJ13_bitCount_95d88_45 : decode cJ13_bitCount_95d88 45 = .ok (.lushr, 1) := by decide +kernel
theorem dJ13_bitCount_95d88_46 : decode cJ13_bitCount_95d88 46 = .ok (.ladd, 1) := by decide +kernel
theorem dJ13_bitCount_95d88_47 : decode cJ13_bitCount_95d88 47 = .ok (.lstore_n 0, 1) := by decide +kernel
theorem dJ13_bitCount_95d88_48 : decode cJ13_bitCount_95d88 48 = .ok (.lload_n 0, 1) := by decide +kernel
theorem dJ13_bitCount_95d88_49 : decode cJ13_bitCount_95d88 49 = .ok (.lload_n 0, 1) := by decide +kernel
theorem dJ13_bitCount_95d88_50 : decode cJ13_bitCount_95d88 50 = .ok (.bipush 32, 2) := by decide +kernel
theorem dJ13_bitCount_95d88_52 : decode cJ13_bitCount_95d88 52 = .ok (.lushr, 1) := by decide +kernel
theorem dJ13_bitCount_95d88_53 : decode cJ13_bitCount_95d88 53 = .ok (.ladd, 1) := by decide +kernel
theorem dJ13_bitCount_95d88_54 : decode cJ13_bitCount_95d88 54 = .ok (.lstore_n 0, 1) := by decide +kernel
theorem dJ13_bitCount_95d88_55 : decode cJ13_bitCount_95d88 55 = .ok (.lload_n 0, 1) := by decide +kernel
theorem dJ13_bitCount_95d88_56 : decode cJ13_bitCount_95d88 56 = .ok (.l2i, 1) := by decide +kernel
theorem dJ13_bitCount_95d88_57 : decode cJ13_bitCount_95d88 57 = .ok (.bipush 127, 2) := by decide +kernel
theorem dJ13_bitCount_95d88_59 : decode cJ13_bitCount_95d88 59 = .ok (.iand, 1) := by decide +kernel
theorem dJ13_bitCount_95d88_60 : decode cJ13_bitCount_95d88 60 = .ok (.ireturn, 1) := by decide +kernel
theorem dJ9_max_7cf53_0 : decode cJ9_max_7cf53 0 = .ok (.iload_n 0, 1) := by decide +kernel
theorem dJ9_max_7cf53_1 : decode cJ9_max_7cf53 1 = .ok (.iload_n 1, 1) := by decide +kernel
theorem dJ9_max_7cf53_2 : decode cJ9_max_7cf53 2 = .ok (.if_icmp .lt 7, 3) := by decide +kernel
theorem dJ9_max_7cf53_5 : decode cJ9_max_7cf53 5 = .ok (.iload_n 0, 1) := by decide +kernel
theorem dJ9_max_7cf53_6 : decode cJ9_max_7cf53 6 = .ok (.goto 4, 3) := by decide +kernel
theorem dJ9_max_7cf53_9 : decode cJ9_max_7cf53 9 = .ok (.iload_n 1, 1) := by decide +kernel
theorem dJ9_max_7cf53_10 : decode cJ9_max_7cf53 10 = .ok (.ireturn, 1) := by decide +kernel
theorem dJ9_min_7cf53_0 : decode cJ9_min_7cf53 0 = .ok (.iload_n 0, 1) := by decide +kernel
theorem dJ9_min_7cf53_1 : decode cJ9_min_7cf53 1 = .ok (.iload_n 1, 1) := by decide +kernel
theorem dJ9_min_7cf53_2 : decode cJ9_min_7cf53 2 = .ok (.if_icmp .gt 7, 3) := by decide +kernel
theorem dJ9_min_7cf53_5 : decode cJ9_min_7cf53 5 = .ok (.iload_n 0, 1) := by decide +kernel
theorem dJ9_min_7cf53_6 : decode cJ9_min_7cf53 6 = .ok (.goto 4, 3) := by decide +kernel
theorem dJ9_min_7cf53_9 : decode cJ9_min_7cf53 9 = .ok (.iload_n 1, 1) := by decide +kernel
theorem dJ9_min_7cf53_10 : decode cJ9_min_7cf53 10 = .ok (.ireturn, 1) := by decide +kernel
theorem dJ7_rangeCheck_23922_0 : decode cJ7_rangeCheck_23922 0 = .ok (.iload_n 1, 1) := by decide +kernel
theorem dJ7_rangeCheck_23922_1 : decode cJ7_rangeCheck_23922 1 = .ok (.iload_n 2, 1) := by decide +kernel
theorem dJ7_rangeCheck_23922_2 : decode cJ7_rangeCheck_23922 2 = .ok (.if_icmp .le 44, 3) := by decide +kernel
theorem dJ7_rangeCheck_23922_5 : decode cJ7_rangeCheck_23922 5 = .ok (.new 43, 3) := by decide +kernel
theorem dJ7_rangeCheck_23922_8 : decode cJ7_rangeCheck_23922 8 = .ok (.dup, 1) := by decide +kernel
theorem dJ7_rangeCheck_23922_9 : decode cJ7_rangeCheck_23922 9 = .ok (.new 45, 3) := by decide +kernel
theorem dJ7_rangeCheck_23922_12 : decode cJ7_rangeCheck_23922 12 = .ok (.dup, 1) := by decide +kernel
theorem dJ7_rangeCheck_23922_13 : decode cJ7_rangeCheck_23922 13 = .ok (.invokespecial 47, 3) := by decide +kernel
theorem dJ7_rangeCheck_23922_16 : decode cJ7_rangeCheck_23922 16 = .ok (.ldc 48, 2) := by decide +kernel
theorem dJ7_rangeCheck_23922_18 : decode cJ7_rangeCheck_23922 18 = .ok (.invokevirtual 50, 3) := by decide +kernel
theorem dJ7_rangeCheck_23922_21 : decode cJ7_rangeCheck_23922 21 = .ok (.iload_n 1, 1) := by decide +kernel
theorem dJ7_rangeCheck_23922_22 : decode cJ7_rangeCheck_23922 22 = .ok (.invokevirtual 54, 3) := by decide +kernel
theorem dJ7_rangeCheck_23922_25 : decode cJ7_rangeCheck_23922 25 = .ok (.ldc 57, 2) := by decide +kernel
theorem dJ7_rangeCheck_23922_27 : decode cJ7_rangeCheck_23922 27 = .ok (.invokevirtual 50, 3) := by decide +kernel
theorem dJ7_rangeCheck_23922_30 : decode cJ7_rangeCheck_23922 30 = .ok (.iload_n 2, 1) := by decide +kernel
theorem dJ7_rangeCheck_23922_31 : decode cJ7_rangeCheck_23922 31 = .ok (.invokevirtual 54, 3) := by decide +kernel
theorem dJ7_rangeCheck_23922_34 : decode cJ7_rangeCheck_23922 34 = .ok (.ldc 59, 2) := by decide +kernel
theorem dJ7_rangeCheck_23922_36 : decode cJ7_rangeCheck_23922 36 = .ok (.invokevirtual 50, 3) := by decide +kernel
theorem dJ7_rangeCheck_23922_39 : decode cJ7_rangeCheck_23922 39 = .ok (.invokevirtual 61, 3) := by decide +kernel
theorem dJ7_rangeCheck_23922_42 : decode cJ7_rangeCheck_23922 42 = .ok (.invokespecial 65, 3) := by decide +kernel
theorem dJ7_rangeCheck_23922_45 : decode cJ7_rangeCheck_23922 45 = .ok (.athrow, 1) := by decide +kernel
theorem dJ7_rangeCheck_23922_46 : decode cJ7_rangeCheck_23922 46 = .ok (.iload_n 1, 1) := by decide +kernel
theorem dJ7_rangeCheck_23922_47 : decode cJ7_rangeCheck_23922 47 = .ok (.ifCond .ge 12, 3) := by decide +kernel
theorem dJ7_rangeCheck_23922_50 : decode cJ7_rangeCheck_23922 50 = .ok (.new 68, 3) := by decide +kernel
theorem dJ7_rangeCheck_23922_53 : decode cJ7_rangeCheck_23922 53 = .ok (.dup, 1) := by decide +kernel
theorem dJ7_rangeCheck_23922_54 : decode cJ7_rangeCheck_23922 54 = .ok (.iload_n 1, 1) := by decide +kernel
theorem dJ7_rangeCheck_23922_55 : decode cJ7_rangeCheck_23922 55 = .ok (.invokespecial 70, 3) := by decide +kernel
theorem dJ7_rangeCheck_23922_58 : decode cJ7_rangeCheck_23922 58 = .ok (.athrow, 1) := by decide +kernel
theorem dJ7_rangeCheck_23922_59 : decode cJ7_rangeCheck_23922 59 = .ok (.iload_n 2, 1) := by decide +kernel
theorem dJ7_rangeCheck_23922_60 : decode cJ7_rangeCheck_23922 60 = .ok (.iload_n 0, 1) := by decide +kernel
theorem dJ7_rangeCheck_23922_61 : decode cJ7_rangeCheck_23922 61 = .ok (.if_icmp .le 12, 3) := by decide +kernel
theorem dJ7_rangeCheck_23922_64 : decode cJ7_rangeCheck_23922 64 = .ok (.new 68, 3) := by decide +kernel
theorem dJ7_rangeCheck_23922_67 : decode cJ7_rangeCheck_23922 67 = .ok (.dup, 1) := by decide +kernel
theorem dJ7_rangeCheck_23922_68 : decode cJ7_rangeCheck_23922 68 = .ok (.iload_n 2, 1) := by decide +kernel
theorem dJ7_rangeCheck_23922_69 : decode cJ7_rangeCheck_23922 69 = .ok (.invokespecial 70, 3) := by decide +kernel
theorem dJ7_rangeCheck_23922_72 : decode cJ7_rangeCheck_23922 72 = .ok (.athrow, 1) := by decide +kernel
theorem dJ7_rangeCheck_23922_73 : decode cJ7_rangeCheck_23922 73 = .ok (.return_, 1) := by decide +kernel
theorem dJ7_fill_53178_0 : decode cJ7_fill_53178 0 = .ok (.iconst 0, 1) := by decide +kernel
theorem dJ7_fill_53178_1 : decode cJ7_fill_53178 1 = .ok (.istore_n 2, 1) := by decide +kernel
theorem dJ7_fill_53178_2 : decode cJ7_fill_53178 2 = .ok (.aload_n 0, 1) := by decide +kernel
theorem dJ7_fill_53178_3 : decode cJ7_fill_53178 3 = .ok (.arraylength, 1) := by decide +kernel
theorem dJ7_fill_53178_4 : decode cJ7_fill_53178 4 = .ok (.istore_n 3, 1) := by decide +kernel
theorem dJ7_fill_53178_5 : decode cJ7_fill_53178 5 = .ok (.iload_n 2, 1) := by decide +kernel
theorem dJ7_fill_53178_6 : decode cJ7_fill_53178 6 = .ok (.iload_n 3, 1) := by decide +kernel
theorem dJ7_fill_53178_7 : decode cJ7_fill_53178 7 = .ok (.if_icmp .ge 13, 3) := by decide +kernel
theorem dJ7_fill_53178_10 : decode cJ7_fill_53178 10 = .ok (.aload_n 0, 1) := by decide +kernel
theorem dJ7_fill_53178_11 : decode cJ7_fill_53178 11 = .ok (.iload_n 2, 1) := by decide +kernel
theorem dJ7_fill_53178_12 : decode cJ7_fill_53178 12 = .ok (.iload_n 1, 1) := by decide +kernel
theorem dJ7_fill_53178_13 : decode cJ7_fill_53178 13 = .ok (.iastore, 1) := by decide +kernel
theorem dJ7_fill_53178_14 : decode cJ7_fill_53178 14 = .ok (.iinc 2 1, 3) := by decide +kernel
theorem dJ7_fill_53178_17 : decode cJ7_fill_53178 17 = .ok (.goto (-12), 3) := by decide +kernel
theorem dJ7_fill_53178_20 : decode cJ7_fill_53178 20 = .ok (.return_, 1) := by decide +kernel
set_option maxRecDepth 20000 in
theorem ggJ7_fill_fda19_J7_rangeCheck_23922 : GoodIn wsJ7_fill_fda19 wsJ7_rangeCheck_23922 := goodIn_r _ [4] (by decide +kernel) (by decide +kernel)
set_option maxRecDepth 20000 in
theorem gJ7_fill_fda19_J7_rangeCheck_23922 : GoodIn wsJ7_fill_fda19 (va_wsS RJ7 13 yJ7_rangeCheck_23922 wsJ7_rangeCheck_23922) := goodIn_app (goodIn_of _ (by decide +kernel)) ggJ7_fill_fda19_J7_rangeCheck_23922
theorem dJ7_fill_fda19_0 : decode cJ7_fill_fda19 0 = .ok (.aload_n 0, 1) := by decide +kernel
theorem dJ7_fill_fda19_1 : decode cJ7_fill_fda19 1 = .ok (.arraylength, 1) := by decide +kernel
theorem dJ7_fill_fda19_2 : decode cJ7_fill_fda19 2 = .ok (.iload_n 1, 1) := by decide +kernel
theorem dJ7_fill_fda19_3 : decode cJ7_fill_fda19 3 = .ok (.iload_n 2, 1) := by decide +kernel
theorem dJ7_fill_fda19_4 : decode cJ7_fill_fda19 4 = .ok (.invokestatic 13, 3) := by decide +kernel
theorem dJ7_fill_fda19_7 : decode cJ7_fill_fda19 7 = .ok (.iload_n 1, 1) := by decide +kernel
theorem dJ7_fill_fda19_8 : decode cJ7_fill_fda19 8 = .ok (.istore 4, 2) := by decide +kernel
theorem dJ7_fill_fda19_10 : decode cJ7_fill_fda19 10 = .ok (.iload 4, 2) := by decide +kernel
theorem dJ7_fill_fda19_12 : decode cJ7_fill_fda19 12 = .ok (.iload_n 2, 1) := by decide +kernel
theorem dJ7_fill_fda19_13 : decode cJ7_fill_fda19 13 = .ok (.if_icmp .ge 14, 3) := by decide +kernel
theorem dJ7_fill_fda19_16 : decode cJ7_fill_fda19 16 = .ok (.aload_n 0, 1) := by decide +kernel
theorem dJ7_fill_fda19_17 : decode cJ7_fill_fda19 17 = .ok (.iload 4, 2) := by decide +kernel
theorem dJ7_fill_fda19_19 : decode cJ7_fill_fda19 19 = .ok (.iload_n 3, 1) := by decide +kernel
theorem dJ7_fill_fda19_20 : decode cJ7_fill_fda19 20 = .ok (.iastore, 1) := by decide +kernel
theorem dJ7_fill_fda19_21 : decode cJ7_fill_fda19 21 = .ok (.iinc 4 1, 3) := by decide +kernel
theorem dJ7_fill_fda19_24 : decode cJ7_fill_fda19 24 = .ok (.goto (-14), 3) := by decide +kernel
theorem dJ7_fill_fda19_27 : decode cJ7_fill_fda19 27 = .ok (.return_, 1) := by decide +kernel
theorem dL_cell_0 : decode cL_cell 0 = .ok (.iload_n 1, 1) := by decide +kernel
theorem dL_cell_1 : decode cL_cell 1 = .ok (.aload_n 0, 1) := by decide +kernel
theorem dL_cell_2 : decode cL_cell 2 = .ok (.arraylength, 1) := by decide +kernel
theorem dL_cell_3 : decode cL_cell 3 = .ok (.if_icmp .ge 9, 3) := by decide +kernel
theorem dL_cell_6 : decode cL_cell 6 = .ok (.aload_n 0, 1) := by decide +kernel
theorem dL_cell_7 : decode cL_cell 7 = .ok (.iload_n 1, 1) := by decide +kernel
theorem dL_cell_8 : decode cL_cell 8 = .ok (.iaload, 1) := by decide +kernel
theorem dL_cell_9 : decode cL_cell 9 = .ok (.goto 10, 3) := by decide +kernel
theorem dL_cell_12 : decode cL_cell 12 = .ok (.ldc 7, 2) := by decide +kernel
theorem dL_cell_14 : decode cL_cell 14 = .ok (.iload_n 1, 1) := by decide +kernel
theorem dL_cell_15 : decode cL_cell 15 = .ok (.imul, 1) := by decide +kernel
theorem dL_cell_16 : decode cL_cell 16 = .ok (.bipush 109, 2) := by decide +kernel
theorem dL_cell_18 : decode cL_cell 18 = .ok (.iadd, 1) := by decide +kernel
theorem dL_cell_19 : decode cL_cell 19 = .ok (.ldc 8, 2) := by decide +kernel
theorem dL_cell_21 : decode cL_cell 21 = .ok (.iand, 1) := by decide +kernel
theorem dL_cell_22 : decode cL_cell 22 = .ok (.ireturn, 1) := by decide +kernel
set_option maxRecDepth 20000 in
theorem ggL_types_X8_clearRule : GoodIn wsL_types wsX8_clearRule := goodIn_r _ [6, 7, 8, 9, 10, 11, 12, 13, 14, 15, 16, 17, 30, 31, 32, 33, 34, 35, 36, 37, 38, 39] (by decide +kernel) (by decide +kernel)
set_option maxRecDepth 20000 in
theorem gL_types_X8_clearRule : GoodIn wsL_types (wsV RL 9 RX8 yX8_clearRule wsX8_clearRule) := goodIn_app (goodIn_of _ (by decide +kernel)) ggL_types_X8_clearRule
set_option maxRecDepth 20000 in
theorem ggL_types_X8_type : GoodIn wsL_types wsX8_type := goodIn_r _ [21, 7, 22, 23, 5, 24, 8, 9, 10, 11, 12, 13, 25, 26, 27, 28, 29, 30, 31, 32, 33, 34, 35, 36, 37, 38, 39] (by decide +kernel) (by decide +kernel)
set_option maxRecDepth 20000 in
theorem gL_types_X8_type : GoodIn wsL_types (wsV RL 17 RX8 yX8_type wsX8_type) := goodIn_app (goodIn_of _ (by decide +kernel)) ggL_types_X8_type
theorem dL_types_0 : decode cL_types 0 = .ok (.aload_n 0, 1) := by decide +kernel
theorem dL_types_1 : decode cL_types 1 = .ok (.invokevirtual 9, 3) := by decide +kernel
theorem dL_types_4 : decode cL_types 4 = .ok (.pop, 1) := by decide +kernel
theorem dL_types_5 : decode cL_types 5 = .ok (.iconst 1, 1) := by decide +kernel
theorem dL_types_6 : decode cL_types 6 = .ok (.istore_n 3, 1) := by decide +kernel
theorem dL_types_7 : decode cL_types 7 = .ok (.lload_n 1, 1) := by decide +kernel
theorem dL_types_8 : decode cL_types 8 = .ok (.lstore 4, 2) := by decide +kernel
theorem dL_types_10 : decode cL_types 10 = .ok (.lload 4, 2) := by decide +kernel
theorem dL_types_12 : decode cL_types 12 = .ok (.lconst 0, 1) := by decide +kernel
theorem dL_types_13 : decode cL_types 13 = .ok (.lcmp, 1) := by decide +kernel
theorem dL_types_14 : decode cL_types 14 = .ok (.ifCond .le 37, 3) := by decide +kernel
theorem dL_types_17 : decode cL_types 17 = .ok (.iload_n 3, 1) := by decide +kernel
theorem dL_types_18 : decode cL_types 18 = .ok (.ifCond .eq 21, 3) := by decide +kernel
theorem dL_types_21 : decode cL_types 21 = .ok (.aload_n 0, 1) := by decide +kernel
theorem dL_types_22 : decode cL_types 22 = .ok (.lload 4, 2) := by decide +kernel
theorem dL_types_24 : decode cL_types 24 = .ok (.ldc2_w 15, 3) := by decide +kernel
theorem dL_types_27 : decode cL_types 27 = .ok (.land, 1) := by decide +kernel
theorem dL_types_28 : decode cL_types 28 = .ok (.l2i, 1) := by decide +kernel
theorem dL_types_29 : decode cL_types 29 = .ok (.invokevirtual 17, 3) := by decide +kernel
theorem dL_types_32 : decode cL_types 32 = .ok (.ifCond .le 7, 3) := by decide +kernel
theorem dL_types_35 : decode cL_types 35 = .ok (.iconst 1, 1) := by decide +kernel
theorem dL_types_36 : decode cL_types 36 = .ok (.goto 4, 3) := by decide +kernel
theorem dL_types_39 : decode cL_types 39 = .ok (.iconst 0, 1) := by decide +kernel
theorem dL_types_40 : decode cL_types 40 = .ok (.istore_n 3, 1) := by decide +kernel
theorem dL_types_41 : decode cL_types 41 = .ok (.lload 4, 2) := by decide +kernel
theorem dL_types_43 : decode cL_types 43 = .ok (.bipush 8, 2) := by decide +kernel
theorem dL_types_45 : decode cL_types 45 = .ok (.lshr, 1) := by decide +kernel
theorem dL_types_46 : decode cL_types 46 = .ok (.lstore 4, 2) := by decide +kernel
theorem dL_types_48 : decode cL_types 48 = .ok (.goto (-38), 3) := by decide +kernel
theorem dL_types_51 : decode cL_types 51 = .ok (.iload_n 3, 1) := by decide +kernel
theorem dL_types_52 : decode cL_types 52 = .ok (.ireturn, 1) := by decide +kernel
theorem dL_text_0 : decode cL_text 0 = .ok (.iload_n 0, 1) := by decide +kernel
theorem dL_text_1 : decode cL_text 1 = .ok (.ifCond .ne 9, 3) := by decide +kernel
theorem dL_text_4 : decode cL_text 4 = .ok (.ldc2_w 21, 3) := by decide +kernel
theorem dL_text_7 : decode cL_text 7 = .ok (.goto 39, 3) := by decide +kernel
theorem dL_text_10 : decode cL_text 10 = .ok (.iload_n 0, 1) := by decide +kernel
theorem dL_text_11 : decode cL_text 11 = .ok (.iconst 1, 1) := by decide +kernel
theorem dL_text_12 : decode cL_text 12 = .ok (.if_icmp .ne 9, 3) := by decide +kernel
theorem dL_text_15 : decode cL_text 15 = .ok (.ldc2_w 23, 3) := by decide +kernel
theorem dL_text_18 : decode cL_text 18 = .ok (.goto 28, 3) := by decide +kernel
theorem dL_text_21 : decode cL_text 21 = .ok (.iload_n 0, 1) := by decide +kernel
theorem dL_text_22 : decode cL_text 22 = .ok (.iconst 2, 1) := by decide +kernel
theorem dL_text_23 : decode cL_text 23 = .ok (.if_icmp .ne 9, 3) := by decide +kernel
theorem dL_text_26 : decode cL_text 26 = .ok (.ldc2_w 25, 3) := by decide +kernel
theorem dL_text_29 : decode cL_text 29 = .ok (.goto 17, 3) := by decide +kernel
theorem dL_text_32 : decode cL_text 32 = .ok (.iload_n 0, 1) := by decide +kernel
theorem dL_text_33 : decode cL_text 33 = .ok (.iconst 3, 1) := by decide +kernel
theorem dL_text_34 : decode cL_text 34 = .ok (.if_icmp .ne 9, 3) := by decide +kernel
theorem dL_text_37 : decode cL_text 37 = .ok (.ldc2_w 27, 3) := by decide +kernel
theorem dL_text_40 : decode cL_text 40 = .ok (.goto 6, 3) := by decide +kernel
theorem dL_text_43 : decode cL_text 43 = .ok (.ldc2_w 29, 3) := by decide +kernel
theorem dL_text_46 : decode cL_text 46 = .ok (.lreturn, 1) := by decide +kernel
set_option maxRecDepth 20000 in
theorem ggL_acts_X8_fileCount : GoodIn wsL_acts wsX8_fileCount := goodIn_r _ [5, 6, 7, 8, 9, 10, 11, 12, 13, 14, 15, 16, 17, 18, 19, 434, 435, 436, 437, 438, 439, 440, 441, 442, 443, 444, 445, 446, 447] (by decide +kernel) (by decide +kernel)
set_option maxRecDepth 20000 in
theorem gL_acts_X8_fileCount : GoodIn wsL_acts (wsV RL 31 RX8 yX8_fileCount wsX8_fileCount) := goodIn_app (goodIn_of _ (by decide +kernel)) ggL_acts_X8_fileCount
set_option maxRecDepth 20000 in
theorem ggL_acts_X8_add : GoodIn wsL_acts wsX8_add := goodIn_r _ [23, 24, 6, 25, 26, 4, 27, 28, 29, 30, 10, 31, 12, 32, 33, 34, 35, 36, 37, 38, 39, 40, 41, 42, 43, 44, 45, 46, 47, 48, 49, 50, 51, 52, 53, 54, 55, 56, 57, 58, 59, 60, 61, 62, 63, 64, 65, 66, 67, 68, 69, 70, 71, 72, 73, 74, 75, 76, 77, 78, 79, 80, 81, 82, 83, 84, 85, 86, 87, 88, 89, 90, 91, 92, 93, 94, 95, 96, 97, 98, 99, 100, 101, 102, 103, 104, 105, 106, 107, 108, 109, 110, 111, 112, 113, 114, 115, 116, 117, 14, 15, 16, 17, 18, 19, 118, 119, 120, 121, 122, 123, 124, 125, 126, 127, 128, 129, 130, 131, 132, 133, 134, 135, 136, 137, 138, 139, 140, 141, 142, 143, 144, 145, 146, 147, 148, 149, 150, 151, 152, 153, 154, 155, 156, 157, 158, 159, 160, 161, 162, 163, 164, 165, 166, 167, 168, 169, 170, 171, 172, 173, 174, 175, 176, 177, 178, 179, 180, 181, 182, 183, 184, 185, 186, 187, 188, 189, 190, 191, 192, 193, 194, 195, 196, 197, 198, 199, 200, 201, 202, 203, 204, 205, 206, 207, 208, 209, 210, 211, 212, 213, 214, 215, 216, 217, 218, 219, 220, 221, 222, 223, 224, 225, 226, 227, 228, 229, 230, 231, 232, 233, 234, 235, 236, 237, 238, 239, 240, 241, 242, 243, 244, 245, 246, 247, 248, 249, 250, 251, 252, 253, 254, 255, 256, 257, 258, 259, 260, 261, 262, 263, 264, 265, 266, 267, 268, 269, 270, 271, 272, 434, 435, 436, 437, 438, 439, 440, 441, 442, 443, 444, 445, 446, 447, 448, 449, 450, 451, 452, 453, 454, 455, 456, 457, 458, 459, 460, 461, 462, 463, 464, 465, 466, 467, 468, 469, 470, 471, 472, 473, 474, 475, 476, 477, 478, 479, 480] (by decide +kernel) (by decide +kernel)
set_option maxRecDepth 20000 in
theorem gL_acts_X8_add : GoodIn wsL_acts (wsV RL 34 RX8 yX8_add wsX8_add) := goodIn_app (goodIn_of _ (by decide +kernel)) ggL_acts_X8_add
set_option maxRecDepth 20000 in
theorem ggL_acts_X8_setValue : GoodIn wsL_acts wsX8_setValue := goodIn_r _ [276, 277, 278, 6, 279, 280, 281, 4, 282, 283, 284, 285, 10, 286, 12, 26, 27, 32, 33, 287, 288, 289, 25, 290, 81, 82, 83, 40, 43, 44, 45, 291, 292, 293, 294, 53, 54, 55, 56, 57, 58, 59, 60, 61, 62, 63, 64, 65, 66, 67, 68, 69, 70, 71, 72, 73, 74, 75, 76, 77, 78, 79, 80, 84, 85, 86, 87, 88, 89, 90, 91, 92, 93, 94, 95, 96, 97, 98, 99, 100, 38, 41, 42, 101, 102, 103, 104, 105, 106, 107, 108, 109, 110, 111, 112, 113, 114, 115, 116, 117, 14, 15, 16, 17, 18, 19, 118, 119, 120, 121, 122, 123, 124, 125, 126, 127, 128, 129, 130, 131, 132, 133, 134, 135, 136, 137, 138, 139, 140, 141, 142, 143, 144, 145, 146, 147, 148, 149, 150, 151, 152, 153, 154, 155, 156, 157, 158, 159, 160, 161, 162, 163, 164, 165, 166, 167, 168, 169, 170, 171, 172, 173, 174, 175, 176, 177, 178, 179, 180, 181, 182, 183, 184, 185, 186, 187, 188, 189, 190, 191, 192, 193, 194, 195, 196, 197, 198, 199, 200, 201, 202, 203, 204, 205, 206, 207, 208, 209, 210, 211, 212, 213, 214, 215, 216, 217, 218, 219, 220, 221, 222, 223, 224, 225, 226, 227, 228, 229, 230, 231, 232, 233, 234, 235, 236, 237, 238, 239, 240, 241, 242, 243, 244, 245, 246, 247, 248, 249, 250, 251, 252, 253, 254, 255, 256, 257, 258, 259, 260, 261, 262, 263, 264, 265, 266, 267, 268, 269, 270, 271, 272, 295, 296, 297, 434, 435, 436, 437, 438, 439, 440, 441, 442, 443, 444, 445, 446, 447, 448, 449, 450, 451, 452, 453, 454, 455, 456, 457, 458, 459, 460, 461, 462, 463, 464, 465, 466, 467, 468, 469, 470, 471, 472, 473, 474, 475, 476, 477, 478, 479, 480] (by decide +kernel) (by decide +kernel)
set_option maxRecDepth 20000 in
theorem gL_acts_X8_setValue : GoodIn wsL_acts (wsV RL 38 RX8 yX8_setValue wsX8_setValue) := goodIn_app (goodIn_of _ (by decide +kernel)) ggL_acts_X8_setValue
set_option maxRecDepth 20000 in
theorem ggL_acts_X8_clearValue : GoodIn wsL_acts wsX8_clearValue := goodIn_r _ [301, 6, 279, 280, 281, 4, 282, 283, 284, 285, 10, 286, 12, 26, 27, 32, 33, 287, 288, 289, 25, 290, 81, 82, 83, 40, 43, 44, 45, 291, 292, 293, 294, 53, 54, 55, 56, 57, 58, 59, 60, 61, 62, 63, 64, 65, 66, 67, 68, 69, 70, 71, 72, 73, 74, 75, 76, 77, 78, 79, 80, 84, 85, 86, 87, 88, 89, 90, 91, 92, 93, 94, 95, 96, 97, 98, 99, 100, 38, 41, 42, 101, 102, 103, 104, 105, 106, 107, 108, 109, 110, 111, 112, 113, 114, 115, 116, 117, 14, 15, 16, 17, 18, 19, 118, 119, 120, 121, 122, 123, 124, 125, 126, 127, 128, 129, 130, 131, 132, 133, 134, 135, 136, 137, 138, 139, 140, 141, 142, 143, 144, 145, 146, 147, 148, 149, 150, 151, 152, 153, 154, 155, 156, 157, 158, 159, 160, 161, 162, 163, 164, 165, 166, 167, 168, 169, 170, 171, 172, 173, 174, 175, 176, 177, 178, 179, 180, 181, 182, 183, 184, 185, 186, 187, 188, 189, 190, 191, 192, 193, 194, 195, 196, 197, 198, 199, 200, 201, 202, 203, 204, 205, 206, 207, 208, 209, 210, 211, 212, 213, 214, 215, 216, 217, 218, 219, 220, 221, 222, 223, 224, 225, 226, 227, 228, 229, 230, 231, 232, 233, 234, 235, 236, 237, 238, 239, 240, 241, 242, 243, 244, 245, 246, 247, 248, 249, 250, 251, 252, 253, 254, 255, 256, 257, 258, 259, 260, 261, 262, 263, 264, 265, 266, 267, 268, 269, 270, 271, 272, 434, 435, 436, 437, 438, 439, 440, 441, 442, 443, 444, 445, 446, 447, 448, 449, 450, 451, 452, 453, 454, 455, 456, 457, 458, 459, 460, 461, 462, 463, 464, 465, 466, 467, 468, 469, 470, 471, 472, 473, 474, 475, 476, 477, 478, 479, 480] (by decide +kernel) (by decide +kernel)
set_option maxRecDepth 20000 in
theorem gL_acts_X8_clearValue : GoodIn wsL_acts (wsV RL 42 RX8 yX8_clearValue wsX8_clearValue) := goodIn_app (goodIn_of _ (by decide +kernel)) ggL_acts_X8_clearValue
set_option maxRecDepth 20000 in
theorem ggL_acts_X8_stack : GoodIn wsL_acts wsX8_stack := goodIn_r _ [305, 6, 58, 283, 284, 285, 10, 286, 12, 26, 4, 27, 32, 33, 306, 307, 308, 121, 309, 310, 311, 312, 313, 314, 124, 125, 126, 127, 128, 315, 316, 317, 318, 133, 319, 320, 321, 322, 323, 134, 214, 136, 137, 138, 41, 42, 53, 54, 55, 56, 57, 59, 60, 61, 62, 63, 64, 65, 66, 67, 68, 69, 70, 71, 72, 73, 74, 75, 76, 77, 78, 79, 80, 81, 82, 83, 40, 43, 44, 45, 84, 85, 86, 87, 88, 89, 90, 91, 92, 93, 94, 95, 96, 97, 98, 99, 100, 38, 101, 102, 103, 104, 105, 106, 107, 108, 109, 110, 111, 112, 113, 114, 115, 116, 117, 14, 15, 16, 17, 18, 19, 118, 119, 120, 122, 123, 129, 130, 131, 132, 135, 139, 140, 141, 142, 143, 25, 144, 145, 146, 147, 148, 149, 150, 151, 152, 153, 154, 155, 156, 157, 158, 159, 160, 161, 162, 163, 164, 165, 166, 167, 168, 169, 170, 171, 172, 173, 174, 175, 176, 177, 178, 179, 180, 181, 182, 183, 184, 185, 186, 187, 188, 189, 190, 191, 192, 193, 194, 195, 196, 197, 198, 199, 200, 201, 202, 203, 204, 205, 206, 207, 208, 209, 210, 211, 212, 213, 215, 216, 217, 218, 219, 220, 221, 222, 223, 224, 225, 226, 227, 228, 229, 230, 231, 232, 233, 234, 235, 236, 237, 238, 239, 240, 241, 242, 243, 244, 245, 246, 247, 248, 249, 250, 251, 252, 253, 254, 255, 256, 257, 258, 259, 260, 261, 262, 263, 264, 265, 266, 267, 268, 269, 270, 271, 272, 434, 435, 436, 437, 438, 439, 440, 441, 442, 443, 444, 445, 446, 447, 451, 452, 453, 454, 455, 456, 457, 458, 448, 449, 450, 459, 460, 461, 462, 463, 464, 465, 466, 467, 468, 469, 470, 471, 472, 473, 474, 475, 476, 477, 478, 479, 480] (by decide +kernel) (by decide +kernel)
set_option maxRecDepth 20000 in
theorem gL_acts_X8_stack : GoodIn wsL_acts (wsV RL 46 RX8 yX8_stack wsX8_stack) := goodIn_app (goodIn_of _ (by decide +kernel)) ggL_acts_X8_stack
set_option maxRecDepth 20000 in
theorem ggL_acts_X8_putInto : GoodIn wsL_acts wsX8_putInto := goodIn_r _ [327, 58, 6, 328, 125, 126, 121, 127, 128, 26, 4, 27, 283, 284, 285, 10, 286, 12, 32, 33, 329, 330, 331, 332, 25, 306, 307, 308, 309, 310, 333, 321, 322, 323, 134, 214, 136, 137, 138, 41, 42, 53, 54, 55, 56, 57, 59, 60, 61, 62, 63, 64, 65, 66, 67, 68, 69, 70, 71, 72, 73, 74, 75, 76, 77, 78, 79, 80, 81, 82, 83, 40, 43, 44, 45, 84, 85, 86, 87, 88, 89, 90, 91, 92, 93, 94, 95, 96, 97, 98, 99, 100, 38, 101, 102, 103, 104, 105, 106, 107, 108, 109, 110, 111, 112, 113, 114, 115, 116, 117, 14, 15, 16, 17, 18, 19, 118, 119, 120, 122, 123, 124, 129, 130, 131, 132, 133, 135, 139, 140, 141, 142, 143, 144, 145, 146, 147, 148, 149, 150, 151, 152, 153, 154, 155, 156, 157, 158, 159, 160, 161, 162, 163, 164, 165, 166, 167, 168, 169, 170, 171, 172, 173, 174, 175, 176, 177, 178, 179, 180, 181, 182, 183, 184, 185, 186, 187, 188, 189, 190, 191, 192, 193, 194, 195, 196, 197, 198, 199, 200, 201, 202, 203, 204, 205, 206, 207, 208, 209, 210, 211, 212, 213, 215, 216, 217, 218, 219, 220, 221, 222, 223, 224, 225, 226, 227, 228, 229, 230, 231, 232, 233, 234, 235, 236, 237, 238, 239, 240, 241, 242, 243, 244, 245, 246, 247, 248, 249, 250, 251, 252, 253, 254, 255, 256, 257, 258, 259, 260, 261, 262, 263, 264, 265, 266, 267, 268, 269, 270, 271, 272, 434, 435, 436, 437, 438, 439, 440, 441, 451, 452, 453, 454, 455, 456, 457, 458, 442, 443, 444, 445, 446, 447, 448, 449, 450, 459, 460, 461, 462, 463, 464, 465, 466, 467, 468, 469, 470, 471, 472, 473, 474, 475, 476, 477, 478, 479, 480] (by decide +kernel) (by decide +kernel)
set_option maxRecDepth 20000 in
theorem gL_acts_X8_putInto : GoodIn wsL_acts (wsV RL 49 RX8 yX8_putInto wsX8_putInto) := goodIn_app (goodIn_of _ (by decide +kernel)) ggL_acts_X8_putInto
set_option maxRecDepth 20000 in
theorem ggL_acts_X8_takeOut : GoodIn wsL_acts wsX8_takeOut := goodIn_r _ [337, 6, 58, 283, 284, 285, 10, 286, 12, 26, 4, 27, 32, 33, 306, 307, 308, 121, 309, 310, 338, 339, 340, 341, 133, 128, 134, 342, 343, 344, 345, 136, 137, 138, 346, 347, 348, 349, 214, 350, 41, 42, 53, 54, 55, 56, 57, 59, 60, 61, 62, 63, 64, 65, 66, 67, 68, 69, 70, 71, 72, 73, 74, 75, 76, 77, 78, 79, 80, 81, 82, 83, 40, 43, 44, 45, 84, 85, 86, 87, 88, 89, 90, 91, 92, 93, 94, 95, 96, 97, 98, 99, 100, 38, 101, 102, 103, 104, 105, 106, 107, 108, 109, 110, 111, 112, 113, 114, 115, 116, 117, 14, 15, 16, 17, 18, 19, 118, 119, 120, 122, 123, 124, 125, 126, 127, 129, 130, 131, 132, 135, 139, 140, 141, 142, 143, 25, 144, 145, 146, 147, 148, 149, 150, 151, 152, 153, 154, 155, 156, 157, 158, 159, 160, 161, 162, 163, 164, 165, 166, 167, 168, 169, 170, 171, 172, 173, 174, 175, 176, 177, 178, 179, 180, 181, 182, 183, 184, 185, 186, 187, 188, 189, 190, 191, 192, 193, 194, 195, 196, 197, 198, 199, 200, 201, 202, 203, 204, 205, 206, 207, 208, 209, 210, 211, 212, 213, 215, 216, 217, 218, 219, 220, 221, 222, 223, 224, 225, 226, 227, 228, 229, 230, 231, 232, 233, 234, 235, 236, 237, 238, 239, 240, 241, 242, 243, 244, 245, 246, 247, 248, 249, 250, 251, 252, 253, 254, 255, 256, 257, 258, 259, 260, 261, 262, 263, 264, 265, 266, 267, 268, 269, 270, 271, 272, 329, 330, 331, 332, 434, 435, 436, 437, 438, 439, 440, 441, 442, 443, 444, 445, 446, 447, 451, 452, 453, 454, 455, 456, 457, 458, 448, 449, 450, 459, 460, 461, 462, 463, 464, 465, 466, 467, 468, 469, 470, 471, 472, 473, 474, 475, 476, 477, 478, 479, 480] (by decide +kernel) (by decide +kernel)
set_option maxRecDepth 20000 in
theorem gL_acts_X8_takeOut : GoodIn wsL_acts (wsV RL 52 RX8 yX8_takeOut wsX8_takeOut) := goodIn_app (goodIn_of _ (by decide +kernel)) ggL_acts_X8_takeOut
set_option maxRecDepth 20000 in
theorem ggL_acts_X8_collapse : GoodIn wsL_acts wsX8_collapse := goodIn_r _ [354, 58, 328, 125, 126, 121, 127, 128, 26, 4, 27, 25, 355, 356, 357, 358, 319, 359, 360, 361, 362, 434, 435, 436, 437, 438, 439, 440, 441, 451, 452, 453, 454, 455, 456, 457, 458] (by decide +kernel) (by decide +kernel)
set_option maxRecDepth 20000 in
theorem gL_acts_X8_collapse : GoodIn wsL_acts (wsV RL 55 RX8 yX8_collapse wsX8_collapse) := goodIn_app (goodIn_of _ (by decide +kernel)) ggL_acts_X8_collapse
set_option maxRecDepth 20000 in
theorem ggL_acts_X8_chooseCover : GoodIn wsL_acts wsX8_chooseCover := goodIn_r _ [366, 58, 6, 328, 125, 126, 121, 127, 128, 26, 4, 27, 283, 284, 285, 10, 286, 12, 32, 33, 306, 307, 308, 309, 310, 367, 368, 369, 370, 133, 53, 54, 55, 56, 57, 59, 60, 61, 62, 63, 64, 65, 66, 67, 68, 69, 70, 71, 72, 73, 74, 75, 76, 77, 78, 79, 80, 81, 82, 83, 40, 43, 44, 45, 84, 85, 86, 87, 88, 89, 90, 91, 92, 93, 94, 95, 96, 97, 98, 99, 100, 38, 41, 42, 101, 102, 103, 104, 105, 106, 107, 108, 109, 110, 111, 112, 113, 114, 115, 116, 117, 14, 15, 16, 17, 18, 19, 118, 119, 120, 122, 123, 124, 129, 130, 131, 132, 134, 135, 136, 137, 138, 139, 140, 141, 142, 143, 25, 144, 145, 146, 147, 148, 149, 150, 151, 152, 153, 154, 155, 156, 157, 158, 159, 160, 161, 162, 163, 164, 165, 166, 167, 168, 169, 170, 171, 172, 173, 174, 175, 176, 177, 178, 179, 180, 181, 182, 183, 184, 185, 186, 187, 188, 189, 190, 191, 192, 193, 194, 195, 196, 197, 198, 199, 200, 201, 202, 203, 204, 205, 206, 207, 208, 209, 210, 211, 212, 213, 214, 215, 216, 217, 218, 219, 220, 221, 222, 223, 224, 225, 226, 227, 228, 229, 230, 231, 232, 233, 234, 235, 236, 237, 238, 239, 240, 241, 242, 243, 244, 245, 246, 247, 248, 249, 250, 251, 252, 253, 254, 255, 256, 257, 258, 259, 260, 261, 262, 263, 264, 265, 266, 267, 268, 269, 270, 271, 272, 371, 434, 435, 436, 437, 438, 439, 440, 441, 451, 452, 453, 454, 455, 456, 457, 458, 442, 443, 444, 445, 446, 447, 448, 449, 450, 459, 460, 461, 462, 463, 464, 465, 466, 467, 468, 469, 470, 471, 472, 473, 474, 475, 476, 477, 478, 479, 480] (by decide +kernel) (by decide +kernel)
set_option maxRecDepth 20000 in
theorem gL_acts_X8_chooseCover : GoodIn wsL_acts (wsV RL 58 RX8 yX8_chooseCover wsX8_chooseCover) := goodIn_app (goodIn_of _ (by decide +kernel)) ggL_acts_X8_chooseCover
set_option maxRecDepth 20000 in
theorem ggL_acts_X8_merge : GoodIn wsL_acts wsX8_merge := goodIn_r _ [375, 6, 57, 376, 283, 284, 285, 10, 286, 12, 26, 4, 27, 32, 33, 377, 378, 379, 87, 380, 91, 97, 98, 99, 100, 38, 41, 42, 101, 102, 103, 104, 105, 106, 107, 108, 109, 110, 111, 112, 70, 113, 114, 115, 116, 381, 382, 383, 384, 385, 386, 387, 388, 389, 390, 80, 81, 82, 83, 40, 43, 44, 45, 391, 292, 293, 294, 392, 393, 394, 395, 396, 397, 398, 399, 58, 338, 339, 340, 121, 341, 310, 133, 128, 134, 342, 343, 344, 345, 136, 137, 138, 346, 347, 348, 349, 214, 350, 400, 401, 402, 403, 404, 53, 54, 55, 56, 59, 60, 61, 62, 63, 64, 65, 66, 67, 68, 69, 71, 72, 73, 74, 75, 76, 77, 78, 79, 84, 85, 86, 88, 89, 90, 92, 93, 94, 95, 96, 117, 14, 15, 16, 17, 18, 19, 118, 119, 120, 122, 123, 124, 125, 126, 127, 129, 130, 131, 132, 135, 139, 140, 141, 142, 143, 25, 144, 145, 146, 147, 148, 149, 150, 151, 152, 153, 154, 155, 156, 157, 158, 159, 160, 161, 162, 163, 164, 165, 166, 167, 168, 169, 170, 171, 172, 173, 174, 175, 176, 177, 178, 179, 180, 181, 182, 183, 184, 185, 186, 187, 188, 189, 190, 191, 192, 193, 194, 195, 196, 197, 198, 199, 200, 201, 202, 203, 204, 205, 206, 207, 208, 209, 210, 211, 212, 213, 215, 216, 217, 218, 219, 220, 221, 222, 223, 224, 225, 226, 227, 228, 229, 230, 231, 232, 233, 234, 235, 236, 237, 238, 239, 240, 241, 242, 243, 244, 245, 246, 247, 248, 249, 250, 251, 252, 253, 254, 255, 256, 257, 258, 259, 260, 261, 262, 263, 264, 265, 266, 267, 268, 269, 270, 271, 272, 405, 434, 435, 436, 437, 438, 439, 440, 441, 442, 443, 444, 445, 446, 447, 448, 449, 450, 451, 452, 453, 454, 455, 456, 457, 458, 459, 460, 461, 462, 463, 464, 465, 466, 467, 468, 469, 470, 471, 472, 473, 474, 475, 476, 477, 478, 479, 480] (by decide +kernel) (by decide +kernel)
set_option maxRecDepth 20000 in
theorem gL_acts_X8_merge : GoodIn wsL_acts (wsV RL 61 RX8 yX8_merge wsX8_merge) := goodIn_app (goodIn_of _ (by decide +kernel)) ggL_acts_X8_merge
set_option maxRecDepth 20000 in
theorem ggL_acts_X8_remove : GoodIn wsL_acts wsX8_remove := goodIn_r _ [409, 6, 283, 284, 285, 10, 286, 12, 26, 4, 27, 32, 33, 396, 397, 398, 399, 58, 338, 339, 340, 121, 341, 310, 133, 128, 134, 342, 343, 344, 345, 136, 137, 138, 346, 347, 348, 349, 214, 350, 41, 42, 400, 401, 402, 403, 404, 53, 54, 55, 56, 57, 59, 60, 61, 62, 63, 64, 65, 66, 67, 68, 69, 70, 71, 72, 73, 74, 75, 76, 77, 78, 79, 80, 81, 82, 83, 40, 43, 44, 45, 84, 85, 86, 87, 88, 89, 90, 91, 92, 93, 94, 95, 96, 97, 98, 99, 100, 38, 101, 102, 103, 104, 105, 106, 107, 108, 109, 110, 111, 112, 113, 114, 115, 116, 117, 14, 15, 16, 17, 18, 19, 118, 119, 120, 122, 123, 124, 125, 126, 127, 129, 130, 131, 132, 135, 139, 140, 141, 142, 143, 25, 144, 145, 146, 147, 148, 149, 150, 151, 152, 153, 154, 155, 156, 157, 158, 159, 160, 161, 162, 163, 164, 165, 166, 167, 168, 169, 170, 171, 172, 173, 174, 175, 176, 177, 178, 179, 180, 181, 182, 183, 184, 185, 186, 187, 188, 189, 190, 191, 192, 193, 194, 195, 196, 197, 198, 199, 200, 201, 202, 203, 204, 205, 206, 207, 208, 209, 210, 211, 212, 213, 215, 216, 217, 218, 219, 220, 221, 222, 223, 224, 225, 226, 227, 228, 229, 230, 231, 232, 233, 234, 235, 236, 237, 238, 239, 240, 241, 242, 243, 244, 245, 246, 247, 248, 249, 250, 251, 252, 253, 254, 255, 256, 257, 258, 259, 260, 261, 262, 263, 264, 265, 266, 267, 268, 269, 270, 271, 272, 7, 8, 9, 11, 13, 434, 435, 436, 437, 438, 439, 440, 441, 442, 443, 444, 445, 446, 447, 451, 452, 453, 454, 455, 456, 457, 458, 448, 449, 450, 459, 460, 461, 462, 463, 464, 465, 466, 467, 468, 469, 470, 471, 472, 473, 474, 475, 476, 477, 478, 479, 480] (by decide +kernel) (by decide +kernel)
set_option maxRecDepth 20000 in
theorem gL_acts_X8_remove : GoodIn wsL_acts (wsV RL 64 RX8 yX8_remove wsX8_remove) := goodIn_app (goodIn_of _ (by decide +kernel)) ggL_acts_X8_remove
set_option maxRecDepth 20000 in
theorem ggL_acts_X8_setDigest : GoodIn wsL_acts wsX8_setDigest := goodIn_r _ [413, 6, 283, 284, 285, 10, 286, 12, 26, 4, 27, 32, 33, 25, 414, 415, 416, 417, 38, 418, 419, 420, 421, 53, 54, 55, 56, 57, 58, 59, 60, 61, 62, 63, 64, 65, 66, 67, 68, 69, 70, 71, 72, 73, 74, 75, 76, 77, 78, 79, 80, 81, 82, 83, 40, 43, 44, 45, 84, 85, 86, 87, 88, 89, 90, 91, 92, 93, 94, 95, 96, 97, 98, 99, 100, 41, 42, 101, 102, 103, 104, 105, 106, 107, 108, 109, 110, 111, 112, 113, 114, 115, 116, 117, 14, 15, 16, 17, 18, 19, 118, 119, 120, 121, 122, 123, 124, 125, 126, 127, 128, 129, 130, 131, 132, 133, 134, 135, 136, 137, 138, 139, 140, 141, 142, 143, 144, 145, 146, 147, 148, 149, 150, 151, 152, 153, 154, 155, 156, 157, 158, 159, 160, 161, 162, 163, 164, 165, 166, 167, 168, 169, 170, 171, 172, 173, 174, 175, 176, 177, 178, 179, 180, 181, 182, 183, 184, 185, 186, 187, 188, 189, 190, 191, 192, 193, 194, 195, 196, 197, 198, 199, 200, 201, 202, 203, 204, 205, 206, 207, 208, 209, 210, 211, 212, 213, 214, 215, 216, 217, 218, 219, 220, 221, 222, 223, 224, 225, 226, 227, 228, 229, 230, 231, 232, 233, 234, 235, 236, 237, 238, 239, 240, 241, 242, 243, 244, 245, 246, 247, 248, 249, 250, 251, 252, 253, 254, 255, 256, 257, 258, 259, 260, 261, 262, 263, 264, 265, 266, 267, 268, 269, 270, 271, 272, 434, 435, 436, 437, 438, 439, 440, 441, 442, 443, 444, 445, 446, 447, 448, 449, 450, 451, 452, 453, 454, 455, 456, 457, 458, 459, 460, 461, 462, 463, 464, 465, 466, 467, 468, 469, 470, 471, 472, 473, 474, 475, 476, 477, 478, 479, 480] (by decide +kernel) (by decide +kernel)
set_option maxRecDepth 20000 in
theorem gL_acts_X8_setDigest : GoodIn wsL_acts (wsV RL 67 RX8 yX8_setDigest wsX8_setDigest) := goodIn_app (goodIn_of _ (by decide +kernel)) ggL_acts_X8_setDigest
set_option maxRecDepth 20000 in
theorem ggL_acts_X8_setOrder : GoodIn wsL_acts wsX8_setOrder := goodIn_r _ [425, 6, 287, 288, 4, 289, 25, 26, 27, 426, 427, 428, 10, 429, 79, 430, 431, 432, 433, 53, 54, 55, 56, 57, 58, 59, 60, 61, 62, 63, 64, 65, 12, 32, 33, 66, 67, 68, 69, 70, 71, 72, 73, 74, 75, 76, 77, 78, 80, 81, 82, 83, 40, 43, 44, 45, 84, 85, 86, 87, 88, 89, 90, 91, 92, 93, 94, 95, 96, 97, 98, 99, 100, 38, 41, 42, 101, 102, 103, 104, 105, 106, 107, 108, 109, 110, 111, 112, 113, 114, 115, 116, 117, 14, 15, 16, 17, 18, 19, 118, 119, 120, 121, 122, 123, 124, 125, 126, 127, 128, 129, 130, 131, 132, 133, 134, 135, 136, 137, 138, 139, 140, 141, 142, 143, 144, 145, 146, 147, 148, 149, 150, 151, 152, 153, 154, 155, 156, 157, 158, 159, 160, 161, 162, 163, 164, 165, 166, 167, 168, 169, 170, 171, 172, 173, 174, 175, 176, 177, 178, 179, 180, 181, 182, 183, 184, 185, 186, 187, 188, 189, 190, 191, 192, 193, 194, 195, 196, 197, 198, 199, 200, 201, 202, 203, 204, 205, 206, 207, 208, 209, 210, 211, 212, 213, 214, 215, 216, 217, 218, 219, 220, 221, 222, 223, 224, 225, 226, 227, 228, 229, 230, 231, 232, 233, 234, 235, 236, 237, 238, 239, 240, 241, 242, 243, 244, 245, 246, 247, 248, 249, 250, 251, 252, 253, 254, 255, 256, 257, 258, 259, 260, 261, 262, 263, 264, 265, 266, 267, 268, 269, 270, 271, 272, 434, 435, 436, 437, 438, 439, 440, 441, 442, 443, 444, 445, 446, 447, 448, 449, 450, 451, 452, 453, 454, 455, 456, 457, 458, 459, 460, 461, 462, 463, 464, 465, 466, 467, 468, 469, 470, 471, 472, 473, 474, 475, 476, 477, 478, 479, 480] (by decide +kernel) (by decide +kernel)
set_option maxRecDepth 20000 in
theorem gL_acts_X8_setOrder : GoodIn wsL_acts (wsV RL 70 RX8 yX8_setOrder wsX8_setOrder) := goodIn_app (goodIn_of _ (by decide +kernel)) ggL_acts_X8_setOrder
theorem dL_acts_0 : decode cL_acts 0 = .ok (.iload_n 1, 1) := by decide +kernel
theorem dL_acts_1 : decode cL_acts 1 = .ok (.iconst 4, 1) := by decide +kernel
theorem dL_acts_2 : decode cL_acts 2 = .ok (.ishr, 1) := by decide +kernel
theorem dL_acts_3 : decode cL_acts 3 = .ok (.bipush 12, 2) := by decide +kernel
theorem dL_acts_5 : decode cL_acts 5 = .ok (.irem, 1) := by decide +kernel
theorem dL_acts_6 : decode cL_acts 6 = .ok (.istore_n 2, 1) := by decide +kernel
theorem dL_acts_7 : decode cL_acts 7 = .ok (.iload_n 1, 1) := by decide +kernel
theorem dL_acts_8 : decode cL_acts 8 = .ok (.bipush 8, 2) := by decide +kernel
theorem dL_acts_10 : decode cL_acts 10 = .ok (.ishr, 1) := by decide +kernel
theorem dL_acts_11 : decode cL_acts 11 = .ok (.bipush 12, 2) := by decide +kernel
theorem dL_acts_13 : decode cL_acts 13 = .ok (.irem, 1) := by decide +kernel
theorem dL_acts_14 : decode cL_acts 14 = .ok (.istore_n 3, 1) := by decide +kernel
theorem dL_acts_15 : decode cL_acts 15 = .ok (.iload_n 1, 1) := by decide +kernel
theorem dL_acts_16 : decode cL_acts 16 = .ok (.bipush 16, 2) := by decide +kernel
theorem dL_acts_18 : decode cL_acts 18 = .ok (.irem, 1) := by decide +kernel
theorem dL_acts_19 : decode cL_acts 19 = .ok (.tableswitch 322 0 14 #[73, 73, 73, 111, 111, 111, 138, 165, 185, 185, 202, 222, 238, 272, 297], 73) := by decide +kernel
theorem dL_acts_92 : decode cL_acts 92 = .ok (.aload_n 0, 1) := by decide +kernel
theorem dL_acts_93 : decode cL_acts 93 = .ok (.invokevirtual 31, 3) := by decide +kernel
theorem dL_acts_96 : decode cL_acts 96 = .ok (.bipush 11, 2) := by decide +kernel
theorem dL_acts_98 : decode cL_acts 98 = .ok (.if_icmp .gt 26, 3) := by decide +kernel
theorem dL_acts_101 : decode cL_acts 101 = .ok (.aload_n 0, 1) := by decide +kernel
theorem dL_acts_102 : decode cL_acts 102 = .ok (.iload_n 1, 1) := by decide +kernel
theorem dL_acts_103 : decode cL_acts 103 = .ok (.bipush 12, 2) := by decide +kernel
theorem dL_acts_105 : decode cL_acts 105 = .ok (.ishr, 1) := by decide +kernel
theorem dL_acts_106 : decode cL_acts 106 = .ok (.bipush 6, 2) := by decide +kernel
theorem dL_acts_108 : decode cL_acts 108 = .ok (.irem, 1) := by decide +kernel
theorem dL_acts_109 : decode cL_acts 109 = .ok (.iconst 1, 1) := by decide +kernel
theorem dL_acts_110 : decode cL_acts 110 = .ok (.iload_n 1, 1) := by decide +kernel
theorem dL_acts_111 : decode cL_acts 111 = .ok (.bipush 15, 2) := by decide +kernel
theorem dL_acts_113 : decode cL_acts 113 = .ok (.ishr, 1) := by decide +kernel
theorem dL_acts_114 : decode cL_acts 114 = .ok (.bipush 100, 2) := by decide +kernel
theorem dL_acts_116 : decode cL_acts 116 = .ok (.irem, 1) := by decide +kernel
theorem dL_acts_117 : decode cL_acts 117 = .ok (.iadd, 1) := by decide +kernel
theorem dL_acts_118 : decode cL_acts 118 = .ok (.invokevirtual 34, 3) := by decide +kernel
theorem dL_acts_121 : decode cL_acts 121 = .ok (.ifCond .lt 7, 3) := by decide +kernel
theorem dL_acts_124 : decode cL_acts 124 = .ok (.iconst 1, 1) := by decide +kernel
theorem dL_acts_125 : decode cL_acts 125 = .ok (.goto 4, 3) := by decide +kernel
theorem dL_acts_128 : decode cL_acts 128 = .ok (.iconst 0, 1) := by decide +kernel
theorem dL_acts_129 : decode cL_acts 129 = .ok (.ireturn, 1) := by decide +kernel
theorem dL_acts_130 : decode cL_acts 130 = .ok (.aload_n 0, 1) := by decide +kernel
theorem dL_acts_131 : decode cL_acts 131 = .ok (.iload_n 2, 1) := by decide +kernel
theorem dL_acts_132 : decode cL_acts 132 = .ok (.iload_n 3, 1) := by decide +kernel
theorem dL_acts_133 : decode cL_acts 133 = .ok (.iconst 3, 1) := by decide +kernel
theorem dL_acts_134 : decode cL_acts 134 = .ok (.irem, 1) := by decide +kernel
theorem dL_acts_135 : decode cL_acts 135 = .ok (.iconst 1, 1) := by decide +kernel
theorem dL_acts_136 : decode cL_acts 136 = .ok (.iload_n 1, 1) := by decide +kernel
theorem dL_acts_137 : decode cL_acts 137 = .ok (.bipush 12, 2) := by decide +kernel
theorem dL_acts_139 : decode cL_acts 139 = .ok (.ishr, 1) := by decide +kernel
theorem dL_acts_140 : decode cL_acts 140 = .ok (.bipush 6, 2) := by decide +kernel
theorem dL_acts_142 : decode cL_acts 142 = .ok (.irem, 1) := by decide +kernel
theorem dL_acts_143 : decode cL_acts 143 = .ok (.invokevirtual 38, 3) := by decide +kernel
theorem dL_acts_146 : decode cL_acts 146 = .ok (.bipush (-5), 2) := by decide +kernel
theorem dL_acts_148 : decode cL_acts 148 = .ok (.if_icmp .le 7, 3) := by decide +kernel
theorem dL_acts_151 : decode cL_acts 151 = .ok (.iconst 1, 1) := by decide +kernel
theorem dL_acts_152 : decode cL_acts 152 = .ok (.goto 4, 3) := by decide +kernel
theorem dL_acts_155 : decode cL_acts 155 = .ok (.iconst 0, 1) := by decide +kernel
theorem dL_acts_156 : decode cL_acts 156 = .ok (.ireturn, 1) := by decide +kernel
theorem dL_acts_157 : decode cL_acts 157 = .ok (.aload_n 0, 1) := by decide +kernel
theorem dL_acts_158 : decode cL_acts 158 = .ok (.iload_n 2, 1) := by decide +kernel
theorem dL_acts_159 : decode cL_acts 159 = .ok (.iload_n 3, 1) := by decide +kernel
theorem dL_acts_160 : decode cL_acts 160 = .ok (.iconst 3, 1) := by decide +kernel
theorem dL_acts_161 : decode cL_acts 161 = .ok (.irem, 1) := by decide +kernel
theorem dL_acts_162 : decode cL_acts 162 = .ok (.iconst 5, 1) := by decide +kernel
theorem dL_acts_163 : decode cL_acts 163 = .ok (.iload_n 1, 1) := by decide +kernel
theorem dL_acts_164 : decode cL_acts 164 = .ok (.bipush 12, 2) := by decide +kernel
theorem dL_acts_166 : decode cL_acts 166 = .ok (.ishr, 1) := by decide +kernel
theorem dL_acts_167 : decode cL_acts 167 = .ok (.bipush 16, 2) := by decide +kernel
theorem dL_acts_169 : decode cL_acts 169 = .ok (.irem, 1) := by decide +kernel
theorem dL_acts_170 : decode cL_acts 170 = .ok (.invokevirtual 38, 3) := by decide +kernel
theorem dL_acts_173 : decode cL_acts 173 = .ok (.bipush (-5), 2) := by decide +kernel
theorem dL_acts_175 : decode cL_acts 175 = .ok (.if_icmp .le 7, 3) := by decide +kernel
theorem dL_acts_178 : decode cL_acts 178 = .ok (.iconst 1, 1) := by decide +kernel
theorem dL_acts_179 : decode cL_acts 179 = .ok (.goto 4, 3) := by decide +kernel
theorem dL_acts_182 : decode cL_acts 182 = .ok (.iconst 0, 1) := by decide +kernel
theorem dL_acts_183 : decode cL_acts 183 = .ok (.ireturn, 1) := by decide +kernel
theorem dL_acts_184 : decode cL_acts 184 = .ok (.aload_n 0, 1) := by decide +kernel
theorem dL_acts_185 : decode cL_acts 185 = .ok (.iload_n 2, 1) := by decide +kernel
theorem dL_acts_186 : decode cL_acts 186 = .ok (.iload_n 3, 1) := by decide +kernel
theorem dL_acts_187 : decode cL_acts 187 = .ok (.iconst 3, 1) := by decide +kernel
theorem dL_acts_188 : decode cL_acts 188 = .ok (.irem, 1) := by decide +kernel
theorem dL_acts_189 : decode cL_acts 189 = .ok (.iconst 1, 1) := by decide +kernel
theorem dL_acts_190 : decode cL_acts 190 = .ok (.invokevirtual 42, 3) := by decide +kernel
theorem dL_acts_193 : decode cL_acts 193 = .ok (.bipush (-5), 2) := by decide +kernel
theorem dL_acts_195 : decode cL_acts 195 = .ok (.if_icmp .le 7, 3) := by decide +kernel
theorem dL_acts_198 : decode cL_acts 198 = .ok (.iconst 1, 1) := by decide +kernel
theorem dL_acts_199 : decode cL_acts 199 = .ok (.goto 4, 3) := by decide +kernel
theorem dL_acts_202 : decode cL_acts 202 = .ok (.iconst 0, 1) := by decide +kernel
theorem dL_acts_203 : decode cL_acts 203 = .ok (.ireturn, 1) := by decide +kernel
theorem dL_acts_204 : decode cL_acts 204 = .ok (.aload_n 0, 1) := by decide +kernel
theorem dL_acts_205 : decode cL_acts 205 = .ok (.iload_n 2, 1) := by decide +kernel
theorem dL_acts_206 : decode cL_acts 206 = .ok (.iload_n 3, 1) := by decide +kernel
theorem dL_acts_207 : decode cL_acts 207 = .ok (.invokevirtual 46, 3) := by decide +kernel
theorem dL_acts_210 : decode cL_acts 210 = .ok (.bipush (-4), 2) := by decide +kernel
theorem dL_acts_212 : decode cL_acts 212 = .ok (.if_icmp .le 7, 3) := by decide +kernel
theorem dL_acts_215 : decode cL_acts 215 = .ok (.iconst 1, 1) := by decide +kernel
theorem dL_acts_216 : decode cL_acts 216 = .ok (.goto 4, 3) := by decide +kernel
theorem dL_acts_219 : decode cL_acts 219 = .ok (.iconst 0, 1) := by decide +kernel
theorem dL_acts_220 : decode cL_acts 220 = .ok (.ireturn, 1) := by decide +kernel
theorem dL_acts_221 : decode cL_acts 221 = .ok (.aload_n 0, 1) := by decide +kernel
theorem dL_acts_222 : decode cL_acts 222 = .ok (.iload_n 3, 1) := by decide +kernel
theorem dL_acts_223 : decode cL_acts 223 = .ok (.iconst 3, 1) := by decide +kernel
theorem dL_acts_224 : decode cL_acts 224 = .ok (.irem, 1) := by decide +kernel
theorem dL_acts_225 : decode cL_acts 225 = .ok (.iload_n 2, 1) := by decide +kernel
theorem dL_acts_226 : decode cL_acts 226 = .ok (.iconst 0, 1) := by decide +kernel
theorem dL_acts_227 : decode cL_acts 227 = .ok (.invokevirtual 49, 3) := by decide +kernel
theorem dL_acts_230 : decode cL_acts 230 = .ok (.bipush (-4), 2) := by decide +kernel
theorem dL_acts_232 : decode cL_acts 232 = .ok (.if_icmp .le 7, 3) := by decide +kernel
theorem dL_acts_235 : decode cL_acts 235 = .ok (.iconst 1, 1) := by decide +kernel
theorem dL_acts_236 : decode cL_acts 236 = .ok (.goto 4, 3) := by decide +kernel
theorem dL_acts_239 : decode cL_acts 239 = .ok (.iconst 0, 1) := by decide +kernel
theorem dL_acts_240 : decode cL_acts 240 = .ok (.ireturn, 1) := by decide +kernel
theorem dL_acts_241 : decode cL_acts 241 = .ok (.aload_n 0, 1) := by decide +kernel
theorem dL_acts_242 : decode cL_acts 242 = .ok (.iload_n 2, 1) := by decide +kernel
theorem dL_acts_243 : decode cL_acts 243 = .ok (.invokevirtual 52, 3) := by decide +kernel
theorem dL_acts_246 : decode cL_acts 246 = .ok (.bipush (-3), 2) := by decide +kernel
theorem dL_acts_248 : decode cL_acts 248 = .ok (.if_icmp .le 7, 3) := by decide +kernel
theorem dL_acts_251 : decode cL_acts 251 = .ok (.iconst 1, 1) := by decide +kernel
theorem dL_acts_252 : decode cL_acts 252 = .ok (.goto 4, 3) := by decide +kernel
theorem dL_acts_255 : decode cL_acts 255 = .ok (.iconst 0, 1) := by decide +kernel
theorem dL_acts_256 : decode cL_acts 256 = .ok (.ireturn, 1) := by decide +kernel
theorem dL_acts_257 : decode cL_acts 257 = .ok (.aload_n 0, 1) := by decide +kernel
theorem dL_acts_258 : decode cL_acts 258 = .ok (.iload_n 3, 1) := by decide +kernel
theorem dL_acts_259 : decode cL_acts 259 = .ok (.iconst 3, 1) := by decide +kernel
theorem dL_acts_260 : decode cL_acts 260 = .ok (.irem, 1) := by decide +kernel
theorem dL_acts_261 : decode cL_acts 261 = .ok (.iload_n 2, 1) := by decide +kernel
theorem dL_acts_262 : decode cL_acts 262 = .ok (.iconst 2, 1) := by decide +kernel
theorem dL_acts_263 : decode cL_acts 263 = .ok (.irem, 1) := by decide +kernel
theorem dL_acts_264 : decode cL_acts 264 = .ok (.invokevirtual 55, 3) := by decide +kernel
theorem dL_acts_267 : decode cL_acts 267 = .ok (.bipush (-2), 2) := by decide +kernel
theorem dL_acts_269 : decode cL_acts 269 = .ok (.if_icmp .le 20, 3) := by decide +kernel
theorem dL_acts_272 : decode cL_acts 272 = .ok (.aload_n 0, 1) := by decide +kernel
theorem dL_acts_273 : decode cL_acts 273 = .ok (.iload_n 3, 1) := by decide +kernel
theorem dL_acts_274 : decode cL_acts 274 = .ok (.iconst 3, 1) := by decide +kernel
theorem dL_acts_275 : decode cL_acts 275 = .ok (.irem, 1) := by decide +kernel
theorem dL_acts_276 : decode cL_acts 276 = .ok (.iload_n 2, 1) := by decide +kernel
theorem dL_acts_277 : decode cL_acts 277 = .ok (.invokevirtual 58, 3) := by decide +kernel
theorem dL_acts_280 : decode cL_acts 280 = .ok (.bipush (-3), 2) := by decide +kernel
theorem dL_acts_282 : decode cL_acts 282 = .ok (.if_icmp .le 7, 3) := by decide +kernel
theorem dL_acts_285 : decode cL_acts 285 = .ok (.iconst 1, 1) := by decide +kernel
theorem dL_acts_286 : decode cL_acts 286 = .ok (.goto 4, 3) := by decide +kernel
theorem dL_acts_289 : decode cL_acts 289 = .ok (.iconst 0, 1) := by decide +kernel
theorem dL_acts_290 : decode cL_acts 290 = .ok (.ireturn, 1) := by decide +kernel
theorem dL_acts_291 : decode cL_acts 291 = .ok (.iload_n 1, 1) := by decide +kernel
theorem dL_acts_292 : decode cL_acts 292 = .ok (.bipush 12, 2) := by decide +kernel
theorem dL_acts_294 : decode cL_acts 294 = .ok (.ishr, 1) := by decide +kernel
theorem dL_acts_295 : decode cL_acts 295 = .ok (.iconst 4, 1) := by decide +kernel
theorem dL_acts_296 : decode cL_acts 296 = .ok (.irem, 1) := by decide +kernel
theorem dL_acts_297 : decode cL_acts 297 = .ok (.ifCond .gt 13, 3) := by decide +kernel
theorem dL_acts_300 : decode cL_acts 300 = .ok (.aload_n 0, 1) := by decide +kernel
theorem dL_acts_301 : decode cL_acts 301 = .ok (.iload_n 2, 1) := by decide +kernel
theorem dL_acts_302 : decode cL_acts 302 = .ok (.invokevirtual 61, 3) := by decide +kernel
theorem dL_acts_305 : decode cL_acts 305 = .ok (.bipush (-3), 2) := by decide +kernel
theorem dL_acts_307 : decode cL_acts 307 = .ok (.if_icmp .le 7, 3) := by decide +kernel
theorem dL_acts_310 : decode cL_acts 310 = .ok (.iconst 1, 1) := by decide +kernel
theorem dL_acts_311 : decode cL_acts 311 = .ok (.goto 4, 3) := by decide +kernel
theorem dL_acts_314 : decode cL_acts 314 = .ok (.iconst 0, 1) := by decide +kernel
theorem dL_acts_315 : decode cL_acts 315 = .ok (.ireturn, 1) := by decide +kernel
theorem dL_acts_316 : decode cL_acts 316 = .ok (.iload_n 1, 1) := by decide +kernel
theorem dL_acts_317 : decode cL_acts 317 = .ok (.bipush 12, 2) := by decide +kernel
theorem dL_acts_319 : decode cL_acts 319 = .ok (.ishr, 1) := by decide +kernel
theorem dL_acts_320 : decode cL_acts 320 = .ok (.iconst 3, 1) := by decide +kernel
theorem dL_acts_321 : decode cL_acts 321 = .ok (.irem, 1) := by decide +kernel
theorem dL_acts_322 : decode cL_acts 322 = .ok (.ifCond .gt 13, 3) := by decide +kernel
theorem dL_acts_325 : decode cL_acts 325 = .ok (.aload_n 0, 1) := by decide +kernel
theorem dL_acts_326 : decode cL_acts 326 = .ok (.iload_n 2, 1) := by decide +kernel
theorem dL_acts_327 : decode cL_acts 327 = .ok (.invokevirtual 64, 3) := by decide +kernel
theorem dL_acts_330 : decode cL_acts 330 = .ok (.bipush (-2), 2) := by decide +kernel
theorem dL_acts_332 : decode cL_acts 332 = .ok (.if_icmp .le 7, 3) := by decide +kernel
theorem dL_acts_335 : decode cL_acts 335 = .ok (.iconst 1, 1) := by decide +kernel
theorem dL_acts_336 : decode cL_acts 336 = .ok (.goto 4, 3) := by decide +kernel
theorem dL_acts_339 : decode cL_acts 339 = .ok (.iconst 0, 1) := by decide +kernel
theorem dL_acts_340 : decode cL_acts 340 = .ok (.ireturn, 1) := by decide +kernel
theorem dL_acts_341 : decode cL_acts 341 = .ok (.aload_n 0, 1) := by decide +kernel
theorem dL_acts_342 : decode cL_acts 342 = .ok (.iload_n 2, 1) := by decide +kernel
theorem dL_acts_343 : decode cL_acts 343 = .ok (.iload_n 1, 1) := by decide +kernel
theorem dL_acts_344 : decode cL_acts 344 = .ok (.bipush 12, 2) := by decide +kernel
theorem dL_acts_346 : decode cL_acts 346 = .ok (.ishr, 1) := by decide +kernel
theorem dL_acts_347 : decode cL_acts 347 = .ok (.bipush 6, 2) := by decide +kernel
theorem dL_acts_349 : decode cL_acts 349 = .ok (.irem, 1) := by decide +kernel
theorem dL_acts_350 : decode cL_acts 350 = .ok (.invokevirtual 67, 3) := by decide +kernel
theorem dL_acts_353 : decode cL_acts 353 = .ok (.bipush (-2), 2) := by decide +kernel
theorem dL_acts_355 : decode cL_acts 355 = .ok (.if_icmp .le 29, 3) := by decide +kernel
theorem dL_acts_358 : decode cL_acts 358 = .ok (.aload_n 0, 1) := by decide +kernel
theorem dL_acts_359 : decode cL_acts 359 = .ok (.iload_n 3, 1) := by decide +kernel
theorem dL_acts_360 : decode cL_acts 360 = .ok (.iconst 3, 1) := by decide +kernel
theorem dL_acts_361 : decode cL_acts 361 = .ok (.irem, 1) := by decide +kernel
theorem dL_acts_362 : decode cL_acts 362 = .ok (.iload_n 3, 1) := by decide +kernel
theorem dL_acts_363 : decode cL_acts 363 = .ok (.iconst 1, 1) := by decide +kernel
theorem dL_acts_364 : decode cL_acts 364 = .ok (.iadd, 1) := by decide +kernel
theorem dL_acts_365 : decode cL_acts 365 = .ok (.iconst 3, 1) := by decide +kernel
theorem dL_acts_366 : decode cL_acts 366 = .ok (.irem, 1) := by decide +kernel
theorem dL_acts_367 : decode cL_acts 367 = .ok (.iload_n 3, 1) := by decide +kernel
theorem dL_acts_368 : decode cL_acts 368 = .ok (.iconst 2, 1) := by decide +kernel
theorem dL_acts_369 : decode cL_acts 369 = .ok (.iadd, 1) := by decide +kernel
theorem dL_acts_370 : decode cL_acts 370 = .ok (.iconst 3, 1) := by decide +kernel
theorem dL_acts_371 : decode cL_acts 371 = .ok (.irem, 1) := by decide +kernel
theorem dL_acts_372 : decode cL_acts 372 = .ok (.invokevirtual 70, 3) := by decide +kernel
theorem dL_acts_375 : decode cL_acts 375 = .ok (.bipush 12, 2) := by decide +kernel
theorem dL_acts_377 : decode cL_acts 377 = .ok (.if_icmp .lt 7, 3) := by decide +kernel
theorem dL_acts_380 : decode cL_acts 380 = .ok (.iconst 1, 1) := by decide +kernel
theorem dL_acts_381 : decode cL_acts 381 = .ok (.goto 4, 3) := by decide +kernel
theorem dL_acts_384 : decode cL_acts 384 = .ok (.iconst 0, 1) := by decide +kernel
theorem dL_acts_385 : decode cL_acts 385 = .ok (.ireturn, 1) := by decide +kernel
set_option maxRecDepth 20000 in
theorem ggL_albums_L_text : GoodIn wsL_albums wsL_text := goodIn_r _ [4, 5, 6, 7, 8, 9] (by decide +kernel) (by decide +kernel)
set_option maxRecDepth 20000 in
theorem gL_albums_L_text : GoodIn wsL_albums (va_wsS RL 73 yL_text wsL_text) := goodIn_app (goodIn_of _ (by decide +kernel)) ggL_albums_L_text
set_option maxRecDepth 20000 in
theorem ggL_albums_L_types : GoodIn wsL_albums wsL_types := goodIn_r _ [12, 13, 14, 15, 16, 17, 18, 19, 20, 21, 22, 23, 24, 25, 26, 27, 28, 29, 30, 31, 32, 33, 34, 35, 36, 37, 38, 39, 40, 41, 342, 343, 344, 345, 346, 347, 348, 349, 350, 351] (by decide +kernel) (by decide +kernel)
set_option maxRecDepth 20000 in
theorem gL_albums_L_types : GoodIn wsL_albums (va_wsS RL 79 yL_types wsL_types) := goodIn_app (goodIn_of _ (by decide +kernel)) ggL_albums_L_types
set_option maxRecDepth 20000 in
theorem ggL_albums_X8_isIn : GoodIn wsL_albums wsX8_isIn := goodIn_r _ [45, 46, 47, 48, 49, 50, 17, 51, 34, 35, 36, 52, 53, 54, 55, 56, 57, 58, 59, 60, 61, 62, 63, 64, 65, 66, 67, 68, 69, 70, 71, 342, 343, 344, 345, 346, 347, 348, 349, 352, 353, 354, 355, 356, 357, 358, 359, 360, 361, 362, 363, 364] (by decide +kernel) (by decide +kernel)
set_option maxRecDepth 20000 in
theorem gL_albums_X8_isIn : GoodIn wsL_albums (wsV RL 83 RX8 yX8_isIn wsX8_isIn) := goodIn_app (goodIn_of _ (by decide +kernel)) ggL_albums_X8_isIn
set_option maxRecDepth 20000 in
theorem ggL_albums_X8_satisfies : GoodIn wsL_albums wsX8_satisfies := goodIn_r _ [75, 46, 76, 19, 58, 59, 60, 61, 62, 63, 35, 17, 36, 64, 65, 77, 78, 79, 80, 81, 82, 83, 23, 84, 25, 41, 85, 86, 87, 88, 89, 90, 91, 92, 93, 94, 95, 96, 97, 98, 99, 100, 101, 102, 103, 104, 105, 106, 107, 108, 109, 110, 111, 112, 113, 48, 49, 50, 51, 47, 34, 52, 53, 54, 55, 56, 57, 114, 115, 116, 117, 118, 119, 120, 121, 122, 123, 124, 125, 126, 127, 128, 129, 130, 131, 132, 21, 22, 24, 133, 134, 135, 136, 137, 138, 139, 140, 141, 142, 143, 144, 145, 146, 147, 148, 149, 150, 151, 152, 153, 154, 155, 156, 157, 158, 159, 160, 67, 68, 69, 70, 161, 162, 163, 164, 165, 166, 167, 168, 169, 170, 171, 172, 173, 174, 175, 176, 177, 178, 179, 180, 181, 182, 183, 184, 185, 186, 187, 188, 189, 190, 191, 192, 193, 194, 195, 196, 197, 198, 199, 200, 201, 202, 203, 204, 205, 206, 207, 71, 342, 343, 344, 345, 346, 347, 348, 349, 359, 360, 361, 362, 363, 364, 350, 351, 352, 353, 354, 355, 356, 357, 358, 365, 366, 367, 368, 369, 370, 371, 372, 373, 374, 375, 376, 377, 378, 379, 380, 381, 382, 383] (by decide +kernel) (by decide +kernel)
set_option maxRecDepth 20000 in
theorem gL_albums_X8_satisfies : GoodIn wsL_albums (wsV RL 86 RX8 yX8_satisfies wsX8_satisfies) := goodIn_app (goodIn_of _ (by decide +kernel)) ggL_albums_X8_satisfies
set_option maxRecDepth 20000 in
theorem ggL_albums_X8_albumSize : GoodIn wsL_albums wsX8_albumSize := goodIn_r _ [211, 47, 48, 49, 50, 17, 51, 34, 35, 36, 52, 53, 54, 55, 56, 57, 66, 67, 68, 69, 70, 212, 213, 214, 215, 216, 217, 218, 342, 343, 344, 345, 346, 347, 348, 349, 352, 353, 354, 355, 356, 357, 358] (by decide +kernel) (by decide +kernel)
set_option maxRecDepth 20000 in
theorem gL_albums_X8_albumSize : GoodIn wsL_albums (wsV RL 89 RX8 yX8_albumSize wsX8_albumSize) := goodIn_app (goodIn_of _ (by decide +kernel)) ggL_albums_X8_albumSize
set_option maxRecDepth 20000 in
theorem ggL_albums_X8_select : GoodIn wsL_albums wsX8_select := goodIn_r _ [222, 76, 19, 77, 78, 79, 17, 80, 81, 82, 83, 23, 84, 25, 41, 85, 86, 87, 88, 89, 90, 91, 92, 93, 94, 95, 96, 97, 98, 99, 100, 101, 102, 103, 104, 105, 106, 107, 108, 109, 110, 111, 112, 113, 48, 49, 50, 51, 47, 34, 35, 36, 52, 53, 54, 55, 56, 57, 114, 115, 116, 117, 118, 119, 120, 121, 122, 123, 124, 125, 126, 127, 128, 129, 130, 61, 131, 63, 132, 21, 22, 24, 133, 134, 135, 136, 137, 138, 139, 140, 141, 142, 143, 144, 145, 146, 147, 64, 65, 148, 149, 150, 151, 152, 153, 154, 155, 156, 157, 158, 159, 160, 67, 68, 69, 70, 161, 162, 163, 164, 165, 166, 167, 168, 169, 170, 171, 172, 173, 174, 175, 176, 177, 178, 179, 180, 181, 182, 183, 184, 185, 186, 187, 188, 189, 190, 191, 192, 193, 194, 195, 196, 197, 198, 199, 200, 201, 202, 203, 204, 205, 206, 207, 212, 213, 214, 215, 216, 217, 218, 342, 343, 344, 345, 346, 347, 348, 349, 350, 351, 352, 353, 354, 355, 356, 357, 358, 365, 366, 367, 368, 369, 370, 371, 372, 359, 360, 361, 362, 363, 364, 373, 374, 375, 376, 377, 378, 379, 380, 381, 382, 383] (by decide +kernel) (by decide +kernel)
set_option maxRecDepth 20000 in
theorem gL_albums_X8_select : GoodIn wsL_albums (wsV RL 92 RX8 yX8_select wsX8_select) := goodIn_app (goodIn_of _ (by decide +kernel)) ggL_albums_X8_select
set_option maxRecDepth 20000 in
theorem ggL_albums_X8_turnover : GoodIn wsL_albums wsX8_turnover := goodIn_r _ [226, 47, 48, 49, 50, 17, 51, 34, 35, 36, 52, 53, 54, 55, 56, 57, 227, 228, 229, 230, 231, 232, 233, 234, 235, 236, 342, 343, 344, 345, 346, 347, 348, 349, 352, 353, 354, 355, 356, 357, 358] (by decide +kernel) (by decide +kernel)
set_option maxRecDepth 20000 in
theorem gL_albums_X8_turnover : GoodIn wsL_albums (wsV RL 95 RX8 yX8_turnover wsX8_turnover) := goodIn_app (goodIn_of _ (by decide +kernel)) ggL_albums_X8_turnover
set_option maxRecDepth 20000 in
theorem ggL_albums_X8_viewSize : GoodIn wsL_albums wsX8_viewSize := goodIn_r _ [240, 241, 47, 48, 49, 50, 17, 51, 34, 35, 36, 52, 53, 54, 55, 56, 57, 242, 243, 244, 245, 246, 247, 248, 67, 68, 69, 70, 249, 250, 251, 164, 252, 253, 254, 255, 256, 257, 258, 259, 260, 261, 262, 263, 264, 265, 266, 267, 64, 65, 153, 154, 268, 269, 270, 271, 272, 273, 274, 149, 150, 61, 151, 152, 212, 213, 214, 215, 216, 217, 218, 342, 343, 344, 345, 346, 347, 348, 349, 352, 353, 354, 355, 356, 357, 358, 384, 385, 373, 374, 375, 376, 377, 378, 379, 380, 359, 360, 361, 362, 363, 364] (by decide +kernel) (by decide +kernel)
set_option maxRecDepth 20000 in
theorem gL_albums_X8_viewSize : GoodIn wsL_albums (wsV RL 98 RX8 yX8_viewSize wsX8_viewSize) := goodIn_app (goodIn_of _ (by decide +kernel)) ggL_albums_X8_viewSize
set_option maxRecDepth 20000 in
theorem ggL_albums_X8_viewAt : GoodIn wsL_albums wsX8_viewAt := goodIn_r _ [278, 241, 47, 48, 49, 50, 17, 51, 34, 35, 36, 52, 53, 54, 55, 56, 57, 279, 280, 281, 245, 282, 283, 243, 244, 246, 247, 248, 67, 68, 69, 70, 249, 250, 251, 164, 252, 253, 254, 255, 256, 257, 258, 259, 260, 261, 262, 263, 264, 265, 266, 267, 64, 65, 153, 154, 268, 269, 270, 271, 272, 273, 274, 149, 150, 61, 151, 152, 284, 285, 286, 287, 288, 289, 290, 291, 292, 293, 294, 295, 296, 297, 298, 299, 300, 301, 302, 303, 304, 305, 306, 342, 343, 344, 345, 346, 347, 348, 349, 352, 353, 354, 355, 356, 357, 358, 384, 385, 373, 374, 375, 376, 377, 378, 379, 380, 359, 360, 361, 362, 363, 364] (by decide +kernel) (by decide +kernel)
set_option maxRecDepth 20000 in
theorem gL_albums_X8_viewAt : GoodIn wsL_albums (wsV RL 101 RX8 yX8_viewAt wsX8_viewAt) := goodIn_app (goodIn_of _ (by decide +kernel)) ggL_albums_X8_viewAt
set_option maxRecDepth 20000 in
theorem ggL_albums_X8_value : GoodIn wsL_albums wsX8_value := goodIn_r _ [310, 46, 58, 59, 60, 61, 62, 63, 35, 17, 36, 64, 65, 34, 311, 312, 313, 314, 315, 316, 317, 318, 319, 320, 321, 149, 150, 151, 152, 304, 305, 306, 342, 343, 344, 345, 346, 347, 348, 349, 359, 360, 361, 362, 363, 364] (by decide +kernel) (by decide +kernel)
set_option maxRecDepth 20000 in
theorem gL_albums_X8_value : GoodIn wsL_albums (wsV RL 104 RX8 yX8_value wsX8_value) := goodIn_app (goodIn_of _ (by decide +kernel)) ggL_albums_X8_value
set_option maxRecDepth 20000 in
theorem ggL_albums_X8_stackOf : GoodIn wsL_albums wsX8_stackOf := goodIn_r _ [325, 46, 326, 58, 59, 60, 61, 62, 63, 35, 17, 36, 64, 65, 327, 328, 329, 164, 330, 331, 304, 305, 306, 342, 343, 344, 345, 346, 347, 348, 349, 359, 360, 361, 362, 363, 364, 373, 374, 375, 376, 377, 378, 379, 380] (by decide +kernel) (by decide +kernel)
set_option maxRecDepth 20000 in
theorem gL_albums_X8_stackOf : GoodIn wsL_albums (wsV RL 107 RX8 yX8_stackOf wsX8_stackOf) := goodIn_app (goodIn_of _ (by decide +kernel)) ggL_albums_X8_stackOf
set_option maxRecDepth 20000 in
theorem ggL_albums_X8_collapse : GoodIn wsL_albums wsX8_collapse := goodIn_r _ [335, 326, 336, 250, 251, 164, 252, 253, 35, 17, 36, 34, 337, 255, 256, 257, 258, 338, 339, 340, 341, 342, 343, 344, 345, 346, 347, 348, 349, 373, 374, 375, 376, 377, 378, 379, 380] (by decide +kernel) (by decide +kernel)
set_option maxRecDepth 20000 in
theorem gL_albums_X8_collapse : GoodIn wsL_albums (wsV RL 55 RX8 yX8_collapse wsX8_collapse) := goodIn_app (goodIn_of _ (by decide +kernel)) ggL_albums_X8_collapse
theorem dL_albums_0 : decode cL_albums 0 = .ok (.iconst 1, 1) := by decide +kernel
theorem dL_albums_1 : decode cL_albums 1 = .ok (.istore_n 1, 1) := by decide +kernel
theorem dL_albums_2 : decode cL_albums 2 = .ok (.iconst 0, 1) := by decide +kernel
theorem dL_albums_3 : decode cL_albums 3 = .ok (.istore_n 2, 1) := by decide +kernel
theorem dL_albums_4 : decode cL_albums 4 = .ok (.iload_n 2, 1) := by decide +kernel
theorem dL_albums_5 : decode cL_albums 5 = .ok (.iconst 5, 1) := by decide +kernel
theorem dL_albums_6 : decode cL_albums 6 = .ok (.if_icmp .ge 324, 3) := by decide +kernel
theorem dL_albums_9 : decode cL_albums 9 = .ok (.iload_n 1, 1) := by decide +kernel
theorem dL_albums_10 : decode cL_albums 10 = .ok (.ifCond .eq 320, 3) := by decide +kernel
theorem dL_albums_13 : decode cL_albums 13 = .ok (.iconst 0, 1) := by decide +kernel
theorem dL_albums_14 : decode cL_albums 14 = .ok (.istore_n 3, 1) := by decide +kernel
theorem dL_albums_15 : decode cL_albums 15 = .ok (.aload_n 0, 1) := by decide +kernel
theorem dL_albums_16 : decode cL_albums 16 = .ok (.iload_n 2, 1) := by decide +kernel
theorem dL_albums_17 : decode cL_albums 17 = .ok (.invokestatic 73, 3) := by decide +kernel
theorem dL_albums_20 : decode cL_albums 20 = .ok (.invokestatic 79, 3) := by decide +kernel
theorem dL_albums_23 : decode cL_albums 23 = .ok (.istore_n 1, 1) := by decide +kernel
theorem dL_albums_24 : decode cL_albums 24 = .ok (.iconst 0, 1) := by decide +kernel
theorem dL_albums_25 : decode cL_albums 25 = .ok (.istore 4, 2) := by decide +kernel
theorem dL_albums_27 : decode cL_albums 27 = .ok (.iload 4, 2) := by decide +kernel
theorem dL_albums_29 : decode cL_albums 29 = .ok (.bipush 40, 2) := by decide +kernel
theorem dL_albums_31 : decode cL_albums 31 = .ok (.if_icmp .ge 53, 3) := by decide +kernel
theorem dL_albums_34 : decode cL_albums 34 = .ok (.iload_n 1, 1) := by decide +kernel
theorem dL_albums_35 : decode cL_albums 35 = .ok (.ifCond .eq 49, 3) := by decide +kernel
theorem dL_albums_38 : decode cL_albums 38 = .ok (.aload_n 0, 1) := by decide +kernel
theorem dL_albums_39 : decode cL_albums 39 = .ok (.iload_n 2, 1) := by decide +kernel
theorem dL_albums_40 : decode cL_albums 40 = .ok (.iload 4, 2) := by decide +kernel
theorem dL_albums_42 : decode cL_albums 42 = .ok (.invokevirtual 83, 3) := by decide +kernel
theorem dL_albums_45 : decode cL_albums 45 = .ok (.istore 5, 2) := by decide +kernel
theorem dL_albums_47 : decode cL_albums 47 = .ok (.aload_n 0, 1) := by decide +kernel
theorem dL_albums_48 : decode cL_albums 48 = .ok (.iload 4, 2) := by decide +kernel
theorem dL_albums_50 : decode cL_albums 50 = .ok (.invokevirtual 86, 3) := by decide +kernel
theorem dL_albums_53 : decode cL_albums 53 = .ok (.iload 5, 2) := by decide +kernel
theorem dL_albums_55 : decode cL_albums 55 = .ok (.if_icmp .ne 7, 3) := by decide +kernel
theorem dL_albums_58 : decode cL_albums 58 = .ok (.iconst 1, 1) := by decide +kernel
theorem dL_albums_59 : decode cL_albums 59 = .ok (.goto 4, 3) := by decide +kernel
theorem dL_albums_62 : decode cL_albums 62 = .ok (.iconst 0, 1) := by decide +kernel
theorem dL_albums_63 : decode cL_albums 63 = .ok (.istore_n 1, 1) := by decide +kernel
theorem dL_albums_64 : decode cL_albums 64 = .ok (.iload_n 3, 1) := by decide +kernel
theorem dL_albums_65 : decode cL_albums 65 = .ok (.iload 5, 2) := by decide +kernel
theorem dL_albums_67 : decode cL_albums 67 = .ok (.iconst 1, 1) := by decide +kernel
theorem dL_albums_68 : decode cL_albums 68 = .ok (.if_icmp .ne 7, 3) := by decide +kernel
theorem dL_albums_71 : decode cL_albums 71 = .ok (.iconst 1, 1) := by decide +kernel
theorem dL_albums_72 : decode cL_albums 72 = .ok (.goto 4, 3) := by decide +kernel
theorem dL_albums_75 : decode cL_albums 75 = .ok (.iconst 0, 1) := by decide +kernel
theorem dL_albums_76 : decode cL_albums 76 = .ok (.iadd, 1) := by decide +kernel
theorem dL_albums_77 : decode cL_albums 77 = .ok (.istore_n 3, 1) := by decide +kernel
theorem dL_albums_78 : decode cL_albums 78 = .ok (.iinc 4 1, 3) := by decide +kernel
theorem dL_albums_81 : decode cL_albums 81 = .ok (.goto (-54), 3) := by decide +kernel
theorem dL_albums_84 : decode cL_albums 84 = .ok (.iload_n 1, 1) := by decide +kernel
theorem dL_albums_85 : decode cL_albums 85 = .ok (.ifCond .eq 41, 3) := by decide +kernel
theorem dL_albums_88 : decode cL_albums 88 = .ok (.aload_n 0, 1) := by decide +kernel
theorem dL_albums_89 : decode cL_albums 89 = .ok (.iload_n 2, 1) := by decide +kernel
theorem dL_albums_90 : decode cL_albums 90 = .ok (.invokevirtual 89, 3) := by decide +kernel
theorem dL_albums_93 : decode cL_albums 93 = .ok (.iload_n 3, 1) := by decide +kernel
theorem dL_albums_94 : decode cL_albums 94 = .ok (.if_icmp .ne 32, 3) := by decide +kernel
theorem dL_albums_97 : decode cL_albums 97 = .ok (.aload_n 0, 1) := by decide +kernel
theorem dL_albums_98 : decode cL_albums 98 = .ok (.invokevirtual 92, 3) := by decide +kernel
theorem dL_albums_101 : decode cL_albums 101 = .ok (.iload_n 3, 1) := by decide +kernel
theorem dL_albums_102 : decode cL_albums 102 = .ok (.if_icmp .ne 24, 3) := by decide +kernel
theorem dL_albums_105 : decode cL_albums 105 = .ok (.aload_n 0, 1) := by decide +kernel
theorem dL_albums_106 : decode cL_albums 106 = .ok (.iload_n 2, 1) := by decide +kernel
theorem dL_albums_107 : decode cL_albums 107 = .ok (.iconst 1, 1) := by decide +kernel
theorem dL_albums_108 : decode cL_albums 108 = .ok (.invokevirtual 95, 3) := by decide +kernel
theorem dL_albums_111 : decode cL_albums 111 = .ok (.aload_n 0, 1) := by decide +kernel
theorem dL_albums_112 : decode cL_albums 112 = .ok (.iload_n 2, 1) := by decide +kernel
theorem dL_albums_113 : decode cL_albums 113 = .ok (.iconst 0, 1) := by decide +kernel
theorem dL_albums_114 : decode cL_albums 114 = .ok (.invokevirtual 95, 3) := by decide +kernel
theorem dL_albums_117 : decode cL_albums 117 = .ok (.isub, 1) := by decide +kernel
theorem dL_albums_118 : decode cL_albums 118 = .ok (.iload_n 3, 1) := by decide +kernel
theorem dL_albums_119 : decode cL_albums 119 = .ok (.if_icmp .ne 7, 3) := by decide +kernel
theorem dL_albums_122 : decode cL_albums 122 = .ok (.iconst 1, 1) := by decide +kernel
theorem dL_albums_123 : decode cL_albums 123 = .ok (.goto 4, 3) := by decide +kernel
theorem dL_albums_126 : decode cL_albums 126 = .ok (.iconst 0, 1) := by decide +kernel
theorem dL_albums_127 : decode cL_albums 127 = .ok (.istore_n 1, 1) := by decide +kernel
theorem dL_albums_128 : decode cL_albums 128 = .ok (.iload_n 1, 1) := by decide +kernel
theorem dL_albums_129 : decode cL_albums 129 = .ok (.ifCond .eq 11, 3) := by decide +kernel
theorem dL_albums_132 : decode cL_albums 132 = .ok (.aload_n 0, 1) := by decide +kernel
theorem dL_albums_133 : decode cL_albums 133 = .ok (.iload_n 2, 1) := by decide +kernel
theorem dL_albums_134 : decode cL_albums 134 = .ok (.invokevirtual 98, 3) := by decide +kernel
theorem dL_albums_137 : decode cL_albums 137 = .ok (.goto 4, 3) := by decide +kernel
theorem dL_albums_140 : decode cL_albums 140 = .ok (.iconst 0, 1) := by decide +kernel
theorem dL_albums_141 : decode cL_albums 141 = .ok (.istore 4, 2) := by decide +kernel
theorem dL_albums_143 : decode cL_albums 143 = .ok (.bipush 6, 2) := by decide +kernel
theorem dL_albums_145 : decode cL_albums 145 = .ok (.istore 5, 2) := by decide +kernel
theorem dL_albums_147 : decode cL_albums 147 = .ok (.iconst 0, 1) := by decide +kernel
theorem dL_albums_148 : decode cL_albums 148 = .ok (.istore 6, 2) := by decide +kernel
theorem dL_albums_150 : decode cL_albums 150 = .ok (.iload 6, 2) := by decide +kernel
theorem dL_albums_152 : decode cL_albums 152 = .ok (.iload 4, 2) := by decide +kernel
theorem dL_albums_154 : decode cL_albums 154 = .ok (.if_icmp .ge 154, 3) := by decide +kernel
theorem dL_albums_157 : decode cL_albums 157 = .ok (.iload_n 1, 1) := by decide +kernel
theorem dL_albums_158 : decode cL_albums 158 = .ok (.ifCond .eq 150, 3) := by decide +kernel
theorem dL_albums_161 : decode cL_albums 161 = .ok (.aload_n 0, 1) := by decide +kernel
theorem dL_albums_162 : decode cL_albums 162 = .ok (.iload_n 2, 1) := by decide +kernel
theorem dL_albums_163 : decode cL_albums 163 = .ok (.iload 6, 2) := by decide +kernel
theorem dL_albums_165 : decode cL_albums 165 = .ok (.invokevirtual 101, 3) := by decide +kernel
theorem dL_albums_168 : decode cL_albums 168 = .ok (.istore 7, 2) := by decide +kernel
theorem dL_albums_170 : decode cL_albums 170 = .ok (.aload_n 0, 1) := by decide +kernel
theorem dL_albums_171 : decode cL_albums 171 = .ok (.iload 7, 2) := by decide +kernel
theorem dL_albums_173 : decode cL_albums 173 = .ok (.iconst 1, 1) := by decide +kernel
theorem dL_albums_174 : decode cL_albums 174 = .ok (.invokevirtual 104, 3) := by decide +kernel
theorem dL_albums_177 : decode cL_albums 177 = .ok (.istore 8, 2) := by decide +kernel
theorem dL_albums_179 : decode cL_albums 179 = .ok (.aload_n 0, 1) := by decide +kernel
theorem dL_albums_180 : decode cL_albums 180 = .ok (.iload_n 2, 1) := by decide +kernel
theorem dL_albums_181 : decode cL_albums 181 = .ok (.iload 7, 2) := by decide +kernel
theorem dL_albums_183 : decode cL_albums 183 = .ok (.invokevirtual 83, 3) := by decide +kernel
theorem dL_albums_186 : decode cL_albums 186 = .ok (.iconst 1, 1) := by decide +kernel
theorem dL_albums_187 : decode cL_albums 187 = .ok (.if_icmp .ne 23, 3) := by decide +kernel
theorem dL_albums_190 : decode cL_albums 190 = .ok (.iload 8, 2) := by decide +kernel
theorem dL_albums_192 : decode cL_albums 192 = .ok (.ifCond .ge 7, 3) := by decide +kernel
theorem dL_albums_195 : decode cL_albums 195 = .ok (.iconst (-1), 1) := by decide +kernel
theorem dL_albums_196 : decode cL_albums 196 = .ok (.goto 5, 3) := by decide +kernel
theorem dL_albums_199 : decode cL_albums 199 = .ok (.iload 8, 2) := by decide +kernel
theorem dL_albums_201 : decode cL_albums 201 = .ok (.iload 5, 2) := by decide +kernel
theorem dL_albums_203 : decode cL_albums 203 = .ok (.if_icmp .gt 7, 3) := by decide +kernel
theorem dL_albums_206 : decode cL_albums 206 = .ok (.iconst 1, 1) := by decide +kernel
theorem dL_albums_207 : decode cL_albums 207 = .ok (.goto 4, 3) := by decide +kernel
theorem dL_albums_210 : decode cL_albums 210 = .ok (.iconst 0, 1) := by decide +kernel
theorem dL_albums_211 : decode cL_albums 211 = .ok (.istore_n 1, 1) := by decide +kernel
theorem dL_albums_212 : decode cL_albums 212 = .ok (.iload 8, 2) := by decide +kernel
theorem dL_albums_214 : decode cL_albums 214 = .ok (.ifCond .ge 7, 3) := by decide +kernel
theorem dL_albums_217 : decode cL_albums 217 = .ok (.iconst (-1), 1) := by decide +kernel
theorem dL_albums_218 : decode cL_albums 218 = .ok (.goto 5, 3) := by decide +kernel
theorem dL_albums_221 : decode cL_albums 221 = .ok (.iload 8, 2) := by decide +kernel
theorem dL_albums_223 : decode cL_albums 223 = .ok (.istore 5, 2) := by decide +kernel
theorem dL_albums_225 : decode cL_albums 225 = .ok (.iconst 0, 1) := by decide +kernel
theorem dL_albums_226 : decode cL_albums 226 = .ok (.istore 9, 2) := by decide +kernel
theorem dL_albums_228 : decode cL_albums 228 = .ok (.iload 9, 2) := by decide +kernel
theorem dL_albums_230 : decode cL_albums 230 = .ok (.iload 6, 2) := by decide +kernel
theorem dL_albums_232 : decode cL_albums 232 = .ok (.if_icmp .ge 70, 3) := by decide +kernel
theorem dL_albums_235 : decode cL_albums 235 = .ok (.iload_n 1, 1) := by decide +kernel
theorem dL_albums_236 : decode cL_albums 236 = .ok (.ifCond .eq 66, 3) := by decide +kernel
theorem dL_albums_239 : decode cL_albums 239 = .ok (.aload_n 0, 1) := by decide +kernel
theorem dL_albums_240 : decode cL_albums 240 = .ok (.iload 7, 2) := by decide +kernel
theorem dL_albums_242 : decode cL_albums 242 = .ok (.invokevirtual 107, 3) := by decide +kernel
theorem dL_albums_245 : decode cL_albums 245 = .ok (.istore 10, 2) := by decide +kernel
theorem dL_albums_247 : decode cL_albums 247 = .ok (.aload_n 0, 1) := by decide +kernel
theorem dL_albums_248 : decode cL_albums 248 = .ok (.iload_n 2, 1) := by decide +kernel
theorem dL_albums_249 : decode cL_albums 249 = .ok (.iload 9, 2) := by decide +kernel
theorem dL_albums_251 : decode cL_albums 251 = .ok (.invokevirtual 101, 3) := by decide +kernel
theorem dL_albums_254 : decode cL_albums 254 = .ok (.iload 7, 2) := by decide +kernel
theorem dL_albums_256 : decode cL_albums 256 = .ok (.if_icmp .eq 38, 3) := by decide +kernel
theorem dL_albums_259 : decode cL_albums 259 = .ok (.iload 10, 2) := by decide +kernel
theorem dL_albums_261 : decode cL_albums 261 = .ok (.ifCond .lt 29, 3) := by decide +kernel
theorem dL_albums_264 : decode cL_albums 264 = .ok (.aload_n 0, 1) := by decide +kernel
theorem dL_albums_265 : decode cL_albums 265 = .ok (.aload_n 0, 1) := by decide +kernel
theorem dL_albums_266 : decode cL_albums 266 = .ok (.iload_n 2, 1) := by decide +kernel
theorem dL_albums_267 : decode cL_albums 267 = .ok (.iload 9, 2) := by decide +kernel
theorem dL_albums_269 : decode cL_albums 269 = .ok (.invokevirtual 101, 3) := by decide +kernel
theorem dL_albums_272 : decode cL_albums 272 = .ok (.invokevirtual 107, 3) := by decide +kernel
theorem dL_albums_275 : decode cL_albums 275 = .ok (.iload 10, 2) := by decide +kernel
theorem dL_albums_277 : decode cL_albums 277 = .ok (.if_icmp .ne 13, 3) := by decide +kernel
theorem dL_albums_280 : decode cL_albums 280 = .ok (.aload_n 0, 1) := by decide +kernel
theorem dL_albums_281 : decode cL_albums 281 = .ok (.iload 10, 2) := by decide +kernel
theorem dL_albums_283 : decode cL_albums 283 = .ok (.iconst 0, 1) := by decide +kernel
theorem dL_albums_284 : decode cL_albums 284 = .ok (.invokevirtual 55, 3) := by decide +kernel
theorem dL_albums_287 : decode cL_albums 287 = .ok (.ifCond .ne 7, 3) := by decide +kernel
theorem dL_albums_290 : decode cL_albums 290 = .ok (.iconst 1, 1) := by decide +kernel
theorem dL_albums_291 : decode cL_albums 291 = .ok (.goto 4, 3) := by decide +kernel
theorem dL_albums_294 : decode cL_albums 294 = .ok (.iconst 0, 1) := by decide +kernel
theorem dL_albums_295 : decode cL_albums 295 = .ok (.istore_n 1, 1) := by decide +kernel
theorem dL_albums_296 : decode cL_albums 296 = .ok (.iinc 9 1, 3) := by decide +kernel
theorem dL_albums_299 : decode cL_albums 299 = .ok (.goto (-71), 3) := by decide +kernel
theorem dL_albums_302 : decode cL_albums 302 = .ok (.iinc 6 1, 3) := by decide +kernel
theorem dL_albums_305 : decode cL_albums 305 = .ok (.goto (-155), 3) := by decide +kernel
theorem dL_albums_308 : decode cL_albums 308 = .ok (.iload_n 1, 1) := by decide +kernel
theorem dL_albums_309 : decode cL_albums 309 = .ok (.ifCond .eq 13, 3) := by decide +kernel
theorem dL_albums_312 : decode cL_albums 312 = .ok (.iload 4, 2) := by decide +kernel
theorem dL_albums_314 : decode cL_albums 314 = .ok (.iload_n 3, 1) := by decide +kernel
theorem dL_albums_315 : decode cL_albums 315 = .ok (.if_icmp .gt 7, 3) := by decide +kernel
theorem dL_albums_318 : decode cL_albums 318 = .ok (.iconst 1, 1) := by decide +kernel
theorem dL_albums_319 : decode cL_albums 319 = .ok (.goto 4, 3) := by decide +kernel
theorem dL_albums_322 : decode cL_albums 322 = .ok (.iconst 0, 1) := by decide +kernel
theorem dL_albums_323 : decode cL_albums 323 = .ok (.istore_n 1, 1) := by decide +kernel
theorem dL_albums_324 : decode cL_albums 324 = .ok (.iinc 2 1, 3) := by decide +kernel
theorem dL_albums_327 : decode cL_albums 327 = .ok (.goto (-323), 3) := by decide +kernel
theorem dL_albums_330 : decode cL_albums 330 = .ok (.iload_n 1, 1) := by decide +kernel
theorem dL_albums_331 : decode cL_albums 331 = .ok (.ireturn, 1) := by decide +kernel
set_option maxRecDepth 20000 in
theorem ggL_groups_X8_keeperOf : GoodIn wsL_groups wsX8_keeperOf := goodIn_r _ [5, 6, 7, 8, 9, 10, 11, 12, 13, 14, 4, 15, 16, 17, 18, 19, 20, 21, 22, 23, 24, 25, 26, 27, 28, 29, 30, 31, 32, 33, 34, 35, 36, 37, 38, 39, 40, 41, 42, 43, 44, 45, 46, 47, 180, 181, 182, 183, 184, 185, 186, 187, 188, 189, 190, 191, 192, 193, 194, 195, 196] (by decide +kernel) (by decide +kernel)
set_option maxRecDepth 20000 in
theorem gL_groups_X8_keeperOf : GoodIn wsL_groups (wsV RL 110 RX8 yX8_keeperOf wsX8_keeperOf) := goodIn_app (goodIn_of _ (by decide +kernel)) ggL_groups_X8_keeperOf
set_option maxRecDepth 20000 in
theorem ggL_groups_X8_value : GoodIn wsL_groups wsX8_value := goodIn_r _ [51, 6, 8, 9, 10, 11, 12, 13, 14, 4, 15, 16, 17, 52, 53, 54, 55, 56, 28, 57, 58, 59, 60, 61, 62, 40, 41, 42, 43, 63, 64, 65, 180, 181, 182, 183, 184, 185, 186, 187, 188, 189, 190, 191, 192, 193] (by decide +kernel) (by decide +kernel)
set_option maxRecDepth 20000 in
theorem gL_groups_X8_value : GoodIn wsL_groups (wsV RL 104 RX8 yX8_value wsX8_value) := goodIn_app (goodIn_of _ (by decide +kernel)) ggL_groups_X8_value
set_option maxRecDepth 20000 in
theorem ggL_groups_X8_groupSize : GoodIn wsL_groups wsX8_groupSize := goodIn_r _ [69, 6, 8, 9, 10, 11, 12, 13, 14, 4, 15, 16, 17, 70, 25, 26, 27, 28, 29, 30, 71, 72, 73, 74, 75, 76, 77, 180, 181, 182, 183, 184, 185, 186, 187, 188, 189, 190, 191, 192, 193] (by decide +kernel) (by decide +kernel)
set_option maxRecDepth 20000 in
theorem gL_groups_X8_groupSize : GoodIn wsL_groups (wsV RL 113 RX8 yX8_groupSize wsX8_groupSize) := goodIn_app (goodIn_of _ (by decide +kernel)) ggL_groups_X8_groupSize
set_option maxRecDepth 20000 in
theorem ggL_groups_X8_stackOf : GoodIn wsL_groups wsX8_stackOf := goodIn_r _ [81, 6, 82, 8, 9, 10, 11, 12, 13, 14, 4, 15, 16, 17, 83, 84, 85, 86, 87, 88, 63, 64, 65, 180, 181, 182, 183, 184, 185, 186, 187, 188, 189, 190, 191, 192, 193, 197, 198, 199, 200, 201, 202, 203, 204] (by decide +kernel) (by decide +kernel)
set_option maxRecDepth 20000 in
theorem gL_groups_X8_stackOf : GoodIn wsL_groups (wsV RL 107 RX8 yX8_stackOf wsX8_stackOf) := goodIn_app (goodIn_of _ (by decide +kernel)) ggL_groups_X8_stackOf
set_option maxRecDepth 20000 in
theorem ggL_groups_X8_coverOf : GoodIn wsL_groups wsX8_coverOf := goodIn_r _ [92, 82, 93, 94, 95, 86, 96, 97, 14, 4, 15, 98, 99, 100, 101, 102, 103, 104, 105, 106, 107, 108, 40, 41, 11, 42, 43, 180, 181, 182, 183, 184, 185, 186, 187, 197, 198, 199, 200, 201, 202, 203, 204, 188, 189, 190, 191, 192, 193] (by decide +kernel) (by decide +kernel)
set_option maxRecDepth 20000 in
theorem gL_groups_X8_coverOf : GoodIn wsL_groups (wsV RL 116 RX8 yX8_coverOf wsX8_coverOf) := goodIn_app (goodIn_of _ (by decide +kernel)) ggL_groups_X8_coverOf
set_option maxRecDepth 20000 in
theorem ggL_groups_X8_stackAt : GoodIn wsL_groups wsX8_stackAt := goodIn_r _ [112, 82, 93, 94, 95, 86, 96, 97, 14, 4, 15, 113, 114, 115, 116, 103, 105, 106, 107, 63, 64, 65, 180, 181, 182, 183, 184, 185, 186, 187, 197, 198, 199, 200, 201, 202, 203, 204] (by decide +kernel) (by decide +kernel)
set_option maxRecDepth 20000 in
theorem gL_groups_X8_stackAt : GoodIn wsL_groups (wsV RL 119 RX8 yX8_stackAt wsX8_stackAt) := goodIn_app (goodIn_of _ (by decide +kernel)) ggL_groups_X8_stackAt
set_option maxRecDepth 20000 in
theorem ggL_groups_X8_wasted : GoodIn wsL_groups wsX8_wasted := goodIn_r _ [120, 6, 7, 121, 122, 123, 124, 11, 125, 13, 126, 127, 128, 21, 129, 130, 131, 132, 133, 134, 61, 16, 4, 17, 180, 181, 182, 183, 184, 185, 186, 187, 188, 189, 190, 191, 192, 193, 194, 195, 196] (by decide +kernel) (by decide +kernel)
set_option maxRecDepth 20000 in
theorem gL_groups_X8_wasted : GoodIn wsL_groups (wsV RL 122 RX8 yX8_wasted wsX8_wasted) := goodIn_app (goodIn_of _ (by decide +kernel)) ggL_groups_X8_wasted
set_option maxRecDepth 20000 in
theorem ggL_groups_X8_count : GoodIn wsL_groups wsX8_count := goodIn_r _ [138, 82, 7, 6, 139, 140, 141, 86, 142, 143, 94, 95, 96, 97, 14, 4, 15, 144, 145, 146, 147, 148, 149, 150, 151, 152, 52, 153, 154, 155, 156, 157, 158, 126, 127, 128, 21, 129, 130, 159, 160, 161, 162, 163, 71, 72, 73, 74, 75, 76, 77, 164, 165, 166, 167, 168, 122, 123, 124, 11, 125, 13, 131, 132, 133, 134, 61, 16, 17, 180, 181, 182, 183, 184, 185, 186, 187, 197, 198, 199, 200, 201, 202, 203, 204, 205, 206, 207, 208, 209, 210, 211, 194, 195, 196, 188, 189, 190, 191, 192, 193] (by decide +kernel) (by decide +kernel)
set_option maxRecDepth 20000 in
theorem gL_groups_X8_count : GoodIn wsL_groups (wsV RL 125 RX8 yX8_count wsX8_count) := goodIn_app (goodIn_of _ (by decide +kernel)) ggL_groups_X8_count
set_option maxRecDepth 20000 in
theorem ggL_groups_X8_journalSize : GoodIn wsL_groups wsX8_journalSize := goodIn_r _ [172, 173, 174, 175, 176, 177, 178, 179, 180, 181, 182, 183, 184, 185, 186, 187, 212, 213, 214, 215, 216] (by decide +kernel) (by decide +kernel)
set_option maxRecDepth 20000 in
theorem gL_groups_X8_journalSize : GoodIn wsL_groups (wsV RL 128 RX8 yX8_journalSize wsX8_journalSize) := goodIn_app (goodIn_of _ (by decide +kernel)) ggL_groups_X8_journalSize
theorem dL_groups_0 : decode cL_groups 0 = .ok (.iconst 0, 1) := by decide +kernel
theorem dL_groups_1 : decode cL_groups 1 = .ok (.istore_n 1, 1) := by decide +kernel
theorem dL_groups_2 : decode cL_groups 2 = .ok (.iconst 0, 1) := by decide +kernel
theorem dL_groups_3 : decode cL_groups 3 = .ok (.istore_n 2, 1) := by decide +kernel
theorem dL_groups_4 : decode cL_groups 4 = .ok (.iconst 0, 1) := by decide +kernel
theorem dL_groups_5 : decode cL_groups 5 = .ok (.istore_n 3, 1) := by decide +kernel
theorem dL_groups_6 : decode cL_groups 6 = .ok (.iconst 1, 1) := by decide +kernel
theorem dL_groups_7 : decode cL_groups 7 = .ok (.istore 4, 2) := by decide +kernel
theorem dL_groups_9 : decode cL_groups 9 = .ok (.iconst 0, 1) := by decide +kernel
theorem dL_groups_10 : decode cL_groups 10 = .ok (.istore 5, 2) := by decide +kernel
theorem dL_groups_12 : decode cL_groups 12 = .ok (.iload 5, 2) := by decide +kernel
theorem dL_groups_14 : decode cL_groups 14 = .ok (.bipush 40, 2) := by decide +kernel
theorem dL_groups_16 : decode cL_groups 16 = .ok (.if_icmp .ge 200, 3) := by decide +kernel
theorem dL_groups_19 : decode cL_groups 19 = .ok (.iload 4, 2) := by decide +kernel
theorem dL_groups_21 : decode cL_groups 21 = .ok (.ifCond .eq 195, 3) := by decide +kernel
theorem dL_groups_24 : decode cL_groups 24 = .ok (.aload_n 0, 1) := by decide +kernel
theorem dL_groups_25 : decode cL_groups 25 = .ok (.iload 5, 2) := by decide +kernel
theorem dL_groups_27 : decode cL_groups 27 = .ok (.invokevirtual 110, 3) := by decide +kernel
theorem dL_groups_30 : decode cL_groups 30 = .ok (.istore 6, 2) := by decide +kernel
theorem dL_groups_32 : decode cL_groups 32 = .ok (.iload 6, 2) := by decide +kernel
theorem dL_groups_34 : decode cL_groups 34 = .ok (.ifCond .lt 176, 3) := by decide +kernel
theorem dL_groups_37 : decode cL_groups 37 = .ok (.aload_n 0, 1) := by decide +kernel
theorem dL_groups_38 : decode cL_groups 38 = .ok (.iload 6, 2) := by decide +kernel
theorem dL_groups_40 : decode cL_groups 40 = .ok (.invokevirtual 110, 3) := by decide +kernel
theorem dL_groups_43 : decode cL_groups 43 = .ok (.iload 6, 2) := by decide +kernel
theorem dL_groups_45 : decode cL_groups 45 = .ok (.if_icmp .ne 41, 3) := by decide +kernel
theorem dL_groups_48 : decode cL_groups 48 = .ok (.aload_n 0, 1) := by decide +kernel
theorem dL_groups_49 : decode cL_groups 49 = .ok (.iload 6, 2) := by decide +kernel
theorem dL_groups_51 : decode cL_groups 51 = .ok (.bipush 6, 2) := by decide +kernel
theorem dL_groups_53 : decode cL_groups 53 = .ok (.invokevirtual 104, 3) := by decide +kernel
theorem dL_groups_56 : decode cL_groups 56 = .ok (.aload_n 0, 1) := by decide +kernel
theorem dL_groups_57 : decode cL_groups 57 = .ok (.iload 5, 2) := by decide +kernel
theorem dL_groups_59 : decode cL_groups 59 = .ok (.bipush 6, 2) := by decide +kernel
theorem dL_groups_61 : decode cL_groups 61 = .ok (.invokevirtual 104, 3) := by decide +kernel
theorem dL_groups_64 : decode cL_groups 64 = .ok (.if_icmp .ne 22, 3) := by decide +kernel
theorem dL_groups_67 : decode cL_groups 67 = .ok (.aload_n 0, 1) := by decide +kernel
theorem dL_groups_68 : decode cL_groups 68 = .ok (.iload 6, 2) := by decide +kernel
theorem dL_groups_70 : decode cL_groups 70 = .ok (.invokevirtual 113, 3) := by decide +kernel
theorem dL_groups_73 : decode cL_groups 73 = .ok (.aload_n 0, 1) := by decide +kernel
theorem dL_groups_74 : decode cL_groups 74 = .ok (.iload 5, 2) := by decide +kernel
theorem dL_groups_76 : decode cL_groups 76 = .ok (.invokevirtual 113, 3) := by decide +kernel
theorem dL_groups_79 : decode cL_groups 79 = .ok (.if_icmp .ne 7, 3) := by decide +kernel
theorem dL_groups_82 : decode cL_groups 82 = .ok (.iconst 1, 1) := by decide +kernel
theorem dL_groups_83 : decode cL_groups 83 = .ok (.goto 4, 3) := by decide +kernel
theorem dL_groups_86 : decode cL_groups 86 = .ok (.iconst 0, 1) := by decide +kernel
theorem dL_groups_87 : decode cL_groups 87 = .ok (.istore 4, 2) := by decide +kernel
theorem dL_groups_89 : decode cL_groups 89 = .ok (.iload_n 1, 1) := by decide +kernel
theorem dL_groups_90 : decode cL_groups 90 = .ok (.iload 6, 2) := by decide +kernel
theorem dL_groups_92 : decode cL_groups 92 = .ok (.iload 5, 2) := by decide +kernel
theorem dL_groups_94 : decode cL_groups 94 = .ok (.if_icmp .ne 7, 3) := by decide +kernel
theorem dL_groups_97 : decode cL_groups 97 = .ok (.iconst 0, 1) := by decide +kernel
theorem dL_groups_98 : decode cL_groups 98 = .ok (.goto 11, 3) := by decide +kernel
theorem dL_groups_101 : decode cL_groups 101 = .ok (.aload_n 0, 1) := by decide +kernel
theorem dL_groups_102 : decode cL_groups 102 = .ok (.iload 5, 2) := by decide +kernel
theorem dL_groups_104 : decode cL_groups 104 = .ok (.bipush 7, 2) := by decide +kernel
theorem dL_groups_106 : decode cL_groups 106 = .ok (.invokevirtual 104, 3) := by decide +kernel
theorem dL_groups_109 : decode cL_groups 109 = .ok (.iadd, 1) := by decide +kernel
theorem dL_groups_110 : decode cL_groups 110 = .ok (.istore_n 1, 1) := by decide +kernel
theorem dL_groups_111 : decode cL_groups 111 = .ok (.iload_n 2, 1) := by decide +kernel
theorem dL_groups_112 : decode cL_groups 112 = .ok (.aload_n 0, 1) := by decide +kernel
theorem dL_groups_113 : decode cL_groups 113 = .ok (.iload 5, 2) := by decide +kernel
theorem dL_groups_115 : decode cL_groups 115 = .ok (.bipush 7, 2) := by decide +kernel
theorem dL_groups_117 : decode cL_groups 117 = .ok (.invokevirtual 104, 3) := by decide +kernel
theorem dL_groups_120 : decode cL_groups 120 = .ok (.iadd, 1) := by decide +kernel
theorem dL_groups_121 : decode cL_groups 121 = .ok (.istore_n 2, 1) := by decide +kernel
theorem dL_groups_122 : decode cL_groups 122 = .ok (.iload_n 3, 1) := by decide +kernel
theorem dL_groups_123 : decode cL_groups 123 = .ok (.iload 6, 2) := by decide +kernel
theorem dL_groups_125 : decode cL_groups 125 = .ok (.iload 5, 2) := by decide +kernel
theorem dL_groups_127 : decode cL_groups 127 = .ok (.if_icmp .ne 17, 3) := by decide +kernel
theorem dL_groups_130 : decode cL_groups 130 = .ok (.aload_n 0, 1) := by decide +kernel
theorem dL_groups_131 : decode cL_groups 131 = .ok (.iload 5, 2) := by decide +kernel
theorem dL_groups_133 : decode cL_groups 133 = .ok (.invokevirtual 113, 3) := by decide +kernel
theorem dL_groups_136 : decode cL_groups 136 = .ok (.iconst 1, 1) := by decide +kernel
theorem dL_groups_137 : decode cL_groups 137 = .ok (.if_icmp .le 7, 3) := by decide +kernel
theorem dL_groups_140 : decode cL_groups 140 = .ok (.iconst 1, 1) := by decide +kernel
theorem dL_groups_141 : decode cL_groups 141 = .ok (.goto 4, 3) := by decide +kernel
theorem dL_groups_144 : decode cL_groups 144 = .ok (.iconst 0, 1) := by decide +kernel
theorem dL_groups_145 : decode cL_groups 145 = .ok (.iadd, 1) := by decide +kernel
theorem dL_groups_146 : decode cL_groups 146 = .ok (.istore_n 3, 1) := by decide +kernel
theorem dL_groups_147 : decode cL_groups 147 = .ok (.aload_n 0, 1) := by decide +kernel
theorem dL_groups_148 : decode cL_groups 148 = .ok (.iload 5, 2) := by decide +kernel
theorem dL_groups_150 : decode cL_groups 150 = .ok (.invokevirtual 107, 3) := by decide +kernel
theorem dL_groups_153 : decode cL_groups 153 = .ok (.istore 7, 2) := by decide +kernel
theorem dL_groups_155 : decode cL_groups 155 = .ok (.iload 4, 2) := by decide +kernel
theorem dL_groups_157 : decode cL_groups 157 = .ok (.ifCond .eq 50, 3) := by decide +kernel
theorem dL_groups_160 : decode cL_groups 160 = .ok (.iload 7, 2) := by decide +kernel
theorem dL_groups_162 : decode cL_groups 162 = .ok (.ifCond .lt 41, 3) := by decide +kernel
theorem dL_groups_165 : decode cL_groups 165 = .ok (.aload_n 0, 1) := by decide +kernel
theorem dL_groups_166 : decode cL_groups 166 = .ok (.aload_n 0, 1) := by decide +kernel
theorem dL_groups_167 : decode cL_groups 167 = .ok (.iload 7, 2) := by decide +kernel
theorem dL_groups_169 : decode cL_groups 169 = .ok (.invokevirtual 116, 3) := by decide +kernel
theorem dL_groups_172 : decode cL_groups 172 = .ok (.invokevirtual 107, 3) := by decide +kernel
theorem dL_groups_175 : decode cL_groups 175 = .ok (.iload 7, 2) := by decide +kernel
theorem dL_groups_177 : decode cL_groups 177 = .ok (.if_icmp .ne 30, 3) := by decide +kernel
theorem dL_groups_180 : decode cL_groups 180 = .ok (.aload_n 0, 1) := by decide +kernel
theorem dL_groups_181 : decode cL_groups 181 = .ok (.iload 7, 2) := by decide +kernel
theorem dL_groups_183 : decode cL_groups 183 = .ok (.iconst 1, 1) := by decide +kernel
theorem dL_groups_184 : decode cL_groups 184 = .ok (.invokevirtual 119, 3) := by decide +kernel
theorem dL_groups_187 : decode cL_groups 187 = .ok (.ifCond .lt 20, 3) := by decide +kernel
theorem dL_groups_190 : decode cL_groups 190 = .ok (.aload_n 0, 1) := by decide +kernel
theorem dL_groups_191 : decode cL_groups 191 = .ok (.iload 7, 2) := by decide +kernel
theorem dL_groups_193 : decode cL_groups 193 = .ok (.bipush 8, 2) := by decide +kernel
theorem dL_groups_195 : decode cL_groups 195 = .ok (.invokevirtual 119, 3) := by decide +kernel
theorem dL_groups_198 : decode cL_groups 198 = .ok (.bipush (-4), 2) := by decide +kernel
theorem dL_groups_200 : decode cL_groups 200 = .ok (.if_icmp .ne 7, 3) := by decide +kernel
theorem dL_groups_203 : decode cL_groups 203 = .ok (.iconst 1, 1) := by decide +kernel
theorem dL_groups_204 : decode cL_groups 204 = .ok (.goto 4, 3) := by decide +kernel
theorem dL_groups_207 : decode cL_groups 207 = .ok (.iconst 0, 1) := by decide +kernel
theorem dL_groups_208 : decode cL_groups 208 = .ok (.istore 4, 2) := by decide +kernel
theorem dL_groups_210 : decode cL_groups 210 = .ok (.iinc 5 1, 3) := by decide +kernel
theorem dL_groups_213 : decode cL_groups 213 = .ok (.goto (-201), 3) := by decide +kernel
theorem dL_groups_216 : decode cL_groups 216 = .ok (.iload 4, 2) := by decide +kernel
theorem dL_groups_218 : decode cL_groups 218 = .ok (.ifCond .eq 42, 3) := by decide +kernel
theorem dL_groups_221 : decode cL_groups 221 = .ok (.aload_n 0, 1) := by decide +kernel
theorem dL_groups_222 : decode cL_groups 222 = .ok (.invokevirtual 122, 3) := by decide +kernel
theorem dL_groups_225 : decode cL_groups 225 = .ok (.iload_n 1, 1) := by decide +kernel
theorem dL_groups_226 : decode cL_groups 226 = .ok (.if_icmp .ne 34, 3) := by decide +kernel
theorem dL_groups_229 : decode cL_groups 229 = .ok (.aload_n 0, 1) := by decide +kernel
theorem dL_groups_230 : decode cL_groups 230 = .ok (.iconst 4, 1) := by decide +kernel
theorem dL_groups_231 : decode cL_groups 231 = .ok (.invokevirtual 125, 3) := by decide +kernel
theorem dL_groups_234 : decode cL_groups 234 = .ok (.iload_n 2, 1) := by decide +kernel
theorem dL_groups_235 : decode cL_groups 235 = .ok (.if_icmp .ne 25, 3) := by decide +kernel
theorem dL_groups_238 : decode cL_groups 238 = .ok (.aload_n 0, 1) := by decide +kernel
theorem dL_groups_239 : decode cL_groups 239 = .ok (.iconst 2, 1) := by decide +kernel
theorem dL_groups_240 : decode cL_groups 240 = .ok (.invokevirtual 125, 3) := by decide +kernel
theorem dL_groups_243 : decode cL_groups 243 = .ok (.iload_n 3, 1) := by decide +kernel
theorem dL_groups_244 : decode cL_groups 244 = .ok (.if_icmp .ne 16, 3) := by decide +kernel
theorem dL_groups_247 : decode cL_groups 247 = .ok (.aload_n 0, 1) := by decide +kernel
theorem dL_groups_248 : decode cL_groups 248 = .ok (.invokevirtual 128, 3) := by decide +kernel
theorem dL_groups_251 : decode cL_groups 251 = .ok (.bipush 24, 2) := by decide +kernel
theorem dL_groups_253 : decode cL_groups 253 = .ok (.if_icmp .gt 7, 3) := by decide +kernel
theorem dL_groups_256 : decode cL_groups 256 = .ok (.iconst 1, 1) := by decide +kernel
theorem dL_groups_257 : decode cL_groups 257 = .ok (.goto 4, 3) := by decide +kernel
theorem dL_groups_260 : decode cL_groups 260 = .ok (.iconst 0, 1) := by decide +kernel
theorem dL_groups_261 : decode cL_groups 261 = .ok (.ireturn, 1) := by decide +kernel
end
