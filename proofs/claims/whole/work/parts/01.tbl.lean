-- ===== PART A: goes FIRST, ahead of the names: the tables' words, and 'selects' of the private methods out of them =====
/-- a private method of a class that the tables say can be made, by its rows of tables_1 -/
def lw_okq (q : MethodName × Nat) : Prop := (q.1.cls ≠ "java/lang/invoke/MethodHandle" ∧ q.1.cls ≠ "java/lang/invoke/VarHandle") ∧ Cond.instantiable q.1.cls q.2 ∈ tables_1 ∧ Cond.privateMethod q.1 ∈ tables_1 ∧ Cond.instanceMethod q.1 ∈ tables_1
theorem lw_p0 : lw_okq (⟨"ThinPool", "layEmpty", "()V"⟩, 8) := ⟨⟨by decide +kernel, by decide +kernel⟩, List.mem_of_getElem? (i := 10) (by decide +kernel), List.mem_of_getElem? (i := 85) (by decide +kernel), List.mem_of_getElem? (i := 86) (by decide +kernel)⟩
theorem lw_p1 : lw_okq (⟨"ThinPool", "goOnFrom", "(I)V"⟩, 8) := ⟨⟨by decide +kernel, by decide +kernel⟩, List.mem_of_getElem? (i := 10) (by decide +kernel), List.mem_of_getElem? (i := 105) (by decide +kernel), List.mem_of_getElem? (i := 106) (by decide +kernel)⟩
theorem lw_p2 : lw_okq (⟨"ThinPool", "isThere", "(I)Z"⟩, 8) := ⟨⟨by decide +kernel, by decide +kernel⟩, List.mem_of_getElem? (i := 10) (by decide +kernel), List.mem_of_getElem? (i := 161) (by decide +kernel), List.mem_of_getElem? (i := 162) (by decide +kernel)⟩
theorem lw_p3 : lw_okq (⟨"ThinPool$Trees", "takeBlank", "()I"⟩, 6) := ⟨⟨by decide +kernel, by decide +kernel⟩, List.mem_of_getElem? (i := 29) (by decide +kernel), List.mem_of_getElem? (i := 178) (by decide +kernel), List.mem_of_getElem? (i := 179) (by decide +kernel)⟩
theorem lw_p4 : lw_okq (⟨"ThinPool$Trees", "take", "()I"⟩, 6) := ⟨⟨by decide +kernel, by decide +kernel⟩, List.mem_of_getElem? (i := 29) (by decide +kernel), List.mem_of_getElem? (i := 182) (by decide +kernel), List.mem_of_getElem? (i := 183) (by decide +kernel)⟩
theorem lw_p5 : lw_okq (⟨"ThinPool$Trees", "addWay", "(I)V"⟩, 6) := ⟨⟨by decide +kernel, by decide +kernel⟩, List.mem_of_getElem? (i := 29) (by decide +kernel), List.mem_of_getElem? (i := 236) (by decide +kernel), List.mem_of_getElem? (i := 237) (by decide +kernel)⟩
theorem lw_p6 : lw_okq (⟨"ThinPool$Trees", "release", "(II)V"⟩, 6) := ⟨⟨by decide +kernel, by decide +kernel⟩, List.mem_of_getElem? (i := 29) (by decide +kernel), List.mem_of_getElem? (i := 248) (by decide +kernel), List.mem_of_getElem? (i := 249) (by decide +kernel)⟩
theorem lw_p7 : lw_okq (⟨"ThinPool$Trees", "ownRoot", "(I)I"⟩, 6) := ⟨⟨by decide +kernel, by decide +kernel⟩, List.mem_of_getElem? (i := 29) (by decide +kernel), List.mem_of_getElem? (i := 277) (by decide +kernel), List.mem_of_getElem? (i := 278) (by decide +kernel)⟩
theorem lw_p8 : lw_okq (⟨"ThinPool$Trees", "own", "(II)I"⟩, 6) := ⟨⟨by decide +kernel, by decide +kernel⟩, List.mem_of_getElem? (i := 29) (by decide +kernel), List.mem_of_getElem? (i := 281) (by decide +kernel), List.mem_of_getElem? (i := 282) (by decide +kernel)⟩
theorem lw_p9 : lw_okq (⟨"ThinPool$Trees", "ownLink", "(III)I"⟩, 6) := ⟨⟨by decide +kernel, by decide +kernel⟩, List.mem_of_getElem? (i := 29) (by decide +kernel), List.mem_of_getElem? (i := 286) (by decide +kernel), List.mem_of_getElem? (i := 287) (by decide +kernel)⟩
theorem lw_p10 : lw_okq (⟨"ThinPool$Trees", "dropLink", "(III)V"⟩, 6) := ⟨⟨by decide +kernel, by decide +kernel⟩, List.mem_of_getElem? (i := 29) (by decide +kernel), List.mem_of_getElem? (i := 309) (by decide +kernel), List.mem_of_getElem? (i := 310) (by decide +kernel)⟩
theorem lw_p11 : lw_okq (⟨"ThinPool", "writeBlocks", "(ZJ)V"⟩, 8) := ⟨⟨by decide +kernel, by decide +kernel⟩, List.mem_of_getElem? (i := 10) (by decide +kernel), List.mem_of_getElem? (i := 348) (by decide +kernel), List.mem_of_getElem? (i := 349) (by decide +kernel)⟩
theorem lw_p12 : lw_okq (⟨"ThinPool", "otherHead", "()I"⟩, 8) := ⟨⟨by decide +kernel, by decide +kernel⟩, List.mem_of_getElem? (i := 10) (by decide +kernel), List.mem_of_getElem? (i := 363) (by decide +kernel), List.mem_of_getElem? (i := 364) (by decide +kernel)⟩
theorem lw_p13 : lw_okq (⟨"ThinPool", "losePower", "()V"⟩, 8) := ⟨⟨by decide +kernel, by decide +kernel⟩, List.mem_of_getElem? (i := 10) (by decide +kernel), List.mem_of_getElem? (i := 368) (by decide +kernel), List.mem_of_getElem? (i := 369) (by decide +kernel)⟩
theorem lw_p14 : lw_okq (⟨"ThinPool", "writeOtherHead", "(ZJ)V"⟩, 8) := ⟨⟨by decide +kernel, by decide +kernel⟩, List.mem_of_getElem? (i := 10) (by decide +kernel), List.mem_of_getElem? (i := 379) (by decide +kernel), List.mem_of_getElem? (i := 380) (by decide +kernel)⟩
theorem lw_p15 : lw_okq (⟨"ThinPool", "keptNumber", "()I"⟩, 8) := ⟨⟨by decide +kernel, by decide +kernel⟩, List.mem_of_getElem? (i := 10) (by decide +kernel), List.mem_of_getElem? (i := 383) (by decide +kernel), List.mem_of_getElem? (i := 384) (by decide +kernel)⟩
def lw_privs_1 : List (MethodName × Nat) := [(⟨"ThinPool", "layEmpty", "()V"⟩, 8), (⟨"ThinPool", "goOnFrom", "(I)V"⟩, 8), (⟨"ThinPool", "isThere", "(I)Z"⟩, 8), (⟨"ThinPool$Trees", "takeBlank", "()I"⟩, 6), (⟨"ThinPool$Trees", "take", "()I"⟩, 6), (⟨"ThinPool$Trees", "addWay", "(I)V"⟩, 6), (⟨"ThinPool$Trees", "release", "(II)V"⟩, 6), (⟨"ThinPool$Trees", "ownRoot", "(I)I"⟩, 6), (⟨"ThinPool$Trees", "own", "(II)I"⟩, 6), (⟨"ThinPool$Trees", "ownLink", "(III)I"⟩, 6), (⟨"ThinPool$Trees", "dropLink", "(III)V"⟩, 6), (⟨"ThinPool", "writeBlocks", "(ZJ)V"⟩, 8), (⟨"ThinPool", "otherHead", "()I"⟩, 8), (⟨"ThinPool", "losePower", "()V"⟩, 8), (⟨"ThinPool", "writeOtherHead", "(ZJ)V"⟩, 8), (⟨"ThinPool", "keptNumber", "()I"⟩, 8)]
theorem lw_r1 : ∀ q ∈ lw_privs_1, lw_okq q := List.forall_mem_cons.mpr ⟨lw_p0, List.forall_mem_cons.mpr ⟨lw_p1, List.forall_mem_cons.mpr ⟨lw_p2, List.forall_mem_cons.mpr ⟨lw_p3, List.forall_mem_cons.mpr ⟨lw_p4, List.forall_mem_cons.mpr ⟨lw_p5, List.forall_mem_cons.mpr ⟨lw_p6, List.forall_mem_cons.mpr ⟨lw_p7, List.forall_mem_cons.mpr ⟨lw_p8, List.forall_mem_cons.mpr ⟨lw_p9, List.forall_mem_cons.mpr ⟨lw_p10, List.forall_mem_cons.mpr ⟨lw_p11, List.forall_mem_cons.mpr ⟨lw_p12, List.forall_mem_cons.mpr ⟨lw_p13, List.forall_mem_cons.mpr ⟨lw_p14, List.forall_mem_cons.mpr ⟨lw_p15, fun _ h => absurd h List.not_mem_nil⟩⟩⟩⟩⟩⟩⟩⟩⟩⟩⟩⟩⟩⟩⟩⟩
theorem lw_p16 : lw_okq (⟨"ThinPool", "newerHead", "()I"⟩, 8) := ⟨⟨by decide +kernel, by decide +kernel⟩, List.mem_of_getElem? (i := 10) (by decide +kernel), List.mem_of_getElem? (i := 396) (by decide +kernel), List.mem_of_getElem? (i := 397) (by decide +kernel)⟩
theorem lw_p17 : lw_okq (⟨"ThinPool", "countVolumes", "()I"⟩, 8) := ⟨⟨by decide +kernel, by decide +kernel⟩, List.mem_of_getElem? (i := 10) (by decide +kernel), List.mem_of_getElem? (i := 404) (by decide +kernel), List.mem_of_getElem? (i := 405) (by decide +kernel)⟩
theorem lw_p18 : lw_okq (⟨"ThinPool$Audit", "visit", "(LThinPool$Image;II)I"⟩, 1) := ⟨⟨by decide +kernel, by decide +kernel⟩, List.mem_of_getElem? (i := 74) (by decide +kernel), List.mem_of_getElem? (i := 420) (by decide +kernel), List.mem_of_getElem? (i := 421) (by decide +kernel)⟩
theorem lw_p19 : lw_okq (⟨"ThinPool$Audit", "visitLinks", "(LThinPool$Image;II)I"⟩, 1) := ⟨⟨by decide +kernel, by decide +kernel⟩, List.mem_of_getElem? (i := 74) (by decide +kernel), List.mem_of_getElem? (i := 425) (by decide +kernel), List.mem_of_getElem? (i := 426) (by decide +kernel)⟩
theorem lw_p20 : lw_okq (⟨"ThinPool", "tablesDown", "()LThinPool$Tables;"⟩, 8) := ⟨⟨by decide +kernel, by decide +kernel⟩, List.mem_of_getElem? (i := 10) (by decide +kernel), List.mem_of_getElem? (i := 433) (by decide +kernel), List.mem_of_getElem? (i := 434) (by decide +kernel)⟩
theorem lw_p21 : lw_okq (⟨"ThinPoolModel", "begin", "()V"⟩, 9) := ⟨⟨by decide +kernel, by decide +kernel⟩, List.mem_of_getElem? (i := 437) (by decide +kernel), List.mem_of_getElem? (i := 444) (by decide +kernel), List.mem_of_getElem? (i := 445) (by decide +kernel)⟩
theorem lw_p22 : lw_okq (⟨"ThinPoolModel", "isThere", "(I)Z"⟩, 9) := ⟨⟨by decide +kernel, by decide +kernel⟩, List.mem_of_getElem? (i := 437) (by decide +kernel), List.mem_of_getElem? (i := 490) (by decide +kernel), List.mem_of_getElem? (i := 491) (by decide +kernel)⟩
theorem lw_p23 : lw_okq (⟨"ThinPoolModel", "many", "(I)I"⟩, 9) := ⟨⟨by decide +kernel, by decide +kernel⟩, List.mem_of_getElem? (i := 437) (by decide +kernel), List.mem_of_getElem? (i := 494) (by decide +kernel), List.mem_of_getElem? (i := 495) (by decide +kernel)⟩
theorem lw_p24 : lw_okq (⟨"ThinPoolModel", "all", "()I"⟩, 9) := ⟨⟨by decide +kernel, by decide +kernel⟩, List.mem_of_getElem? (i := 437) (by decide +kernel), List.mem_of_getElem? (i := 498) (by decide +kernel), List.mem_of_getElem? (i := 499) (by decide +kernel)⟩
theorem lw_p25 : lw_okq (⟨"ThinPoolModel", "fresh", "()I"⟩, 9) := ⟨⟨by decide +kernel, by decide +kernel⟩, List.mem_of_getElem? (i := 437) (by decide +kernel), List.mem_of_getElem? (i := 502) (by decide +kernel), List.mem_of_getElem? (i := 503) (by decide +kernel)⟩
theorem lw_p26 : lw_okq (⟨"ThinPoolModel", "clear", "(I)V"⟩, 9) := ⟨⟨by decide +kernel, by decide +kernel⟩, List.mem_of_getElem? (i := 437) (by decide +kernel), List.mem_of_getElem? (i := 510) (by decide +kernel), List.mem_of_getElem? (i := 511) (by decide +kernel)⟩
theorem lw_p27 : lw_okq (⟨"ThinPoolModel", "copy", "(II)V"⟩, 9) := ⟨⟨by decide +kernel, by decide +kernel⟩, List.mem_of_getElem? (i := 437) (by decide +kernel), List.mem_of_getElem? (i := 554) (by decide +kernel), List.mem_of_getElem? (i := 555) (by decide +kernel)⟩
def lw_privs_2 : List (MethodName × Nat) := [(⟨"ThinPool", "newerHead", "()I"⟩, 8), (⟨"ThinPool", "countVolumes", "()I"⟩, 8), (⟨"ThinPool$Audit", "visit", "(LThinPool$Image;II)I"⟩, 1), (⟨"ThinPool$Audit", "visitLinks", "(LThinPool$Image;II)I"⟩, 1), (⟨"ThinPool", "tablesDown", "()LThinPool$Tables;"⟩, 8), (⟨"ThinPoolModel", "begin", "()V"⟩, 9), (⟨"ThinPoolModel", "isThere", "(I)Z"⟩, 9), (⟨"ThinPoolModel", "many", "(I)I"⟩, 9), (⟨"ThinPoolModel", "all", "()I"⟩, 9), (⟨"ThinPoolModel", "fresh", "()I"⟩, 9), (⟨"ThinPoolModel", "clear", "(I)V"⟩, 9), (⟨"ThinPoolModel", "copy", "(II)V"⟩, 9)]
theorem lw_r2 : ∀ q ∈ lw_privs_2, lw_okq q := List.forall_mem_cons.mpr ⟨lw_p16, List.forall_mem_cons.mpr ⟨lw_p17, List.forall_mem_cons.mpr ⟨lw_p18, List.forall_mem_cons.mpr ⟨lw_p19, List.forall_mem_cons.mpr ⟨lw_p20, List.forall_mem_cons.mpr ⟨lw_p21, List.forall_mem_cons.mpr ⟨lw_p22, List.forall_mem_cons.mpr ⟨lw_p23, List.forall_mem_cons.mpr ⟨lw_p24, List.forall_mem_cons.mpr ⟨lw_p25, List.forall_mem_cons.mpr ⟨lw_p26, List.forall_mem_cons.mpr ⟨lw_p27, fun _ h => absurd h List.not_mem_nil⟩⟩⟩⟩⟩⟩⟩⟩⟩⟩⟩⟩
def lw_privs : List (MethodName × Nat) := lw_privs_1 ++ (lw_privs_2)
def lw_tbl : List Cond := k2_sels lw_privs ++ tables_1
theorem lw_privs_ok : ∀ q ∈ lw_privs, lw_okq q := by
  show ∀ q ∈ lw_privs_1 ++ (lw_privs_2), lw_okq q
  exact List.forall_mem_append.mpr ⟨lw_r1, lw_r2⟩
/-- the words that a callee may have from its caller (all but those on nest mates) -/
def lw_gd : List Cond := lw_tbl.filter goodWord
theorem tw_tbl {i : Nat} {w : Cond} (h : tables_1[i]? = some w) : w ∈ lw_tbl := List.mem_append_right _ (List.mem_of_getElem? h)
theorem tw_mem {i : Nat} {w : Cond} (h : tables_1[i]? = some w) (hg : goodWord w = true) : w ∈ lw_gd := List.mem_filter.mpr ⟨List.mem_append_right _ (List.mem_of_getElem? h), hg⟩
theorem tw_sel {i : Nat} {w : Cond} (h : (k2_sels lw_privs)[i]? = some w) (hg : goodWord w = true) : w ∈ lw_gd := List.mem_filter.mpr ⟨List.mem_append_left _ (List.mem_of_getElem? h), hg⟩
abbrev R_Tp : String := "ThinPool"
abbrev R_Au : String := "ThinPool$Audit"
abbrev R_Im : String := "ThinPool$Image"
abbrev R_Tb : String := "ThinPool$Tables"
abbrev R_Tr : String := "ThinPool$Trees"
abbrev R_Mo : String := "ThinPoolModel"
abbrev R_Lw : String := "ThinPoolLaw"
abbrev R_Ar : String := "java/util/Arrays"
abbrev R_Ob : String := "java/lang/Object"
def F_Au : u_T := fun k => match k with
  | _ => ("ThinPool$Audit", "met", "[I", true)
def t_Au : Nat → FieldType := fun k => match k with
  | _ => .array .int
theorem n_Au : ∀ a, a < 1 → ∀ b, b < 1 → a ≠ b → (F_Au a).2.1 ≠ (F_Au b).2.1 := by decide +kernel
theorem t_Au_ok : ∀ k, k < 1 → parseFieldDescriptor (F_Au k).2.2.1 = some (t_Au k) := by decide +kernel
theorem i_Au : ∀ w ∈ u_ws R_Au F_Au 1, w ∈ lw_gd := by decide +kernel
def F_Im : u_T := fun k => match k with
  | _ => ("ThinPool$Image", "words", "[J", true)
def t_Im : Nat → FieldType := fun k => match k with
  | _ => .array .long
theorem n_Im : ∀ a, a < 1 → ∀ b, b < 1 → a ≠ b → (F_Im a).2.1 ≠ (F_Im b).2.1 := by decide +kernel
theorem t_Im_ok : ∀ k, k < 1 → parseFieldDescriptor (F_Im k).2.2.1 = some (t_Im k) := by decide +kernel
theorem i_Im : ∀ w ∈ u_ws R_Im F_Im 1, w ∈ lw_gd := by decide +kernel
def F_Tb : u_T := fun k => match k with
  | 0 => ("ThinPool$Tables", "image", "LThinPool$Image;", true)
  | _ => ("ThinPool$Tables", "start", "I", true)
def t_Tb : Nat → FieldType := fun k => match k with
  | 0 => .object "ThinPool$Image"
  | _ => .int
theorem n_Tb : ∀ a, a < 2 → ∀ b, b < 2 → a ≠ b → (F_Tb a).2.1 ≠ (F_Tb b).2.1 := by decide +kernel
theorem t_Tb_ok : ∀ k, k < 2 → parseFieldDescriptor (F_Tb k).2.2.1 = some (t_Tb k) := by decide +kernel
theorem i_Tb : ∀ w ∈ u_ws R_Tb F_Tb 2, w ∈ lw_gd := by decide +kernel
def F_Tr : u_T := fun k => match k with
  | 0 => ("ThinPool$Trees", "image", "LThinPool$Image;", true)
  | 1 => ("ThinPool$Trees", "ofFirstHead", "LThinPool$Tables;", true)
  | 2 => ("ThinPool$Trees", "ofSecondHead", "LThinPool$Tables;", true)
  | 3 => ("ThinPool$Trees", "now", "LThinPool$Tables;", false)
  | 4 => ("ThinPool$Trees", "kept", "LThinPool$Tables;", false)
  | _ => ("ThinPool$Trees", "hand", "I", false)
def t_Tr : Nat → FieldType := fun k => match k with
  | 0 => .object "ThinPool$Image"
  | 1 => .object "ThinPool$Tables"
  | 2 => .object "ThinPool$Tables"
  | 3 => .object "ThinPool$Tables"
  | 4 => .object "ThinPool$Tables"
  | _ => .int
theorem n_Tr : ∀ a, a < 6 → ∀ b, b < 6 → a ≠ b → (F_Tr a).2.1 ≠ (F_Tr b).2.1 := by decide +kernel
theorem t_Tr_ok : ∀ k, k < 6 → parseFieldDescriptor (F_Tr k).2.2.1 = some (t_Tr k) := by decide +kernel
theorem i_Tr : ∀ w ∈ u_ws R_Tr F_Tr 6, w ∈ lw_gd := by decide +kernel
def F_Tp : u_T := fun k => match k with
  | 0 => ("ThinPool", "memory", "LThinPool$Image;", true)
  | 1 => ("ThinPool", "medium", "LThinPool$Image;", true)
  | 2 => ("ThinPool", "trees", "LThinPool$Trees;", true)
  | 3 => ("ThinPool", "ofFirstHeadDown", "LThinPool$Tables;", true)
  | 4 => ("ThinPool", "ofSecondHeadDown", "LThinPool$Tables;", true)
  | 5 => ("ThinPool", "audit", "LThinPool$Audit;", true)
  | 6 => ("ThinPool", "head", "I", false)
  | _ => ("ThinPool", "on", "Z", false)
def t_Tp : Nat → FieldType := fun k => match k with
  | 0 => .object "ThinPool$Image"
  | 1 => .object "ThinPool$Image"
  | 2 => .object "ThinPool$Trees"
  | 3 => .object "ThinPool$Tables"
  | 4 => .object "ThinPool$Tables"
  | 5 => .object "ThinPool$Audit"
  | 6 => .int
  | _ => .boolean
theorem n_Tp : ∀ a, a < 8 → ∀ b, b < 8 → a ≠ b → (F_Tp a).2.1 ≠ (F_Tp b).2.1 := by decide +kernel
theorem t_Tp_ok : ∀ k, k < 8 → parseFieldDescriptor (F_Tp k).2.2.1 = some (t_Tp k) := by decide +kernel
theorem i_Tp : ∀ w ∈ u_ws R_Tp F_Tp 8, w ∈ lw_gd := by decide +kernel
def F_Mo : u_T := fun k => match k with
  | 0 => ("ThinPoolModel", "there", "[Z", true)
  | 1 => ("ThinPoolModel", "places", "[I", true)
  | 2 => ("ThinPoolModel", "marks", "[I", true)
  | 3 => ("ThinPoolModel", "notes", "[I", true)
  | 4 => ("ThinPoolModel", "bytes", "[B", true)
  | 5 => ("ThinPoolModel", "used", "[Z", true)
  | 6 => ("ThinPoolModel", "marked", "I", false)
  | 7 => ("ThinPoolModel", "kept", "I", false)
  | _ => ("ThinPoolModel", "off", "Z", false)
def t_Mo : Nat → FieldType := fun k => match k with
  | 0 => .array .boolean
  | 1 => .array .int
  | 2 => .array .int
  | 3 => .array .int
  | 4 => .array .byte
  | 5 => .array .boolean
  | 6 => .int
  | 7 => .int
  | _ => .boolean
theorem n_Mo : ∀ a, a < 9 → ∀ b, b < 9 → a ≠ b → (F_Mo a).2.1 ≠ (F_Mo b).2.1 := by decide +kernel
theorem t_Mo_ok : ∀ k, k < 9 → parseFieldDescriptor (F_Mo k).2.2.1 = some (t_Mo k) := by decide +kernel
theorem i_Mo : ∀ w ∈ u_ws R_Mo F_Mo 9, w ∈ lw_gd := by decide +kernel
abbrev cls : List vw_C := [(R_Au, F_Au, 1), (R_Im, F_Im, 1), (R_Tb, F_Tb, 2), (R_Tr, F_Tr, 6), (R_Tp, F_Tp, 8), (R_Mo, F_Mo, 9)]
abbrev b_Tp_init : ByteArray := prog_1_method_1_code
abbrev y_Tp_init : MethodName := ⟨R_Tp, "<init>", "()V"⟩
abbrev w_Tp_init : List Cond := .code y_Tp_init b_Tp_init 1 none :: lw_gd
abbrev b_Im_init : ByteArray := prog_3_method_1_code
abbrev y_Im_init : MethodName := ⟨R_Im, "<init>", "()V"⟩
abbrev w_Im_init : List Cond := .code y_Im_init b_Im_init 1 none :: lw_gd
abbrev b_Tr_init : ByteArray := prog_5_method_1_code
abbrev y_Tr_init : MethodName := ⟨R_Tr, "<init>", "(LThinPool$Image;)V"⟩
abbrev w_Tr_init : List Cond := .code y_Tr_init b_Tr_init 2 none :: lw_gd
abbrev b_Tb_init : ByteArray := prog_4_method_1_code
abbrev y_Tb_init : MethodName := ⟨R_Tb, "<init>", "(LThinPool$Image;I)V"⟩
abbrev w_Tb_init : List Cond := .code y_Tb_init b_Tb_init 3 none :: lw_gd
abbrev b_Tb_startOf : ByteArray := prog_4_method_2_code
abbrev y_Tb_startOf : MethodName := ⟨R_Tb, "startOf", "(I)I"⟩
abbrev w_Tb_startOf : List Cond := .code y_Tb_startOf b_Tb_startOf 1 (some .int) :: lw_gd
abbrev b_Au_init : ByteArray := prog_2_method_1_code
abbrev y_Au_init : MethodName := ⟨R_Au, "<init>", "()V"⟩
abbrev w_Au_init : List Cond := .code y_Au_init b_Au_init 1 none :: lw_gd
abbrev b_Tp_layEmpty : ByteArray := prog_1_method_26_code
abbrev y_Tp_layEmpty : MethodName := ⟨R_Tp, "layEmpty", "()V"⟩
abbrev w_Tp_layEmpty : List Cond := .code y_Tp_layEmpty b_Tp_layEmpty 2 none :: lw_gd
abbrev b_Im_blank : ByteArray := prog_3_method_10_code
abbrev y_Im_blank : MethodName := ⟨R_Im, "blank", "(I)V"⟩
abbrev w_Im_blank : List Cond := .code y_Im_blank b_Im_blank 3 none :: lw_gd
abbrev b_Im_setWord : ByteArray := prog_3_method_3_code
abbrev y_Im_setWord : MethodName := ⟨R_Im, "setWord", "(IIJ)V"⟩
abbrev w_Im_setWord : List Cond := .code y_Im_setWord b_Im_setWord 6 none :: lw_gd
abbrev b_Im_receiveAll : ByteArray := prog_3_method_14_code
abbrev y_Im_receiveAll : MethodName := ⟨R_Im, "receiveAll", "(LThinPool$Image;)V"⟩
abbrev w_Im_receiveAll : List Cond := .code y_Im_receiveAll b_Im_receiveAll 2 none :: lw_gd
abbrev b_Tp_goOnFrom : ByteArray := prog_1_method_32_code
abbrev y_Tp_goOnFrom : MethodName := ⟨R_Tp, "goOnFrom", "(I)V"⟩
abbrev w_Tp_goOnFrom : List Cond := .code y_Tp_goOnFrom b_Tp_goOnFrom 2 none :: lw_gd
abbrev b_Tr_goOnFrom : ByteArray := prog_5_method_2_code
abbrev y_Tr_goOnFrom : MethodName := ⟨R_Tr, "goOnFrom", "(I)V"⟩
abbrev w_Tr_goOnFrom : List Cond := .code y_Tr_goOnFrom b_Tr_goOnFrom 2 none :: lw_gd
abbrev b_Tb_becomeLike : ByteArray := prog_4_method_9_code
abbrev y_Tb_becomeLike : MethodName := ⟨R_Tb, "becomeLike", "(LThinPool$Tables;)V"⟩
abbrev w_Tb_becomeLike : List Cond := .code y_Tb_becomeLike b_Tb_becomeLike 3 none :: lw_gd
abbrev b_Im_duplicate : ByteArray := prog_3_method_11_code
abbrev y_Im_duplicate : MethodName := ⟨R_Im, "duplicate", "(II)V"⟩
abbrev w_Im_duplicate : List Cond := .code y_Im_duplicate b_Im_duplicate 4 none :: lw_gd
abbrev b_Im_wordAt : ByteArray := prog_3_method_2_code
abbrev y_Im_wordAt : MethodName := ⟨R_Im, "wordAt", "(II)J"⟩
abbrev w_Im_wordAt : List Cond := .code y_Im_wordAt b_Im_wordAt 4 (some .long) :: lw_gd
abbrev b_Tp_lay : ByteArray := prog_1_method_2_code
abbrev y_Tp_lay : MethodName := ⟨R_Tp, "lay", "()I"⟩
abbrev w_Tp_lay : List Cond := .code y_Tp_lay b_Tp_lay 1 (some .int) :: lw_gd
abbrev b_Tp_make : ByteArray := prog_1_method_3_code
abbrev y_Tp_make : MethodName := ⟨R_Tp, "make", "(I)I"⟩
abbrev w_Tp_make : List Cond := .code y_Tp_make b_Tp_make 2 (some .int) :: lw_gd
abbrev b_Tp_isVolume : ByteArray := prog_1_method_19_code
abbrev y_Tp_isVolume : MethodName := ⟨R_Tp, "isVolume", "(I)Z"⟩
abbrev w_Tp_isVolume : List Cond := .code y_Tp_isVolume b_Tp_isVolume 1 (some .boolean) :: lw_gd
abbrev b_Tp_isThere : ByteArray := prog_1_method_24_code
abbrev y_Tp_isThere : MethodName := ⟨R_Tp, "isThere", "(I)Z"⟩
abbrev w_Tp_isThere : List Cond := .code y_Tp_isThere b_Tp_isThere 2 (some .boolean) :: lw_gd
abbrev b_Tb_rootOf : ByteArray := prog_4_method_3_code
abbrev y_Tb_rootOf : MethodName := ⟨R_Tb, "rootOf", "(I)I"⟩
abbrev w_Tb_rootOf : List Cond := .code y_Tb_rootOf b_Tb_rootOf 2 (some .int) :: lw_gd
abbrev b_Im_linkAt : ByteArray := prog_3_method_6_code
abbrev y_Im_linkAt : MethodName := ⟨R_Im, "linkAt", "(II)I"⟩
abbrev w_Im_linkAt : List Cond := .code y_Im_linkAt b_Im_linkAt 3 (some .int) :: lw_gd
abbrev b_Tr_addEmpty : ByteArray := prog_5_method_7_code
abbrev y_Tr_addEmpty : MethodName := ⟨R_Tr, "addEmpty", "(I)V"⟩
abbrev w_Tr_addEmpty : List Cond := .code y_Tr_addEmpty b_Tr_addEmpty 2 none :: lw_gd
abbrev b_Tr_takeBlank : ByteArray := prog_5_method_16_code
abbrev y_Tr_takeBlank : MethodName := ⟨R_Tr, "takeBlank", "()I"⟩
abbrev w_Tr_takeBlank : List Cond := .code y_Tr_takeBlank b_Tr_takeBlank 2 (some .int) :: lw_gd
abbrev b_Tr_take : ByteArray := prog_5_method_17_code
abbrev y_Tr_take : MethodName := ⟨R_Tr, "take", "()I"⟩
abbrev w_Tr_take : List Cond := .code y_Tr_take b_Tr_take 2 (some .int) :: lw_gd
abbrev b_Tb_waysTo : ByteArray := prog_4_method_7_code
abbrev y_Tb_waysTo : MethodName := ⟨R_Tb, "waysTo", "(I)I"⟩
abbrev w_Tb_waysTo : List Cond := .code y_Tb_waysTo b_Tb_waysTo 3 (some .int) :: lw_gd
abbrev b_Im_byteAt : ByteArray := prog_3_method_4_code
abbrev y_Im_byteAt : MethodName := ⟨R_Im, "byteAt", "(II)I"⟩
abbrev w_Im_byteAt : List Cond := .code y_Im_byteAt b_Im_byteAt 4 (some .int) :: lw_gd
abbrev b_Tb_setWays : ByteArray := prog_4_method_8_code
abbrev y_Tb_setWays : MethodName := ⟨R_Tb, "setWays", "(II)V"⟩
abbrev w_Tb_setWays : List Cond := .code y_Tb_setWays b_Tb_setWays 4 none :: lw_gd
abbrev b_Im_setByte : ByteArray := prog_3_method_5_code
abbrev y_Im_setByte : MethodName := ⟨R_Im, "setByte", "(III)V"⟩
abbrev w_Im_setByte : List Cond := .code y_Im_setByte b_Im_setByte 6 none :: lw_gd
abbrev b_Tb_setRoot : ByteArray := prog_4_method_4_code
abbrev y_Tb_setRoot : MethodName := ⟨R_Tb, "setRoot", "(II)V"⟩
abbrev w_Tb_setRoot : List Cond := .code y_Tb_setRoot b_Tb_setRoot 3 none :: lw_gd
abbrev b_Im_setLink : ByteArray := prog_3_method_7_code
abbrev y_Im_setLink : MethodName := ⟨R_Im, "setLink", "(III)V"⟩
abbrev w_Im_setLink : List Cond := .code y_Im_setLink b_Im_setLink 7 none :: lw_gd
abbrev b_Tp_snap : ByteArray := prog_1_method_4_code
abbrev y_Tp_snap : MethodName := ⟨R_Tp, "snap", "(II)I"⟩
abbrev w_Tp_snap : List Cond := .code y_Tp_snap b_Tp_snap 4 (some .int) :: lw_gd
abbrev b_Tr_sizeOf : ByteArray := prog_5_method_4_code
abbrev y_Tr_sizeOf : MethodName := ⟨R_Tr, "sizeOf", "(I)I"⟩
abbrev w_Tr_sizeOf : List Cond := .code y_Tr_sizeOf b_Tr_sizeOf 3 (some .int) :: lw_gd
abbrev b_Im_sizeAt : ByteArray := prog_3_method_8_code
abbrev y_Im_sizeAt : MethodName := ⟨R_Im, "sizeAt", "(I)I"⟩
abbrev w_Im_sizeAt : List Cond := .code y_Im_sizeAt b_Im_sizeAt 2 (some .int) :: lw_gd
abbrev b_Tr_sizeOfAll : ByteArray := prog_5_method_5_code
abbrev y_Tr_sizeOfAll : MethodName := ⟨R_Tr, "sizeOfAll", "()I"⟩
abbrev w_Tr_sizeOfAll : List Cond := .code y_Tr_sizeOfAll b_Tr_sizeOfAll 3 (some .int) :: lw_gd
abbrev b_Tr_addTwin : ByteArray := prog_5_method_8_code
abbrev y_Tr_addTwin : MethodName := ⟨R_Tr, "addTwin", "(II)V"⟩
abbrev w_Tr_addTwin : List Cond := .code y_Tr_addTwin b_Tr_addTwin 4 none :: lw_gd
abbrev b_Tr_addWay : ByteArray := prog_5_method_18_code
abbrev y_Tr_addWay : MethodName := ⟨R_Tr, "addWay", "(I)V"⟩
abbrev w_Tr_addWay : List Cond := .code y_Tr_addWay b_Tr_addWay 2 none :: lw_gd
abbrev b_Tp_remove : ByteArray := prog_1_method_5_code
abbrev y_Tp_remove : MethodName := ⟨R_Tp, "remove", "(I)I"⟩
abbrev w_Tp_remove : List Cond := .code y_Tp_remove b_Tp_remove 3 (some .int) :: lw_gd
abbrev b_Tr_dropVolume : ByteArray := prog_5_method_9_code
abbrev y_Tr_dropVolume : MethodName := ⟨R_Tr, "dropVolume", "(I)V"⟩
abbrev w_Tr_dropVolume : List Cond := .code y_Tr_dropVolume b_Tr_dropVolume 2 none :: lw_gd
abbrev b_Tr_release : ByteArray := prog_5_method_19_code
abbrev y_Tr_release : MethodName := ⟨R_Tr, "release", "(II)V"⟩
abbrev w_Tr_release : List Cond := .code y_Tr_release b_Tr_release 5 none :: lw_gd
abbrev b_Tr_linksOf : ByteArray := prog_5_method_20_code
abbrev y_Tr_linksOf : MethodName := ⟨R_Tr, "linksOf", "(I)I"⟩
abbrev w_Tr_linksOf : List Cond := .code y_Tr_linksOf b_Tr_linksOf 1 (some .int) :: lw_gd
abbrev b_Tp_write : ByteArray := prog_1_method_6_code
abbrev y_Tp_write : MethodName := ⟨R_Tp, "write", "(IIIII)I"⟩
abbrev w_Tp_write : List Cond := .code y_Tp_write b_Tp_write 8 (some .int) :: lw_gd
abbrev b_Tp_isPiece : ByteArray := prog_1_method_20_code
abbrev y_Tp_isPiece : MethodName := ⟨R_Tp, "isPiece", "(I)Z"⟩
abbrev w_Tp_isPiece : List Cond := .code y_Tp_isPiece b_Tp_isPiece 1 (some .boolean) :: lw_gd
abbrev b_Tp_areBytes : ByteArray := prog_1_method_21_code
abbrev y_Tp_areBytes : MethodName := ⟨R_Tp, "areBytes", "(II)Z"⟩
abbrev w_Tp_areBytes : List Cond := .code y_Tp_areBytes b_Tp_areBytes 2 (some .boolean) :: lw_gd
abbrev b_Tp_isByte : ByteArray := prog_1_method_22_code
abbrev y_Tp_isByte : MethodName := ⟨R_Tp, "isByte", "(I)Z"⟩
abbrev w_Tp_isByte : List Cond := .code y_Tp_isByte b_Tp_isByte 1 (some .boolean) :: lw_gd
abbrev b_Tr_find : ByteArray := prog_5_method_6_code
abbrev y_Tr_find : MethodName := ⟨R_Tr, "find", "(II)I"⟩
abbrev w_Tr_find : List Cond := .code y_Tr_find b_Tr_find 5 (some .int) :: lw_gd
abbrev b_Tr_ownPiece : ByteArray := prog_5_method_10_code
abbrev y_Tr_ownPiece : MethodName := ⟨R_Tr, "ownPiece", "(II)I"⟩
abbrev w_Tr_ownPiece : List Cond := .code y_Tr_ownPiece b_Tr_ownPiece 5 (some .int) :: lw_gd
abbrev b_Tr_ownRoot : ByteArray := prog_5_method_12_code
abbrev y_Tr_ownRoot : MethodName := ⟨R_Tr, "ownRoot", "(I)I"⟩
abbrev w_Tr_ownRoot : List Cond := .code y_Tr_ownRoot b_Tr_ownRoot 3 (some .int) :: lw_gd
abbrev b_Tr_own : ByteArray := prog_5_method_15_code
abbrev y_Tr_own : MethodName := ⟨R_Tr, "own", "(II)I"⟩
abbrev w_Tr_own : List Cond := .code y_Tr_own b_Tr_own 5 (some .int) :: lw_gd
abbrev b_Tr_ownLink : ByteArray := prog_5_method_13_code
abbrev y_Tr_ownLink : MethodName := ⟨R_Tr, "ownLink", "(III)I"⟩
abbrev w_Tr_ownLink : List Cond := .code y_Tr_ownLink b_Tr_ownLink 6 (some .int) :: lw_gd
abbrev b_Im_addSize : ByteArray := prog_3_method_9_code
abbrev y_Im_addSize : MethodName := ⟨R_Im, "addSize", "(II)V"⟩
abbrev w_Im_addSize : List Cond := .code y_Im_addSize b_Im_addSize 3 none :: lw_gd
abbrev b_Tp_read : ByteArray := prog_1_method_7_code
abbrev y_Tp_read : MethodName := ⟨R_Tp, "read", "(III)I"⟩
abbrev w_Tp_read : List Cond := .code y_Tp_read b_Tp_read 5 (some .int) :: lw_gd
abbrev b_Tp_trim : ByteArray := prog_1_method_8_code
abbrev y_Tp_trim : MethodName := ⟨R_Tp, "trim", "(III)I"⟩
abbrev w_Tp_trim : List Cond := .code y_Tp_trim b_Tp_trim 6 (some .int) :: lw_gd
abbrev b_Tr_dropPiece : ByteArray := prog_5_method_11_code
abbrev y_Tr_dropPiece : MethodName := ⟨R_Tr, "dropPiece", "(II)V"⟩
abbrev w_Tr_dropPiece : List Cond := .code y_Tr_dropPiece b_Tr_dropPiece 5 none :: lw_gd
abbrev b_Tr_dropLink : ByteArray := prog_5_method_14_code
abbrev y_Tr_dropLink : MethodName := ⟨R_Tr, "dropLink", "(III)V"⟩
abbrev w_Tr_dropLink : List Cond := .code y_Tr_dropLink b_Tr_dropLink 4 none :: lw_gd
abbrev b_Tp_pieces : ByteArray := prog_1_method_9_code
abbrev y_Tp_pieces : MethodName := ⟨R_Tp, "pieces", "(I)I"⟩
abbrev w_Tp_pieces : List Cond := .code y_Tp_pieces b_Tp_pieces 2 (some .int) :: lw_gd
abbrev b_Tp_next : ByteArray := prog_1_method_10_code
abbrev y_Tp_next : MethodName := ⟨R_Tp, "next", "(II)I"⟩
abbrev w_Tp_next : List Cond := .code y_Tp_next b_Tp_next 4 (some .int) :: lw_gd
abbrev b_Tp_shared : ByteArray := prog_1_method_11_code
abbrev y_Tp_shared : MethodName := ⟨R_Tp, "shared", "(II)I"⟩
abbrev w_Tp_shared : List Cond := .code y_Tp_shared b_Tp_shared 5 (some .int) :: lw_gd
abbrev b_Tp_tell : ByteArray := prog_1_method_12_code
abbrev y_Tp_tell : MethodName := ⟨R_Tp, "tell", "(II)I"⟩
abbrev w_Tp_tell : List Cond := .code y_Tp_tell b_Tp_tell 4 (some .int) :: lw_gd
abbrev b_Tp_isNote : ByteArray := prog_1_method_23_code
abbrev y_Tp_isNote : MethodName := ⟨R_Tp, "isNote", "(I)Z"⟩
abbrev w_Tp_isNote : List Cond := .code y_Tp_isNote b_Tp_isNote 1 (some .boolean) :: lw_gd
abbrev b_Tb_noteAt : ByteArray := prog_4_method_5_code
abbrev y_Tb_noteAt : MethodName := ⟨R_Tb, "noteAt", "(I)I"⟩
abbrev w_Tb_noteAt : List Cond := .code y_Tb_noteAt b_Tb_noteAt 2 (some .int) :: lw_gd
abbrev b_Tb_setNote : ByteArray := prog_4_method_6_code
abbrev y_Tb_setNote : MethodName := ⟨R_Tb, "setNote", "(II)V"⟩
abbrev w_Tb_setNote : List Cond := .code y_Tb_setNote b_Tb_setNote 3 none :: lw_gd
abbrev b_Tp_told : ByteArray := prog_1_method_13_code
abbrev y_Tp_told : MethodName := ⟨R_Tp, "told", "(I)I"⟩
abbrev w_Tp_told : List Cond := .code y_Tp_told b_Tp_told 2 (some .int) :: lw_gd
abbrev b_Tp_keep : ByteArray := prog_1_method_14_code
abbrev y_Tp_keep : MethodName := ⟨R_Tp, "keep", "(IJ)I"⟩
abbrev w_Tp_keep : List Cond := .code y_Tp_keep b_Tp_keep 4 (some .int) :: lw_gd
abbrev b_Tp_writeBlocks : ByteArray := prog_1_method_33_code
abbrev y_Tp_writeBlocks : MethodName := ⟨R_Tp, "writeBlocks", "(ZJ)V"⟩
abbrev w_Tp_writeBlocks : List Cond := .code y_Tp_writeBlocks b_Tp_writeBlocks 7 none :: lw_gd
abbrev b_Tr_isNew : ByteArray := prog_5_method_3_code
abbrev y_Tr_isNew : MethodName := ⟨R_Tr, "isNew", "(I)Z"⟩
abbrev w_Tr_isNew : List Cond := .code y_Tr_isNew b_Tr_isNew 2 (some .boolean) :: lw_gd
abbrev b_Tp_partDown : ByteArray := prog_1_method_35_code
abbrev y_Tp_partDown : MethodName := ⟨R_Tp, "partDown", "(ZJI)I"⟩
abbrev w_Tp_partDown : List Cond := .code y_Tp_partDown b_Tp_partDown 4 (some .int) :: lw_gd
abbrev b_Im_receive : ByteArray := prog_3_method_12_code
abbrev y_Im_receive : MethodName := ⟨R_Im, "receive", "(LThinPool$Image;II)V"⟩
abbrev w_Im_receive : List Cond := .code y_Im_receive b_Im_receive 7 none :: lw_gd
abbrev b_Tp_otherHead : ByteArray := prog_1_method_29_code
abbrev y_Tp_otherHead : MethodName := ⟨R_Tp, "otherHead", "()I"⟩
abbrev w_Tp_otherHead : List Cond := .code y_Tp_otherHead b_Tp_otherHead 1 (some .int) :: lw_gd
abbrev b_Tp_losePower : ByteArray := prog_1_method_27_code
abbrev y_Tp_losePower : MethodName := ⟨R_Tp, "losePower", "()V"⟩
abbrev w_Tp_losePower : List Cond := .code y_Tp_losePower b_Tp_losePower 1 none :: lw_gd
abbrev b_Im_forgetAll : ByteArray := prog_3_method_13_code
abbrev y_Im_forgetAll : MethodName := ⟨R_Im, "forgetAll", "()V"⟩
abbrev w_Im_forgetAll : List Cond := .code y_Im_forgetAll b_Im_forgetAll 1 none :: lw_gd
abbrev b_Ar_fillJ : ByteArray := prog_9_method_101_code
abbrev y_Ar_fillJ : MethodName := ⟨R_Ar, "fill", "([JJ)V"⟩
abbrev w_Ar_fillJ : List Cond := .code y_Ar_fillJ b_Ar_fillJ 5 none :: lw_gd
abbrev b_Tp_writeOtherHead : ByteArray := prog_1_method_34_code
abbrev y_Tp_writeOtherHead : MethodName := ⟨R_Tp, "writeOtherHead", "(ZJ)V"⟩
abbrev w_Tp_writeOtherHead : List Cond := .code y_Tp_writeOtherHead b_Tp_writeOtherHead 4 none :: lw_gd
abbrev b_Tp_keptNumber : ByteArray := prog_1_method_31_code
abbrev y_Tp_keptNumber : MethodName := ⟨R_Tp, "keptNumber", "()I"⟩
abbrev w_Tp_keptNumber : List Cond := .code y_Tp_keptNumber b_Tp_keptNumber 1 (some .int) :: lw_gd
abbrev b_Tp_fail : ByteArray := prog_1_method_15_code
abbrev y_Tp_fail : MethodName := ⟨R_Tp, "fail", "()I"⟩
abbrev w_Tp_fail : List Cond := .code y_Tp_fail b_Tp_fail 1 (some .int) :: lw_gd
abbrev b_Tp_mount : ByteArray := prog_1_method_16_code
abbrev y_Tp_mount : MethodName := ⟨R_Tp, "mount", "()I"⟩
abbrev w_Tp_mount : List Cond := .code y_Tp_mount b_Tp_mount 1 (some .int) :: lw_gd
abbrev b_Tp_newerHead : ByteArray := prog_1_method_30_code
abbrev y_Tp_newerHead : MethodName := ⟨R_Tp, "newerHead", "()I"⟩
abbrev w_Tp_newerHead : List Cond := .code y_Tp_newerHead b_Tp_newerHead 1 (some .int) :: lw_gd
abbrev b_Tp_count : ByteArray := prog_1_method_17_code
abbrev y_Tp_count : MethodName := ⟨R_Tp, "count", "(I)I"⟩
abbrev w_Tp_count : List Cond := .code y_Tp_count b_Tp_count 2 (some .int) :: lw_gd
abbrev b_Tp_countVolumes : ByteArray := prog_1_method_25_code
abbrev y_Tp_countVolumes : MethodName := ⟨R_Tp, "countVolumes", "()I"⟩
abbrev w_Tp_countVolumes : List Cond := .code y_Tp_countVolumes b_Tp_countVolumes 3 (some .int) :: lw_gd
abbrev b_Tp_check : ByteArray := prog_1_method_18_code
abbrev y_Tp_check : MethodName := ⟨R_Tp, "check", "()I"⟩
abbrev w_Tp_check : List Cond := .code y_Tp_check b_Tp_check 2 (some .int) :: lw_gd
abbrev b_Au_firstFault : ByteArray := prog_2_method_2_code
abbrev y_Au_firstFault : MethodName := ⟨R_Au, "firstFault", "(LThinPool$Image;LThinPool$Tables;)I"⟩
abbrev w_Au_firstFault : List Cond := .code y_Au_firstFault b_Au_firstFault 5 (some .int) :: lw_gd
abbrev b_Ar_fillI : ByteArray := prog_9_method_103_code
abbrev y_Ar_fillI : MethodName := ⟨R_Ar, "fill", "([II)V"⟩
abbrev w_Ar_fillI : List Cond := .code y_Ar_fillI b_Ar_fillI 4 none :: lw_gd
abbrev b_Au_visit : ByteArray := prog_2_method_3_code
abbrev y_Au_visit : MethodName := ⟨R_Au, "visit", "(LThinPool$Image;II)I"⟩
abbrev w_Au_visit : List Cond := .code y_Au_visit b_Au_visit 6 (some .int) :: lw_gd
abbrev b_Au_visitLinks : ByteArray := prog_2_method_4_code
abbrev y_Au_visitLinks : MethodName := ⟨R_Au, "visitLinks", "(LThinPool$Image;II)I"⟩
abbrev w_Au_visitLinks : List Cond := .code y_Au_visitLinks b_Au_visitLinks 8 (some .int) :: lw_gd
abbrev b_Tp_tablesDown : ByteArray := prog_1_method_28_code
abbrev y_Tp_tablesDown : MethodName := ⟨R_Tp, "tablesDown", "()LThinPool$Tables;"⟩
abbrev w_Tp_tablesDown : List Cond := .code y_Tp_tablesDown b_Tp_tablesDown 1 (some (.object "ThinPool$Tables")) :: lw_gd
abbrev b_Mo_init : ByteArray := prog_7_method_1_code
abbrev y_Mo_init : MethodName := ⟨R_Mo, "<init>", "()V"⟩
abbrev w_Mo_init : List Cond := .code y_Mo_init b_Mo_init 1 none :: lw_gd
abbrev b_Mo_begin : ByteArray := prog_7_method_2_code
abbrev y_Mo_begin : MethodName := ⟨R_Mo, "begin", "()V"⟩
abbrev w_Mo_begin : List Cond := .code y_Mo_begin b_Mo_begin 2 none :: lw_gd
abbrev b_Mo_lay : ByteArray := prog_7_method_3_code
abbrev y_Mo_lay : MethodName := ⟨R_Mo, "lay", "()I"⟩
abbrev w_Mo_lay : List Cond := .code y_Mo_lay b_Mo_lay 1 (some .int) :: lw_gd
abbrev b_Mo_make : ByteArray := prog_7_method_10_code
abbrev y_Mo_make : MethodName := ⟨R_Mo, "make", "(I)I"⟩
abbrev w_Mo_make : List Cond := .code y_Mo_make b_Mo_make 2 (some .int) :: lw_gd
abbrev b_Mo_snap : ByteArray := prog_7_method_11_code
abbrev y_Mo_snap : MethodName := ⟨R_Mo, "snap", "(II)I"⟩
abbrev w_Mo_snap : List Cond := .code y_Mo_snap b_Mo_snap 8 (some .int) :: lw_gd
abbrev b_Mo_isThere : ByteArray := prog_7_method_4_code
abbrev y_Mo_isThere : MethodName := ⟨R_Mo, "isThere", "(I)Z"⟩
abbrev w_Mo_isThere : List Cond := .code y_Mo_isThere b_Mo_isThere 2 (some .boolean) :: lw_gd
abbrev b_Mo_many : ByteArray := prog_7_method_6_code
abbrev y_Mo_many : MethodName := ⟨R_Mo, "many", "(I)I"⟩
abbrev w_Mo_many : List Cond := .code y_Mo_many b_Mo_many 4 (some .int) :: lw_gd
abbrev b_Mo_all : ByteArray := prog_7_method_7_code
abbrev y_Mo_all : MethodName := ⟨R_Mo, "all", "()I"⟩
abbrev w_Mo_all : List Cond := .code y_Mo_all b_Mo_all 3 (some .int) :: lw_gd
abbrev b_Mo_fresh : ByteArray := prog_7_method_8_code
abbrev y_Mo_fresh : MethodName := ⟨R_Mo, "fresh", "()I"⟩
abbrev w_Mo_fresh : List Cond := .code y_Mo_fresh b_Mo_fresh 3 (some .int) :: lw_gd
abbrev b_Mo_remove : ByteArray := prog_7_method_12_code
abbrev y_Mo_remove : MethodName := ⟨R_Mo, "remove", "(I)I"⟩
abbrev w_Mo_remove : List Cond := .code y_Mo_remove b_Mo_remove 4 (some .int) :: lw_gd
abbrev b_Mo_clear : ByteArray := prog_7_method_9_code
abbrev y_Mo_clear : MethodName := ⟨R_Mo, "clear", "(I)V"⟩
abbrev w_Mo_clear : List Cond := .code y_Mo_clear b_Mo_clear 2 none :: lw_gd
abbrev b_Mo_write : ByteArray := prog_7_method_13_code
abbrev y_Mo_write : MethodName := ⟨R_Mo, "write", "(IIIII)I"⟩
abbrev w_Mo_write : List Cond := .code y_Mo_write b_Mo_write 8 (some .int) :: lw_gd
abbrev b_Mo_isPiece : ByteArray := prog_7_method_5_code
abbrev y_Mo_isPiece : MethodName := ⟨R_Mo, "isPiece", "(I)Z"⟩
abbrev w_Mo_isPiece : List Cond := .code y_Mo_isPiece b_Mo_isPiece 1 (some .boolean) :: lw_gd
abbrev b_Mo_read : ByteArray := prog_7_method_14_code
abbrev y_Mo_read : MethodName := ⟨R_Mo, "read", "(III)I"⟩
abbrev w_Mo_read : List Cond := .code y_Mo_read b_Mo_read 5 (some .int) :: lw_gd
abbrev b_Mo_trim : ByteArray := prog_7_method_15_code
abbrev y_Mo_trim : MethodName := ⟨R_Mo, "trim", "(III)I"⟩
abbrev w_Mo_trim : List Cond := .code y_Mo_trim b_Mo_trim 6 (some .int) :: lw_gd
abbrev b_Mo_pieces : ByteArray := prog_7_method_16_code
abbrev y_Mo_pieces : MethodName := ⟨R_Mo, "pieces", "(I)I"⟩
abbrev w_Mo_pieces : List Cond := .code y_Mo_pieces b_Mo_pieces 2 (some .int) :: lw_gd
abbrev b_Mo_next : ByteArray := prog_7_method_17_code
abbrev y_Mo_next : MethodName := ⟨R_Mo, "next", "(II)I"⟩
abbrev w_Mo_next : List Cond := .code y_Mo_next b_Mo_next 4 (some .int) :: lw_gd
abbrev b_Mo_shared : ByteArray := prog_7_method_18_code
abbrev y_Mo_shared : MethodName := ⟨R_Mo, "shared", "(II)I"⟩
abbrev w_Mo_shared : List Cond := .code y_Mo_shared b_Mo_shared 6 (some .int) :: lw_gd
abbrev b_Mo_tell : ByteArray := prog_7_method_19_code
abbrev y_Mo_tell : MethodName := ⟨R_Mo, "tell", "(II)I"⟩
abbrev w_Mo_tell : List Cond := .code y_Mo_tell b_Mo_tell 4 (some .int) :: lw_gd
abbrev b_Mo_told : ByteArray := prog_7_method_20_code
abbrev y_Mo_told : MethodName := ⟨R_Mo, "told", "(I)I"⟩
abbrev w_Mo_told : List Cond := .code y_Mo_told b_Mo_told 2 (some .int) :: lw_gd
abbrev b_Mo_keep : ByteArray := prog_7_method_22_code
abbrev y_Mo_keep : MethodName := ⟨R_Mo, "keep", "(IJ)I"⟩
abbrev w_Mo_keep : List Cond := .code y_Mo_keep b_Mo_keep 5 (some .int) :: lw_gd
abbrev b_Mo_copy : ByteArray := prog_7_method_21_code
abbrev y_Mo_copy : MethodName := ⟨R_Mo, "copy", "(II)V"⟩
abbrev w_Mo_copy : List Cond := .code y_Mo_copy b_Mo_copy 5 none :: lw_gd
abbrev b_Mo_fail : ByteArray := prog_7_method_23_code
abbrev y_Mo_fail : MethodName := ⟨R_Mo, "fail", "()I"⟩
abbrev w_Mo_fail : List Cond := .code y_Mo_fail b_Mo_fail 1 (some .int) :: lw_gd
abbrev b_Mo_mount : ByteArray := prog_7_method_24_code
abbrev y_Mo_mount : MethodName := ⟨R_Mo, "mount", "()I"⟩
abbrev w_Mo_mount : List Cond := .code y_Mo_mount b_Mo_mount 1 (some .int) :: lw_gd
abbrev b_Mo_count : ByteArray := prog_7_method_25_code
abbrev y_Mo_count : MethodName := ⟨R_Mo, "count", "(I)I"⟩
abbrev w_Mo_count : List Cond := .code y_Mo_count b_Mo_count 4 (some .int) :: lw_gd
abbrev b_Mo_check : ByteArray := prog_7_method_26_code
abbrev y_Mo_check : MethodName := ⟨R_Mo, "check", "()I"⟩
abbrev w_Mo_check : List Cond := .code y_Mo_check b_Mo_check 1 (some .int) :: lw_gd
theorem se_Tp_layEmpty : Cond.selects R_Tp y_Tp_layEmpty y_Tp_layEmpty ∈ lw_gd := tw_sel (i := 0) (by decide +kernel) rfl
theorem se_Tp_goOnFrom : Cond.selects R_Tp y_Tp_goOnFrom y_Tp_goOnFrom ∈ lw_gd := tw_sel (i := 1) (by decide +kernel) rfl
theorem se_Tp_isThere : Cond.selects R_Tp y_Tp_isThere y_Tp_isThere ∈ lw_gd := tw_sel (i := 2) (by decide +kernel) rfl
theorem se_Tr_takeBlank : Cond.selects R_Tr y_Tr_takeBlank y_Tr_takeBlank ∈ lw_gd := tw_sel (i := 3) (by decide +kernel) rfl
theorem se_Tr_take : Cond.selects R_Tr y_Tr_take y_Tr_take ∈ lw_gd := tw_sel (i := 4) (by decide +kernel) rfl
theorem se_Tr_addWay : Cond.selects R_Tr y_Tr_addWay y_Tr_addWay ∈ lw_gd := tw_sel (i := 5) (by decide +kernel) rfl
theorem se_Tr_release : Cond.selects R_Tr y_Tr_release y_Tr_release ∈ lw_gd := tw_sel (i := 6) (by decide +kernel) rfl
theorem se_Tr_ownRoot : Cond.selects R_Tr y_Tr_ownRoot y_Tr_ownRoot ∈ lw_gd := tw_sel (i := 7) (by decide +kernel) rfl
theorem se_Tr_own : Cond.selects R_Tr y_Tr_own y_Tr_own ∈ lw_gd := tw_sel (i := 8) (by decide +kernel) rfl
theorem se_Tr_ownLink : Cond.selects R_Tr y_Tr_ownLink y_Tr_ownLink ∈ lw_gd := tw_sel (i := 9) (by decide +kernel) rfl
theorem se_Tr_dropLink : Cond.selects R_Tr y_Tr_dropLink y_Tr_dropLink ∈ lw_gd := tw_sel (i := 10) (by decide +kernel) rfl
theorem se_Tp_writeBlocks : Cond.selects R_Tp y_Tp_writeBlocks y_Tp_writeBlocks ∈ lw_gd := tw_sel (i := 11) (by decide +kernel) rfl
theorem se_Tp_otherHead : Cond.selects R_Tp y_Tp_otherHead y_Tp_otherHead ∈ lw_gd := tw_sel (i := 12) (by decide +kernel) rfl
theorem se_Tp_losePower : Cond.selects R_Tp y_Tp_losePower y_Tp_losePower ∈ lw_gd := tw_sel (i := 13) (by decide +kernel) rfl
theorem se_Tp_writeOtherHead : Cond.selects R_Tp y_Tp_writeOtherHead y_Tp_writeOtherHead ∈ lw_gd := tw_sel (i := 14) (by decide +kernel) rfl
theorem se_Tp_keptNumber : Cond.selects R_Tp y_Tp_keptNumber y_Tp_keptNumber ∈ lw_gd := tw_sel (i := 15) (by decide +kernel) rfl
theorem se_Tp_newerHead : Cond.selects R_Tp y_Tp_newerHead y_Tp_newerHead ∈ lw_gd := tw_sel (i := 16) (by decide +kernel) rfl
theorem se_Tp_countVolumes : Cond.selects R_Tp y_Tp_countVolumes y_Tp_countVolumes ∈ lw_gd := tw_sel (i := 17) (by decide +kernel) rfl
theorem se_Au_visit : Cond.selects R_Au y_Au_visit y_Au_visit ∈ lw_gd := tw_sel (i := 18) (by decide +kernel) rfl
theorem se_Au_visitLinks : Cond.selects R_Au y_Au_visitLinks y_Au_visitLinks ∈ lw_gd := tw_sel (i := 19) (by decide +kernel) rfl
theorem se_Tp_tablesDown : Cond.selects R_Tp y_Tp_tablesDown y_Tp_tablesDown ∈ lw_gd := tw_sel (i := 20) (by decide +kernel) rfl
theorem se_Mo_begin : Cond.selects R_Mo y_Mo_begin y_Mo_begin ∈ lw_gd := tw_sel (i := 21) (by decide +kernel) rfl
theorem se_Mo_isThere : Cond.selects R_Mo y_Mo_isThere y_Mo_isThere ∈ lw_gd := tw_sel (i := 22) (by decide +kernel) rfl
theorem se_Mo_many : Cond.selects R_Mo y_Mo_many y_Mo_many ∈ lw_gd := tw_sel (i := 23) (by decide +kernel) rfl
theorem se_Mo_all : Cond.selects R_Mo y_Mo_all y_Mo_all ∈ lw_gd := tw_sel (i := 24) (by decide +kernel) rfl
theorem se_Mo_fresh : Cond.selects R_Mo y_Mo_fresh y_Mo_fresh ∈ lw_gd := tw_sel (i := 25) (by decide +kernel) rfl
theorem se_Mo_clear : Cond.selects R_Mo y_Mo_clear y_Mo_clear ∈ lw_gd := tw_sel (i := 26) (by decide +kernel) rfl
theorem se_Mo_copy : Cond.selects R_Mo y_Mo_copy y_Mo_copy ∈ lw_gd := tw_sel (i := 27) (by decide +kernel) rfl
theorem in_Lw : Cond.initialized "ThinPoolLaw" ∈ lw_gd := tw_mem (i := 0) (by decide +kernel) rfl
theorem in_Tp : Cond.initialized "ThinPool" ∈ lw_gd := tw_mem (i := 1) (by decide +kernel) rfl
theorem in_Im : Cond.initialized "ThinPool$Image" ∈ lw_gd := tw_mem (i := 2) (by decide +kernel) rfl
theorem in_Tr : Cond.initialized "ThinPool$Trees" ∈ lw_gd := tw_mem (i := 3) (by decide +kernel) rfl
theorem in_Tb : Cond.initialized "ThinPool$Tables" ∈ lw_gd := tw_mem (i := 4) (by decide +kernel) rfl
theorem in_Au : Cond.initialized "ThinPool$Audit" ∈ lw_gd := tw_mem (i := 5) (by decide +kernel) rfl
theorem in_System : Cond.initialized "java/lang/System" ∈ lw_gd := tw_mem (i := 6) (by decide +kernel) rfl
theorem in_Mo : Cond.initialized "ThinPoolModel" ∈ lw_gd := tw_mem (i := 7) (by decide +kernel) rfl
theorem in_Ar : Cond.initialized "java/util/Arrays" ∈ lw_gd := tw_mem (i := 8) (by decide +kernel) rfl
theorem cl_Lw_7 : Cond.classLink R_Lw 7 R_Tp ∈ lw_gd := tw_mem (i := 9) (by decide +kernel) rfl
theorem it_Tp : Cond.instantiable R_Tp 8 ∈ lw_gd := tw_mem (i := 10) (by decide +kernel) rfl
theorem ml_Lw_9 : Cond.methodLink R_Lw 9 y_Tp_init ∈ lw_gd := tw_mem (i := 11) (by decide +kernel) rfl
theorem im_Tp_init : Cond.instanceMethod y_Tp_init ∈ lw_gd := tw_mem (i := 12) (by decide +kernel) rfl
theorem cd_Tp_init : Cond.code y_Tp_init b_Tp_init 1 none ∈ lw_gd := tw_mem (i := 13) (by decide +kernel) rfl
theorem ml_Tp_3 : Cond.methodLink R_Tp 3 objectInit ∈ lw_gd := tw_mem (i := 14) (by decide +kernel) rfl
theorem im_objectInit : Cond.instanceMethod objectInit ∈ lw_gd := tw_mem (i := 15) (by decide +kernel) rfl
theorem cd_objectInit : Cond.code objectInit ⟨#[0xb1]⟩ 1 none ∈ lw_gd := tw_mem (i := 16) (by decide +kernel) rfl
theorem cl_Tp_9 : Cond.classLink R_Tp 9 R_Im ∈ lw_gd := tw_mem (i := 17) (by decide +kernel) rfl
theorem it_Im : Cond.instantiable R_Im 1 ∈ lw_gd := tw_mem (i := 18) (by decide +kernel) rfl
theorem ml_Tp_11 : Cond.methodLinkNest R_Tp 11 y_Im_init "ThinPool" ∈ lw_tbl := tw_tbl (i := 19) (by decide +kernel)
theorem im_Im_init : Cond.instanceMethod y_Im_init ∈ lw_gd := tw_mem (i := 20) (by decide +kernel) rfl
theorem cd_Im_init : Cond.code y_Im_init b_Im_init 1 none ∈ lw_gd := tw_mem (i := 21) (by decide +kernel) rfl
theorem ml_Im_3 : Cond.methodLink R_Im 3 objectInit ∈ lw_gd := tw_mem (i := 22) (by decide +kernel) rfl
theorem fl_Im_9 : Cond.fieldLink R_Im 9 "ThinPool$Image" "words" "[J" ∈ lw_gd := tw_mem (i := 23) (by decide +kernel) rfl
theorem ac_long : Cond.arrayClass .long ∈ lw_gd := tw_mem (i := 27) (by decide +kernel) rfl
theorem cl_Tp_19 : Cond.classLink R_Tp 19 R_Tr ∈ lw_gd := tw_mem (i := 28) (by decide +kernel) rfl
theorem it_Tr : Cond.instantiable R_Tr 6 ∈ lw_gd := tw_mem (i := 29) (by decide +kernel) rfl
theorem ml_Tp_21 : Cond.methodLink R_Tp 21 y_Tr_init ∈ lw_gd := tw_mem (i := 30) (by decide +kernel) rfl
theorem im_Tr_init : Cond.instanceMethod y_Tr_init ∈ lw_gd := tw_mem (i := 31) (by decide +kernel) rfl
theorem cd_Tr_init : Cond.code y_Tr_init b_Tr_init 2 none ∈ lw_gd := tw_mem (i := 32) (by decide +kernel) rfl
theorem ml_Tr_3 : Cond.methodLink R_Tr 3 objectInit ∈ lw_gd := tw_mem (i := 33) (by decide +kernel) rfl
theorem cl_Tr_19 : Cond.classLink R_Tr 19 R_Tb ∈ lw_gd := tw_mem (i := 34) (by decide +kernel) rfl
theorem it_Tb : Cond.instantiable R_Tb 2 ∈ lw_gd := tw_mem (i := 35) (by decide +kernel) rfl
theorem ml_Tr_21 : Cond.methodLink R_Tr 21 y_Tb_init ∈ lw_gd := tw_mem (i := 36) (by decide +kernel) rfl
theorem im_Tb_init : Cond.instanceMethod y_Tb_init ∈ lw_gd := tw_mem (i := 37) (by decide +kernel) rfl
theorem cd_Tb_init : Cond.code y_Tb_init b_Tb_init 3 none ∈ lw_gd := tw_mem (i := 38) (by decide +kernel) rfl
theorem ml_Tb_3 : Cond.methodLink R_Tb 3 objectInit ∈ lw_gd := tw_mem (i := 39) (by decide +kernel) rfl
theorem ml_Tb_15 : Cond.methodLink R_Tb 15 y_Tb_startOf ∈ lw_gd := tw_mem (i := 40) (by decide +kernel) rfl
theorem st_Tb_startOf : Cond.static y_Tb_startOf ∈ lw_gd := tw_mem (i := 41) (by decide +kernel) rfl
theorem cd_Tb_startOf : Cond.code y_Tb_startOf b_Tb_startOf 1 (some .int) ∈ lw_gd := tw_mem (i := 42) (by decide +kernel) rfl
theorem fl_Tb_9 : Cond.fieldLink R_Tb 9 "ThinPool$Tables" "image" "LThinPool$Image;" ∈ lw_gd := tw_mem (i := 43) (by decide +kernel) rfl
theorem fl_Tb_19 : Cond.fieldLink R_Tb 19 "ThinPool$Tables" "start" "I" ∈ lw_gd := tw_mem (i := 44) (by decide +kernel) rfl
theorem fl_Tr_15 : Cond.fieldLink R_Tr 15 "ThinPool$Trees" "image" "LThinPool$Image;" ∈ lw_gd := tw_mem (i := 50) (by decide +kernel) rfl
theorem fl_Tr_24 : Cond.fieldLink R_Tr 24 "ThinPool$Trees" "ofFirstHead" "LThinPool$Tables;" ∈ lw_gd := tw_mem (i := 51) (by decide +kernel) rfl
theorem fl_Tr_28 : Cond.fieldLink R_Tr 28 "ThinPool$Trees" "ofSecondHead" "LThinPool$Tables;" ∈ lw_gd := tw_mem (i := 52) (by decide +kernel) rfl
theorem fl_Tr_34 : Cond.fieldLink R_Tr 34 "ThinPool$Trees" "now" "LThinPool$Tables;" ∈ lw_gd := tw_mem (i := 53) (by decide +kernel) rfl
theorem fl_Tp_110 : Cond.fieldLinkNest R_Tp 110 "ThinPool$Trees" "now" "LThinPool$Tables;" "ThinPool" ∈ lw_tbl := tw_tbl (i := 54) (by decide +kernel)
theorem fl_Tr_31 : Cond.fieldLink R_Tr 31 "ThinPool$Trees" "kept" "LThinPool$Tables;" ∈ lw_gd := tw_mem (i := 55) (by decide +kernel) rfl
theorem fl_Tp_151 : Cond.fieldLinkNest R_Tp 151 "ThinPool$Trees" "kept" "LThinPool$Tables;" "ThinPool" ∈ lw_tbl := tw_tbl (i := 56) (by decide +kernel)
theorem fl_Tr_9 : Cond.fieldLink R_Tr 9 "ThinPool$Trees" "hand" "I" ∈ lw_gd := tw_mem (i := 57) (by decide +kernel) rfl
theorem cl_Tp_28 : Cond.classLink R_Tp 28 R_Tb ∈ lw_gd := tw_mem (i := 71) (by decide +kernel) rfl
theorem ml_Tp_30 : Cond.methodLink R_Tp 30 y_Tb_init ∈ lw_gd := tw_mem (i := 72) (by decide +kernel) rfl
theorem cl_Tp_40 : Cond.classLink R_Tp 40 R_Au ∈ lw_gd := tw_mem (i := 73) (by decide +kernel) rfl
theorem it_Au : Cond.instantiable R_Au 1 ∈ lw_gd := tw_mem (i := 74) (by decide +kernel) rfl
theorem ml_Tp_42 : Cond.methodLinkNest R_Tp 42 y_Au_init "ThinPool" ∈ lw_tbl := tw_tbl (i := 75) (by decide +kernel)
theorem im_Au_init : Cond.instanceMethod y_Au_init ∈ lw_gd := tw_mem (i := 76) (by decide +kernel) rfl
theorem cd_Au_init : Cond.code y_Au_init b_Au_init 1 none ∈ lw_gd := tw_mem (i := 77) (by decide +kernel) rfl
theorem ml_Au_3 : Cond.methodLink R_Au 3 objectInit ∈ lw_gd := tw_mem (i := 78) (by decide +kernel) rfl
theorem fl_Au_9 : Cond.fieldLink R_Au 9 "ThinPool$Audit" "met" "[I" ∈ lw_gd := tw_mem (i := 79) (by decide +kernel) rfl
theorem ac_int : Cond.arrayClass .int ∈ lw_gd := tw_mem (i := 83) (by decide +kernel) rfl
theorem ml_Tp_47 : Cond.methodLink R_Tp 47 y_Tp_layEmpty ∈ lw_gd := tw_mem (i := 84) (by decide +kernel) rfl
theorem im_Tp_layEmpty : Cond.instanceMethod y_Tp_layEmpty ∈ lw_gd := tw_mem (i := 86) (by decide +kernel) rfl
theorem cd_Tp_layEmpty : Cond.code y_Tp_layEmpty b_Tp_layEmpty 2 none ∈ lw_gd := tw_mem (i := 87) (by decide +kernel) rfl
theorem ml_Tp_161 : Cond.methodLink R_Tp 161 y_Im_blank ∈ lw_gd := tw_mem (i := 88) (by decide +kernel) rfl
theorem im_Im_blank : Cond.instanceMethod y_Im_blank ∈ lw_gd := tw_mem (i := 89) (by decide +kernel) rfl
theorem se_Im_blank : Cond.selects R_Im y_Im_blank y_Im_blank ∈ lw_gd := tw_mem (i := 90) (by decide +kernel) rfl
theorem cd_Im_blank : Cond.code y_Im_blank b_Im_blank 3 none ∈ lw_gd := tw_mem (i := 91) (by decide +kernel) rfl
theorem ml_Im_26 : Cond.methodLink R_Im 26 y_Im_setWord ∈ lw_gd := tw_mem (i := 92) (by decide +kernel) rfl
theorem im_Im_setWord : Cond.instanceMethod y_Im_setWord ∈ lw_gd := tw_mem (i := 93) (by decide +kernel) rfl
theorem se_Im_setWord : Cond.selects R_Im y_Im_setWord y_Im_setWord ∈ lw_gd := tw_mem (i := 94) (by decide +kernel) rfl
theorem cd_Im_setWord : Cond.code y_Im_setWord b_Im_setWord 6 none ∈ lw_gd := tw_mem (i := 95) (by decide +kernel) rfl
theorem ml_Tp_164 : Cond.methodLink R_Tp 164 y_Im_setWord ∈ lw_gd := tw_mem (i := 96) (by decide +kernel) rfl
theorem ml_Tp_135 : Cond.methodLink R_Tp 135 y_Im_receiveAll ∈ lw_gd := tw_mem (i := 97) (by decide +kernel) rfl
theorem im_Im_receiveAll : Cond.instanceMethod y_Im_receiveAll ∈ lw_gd := tw_mem (i := 98) (by decide +kernel) rfl
theorem se_Im_receiveAll : Cond.selects R_Im y_Im_receiveAll y_Im_receiveAll ∈ lw_gd := tw_mem (i := 99) (by decide +kernel) rfl
theorem cd_Im_receiveAll : Cond.code y_Im_receiveAll b_Im_receiveAll 2 none ∈ lw_gd := tw_mem (i := 100) (by decide +kernel) rfl
theorem ml_Im_36 : Cond.methodLink R_Im 36 arraycopyName ∈ lw_gd := tw_mem (i := 101) (by decide +kernel) rfl
theorem st_arraycopyName : Cond.static arraycopyName ∈ lw_gd := tw_mem (i := 102) (by decide +kernel) rfl
theorem na_arraycopyName : Cond.native arraycopyName ∈ lw_gd := tw_mem (i := 103) (by decide +kernel) rfl
theorem ml_Tp_132 : Cond.methodLink R_Tp 132 y_Tp_goOnFrom ∈ lw_gd := tw_mem (i := 104) (by decide +kernel) rfl
theorem im_Tp_goOnFrom : Cond.instanceMethod y_Tp_goOnFrom ∈ lw_gd := tw_mem (i := 106) (by decide +kernel) rfl
theorem cd_Tp_goOnFrom : Cond.code y_Tp_goOnFrom b_Tp_goOnFrom 2 none ∈ lw_gd := tw_mem (i := 107) (by decide +kernel) rfl
theorem ml_Tp_179 : Cond.methodLink R_Tp 179 y_Tr_goOnFrom ∈ lw_gd := tw_mem (i := 108) (by decide +kernel) rfl
theorem im_Tr_goOnFrom : Cond.instanceMethod y_Tr_goOnFrom ∈ lw_gd := tw_mem (i := 109) (by decide +kernel) rfl
theorem se_Tr_goOnFrom : Cond.selects R_Tr y_Tr_goOnFrom y_Tr_goOnFrom ∈ lw_gd := tw_mem (i := 110) (by decide +kernel) rfl
theorem cd_Tr_goOnFrom : Cond.code y_Tr_goOnFrom b_Tr_goOnFrom 2 none ∈ lw_gd := tw_mem (i := 111) (by decide +kernel) rfl
theorem ml_Tr_37 : Cond.methodLink R_Tr 37 y_Tb_becomeLike ∈ lw_gd := tw_mem (i := 112) (by decide +kernel) rfl
theorem im_Tb_becomeLike : Cond.instanceMethod y_Tb_becomeLike ∈ lw_gd := tw_mem (i := 113) (by decide +kernel) rfl
theorem se_Tb_becomeLike : Cond.selects R_Tb y_Tb_becomeLike y_Tb_becomeLike ∈ lw_gd := tw_mem (i := 114) (by decide +kernel) rfl
theorem cd_Tb_becomeLike : Cond.code y_Tb_becomeLike b_Tb_becomeLike 3 none ∈ lw_gd := tw_mem (i := 115) (by decide +kernel) rfl
theorem ml_Tb_39 : Cond.methodLink R_Tb 39 y_Im_duplicate ∈ lw_gd := tw_mem (i := 116) (by decide +kernel) rfl
theorem im_Im_duplicate : Cond.instanceMethod y_Im_duplicate ∈ lw_gd := tw_mem (i := 117) (by decide +kernel) rfl
theorem se_Im_duplicate : Cond.selects R_Im y_Im_duplicate y_Im_duplicate ∈ lw_gd := tw_mem (i := 118) (by decide +kernel) rfl
theorem cd_Im_duplicate : Cond.code y_Im_duplicate b_Im_duplicate 4 none ∈ lw_gd := tw_mem (i := 119) (by decide +kernel) rfl
theorem ml_Im_19 : Cond.methodLink R_Im 19 y_Im_wordAt ∈ lw_gd := tw_mem (i := 120) (by decide +kernel) rfl
theorem im_Im_wordAt : Cond.instanceMethod y_Im_wordAt ∈ lw_gd := tw_mem (i := 121) (by decide +kernel) rfl
theorem se_Im_wordAt : Cond.selects R_Im y_Im_wordAt y_Im_wordAt ∈ lw_gd := tw_mem (i := 122) (by decide +kernel) rfl
theorem cd_Im_wordAt : Cond.code y_Im_wordAt b_Im_wordAt 4 (some .long) ∈ lw_gd := tw_mem (i := 123) (by decide +kernel) rfl
theorem fl_Tp_12 : Cond.fieldLink R_Tp 12 "ThinPool" "memory" "LThinPool$Image;" ∈ lw_gd := tw_mem (i := 124) (by decide +kernel) rfl
theorem fl_Tp_16 : Cond.fieldLink R_Tp 16 "ThinPool" "medium" "LThinPool$Image;" ∈ lw_gd := tw_mem (i := 125) (by decide +kernel) rfl
theorem fl_Tp_24 : Cond.fieldLink R_Tp 24 "ThinPool" "trees" "LThinPool$Trees;" ∈ lw_gd := tw_mem (i := 126) (by decide +kernel) rfl
theorem fl_Tp_33 : Cond.fieldLink R_Tp 33 "ThinPool" "ofFirstHeadDown" "LThinPool$Tables;" ∈ lw_gd := tw_mem (i := 127) (by decide +kernel) rfl
theorem fl_Tp_37 : Cond.fieldLink R_Tp 37 "ThinPool" "ofSecondHeadDown" "LThinPool$Tables;" ∈ lw_gd := tw_mem (i := 128) (by decide +kernel) rfl
theorem fl_Tp_43 : Cond.fieldLink R_Tp 43 "ThinPool" "audit" "LThinPool$Audit;" ∈ lw_gd := tw_mem (i := 129) (by decide +kernel) rfl
theorem fl_Tp_171 : Cond.fieldLink R_Tp 171 "ThinPool" "head" "I" ∈ lw_gd := tw_mem (i := 130) (by decide +kernel) rfl
theorem fl_Tp_50 : Cond.fieldLink R_Tp 50 "ThinPool" "on" "Z" ∈ lw_gd := tw_mem (i := 131) (by decide +kernel) rfl
theorem ml_Lw_13 : Cond.methodLink R_Lw 13 y_Tp_lay ∈ lw_gd := tw_mem (i := 149) (by decide +kernel) rfl
theorem im_Tp_lay : Cond.instanceMethod y_Tp_lay ∈ lw_gd := tw_mem (i := 150) (by decide +kernel) rfl
theorem se_Tp_lay : Cond.selects R_Tp y_Tp_lay y_Tp_lay ∈ lw_gd := tw_mem (i := 151) (by decide +kernel) rfl
theorem cd_Tp_lay : Cond.code y_Tp_lay b_Tp_lay 1 (some .int) ∈ lw_gd := tw_mem (i := 152) (by decide +kernel) rfl
theorem ml_Lw_18 : Cond.methodLink R_Lw 18 y_Tp_make ∈ lw_gd := tw_mem (i := 153) (by decide +kernel) rfl
theorem im_Tp_make : Cond.instanceMethod y_Tp_make ∈ lw_gd := tw_mem (i := 154) (by decide +kernel) rfl
theorem se_Tp_make : Cond.selects R_Tp y_Tp_make y_Tp_make ∈ lw_gd := tw_mem (i := 155) (by decide +kernel) rfl
theorem cd_Tp_make : Cond.code y_Tp_make b_Tp_make 2 (some .int) ∈ lw_gd := tw_mem (i := 156) (by decide +kernel) rfl
theorem ml_Tp_54 : Cond.methodLink R_Tp 54 y_Tp_isVolume ∈ lw_gd := tw_mem (i := 157) (by decide +kernel) rfl
theorem st_Tp_isVolume : Cond.static y_Tp_isVolume ∈ lw_gd := tw_mem (i := 158) (by decide +kernel) rfl
theorem cd_Tp_isVolume : Cond.code y_Tp_isVolume b_Tp_isVolume 1 (some .boolean) ∈ lw_gd := tw_mem (i := 159) (by decide +kernel) rfl
theorem ml_Tp_58 : Cond.methodLink R_Tp 58 y_Tp_isThere ∈ lw_gd := tw_mem (i := 160) (by decide +kernel) rfl
theorem im_Tp_isThere : Cond.instanceMethod y_Tp_isThere ∈ lw_gd := tw_mem (i := 162) (by decide +kernel) rfl
theorem cd_Tp_isThere : Cond.code y_Tp_isThere b_Tp_isThere 2 (some .boolean) ∈ lw_gd := tw_mem (i := 163) (by decide +kernel) rfl
theorem ml_Tp_158 : Cond.methodLink R_Tp 158 y_Tb_rootOf ∈ lw_gd := tw_mem (i := 164) (by decide +kernel) rfl
theorem im_Tb_rootOf : Cond.instanceMethod y_Tb_rootOf ∈ lw_gd := tw_mem (i := 165) (by decide +kernel) rfl
theorem se_Tb_rootOf : Cond.selects R_Tb y_Tb_rootOf y_Tb_rootOf ∈ lw_gd := tw_mem (i := 166) (by decide +kernel) rfl
theorem cd_Tb_rootOf : Cond.code y_Tb_rootOf b_Tb_rootOf 2 (some .int) ∈ lw_gd := tw_mem (i := 167) (by decide +kernel) rfl
theorem ml_Tb_23 : Cond.methodLink R_Tb 23 y_Im_linkAt ∈ lw_gd := tw_mem (i := 168) (by decide +kernel) rfl
theorem im_Im_linkAt : Cond.instanceMethod y_Im_linkAt ∈ lw_gd := tw_mem (i := 169) (by decide +kernel) rfl
theorem se_Im_linkAt : Cond.selects R_Im y_Im_linkAt y_Im_linkAt ∈ lw_gd := tw_mem (i := 170) (by decide +kernel) rfl
theorem cd_Im_linkAt : Cond.code y_Im_linkAt b_Im_linkAt 3 (some .int) ∈ lw_gd := tw_mem (i := 171) (by decide +kernel) rfl
theorem kc_Im_23 : Cond.constant R_Im 23 (65535) ∈ lw_gd := tw_mem (i := 172) (by decide +kernel) rfl
theorem ml_Tp_61 : Cond.methodLink R_Tp 61 y_Tr_addEmpty ∈ lw_gd := tw_mem (i := 173) (by decide +kernel) rfl
theorem im_Tr_addEmpty : Cond.instanceMethod y_Tr_addEmpty ∈ lw_gd := tw_mem (i := 174) (by decide +kernel) rfl
theorem se_Tr_addEmpty : Cond.selects R_Tr y_Tr_addEmpty y_Tr_addEmpty ∈ lw_gd := tw_mem (i := 175) (by decide +kernel) rfl
theorem cd_Tr_addEmpty : Cond.code y_Tr_addEmpty b_Tr_addEmpty 2 none ∈ lw_gd := tw_mem (i := 176) (by decide +kernel) rfl
theorem ml_Tr_60 : Cond.methodLink R_Tr 60 y_Tr_takeBlank ∈ lw_gd := tw_mem (i := 177) (by decide +kernel) rfl
theorem im_Tr_takeBlank : Cond.instanceMethod y_Tr_takeBlank ∈ lw_gd := tw_mem (i := 179) (by decide +kernel) rfl
theorem cd_Tr_takeBlank : Cond.code y_Tr_takeBlank b_Tr_takeBlank 2 (some .int) ∈ lw_gd := tw_mem (i := 180) (by decide +kernel) rfl
theorem ml_Tr_95 : Cond.methodLink R_Tr 95 y_Tr_take ∈ lw_gd := tw_mem (i := 181) (by decide +kernel) rfl
theorem im_Tr_take : Cond.instanceMethod y_Tr_take ∈ lw_gd := tw_mem (i := 183) (by decide +kernel) rfl
theorem cd_Tr_take : Cond.code y_Tr_take b_Tr_take 2 (some .int) ∈ lw_gd := tw_mem (i := 184) (by decide +kernel) rfl
theorem ml_Tr_41 : Cond.methodLink R_Tr 41 y_Tb_waysTo ∈ lw_gd := tw_mem (i := 185) (by decide +kernel) rfl
theorem im_Tb_waysTo : Cond.instanceMethod y_Tb_waysTo ∈ lw_gd := tw_mem (i := 186) (by decide +kernel) rfl
theorem se_Tb_waysTo : Cond.selects R_Tb y_Tb_waysTo y_Tb_waysTo ∈ lw_gd := tw_mem (i := 187) (by decide +kernel) rfl
theorem cd_Tb_waysTo : Cond.code y_Tb_waysTo b_Tb_waysTo 3 (some .int) ∈ lw_gd := tw_mem (i := 188) (by decide +kernel) rfl
theorem ml_Tb_33 : Cond.methodLink R_Tb 33 y_Im_byteAt ∈ lw_gd := tw_mem (i := 189) (by decide +kernel) rfl
theorem im_Im_byteAt : Cond.instanceMethod y_Im_byteAt ∈ lw_gd := tw_mem (i := 190) (by decide +kernel) rfl
theorem se_Im_byteAt : Cond.selects R_Im y_Im_byteAt y_Im_byteAt ∈ lw_gd := tw_mem (i := 191) (by decide +kernel) rfl
theorem cd_Im_byteAt : Cond.code y_Im_byteAt b_Im_byteAt 4 (some .int) ∈ lw_gd := tw_mem (i := 192) (by decide +kernel) rfl
theorem ml_Tr_107 : Cond.methodLink R_Tr 107 y_Tb_setWays ∈ lw_gd := tw_mem (i := 193) (by decide +kernel) rfl
theorem im_Tb_setWays : Cond.instanceMethod y_Tb_setWays ∈ lw_gd := tw_mem (i := 194) (by decide +kernel) rfl
theorem se_Tb_setWays : Cond.selects R_Tb y_Tb_setWays y_Tb_setWays ∈ lw_gd := tw_mem (i := 195) (by decide +kernel) rfl
theorem cd_Tb_setWays : Cond.code y_Tb_setWays b_Tb_setWays 4 none ∈ lw_gd := tw_mem (i := 196) (by decide +kernel) rfl
theorem ml_Tb_36 : Cond.methodLink R_Tb 36 y_Im_setByte ∈ lw_gd := tw_mem (i := 197) (by decide +kernel) rfl
theorem im_Im_setByte : Cond.instanceMethod y_Im_setByte ∈ lw_gd := tw_mem (i := 198) (by decide +kernel) rfl
theorem se_Im_setByte : Cond.selects R_Im y_Im_setByte y_Im_setByte ∈ lw_gd := tw_mem (i := 199) (by decide +kernel) rfl
theorem cd_Im_setByte : Cond.code y_Im_setByte b_Im_setByte 6 none ∈ lw_gd := tw_mem (i := 200) (by decide +kernel) rfl
theorem kl_Im_15 : Cond.constantLong R_Im 15 (255) ∈ lw_gd := tw_mem (i := 201) (by decide +kernel) rfl
theorem kl_Im_17 : Cond.constantLong R_Im 17 (-1) ∈ lw_gd := tw_mem (i := 202) (by decide +kernel) rfl
theorem ml_Tr_104 : Cond.methodLink R_Tr 104 y_Im_blank ∈ lw_gd := tw_mem (i := 203) (by decide +kernel) rfl
theorem ml_Tr_64 : Cond.methodLink R_Tr 64 y_Tb_setRoot ∈ lw_gd := tw_mem (i := 204) (by decide +kernel) rfl
theorem im_Tb_setRoot : Cond.instanceMethod y_Tb_setRoot ∈ lw_gd := tw_mem (i := 205) (by decide +kernel) rfl
theorem se_Tb_setRoot : Cond.selects R_Tb y_Tb_setRoot y_Tb_setRoot ∈ lw_gd := tw_mem (i := 206) (by decide +kernel) rfl
theorem cd_Tb_setRoot : Cond.code y_Tb_setRoot b_Tb_setRoot 3 none ∈ lw_gd := tw_mem (i := 207) (by decide +kernel) rfl
theorem ml_Tb_29 : Cond.methodLink R_Tb 29 y_Im_setLink ∈ lw_gd := tw_mem (i := 208) (by decide +kernel) rfl
theorem im_Im_setLink : Cond.instanceMethod y_Im_setLink ∈ lw_gd := tw_mem (i := 209) (by decide +kernel) rfl
theorem se_Im_setLink : Cond.selects R_Im y_Im_setLink y_Im_setLink ∈ lw_gd := tw_mem (i := 210) (by decide +kernel) rfl
theorem cd_Im_setLink : Cond.code y_Im_setLink b_Im_setLink 7 none ∈ lw_gd := tw_mem (i := 211) (by decide +kernel) rfl
theorem kl_Im_24 : Cond.constantLong R_Im 24 (65535) ∈ lw_gd := tw_mem (i := 212) (by decide +kernel) rfl
theorem ml_Lw_23 : Cond.methodLink R_Lw 23 y_Tp_snap ∈ lw_gd := tw_mem (i := 213) (by decide +kernel) rfl
theorem im_Tp_snap : Cond.instanceMethod y_Tp_snap ∈ lw_gd := tw_mem (i := 214) (by decide +kernel) rfl
theorem se_Tp_snap : Cond.selects R_Tp y_Tp_snap y_Tp_snap ∈ lw_gd := tw_mem (i := 215) (by decide +kernel) rfl
theorem cd_Tp_snap : Cond.code y_Tp_snap b_Tp_snap 4 (some .int) ∈ lw_gd := tw_mem (i := 216) (by decide +kernel) rfl
theorem ml_Tp_65 : Cond.methodLink R_Tp 65 y_Tr_sizeOf ∈ lw_gd := tw_mem (i := 217) (by decide +kernel) rfl
theorem im_Tr_sizeOf : Cond.instanceMethod y_Tr_sizeOf ∈ lw_gd := tw_mem (i := 218) (by decide +kernel) rfl
theorem se_Tr_sizeOf : Cond.selects R_Tr y_Tr_sizeOf y_Tr_sizeOf ∈ lw_gd := tw_mem (i := 219) (by decide +kernel) rfl
theorem cd_Tr_sizeOf : Cond.code y_Tr_sizeOf b_Tr_sizeOf 3 (some .int) ∈ lw_gd := tw_mem (i := 220) (by decide +kernel) rfl
theorem ml_Tr_45 : Cond.methodLink R_Tr 45 y_Tb_rootOf ∈ lw_gd := tw_mem (i := 221) (by decide +kernel) rfl
theorem ml_Tr_48 : Cond.methodLink R_Tr 48 y_Im_sizeAt ∈ lw_gd := tw_mem (i := 222) (by decide +kernel) rfl
theorem im_Im_sizeAt : Cond.instanceMethod y_Im_sizeAt ∈ lw_gd := tw_mem (i := 223) (by decide +kernel) rfl
theorem se_Im_sizeAt : Cond.selects R_Im y_Im_sizeAt y_Im_sizeAt ∈ lw_gd := tw_mem (i := 224) (by decide +kernel) rfl
theorem cd_Im_sizeAt : Cond.code y_Im_sizeAt b_Im_sizeAt 2 (some .int) ∈ lw_gd := tw_mem (i := 225) (by decide +kernel) rfl
theorem ml_Tp_69 : Cond.methodLink R_Tp 69 y_Tr_sizeOfAll ∈ lw_gd := tw_mem (i := 226) (by decide +kernel) rfl
theorem im_Tr_sizeOfAll : Cond.instanceMethod y_Tr_sizeOfAll ∈ lw_gd := tw_mem (i := 227) (by decide +kernel) rfl
theorem se_Tr_sizeOfAll : Cond.selects R_Tr y_Tr_sizeOfAll y_Tr_sizeOfAll ∈ lw_gd := tw_mem (i := 228) (by decide +kernel) rfl
theorem cd_Tr_sizeOfAll : Cond.code y_Tr_sizeOfAll b_Tr_sizeOfAll 3 (some .int) ∈ lw_gd := tw_mem (i := 229) (by decide +kernel) rfl
theorem ml_Tr_53 : Cond.methodLink R_Tr 53 y_Tr_sizeOf ∈ lw_gd := tw_mem (i := 230) (by decide +kernel) rfl
theorem ml_Tp_73 : Cond.methodLink R_Tp 73 y_Tr_addTwin ∈ lw_gd := tw_mem (i := 231) (by decide +kernel) rfl
theorem im_Tr_addTwin : Cond.instanceMethod y_Tr_addTwin ∈ lw_gd := tw_mem (i := 232) (by decide +kernel) rfl
theorem se_Tr_addTwin : Cond.selects R_Tr y_Tr_addTwin y_Tr_addTwin ∈ lw_gd := tw_mem (i := 233) (by decide +kernel) rfl
theorem cd_Tr_addTwin : Cond.code y_Tr_addTwin b_Tr_addTwin 4 none ∈ lw_gd := tw_mem (i := 234) (by decide +kernel) rfl
theorem ml_Tr_68 : Cond.methodLink R_Tr 68 y_Tr_addWay ∈ lw_gd := tw_mem (i := 235) (by decide +kernel) rfl
theorem im_Tr_addWay : Cond.instanceMethod y_Tr_addWay ∈ lw_gd := tw_mem (i := 237) (by decide +kernel) rfl
theorem cd_Tr_addWay : Cond.code y_Tr_addWay b_Tr_addWay 2 none ∈ lw_gd := tw_mem (i := 238) (by decide +kernel) rfl
theorem ml_Lw_28 : Cond.methodLink R_Lw 28 y_Tp_remove ∈ lw_gd := tw_mem (i := 239) (by decide +kernel) rfl
theorem im_Tp_remove : Cond.instanceMethod y_Tp_remove ∈ lw_gd := tw_mem (i := 240) (by decide +kernel) rfl
theorem se_Tp_remove : Cond.selects R_Tp y_Tp_remove y_Tp_remove ∈ lw_gd := tw_mem (i := 241) (by decide +kernel) rfl
theorem cd_Tp_remove : Cond.code y_Tp_remove b_Tp_remove 3 (some .int) ∈ lw_gd := tw_mem (i := 242) (by decide +kernel) rfl
theorem ml_Tp_77 : Cond.methodLink R_Tp 77 y_Tr_dropVolume ∈ lw_gd := tw_mem (i := 243) (by decide +kernel) rfl
theorem im_Tr_dropVolume : Cond.instanceMethod y_Tr_dropVolume ∈ lw_gd := tw_mem (i := 244) (by decide +kernel) rfl
theorem se_Tr_dropVolume : Cond.selects R_Tr y_Tr_dropVolume y_Tr_dropVolume ∈ lw_gd := tw_mem (i := 245) (by decide +kernel) rfl
theorem cd_Tr_dropVolume : Cond.code y_Tr_dropVolume b_Tr_dropVolume 2 none ∈ lw_gd := tw_mem (i := 246) (by decide +kernel) rfl
theorem ml_Tr_72 : Cond.methodLink R_Tr 72 y_Tr_release ∈ lw_gd := tw_mem (i := 247) (by decide +kernel) rfl
theorem im_Tr_release : Cond.instanceMethod y_Tr_release ∈ lw_gd := tw_mem (i := 249) (by decide +kernel) rfl
theorem cd_Tr_release : Cond.code y_Tr_release b_Tr_release 5 none ∈ lw_gd := tw_mem (i := 250) (by decide +kernel) rfl
theorem ml_Tr_101 : Cond.methodLink R_Tr 101 y_Tr_linksOf ∈ lw_gd := tw_mem (i := 251) (by decide +kernel) rfl
theorem st_Tr_linksOf : Cond.static y_Tr_linksOf ∈ lw_gd := tw_mem (i := 252) (by decide +kernel) rfl
theorem cd_Tr_linksOf : Cond.code y_Tr_linksOf b_Tr_linksOf 1 (some .int) ∈ lw_gd := tw_mem (i := 253) (by decide +kernel) rfl
theorem ml_Tr_56 : Cond.methodLink R_Tr 56 y_Im_linkAt ∈ lw_gd := tw_mem (i := 254) (by decide +kernel) rfl
theorem ml_Lw_32 : Cond.methodLink R_Lw 32 y_Tp_write ∈ lw_gd := tw_mem (i := 255) (by decide +kernel) rfl
theorem im_Tp_write : Cond.instanceMethod y_Tp_write ∈ lw_gd := tw_mem (i := 256) (by decide +kernel) rfl
theorem se_Tp_write : Cond.selects R_Tp y_Tp_write y_Tp_write ∈ lw_gd := tw_mem (i := 257) (by decide +kernel) rfl
theorem cd_Tp_write : Cond.code y_Tp_write b_Tp_write 8 (some .int) ∈ lw_gd := tw_mem (i := 258) (by decide +kernel) rfl
theorem ml_Tp_80 : Cond.methodLink R_Tp 80 y_Tp_isPiece ∈ lw_gd := tw_mem (i := 259) (by decide +kernel) rfl
theorem st_Tp_isPiece : Cond.static y_Tp_isPiece ∈ lw_gd := tw_mem (i := 260) (by decide +kernel) rfl
theorem cd_Tp_isPiece : Cond.code y_Tp_isPiece b_Tp_isPiece 1 (some .boolean) ∈ lw_gd := tw_mem (i := 261) (by decide +kernel) rfl
theorem ml_Tp_83 : Cond.methodLink R_Tp 83 y_Tp_areBytes ∈ lw_gd := tw_mem (i := 262) (by decide +kernel) rfl
theorem st_Tp_areBytes : Cond.static y_Tp_areBytes ∈ lw_gd := tw_mem (i := 263) (by decide +kernel) rfl
theorem cd_Tp_areBytes : Cond.code y_Tp_areBytes b_Tp_areBytes 2 (some .boolean) ∈ lw_gd := tw_mem (i := 264) (by decide +kernel) rfl
theorem ml_Tp_87 : Cond.methodLink R_Tp 87 y_Tp_isByte ∈ lw_gd := tw_mem (i := 265) (by decide +kernel) rfl
theorem st_Tp_isByte : Cond.static y_Tp_isByte ∈ lw_gd := tw_mem (i := 266) (by decide +kernel) rfl
theorem cd_Tp_isByte : Cond.code y_Tp_isByte b_Tp_isByte 1 (some .boolean) ∈ lw_gd := tw_mem (i := 267) (by decide +kernel) rfl
theorem ml_Tp_90 : Cond.methodLink R_Tp 90 y_Tr_find ∈ lw_gd := tw_mem (i := 268) (by decide +kernel) rfl
theorem im_Tr_find : Cond.instanceMethod y_Tr_find ∈ lw_gd := tw_mem (i := 269) (by decide +kernel) rfl
theorem se_Tr_find : Cond.selects R_Tr y_Tr_find y_Tr_find ∈ lw_gd := tw_mem (i := 270) (by decide +kernel) rfl
theorem cd_Tr_find : Cond.code y_Tr_find b_Tr_find 5 (some .int) ∈ lw_gd := tw_mem (i := 271) (by decide +kernel) rfl
theorem ml_Tp_94 : Cond.methodLink R_Tp 94 y_Tr_ownPiece ∈ lw_gd := tw_mem (i := 272) (by decide +kernel) rfl
theorem im_Tr_ownPiece : Cond.instanceMethod y_Tr_ownPiece ∈ lw_gd := tw_mem (i := 273) (by decide +kernel) rfl
theorem se_Tr_ownPiece : Cond.selects R_Tr y_Tr_ownPiece y_Tr_ownPiece ∈ lw_gd := tw_mem (i := 274) (by decide +kernel) rfl
theorem cd_Tr_ownPiece : Cond.code y_Tr_ownPiece b_Tr_ownPiece 5 (some .int) ∈ lw_gd := tw_mem (i := 275) (by decide +kernel) rfl
theorem ml_Tr_75 : Cond.methodLink R_Tr 75 y_Tr_ownRoot ∈ lw_gd := tw_mem (i := 276) (by decide +kernel) rfl
theorem im_Tr_ownRoot : Cond.instanceMethod y_Tr_ownRoot ∈ lw_gd := tw_mem (i := 278) (by decide +kernel) rfl
theorem cd_Tr_ownRoot : Cond.code y_Tr_ownRoot b_Tr_ownRoot 3 (some .int) ∈ lw_gd := tw_mem (i := 279) (by decide +kernel) rfl
theorem ml_Tr_89 : Cond.methodLink R_Tr 89 y_Tr_own ∈ lw_gd := tw_mem (i := 280) (by decide +kernel) rfl
theorem im_Tr_own : Cond.instanceMethod y_Tr_own ∈ lw_gd := tw_mem (i := 282) (by decide +kernel) rfl
theorem cd_Tr_own : Cond.code y_Tr_own b_Tr_own 5 (some .int) ∈ lw_gd := tw_mem (i := 283) (by decide +kernel) rfl
theorem ml_Tr_98 : Cond.methodLink R_Tr 98 y_Im_duplicate ∈ lw_gd := tw_mem (i := 284) (by decide +kernel) rfl
theorem ml_Tr_78 : Cond.methodLink R_Tr 78 y_Tr_ownLink ∈ lw_gd := tw_mem (i := 285) (by decide +kernel) rfl
theorem im_Tr_ownLink : Cond.instanceMethod y_Tr_ownLink ∈ lw_gd := tw_mem (i := 287) (by decide +kernel) rfl
theorem cd_Tr_ownLink : Cond.code y_Tr_ownLink b_Tr_ownLink 6 (some .int) ∈ lw_gd := tw_mem (i := 288) (by decide +kernel) rfl
theorem ml_Tr_92 : Cond.methodLink R_Tr 92 y_Im_setLink ∈ lw_gd := tw_mem (i := 289) (by decide +kernel) rfl
theorem ml_Tr_82 : Cond.methodLink R_Tr 82 y_Im_addSize ∈ lw_gd := tw_mem (i := 290) (by decide +kernel) rfl
theorem im_Im_addSize : Cond.instanceMethod y_Im_addSize ∈ lw_gd := tw_mem (i := 291) (by decide +kernel) rfl
theorem se_Im_addSize : Cond.selects R_Im y_Im_addSize y_Im_addSize ∈ lw_gd := tw_mem (i := 292) (by decide +kernel) rfl
theorem cd_Im_addSize : Cond.code y_Im_addSize b_Im_addSize 3 none ∈ lw_gd := tw_mem (i := 293) (by decide +kernel) rfl
theorem ml_Tp_97 : Cond.methodLink R_Tp 97 y_Im_setByte ∈ lw_gd := tw_mem (i := 294) (by decide +kernel) rfl
theorem ml_Lw_37 : Cond.methodLink R_Lw 37 y_Tp_read ∈ lw_gd := tw_mem (i := 295) (by decide +kernel) rfl
theorem im_Tp_read : Cond.instanceMethod y_Tp_read ∈ lw_gd := tw_mem (i := 296) (by decide +kernel) rfl
theorem se_Tp_read : Cond.selects R_Tp y_Tp_read y_Tp_read ∈ lw_gd := tw_mem (i := 297) (by decide +kernel) rfl
theorem cd_Tp_read : Cond.code y_Tp_read b_Tp_read 5 (some .int) ∈ lw_gd := tw_mem (i := 298) (by decide +kernel) rfl
theorem ml_Tp_101 : Cond.methodLink R_Tp 101 y_Im_byteAt ∈ lw_gd := tw_mem (i := 299) (by decide +kernel) rfl
theorem ml_Lw_42 : Cond.methodLink R_Lw 42 y_Tp_trim ∈ lw_gd := tw_mem (i := 300) (by decide +kernel) rfl
theorem im_Tp_trim : Cond.instanceMethod y_Tp_trim ∈ lw_gd := tw_mem (i := 301) (by decide +kernel) rfl
theorem se_Tp_trim : Cond.selects R_Tp y_Tp_trim y_Tp_trim ∈ lw_gd := tw_mem (i := 302) (by decide +kernel) rfl
theorem cd_Tp_trim : Cond.code y_Tp_trim b_Tp_trim 6 (some .int) ∈ lw_gd := tw_mem (i := 303) (by decide +kernel) rfl
theorem ml_Tp_104 : Cond.methodLink R_Tp 104 y_Tr_dropPiece ∈ lw_gd := tw_mem (i := 304) (by decide +kernel) rfl
theorem im_Tr_dropPiece : Cond.instanceMethod y_Tr_dropPiece ∈ lw_gd := tw_mem (i := 305) (by decide +kernel) rfl
theorem se_Tr_dropPiece : Cond.selects R_Tr y_Tr_dropPiece y_Tr_dropPiece ∈ lw_gd := tw_mem (i := 306) (by decide +kernel) rfl
theorem cd_Tr_dropPiece : Cond.code y_Tr_dropPiece b_Tr_dropPiece 5 none ∈ lw_gd := tw_mem (i := 307) (by decide +kernel) rfl
theorem ml_Tr_85 : Cond.methodLink R_Tr 85 y_Tr_dropLink ∈ lw_gd := tw_mem (i := 308) (by decide +kernel) rfl
theorem im_Tr_dropLink : Cond.instanceMethod y_Tr_dropLink ∈ lw_gd := tw_mem (i := 310) (by decide +kernel) rfl
theorem cd_Tr_dropLink : Cond.code y_Tr_dropLink b_Tr_dropLink 4 none ∈ lw_gd := tw_mem (i := 311) (by decide +kernel) rfl
theorem ml_Lw_46 : Cond.methodLink R_Lw 46 y_Tp_pieces ∈ lw_gd := tw_mem (i := 312) (by decide +kernel) rfl
theorem im_Tp_pieces : Cond.instanceMethod y_Tp_pieces ∈ lw_gd := tw_mem (i := 313) (by decide +kernel) rfl
theorem se_Tp_pieces : Cond.selects R_Tp y_Tp_pieces y_Tp_pieces ∈ lw_gd := tw_mem (i := 314) (by decide +kernel) rfl
theorem cd_Tp_pieces : Cond.code y_Tp_pieces b_Tp_pieces 2 (some .int) ∈ lw_gd := tw_mem (i := 315) (by decide +kernel) rfl
theorem ml_Lw_50 : Cond.methodLink R_Lw 50 y_Tp_next ∈ lw_gd := tw_mem (i := 316) (by decide +kernel) rfl
theorem im_Tp_next : Cond.instanceMethod y_Tp_next ∈ lw_gd := tw_mem (i := 317) (by decide +kernel) rfl
theorem se_Tp_next : Cond.selects R_Tp y_Tp_next y_Tp_next ∈ lw_gd := tw_mem (i := 318) (by decide +kernel) rfl
theorem cd_Tp_next : Cond.code y_Tp_next b_Tp_next 4 (some .int) ∈ lw_gd := tw_mem (i := 319) (by decide +kernel) rfl
theorem ml_Lw_54 : Cond.methodLink R_Lw 54 y_Tp_shared ∈ lw_gd := tw_mem (i := 320) (by decide +kernel) rfl
theorem im_Tp_shared : Cond.instanceMethod y_Tp_shared ∈ lw_gd := tw_mem (i := 321) (by decide +kernel) rfl
theorem se_Tp_shared : Cond.selects R_Tp y_Tp_shared y_Tp_shared ∈ lw_gd := tw_mem (i := 322) (by decide +kernel) rfl
theorem cd_Tp_shared : Cond.code y_Tp_shared b_Tp_shared 5 (some .int) ∈ lw_gd := tw_mem (i := 323) (by decide +kernel) rfl
theorem ml_Lw_58 : Cond.methodLink R_Lw 58 y_Tp_tell ∈ lw_gd := tw_mem (i := 324) (by decide +kernel) rfl
theorem im_Tp_tell : Cond.instanceMethod y_Tp_tell ∈ lw_gd := tw_mem (i := 325) (by decide +kernel) rfl
theorem se_Tp_tell : Cond.selects R_Tp y_Tp_tell y_Tp_tell ∈ lw_gd := tw_mem (i := 326) (by decide +kernel) rfl
theorem cd_Tp_tell : Cond.code y_Tp_tell b_Tp_tell 4 (some .int) ∈ lw_gd := tw_mem (i := 327) (by decide +kernel) rfl
theorem ml_Tp_107 : Cond.methodLink R_Tp 107 y_Tp_isNote ∈ lw_gd := tw_mem (i := 328) (by decide +kernel) rfl
theorem st_Tp_isNote : Cond.static y_Tp_isNote ∈ lw_gd := tw_mem (i := 329) (by decide +kernel) rfl
theorem cd_Tp_isNote : Cond.code y_Tp_isNote b_Tp_isNote 1 (some .boolean) ∈ lw_gd := tw_mem (i := 330) (by decide +kernel) rfl
theorem ml_Tp_113 : Cond.methodLink R_Tp 113 y_Tb_noteAt ∈ lw_gd := tw_mem (i := 331) (by decide +kernel) rfl
theorem im_Tb_noteAt : Cond.instanceMethod y_Tb_noteAt ∈ lw_gd := tw_mem (i := 332) (by decide +kernel) rfl
theorem se_Tb_noteAt : Cond.selects R_Tb y_Tb_noteAt y_Tb_noteAt ∈ lw_gd := tw_mem (i := 333) (by decide +kernel) rfl
theorem cd_Tb_noteAt : Cond.code y_Tb_noteAt b_Tb_noteAt 2 (some .int) ∈ lw_gd := tw_mem (i := 334) (by decide +kernel) rfl
theorem ml_Tp_116 : Cond.methodLink R_Tp 116 y_Tb_setNote ∈ lw_gd := tw_mem (i := 335) (by decide +kernel) rfl
theorem im_Tb_setNote : Cond.instanceMethod y_Tb_setNote ∈ lw_gd := tw_mem (i := 336) (by decide +kernel) rfl
theorem se_Tb_setNote : Cond.selects R_Tb y_Tb_setNote y_Tb_setNote ∈ lw_gd := tw_mem (i := 337) (by decide +kernel) rfl
theorem cd_Tb_setNote : Cond.code y_Tb_setNote b_Tb_setNote 3 none ∈ lw_gd := tw_mem (i := 338) (by decide +kernel) rfl
theorem ml_Lw_62 : Cond.methodLink R_Lw 62 y_Tp_told ∈ lw_gd := tw_mem (i := 339) (by decide +kernel) rfl
theorem im_Tp_told : Cond.instanceMethod y_Tp_told ∈ lw_gd := tw_mem (i := 340) (by decide +kernel) rfl
theorem se_Tp_told : Cond.selects R_Tp y_Tp_told y_Tp_told ∈ lw_gd := tw_mem (i := 341) (by decide +kernel) rfl
theorem cd_Tp_told : Cond.code y_Tp_told b_Tp_told 2 (some .int) ∈ lw_gd := tw_mem (i := 342) (by decide +kernel) rfl
theorem ml_Lw_68 : Cond.methodLink R_Lw 68 y_Tp_keep ∈ lw_gd := tw_mem (i := 343) (by decide +kernel) rfl
theorem im_Tp_keep : Cond.instanceMethod y_Tp_keep ∈ lw_gd := tw_mem (i := 344) (by decide +kernel) rfl
theorem se_Tp_keep : Cond.selects R_Tp y_Tp_keep y_Tp_keep ∈ lw_gd := tw_mem (i := 345) (by decide +kernel) rfl
theorem cd_Tp_keep : Cond.code y_Tp_keep b_Tp_keep 4 (some .int) ∈ lw_gd := tw_mem (i := 346) (by decide +kernel) rfl
theorem ml_Tp_119 : Cond.methodLink R_Tp 119 y_Tp_writeBlocks ∈ lw_gd := tw_mem (i := 347) (by decide +kernel) rfl
theorem im_Tp_writeBlocks : Cond.instanceMethod y_Tp_writeBlocks ∈ lw_gd := tw_mem (i := 349) (by decide +kernel) rfl
theorem cd_Tp_writeBlocks : Cond.code y_Tp_writeBlocks b_Tp_writeBlocks 7 none ∈ lw_gd := tw_mem (i := 350) (by decide +kernel) rfl
theorem ml_Tp_180 : Cond.methodLink R_Tp 180 y_Tr_isNew ∈ lw_gd := tw_mem (i := 351) (by decide +kernel) rfl
theorem im_Tr_isNew : Cond.instanceMethod y_Tr_isNew ∈ lw_gd := tw_mem (i := 352) (by decide +kernel) rfl
theorem se_Tr_isNew : Cond.selects R_Tr y_Tr_isNew y_Tr_isNew ∈ lw_gd := tw_mem (i := 353) (by decide +kernel) rfl
theorem cd_Tr_isNew : Cond.code y_Tr_isNew b_Tr_isNew 2 (some .boolean) ∈ lw_gd := tw_mem (i := 354) (by decide +kernel) rfl
theorem ml_Tp_183 : Cond.methodLink R_Tp 183 y_Tp_partDown ∈ lw_gd := tw_mem (i := 355) (by decide +kernel) rfl
theorem st_Tp_partDown : Cond.static y_Tp_partDown ∈ lw_gd := tw_mem (i := 356) (by decide +kernel) rfl
theorem cd_Tp_partDown : Cond.code y_Tp_partDown b_Tp_partDown 4 (some .int) ∈ lw_gd := tw_mem (i := 357) (by decide +kernel) rfl
theorem ml_Tp_187 : Cond.methodLink R_Tp 187 y_Im_receive ∈ lw_gd := tw_mem (i := 358) (by decide +kernel) rfl
theorem im_Im_receive : Cond.instanceMethod y_Im_receive ∈ lw_gd := tw_mem (i := 359) (by decide +kernel) rfl
theorem se_Im_receive : Cond.selects R_Im y_Im_receive y_Im_receive ∈ lw_gd := tw_mem (i := 360) (by decide +kernel) rfl
theorem cd_Im_receive : Cond.code y_Im_receive b_Im_receive 7 none ∈ lw_gd := tw_mem (i := 361) (by decide +kernel) rfl
theorem ml_Tp_129 : Cond.methodLink R_Tp 129 y_Tp_otherHead ∈ lw_gd := tw_mem (i := 362) (by decide +kernel) rfl
theorem im_Tp_otherHead : Cond.instanceMethod y_Tp_otherHead ∈ lw_gd := tw_mem (i := 364) (by decide +kernel) rfl
theorem cd_Tp_otherHead : Cond.code y_Tp_otherHead b_Tp_otherHead 1 (some .int) ∈ lw_gd := tw_mem (i := 365) (by decide +kernel) rfl
theorem ml_Tp_191 : Cond.methodLink R_Tp 191 y_Tb_startOf ∈ lw_gd := tw_mem (i := 366) (by decide +kernel) rfl
theorem ml_Tp_123 : Cond.methodLink R_Tp 123 y_Tp_losePower ∈ lw_gd := tw_mem (i := 367) (by decide +kernel) rfl
theorem im_Tp_losePower : Cond.instanceMethod y_Tp_losePower ∈ lw_gd := tw_mem (i := 369) (by decide +kernel) rfl
theorem cd_Tp_losePower : Cond.code y_Tp_losePower b_Tp_losePower 1 none ∈ lw_gd := tw_mem (i := 370) (by decide +kernel) rfl
theorem ml_Tp_168 : Cond.methodLink R_Tp 168 y_Im_forgetAll ∈ lw_gd := tw_mem (i := 371) (by decide +kernel) rfl
theorem im_Im_forgetAll : Cond.instanceMethod y_Im_forgetAll ∈ lw_gd := tw_mem (i := 372) (by decide +kernel) rfl
theorem se_Im_forgetAll : Cond.selects R_Im y_Im_forgetAll y_Im_forgetAll ∈ lw_gd := tw_mem (i := 373) (by decide +kernel) rfl
theorem cd_Im_forgetAll : Cond.code y_Im_forgetAll b_Im_forgetAll 1 none ∈ lw_gd := tw_mem (i := 374) (by decide +kernel) rfl
theorem ml_Im_30 : Cond.methodLink R_Im 30 y_Ar_fillJ ∈ lw_gd := tw_mem (i := 375) (by decide +kernel) rfl
theorem st_Ar_fillJ : Cond.static y_Ar_fillJ ∈ lw_gd := tw_mem (i := 376) (by decide +kernel) rfl
theorem cd_Ar_fillJ : Cond.code y_Ar_fillJ b_Ar_fillJ 5 none ∈ lw_gd := tw_mem (i := 377) (by decide +kernel) rfl
theorem ml_Tp_126 : Cond.methodLink R_Tp 126 y_Tp_writeOtherHead ∈ lw_gd := tw_mem (i := 378) (by decide +kernel) rfl
theorem im_Tp_writeOtherHead : Cond.instanceMethod y_Tp_writeOtherHead ∈ lw_gd := tw_mem (i := 380) (by decide +kernel) rfl
theorem cd_Tp_writeOtherHead : Cond.code y_Tp_writeOtherHead b_Tp_writeOtherHead 4 none ∈ lw_gd := tw_mem (i := 381) (by decide +kernel) rfl
theorem ml_Tp_144 : Cond.methodLink R_Tp 144 y_Tp_keptNumber ∈ lw_gd := tw_mem (i := 382) (by decide +kernel) rfl
theorem im_Tp_keptNumber : Cond.instanceMethod y_Tp_keptNumber ∈ lw_gd := tw_mem (i := 384) (by decide +kernel) rfl
theorem cd_Tp_keptNumber : Cond.code y_Tp_keptNumber b_Tp_keptNumber 1 (some .int) ∈ lw_gd := tw_mem (i := 385) (by decide +kernel) rfl
theorem ml_Tp_175 : Cond.methodLink R_Tp 175 y_Im_wordAt ∈ lw_gd := tw_mem (i := 386) (by decide +kernel) rfl
theorem ml_Lw_73 : Cond.methodLink R_Lw 73 y_Tp_fail ∈ lw_gd := tw_mem (i := 387) (by decide +kernel) rfl
theorem im_Tp_fail : Cond.instanceMethod y_Tp_fail ∈ lw_gd := tw_mem (i := 388) (by decide +kernel) rfl
theorem se_Tp_fail : Cond.selects R_Tp y_Tp_fail y_Tp_fail ∈ lw_gd := tw_mem (i := 389) (by decide +kernel) rfl
theorem cd_Tp_fail : Cond.code y_Tp_fail b_Tp_fail 1 (some .int) ∈ lw_gd := tw_mem (i := 390) (by decide +kernel) rfl
theorem ml_Lw_77 : Cond.methodLink R_Lw 77 y_Tp_mount ∈ lw_gd := tw_mem (i := 391) (by decide +kernel) rfl
theorem im_Tp_mount : Cond.instanceMethod y_Tp_mount ∈ lw_gd := tw_mem (i := 392) (by decide +kernel) rfl
theorem se_Tp_mount : Cond.selects R_Tp y_Tp_mount y_Tp_mount ∈ lw_gd := tw_mem (i := 393) (by decide +kernel) rfl
theorem cd_Tp_mount : Cond.code y_Tp_mount b_Tp_mount 1 (some .int) ∈ lw_gd := tw_mem (i := 394) (by decide +kernel) rfl
theorem ml_Tp_138 : Cond.methodLink R_Tp 138 y_Tp_newerHead ∈ lw_gd := tw_mem (i := 395) (by decide +kernel) rfl
theorem im_Tp_newerHead : Cond.instanceMethod y_Tp_newerHead ∈ lw_gd := tw_mem (i := 397) (by decide +kernel) rfl
theorem cd_Tp_newerHead : Cond.code y_Tp_newerHead b_Tp_newerHead 1 (some .int) ∈ lw_gd := tw_mem (i := 398) (by decide +kernel) rfl
theorem ml_Lw_81 : Cond.methodLink R_Lw 81 y_Tp_count ∈ lw_gd := tw_mem (i := 399) (by decide +kernel) rfl
theorem im_Tp_count : Cond.instanceMethod y_Tp_count ∈ lw_gd := tw_mem (i := 400) (by decide +kernel) rfl
theorem se_Tp_count : Cond.selects R_Tp y_Tp_count y_Tp_count ∈ lw_gd := tw_mem (i := 401) (by decide +kernel) rfl
theorem cd_Tp_count : Cond.code y_Tp_count b_Tp_count 2 (some .int) ∈ lw_gd := tw_mem (i := 402) (by decide +kernel) rfl
theorem ml_Tp_141 : Cond.methodLink R_Tp 141 y_Tp_countVolumes ∈ lw_gd := tw_mem (i := 403) (by decide +kernel) rfl
theorem im_Tp_countVolumes : Cond.instanceMethod y_Tp_countVolumes ∈ lw_gd := tw_mem (i := 405) (by decide +kernel) rfl
theorem cd_Tp_countVolumes : Cond.code y_Tp_countVolumes b_Tp_countVolumes 3 (some .int) ∈ lw_gd := tw_mem (i := 406) (by decide +kernel) rfl
theorem ml_Lw_85 : Cond.methodLink R_Lw 85 y_Tp_check ∈ lw_gd := tw_mem (i := 407) (by decide +kernel) rfl
theorem im_Tp_check : Cond.instanceMethod y_Tp_check ∈ lw_gd := tw_mem (i := 408) (by decide +kernel) rfl
theorem se_Tp_check : Cond.selects R_Tp y_Tp_check y_Tp_check ∈ lw_gd := tw_mem (i := 409) (by decide +kernel) rfl
theorem cd_Tp_check : Cond.code y_Tp_check b_Tp_check 2 (some .int) ∈ lw_gd := tw_mem (i := 410) (by decide +kernel) rfl
theorem ml_Tp_147 : Cond.methodLink R_Tp 147 y_Au_firstFault ∈ lw_gd := tw_mem (i := 411) (by decide +kernel) rfl
theorem im_Au_firstFault : Cond.instanceMethod y_Au_firstFault ∈ lw_gd := tw_mem (i := 412) (by decide +kernel) rfl
theorem se_Au_firstFault : Cond.selects R_Au y_Au_firstFault y_Au_firstFault ∈ lw_gd := tw_mem (i := 413) (by decide +kernel) rfl
theorem cd_Au_firstFault : Cond.code y_Au_firstFault b_Au_firstFault 5 (some .int) ∈ lw_gd := tw_mem (i := 414) (by decide +kernel) rfl
theorem ml_Au_15 : Cond.methodLink R_Au 15 y_Ar_fillI ∈ lw_gd := tw_mem (i := 415) (by decide +kernel) rfl
theorem st_Ar_fillI : Cond.static y_Ar_fillI ∈ lw_gd := tw_mem (i := 416) (by decide +kernel) rfl
theorem cd_Ar_fillI : Cond.code y_Ar_fillI b_Ar_fillI 4 none ∈ lw_gd := tw_mem (i := 417) (by decide +kernel) rfl
theorem ml_Au_21 : Cond.methodLink R_Au 21 y_Tb_rootOf ∈ lw_gd := tw_mem (i := 418) (by decide +kernel) rfl
theorem ml_Au_27 : Cond.methodLink R_Au 27 y_Au_visit ∈ lw_gd := tw_mem (i := 419) (by decide +kernel) rfl
theorem im_Au_visit : Cond.instanceMethod y_Au_visit ∈ lw_gd := tw_mem (i := 421) (by decide +kernel) rfl
theorem cd_Au_visit : Cond.code y_Au_visit b_Au_visit 6 (some .int) ∈ lw_gd := tw_mem (i := 422) (by decide +kernel) rfl
theorem kc_Au_31 : Cond.constant R_Au 31 (65536) ∈ lw_gd := tw_mem (i := 423) (by decide +kernel) rfl
theorem ml_Au_35 : Cond.methodLink R_Au 35 y_Au_visitLinks ∈ lw_gd := tw_mem (i := 424) (by decide +kernel) rfl
theorem im_Au_visitLinks : Cond.instanceMethod y_Au_visitLinks ∈ lw_gd := tw_mem (i := 426) (by decide +kernel) rfl
theorem cd_Au_visitLinks : Cond.code y_Au_visitLinks b_Au_visitLinks 8 (some .int) ∈ lw_gd := tw_mem (i := 427) (by decide +kernel) rfl
theorem ml_Au_38 : Cond.methodLink R_Au 38 y_Tr_linksOf ∈ lw_gd := tw_mem (i := 428) (by decide +kernel) rfl
theorem ml_Au_43 : Cond.methodLink R_Au 43 y_Im_linkAt ∈ lw_gd := tw_mem (i := 429) (by decide +kernel) rfl
theorem ml_Au_49 : Cond.methodLink R_Au 49 y_Im_sizeAt ∈ lw_gd := tw_mem (i := 430) (by decide +kernel) rfl
theorem ml_Au_32 : Cond.methodLink R_Au 32 y_Tb_waysTo ∈ lw_gd := tw_mem (i := 431) (by decide +kernel) rfl
theorem ml_Tp_154 : Cond.methodLink R_Tp 154 y_Tp_tablesDown ∈ lw_gd := tw_mem (i := 432) (by decide +kernel) rfl
theorem im_Tp_tablesDown : Cond.instanceMethod y_Tp_tablesDown ∈ lw_gd := tw_mem (i := 434) (by decide +kernel) rfl
theorem cd_Tp_tablesDown : Cond.code y_Tp_tablesDown b_Tp_tablesDown 1 (some (.object "ThinPool$Tables")) ∈ lw_gd := tw_mem (i := 435) (by decide +kernel) rfl
theorem cl_Lw_10 : Cond.classLink R_Lw 10 R_Mo ∈ lw_gd := tw_mem (i := 436) (by decide +kernel) rfl
theorem it_Mo : Cond.instantiable R_Mo 9 ∈ lw_gd := tw_mem (i := 437) (by decide +kernel) rfl
theorem ml_Lw_12 : Cond.methodLink R_Lw 12 y_Mo_init ∈ lw_gd := tw_mem (i := 438) (by decide +kernel) rfl
theorem im_Mo_init : Cond.instanceMethod y_Mo_init ∈ lw_gd := tw_mem (i := 439) (by decide +kernel) rfl
theorem cd_Mo_init : Cond.code y_Mo_init b_Mo_init 1 none ∈ lw_gd := tw_mem (i := 440) (by decide +kernel) rfl
theorem ml_Mo_1 : Cond.methodLink R_Mo 1 objectInit ∈ lw_gd := tw_mem (i := 441) (by decide +kernel) rfl
theorem kc_Mo_23 : Cond.constant R_Mo 23 (76800) ∈ lw_gd := tw_mem (i := 442) (by decide +kernel) rfl
theorem ml_Mo_31 : Cond.methodLink R_Mo 31 y_Mo_begin ∈ lw_gd := tw_mem (i := 443) (by decide +kernel) rfl
theorem im_Mo_begin : Cond.instanceMethod y_Mo_begin ∈ lw_gd := tw_mem (i := 445) (by decide +kernel) rfl
theorem cd_Mo_begin : Cond.code y_Mo_begin b_Mo_begin 2 none ∈ lw_gd := tw_mem (i := 446) (by decide +kernel) rfl
theorem fl_Mo_7 : Cond.fieldLink R_Mo 7 "ThinPoolModel" "there" "[Z" ∈ lw_gd := tw_mem (i := 447) (by decide +kernel) rfl
theorem fl_Mo_13 : Cond.fieldLink R_Mo 13 "ThinPoolModel" "places" "[I" ∈ lw_gd := tw_mem (i := 448) (by decide +kernel) rfl
theorem fl_Mo_17 : Cond.fieldLink R_Mo 17 "ThinPoolModel" "marks" "[I" ∈ lw_gd := tw_mem (i := 449) (by decide +kernel) rfl
theorem fl_Mo_20 : Cond.fieldLink R_Mo 20 "ThinPoolModel" "notes" "[I" ∈ lw_gd := tw_mem (i := 450) (by decide +kernel) rfl
theorem fl_Mo_24 : Cond.fieldLink R_Mo 24 "ThinPoolModel" "bytes" "[B" ∈ lw_gd := tw_mem (i := 451) (by decide +kernel) rfl
theorem fl_Mo_28 : Cond.fieldLink R_Mo 28 "ThinPoolModel" "used" "[Z" ∈ lw_gd := tw_mem (i := 452) (by decide +kernel) rfl
theorem fl_Mo_64 : Cond.fieldLink R_Mo 64 "ThinPoolModel" "marked" "I" ∈ lw_gd := tw_mem (i := 453) (by decide +kernel) rfl
theorem fl_Mo_34 : Cond.fieldLink R_Mo 34 "ThinPoolModel" "kept" "I" ∈ lw_gd := tw_mem (i := 454) (by decide +kernel) rfl
theorem fl_Mo_38 : Cond.fieldLink R_Mo 38 "ThinPoolModel" "off" "Z" ∈ lw_gd := tw_mem (i := 455) (by decide +kernel) rfl
theorem ac_boolean : Cond.arrayClass .boolean ∈ lw_gd := tw_mem (i := 475) (by decide +kernel) rfl
theorem ac_byte : Cond.arrayClass .byte ∈ lw_gd := tw_mem (i := 476) (by decide +kernel) rfl
theorem ml_Lw_17 : Cond.methodLink R_Lw 17 y_Mo_lay ∈ lw_gd := tw_mem (i := 477) (by decide +kernel) rfl
theorem im_Mo_lay : Cond.instanceMethod y_Mo_lay ∈ lw_gd := tw_mem (i := 478) (by decide +kernel) rfl
theorem se_Mo_lay : Cond.selects R_Mo y_Mo_lay y_Mo_lay ∈ lw_gd := tw_mem (i := 479) (by decide +kernel) rfl
theorem cd_Mo_lay : Cond.code y_Mo_lay b_Mo_lay 1 (some .int) ∈ lw_gd := tw_mem (i := 480) (by decide +kernel) rfl
theorem ml_Lw_22 : Cond.methodLink R_Lw 22 y_Mo_make ∈ lw_gd := tw_mem (i := 481) (by decide +kernel) rfl
theorem im_Mo_make : Cond.instanceMethod y_Mo_make ∈ lw_gd := tw_mem (i := 482) (by decide +kernel) rfl
theorem se_Mo_make : Cond.selects R_Mo y_Mo_make y_Mo_make ∈ lw_gd := tw_mem (i := 483) (by decide +kernel) rfl
theorem cd_Mo_make : Cond.code y_Mo_make b_Mo_make 2 (some .int) ∈ lw_gd := tw_mem (i := 484) (by decide +kernel) rfl
theorem ml_Lw_27 : Cond.methodLink R_Lw 27 y_Mo_snap ∈ lw_gd := tw_mem (i := 485) (by decide +kernel) rfl
theorem im_Mo_snap : Cond.instanceMethod y_Mo_snap ∈ lw_gd := tw_mem (i := 486) (by decide +kernel) rfl
theorem se_Mo_snap : Cond.selects R_Mo y_Mo_snap y_Mo_snap ∈ lw_gd := tw_mem (i := 487) (by decide +kernel) rfl
theorem cd_Mo_snap : Cond.code y_Mo_snap b_Mo_snap 8 (some .int) ∈ lw_gd := tw_mem (i := 488) (by decide +kernel) rfl
theorem ml_Mo_46 : Cond.methodLink R_Mo 46 y_Mo_isThere ∈ lw_gd := tw_mem (i := 489) (by decide +kernel) rfl
theorem im_Mo_isThere : Cond.instanceMethod y_Mo_isThere ∈ lw_gd := tw_mem (i := 491) (by decide +kernel) rfl
theorem cd_Mo_isThere : Cond.code y_Mo_isThere b_Mo_isThere 2 (some .boolean) ∈ lw_gd := tw_mem (i := 492) (by decide +kernel) rfl
theorem ml_Mo_42 : Cond.methodLink R_Mo 42 y_Mo_many ∈ lw_gd := tw_mem (i := 493) (by decide +kernel) rfl
theorem im_Mo_many : Cond.instanceMethod y_Mo_many ∈ lw_gd := tw_mem (i := 495) (by decide +kernel) rfl
theorem cd_Mo_many : Cond.code y_Mo_many b_Mo_many 4 (some .int) ∈ lw_gd := tw_mem (i := 496) (by decide +kernel) rfl
theorem ml_Mo_50 : Cond.methodLink R_Mo 50 y_Mo_all ∈ lw_gd := tw_mem (i := 497) (by decide +kernel) rfl
theorem im_Mo_all : Cond.instanceMethod y_Mo_all ∈ lw_gd := tw_mem (i := 499) (by decide +kernel) rfl
theorem cd_Mo_all : Cond.code y_Mo_all b_Mo_all 3 (some .int) ∈ lw_gd := tw_mem (i := 500) (by decide +kernel) rfl
theorem ml_Mo_54 : Cond.methodLink R_Mo 54 y_Mo_fresh ∈ lw_gd := tw_mem (i := 501) (by decide +kernel) rfl
theorem im_Mo_fresh : Cond.instanceMethod y_Mo_fresh ∈ lw_gd := tw_mem (i := 503) (by decide +kernel) rfl
theorem cd_Mo_fresh : Cond.code y_Mo_fresh b_Mo_fresh 3 (some .int) ∈ lw_gd := tw_mem (i := 504) (by decide +kernel) rfl
theorem ml_Lw_31 : Cond.methodLink R_Lw 31 y_Mo_remove ∈ lw_gd := tw_mem (i := 505) (by decide +kernel) rfl
theorem im_Mo_remove : Cond.instanceMethod y_Mo_remove ∈ lw_gd := tw_mem (i := 506) (by decide +kernel) rfl
theorem se_Mo_remove : Cond.selects R_Mo y_Mo_remove y_Mo_remove ∈ lw_gd := tw_mem (i := 507) (by decide +kernel) rfl
theorem cd_Mo_remove : Cond.code y_Mo_remove b_Mo_remove 4 (some .int) ∈ lw_gd := tw_mem (i := 508) (by decide +kernel) rfl
theorem ml_Mo_57 : Cond.methodLink R_Mo 57 y_Mo_clear ∈ lw_gd := tw_mem (i := 509) (by decide +kernel) rfl
theorem im_Mo_clear : Cond.instanceMethod y_Mo_clear ∈ lw_gd := tw_mem (i := 511) (by decide +kernel) rfl
theorem cd_Mo_clear : Cond.code y_Mo_clear b_Mo_clear 2 none ∈ lw_gd := tw_mem (i := 512) (by decide +kernel) rfl
theorem ml_Lw_36 : Cond.methodLink R_Lw 36 y_Mo_write ∈ lw_gd := tw_mem (i := 513) (by decide +kernel) rfl
theorem im_Mo_write : Cond.instanceMethod y_Mo_write ∈ lw_gd := tw_mem (i := 514) (by decide +kernel) rfl
theorem se_Mo_write : Cond.selects R_Mo y_Mo_write y_Mo_write ∈ lw_gd := tw_mem (i := 515) (by decide +kernel) rfl
theorem cd_Mo_write : Cond.code y_Mo_write b_Mo_write 8 (some .int) ∈ lw_gd := tw_mem (i := 516) (by decide +kernel) rfl
theorem ml_Mo_61 : Cond.methodLink R_Mo 61 y_Mo_isPiece ∈ lw_gd := tw_mem (i := 517) (by decide +kernel) rfl
theorem st_Mo_isPiece : Cond.static y_Mo_isPiece ∈ lw_gd := tw_mem (i := 518) (by decide +kernel) rfl
theorem cd_Mo_isPiece : Cond.code y_Mo_isPiece b_Mo_isPiece 1 (some .boolean) ∈ lw_gd := tw_mem (i := 519) (by decide +kernel) rfl
theorem ml_Lw_41 : Cond.methodLink R_Lw 41 y_Mo_read ∈ lw_gd := tw_mem (i := 520) (by decide +kernel) rfl
theorem im_Mo_read : Cond.instanceMethod y_Mo_read ∈ lw_gd := tw_mem (i := 521) (by decide +kernel) rfl
theorem se_Mo_read : Cond.selects R_Mo y_Mo_read y_Mo_read ∈ lw_gd := tw_mem (i := 522) (by decide +kernel) rfl
theorem cd_Mo_read : Cond.code y_Mo_read b_Mo_read 5 (some .int) ∈ lw_gd := tw_mem (i := 523) (by decide +kernel) rfl
theorem ml_Lw_45 : Cond.methodLink R_Lw 45 y_Mo_trim ∈ lw_gd := tw_mem (i := 524) (by decide +kernel) rfl
theorem im_Mo_trim : Cond.instanceMethod y_Mo_trim ∈ lw_gd := tw_mem (i := 525) (by decide +kernel) rfl
theorem se_Mo_trim : Cond.selects R_Mo y_Mo_trim y_Mo_trim ∈ lw_gd := tw_mem (i := 526) (by decide +kernel) rfl
theorem cd_Mo_trim : Cond.code y_Mo_trim b_Mo_trim 6 (some .int) ∈ lw_gd := tw_mem (i := 527) (by decide +kernel) rfl
theorem ml_Lw_49 : Cond.methodLink R_Lw 49 y_Mo_pieces ∈ lw_gd := tw_mem (i := 528) (by decide +kernel) rfl
theorem im_Mo_pieces : Cond.instanceMethod y_Mo_pieces ∈ lw_gd := tw_mem (i := 529) (by decide +kernel) rfl
theorem se_Mo_pieces : Cond.selects R_Mo y_Mo_pieces y_Mo_pieces ∈ lw_gd := tw_mem (i := 530) (by decide +kernel) rfl
theorem cd_Mo_pieces : Cond.code y_Mo_pieces b_Mo_pieces 2 (some .int) ∈ lw_gd := tw_mem (i := 531) (by decide +kernel) rfl
theorem ml_Lw_53 : Cond.methodLink R_Lw 53 y_Mo_next ∈ lw_gd := tw_mem (i := 532) (by decide +kernel) rfl
theorem im_Mo_next : Cond.instanceMethod y_Mo_next ∈ lw_gd := tw_mem (i := 533) (by decide +kernel) rfl
theorem se_Mo_next : Cond.selects R_Mo y_Mo_next y_Mo_next ∈ lw_gd := tw_mem (i := 534) (by decide +kernel) rfl
theorem cd_Mo_next : Cond.code y_Mo_next b_Mo_next 4 (some .int) ∈ lw_gd := tw_mem (i := 535) (by decide +kernel) rfl
theorem ml_Lw_57 : Cond.methodLink R_Lw 57 y_Mo_shared ∈ lw_gd := tw_mem (i := 536) (by decide +kernel) rfl
theorem im_Mo_shared : Cond.instanceMethod y_Mo_shared ∈ lw_gd := tw_mem (i := 537) (by decide +kernel) rfl
theorem se_Mo_shared : Cond.selects R_Mo y_Mo_shared y_Mo_shared ∈ lw_gd := tw_mem (i := 538) (by decide +kernel) rfl
theorem cd_Mo_shared : Cond.code y_Mo_shared b_Mo_shared 6 (some .int) ∈ lw_gd := tw_mem (i := 539) (by decide +kernel) rfl
theorem ml_Lw_61 : Cond.methodLink R_Lw 61 y_Mo_tell ∈ lw_gd := tw_mem (i := 540) (by decide +kernel) rfl
theorem im_Mo_tell : Cond.instanceMethod y_Mo_tell ∈ lw_gd := tw_mem (i := 541) (by decide +kernel) rfl
theorem se_Mo_tell : Cond.selects R_Mo y_Mo_tell y_Mo_tell ∈ lw_gd := tw_mem (i := 542) (by decide +kernel) rfl
theorem cd_Mo_tell : Cond.code y_Mo_tell b_Mo_tell 4 (some .int) ∈ lw_gd := tw_mem (i := 543) (by decide +kernel) rfl
theorem ml_Lw_65 : Cond.methodLink R_Lw 65 y_Mo_told ∈ lw_gd := tw_mem (i := 544) (by decide +kernel) rfl
theorem im_Mo_told : Cond.instanceMethod y_Mo_told ∈ lw_gd := tw_mem (i := 545) (by decide +kernel) rfl
theorem se_Mo_told : Cond.selects R_Mo y_Mo_told y_Mo_told ∈ lw_gd := tw_mem (i := 546) (by decide +kernel) rfl
theorem cd_Mo_told : Cond.code y_Mo_told b_Mo_told 2 (some .int) ∈ lw_gd := tw_mem (i := 547) (by decide +kernel) rfl
theorem ml_Lw_72 : Cond.methodLink R_Lw 72 y_Mo_keep ∈ lw_gd := tw_mem (i := 548) (by decide +kernel) rfl
theorem im_Mo_keep : Cond.instanceMethod y_Mo_keep ∈ lw_gd := tw_mem (i := 549) (by decide +kernel) rfl
theorem se_Mo_keep : Cond.selects R_Mo y_Mo_keep y_Mo_keep ∈ lw_gd := tw_mem (i := 550) (by decide +kernel) rfl
theorem cd_Mo_keep : Cond.code y_Mo_keep b_Mo_keep 5 (some .int) ∈ lw_gd := tw_mem (i := 551) (by decide +kernel) rfl
theorem kl_Mo_68 : Cond.constantLong R_Mo 68 (3) ∈ lw_gd := tw_mem (i := 552) (by decide +kernel) rfl
theorem ml_Mo_70 : Cond.methodLink R_Mo 70 y_Mo_copy ∈ lw_gd := tw_mem (i := 553) (by decide +kernel) rfl
theorem im_Mo_copy : Cond.instanceMethod y_Mo_copy ∈ lw_gd := tw_mem (i := 555) (by decide +kernel) rfl
theorem cd_Mo_copy : Cond.code y_Mo_copy b_Mo_copy 5 none ∈ lw_gd := tw_mem (i := 556) (by decide +kernel) rfl
theorem kc_Mo_67 : Cond.constant R_Mo 67 (38400) ∈ lw_gd := tw_mem (i := 557) (by decide +kernel) rfl
theorem ml_Lw_76 : Cond.methodLink R_Lw 76 y_Mo_fail ∈ lw_gd := tw_mem (i := 558) (by decide +kernel) rfl
theorem im_Mo_fail : Cond.instanceMethod y_Mo_fail ∈ lw_gd := tw_mem (i := 559) (by decide +kernel) rfl
theorem se_Mo_fail : Cond.selects R_Mo y_Mo_fail y_Mo_fail ∈ lw_gd := tw_mem (i := 560) (by decide +kernel) rfl
theorem cd_Mo_fail : Cond.code y_Mo_fail b_Mo_fail 1 (some .int) ∈ lw_gd := tw_mem (i := 561) (by decide +kernel) rfl
theorem ml_Lw_80 : Cond.methodLink R_Lw 80 y_Mo_mount ∈ lw_gd := tw_mem (i := 562) (by decide +kernel) rfl
theorem im_Mo_mount : Cond.instanceMethod y_Mo_mount ∈ lw_gd := tw_mem (i := 563) (by decide +kernel) rfl
theorem se_Mo_mount : Cond.selects R_Mo y_Mo_mount y_Mo_mount ∈ lw_gd := tw_mem (i := 564) (by decide +kernel) rfl
theorem cd_Mo_mount : Cond.code y_Mo_mount b_Mo_mount 1 (some .int) ∈ lw_gd := tw_mem (i := 565) (by decide +kernel) rfl
theorem ml_Lw_84 : Cond.methodLink R_Lw 84 y_Mo_count ∈ lw_gd := tw_mem (i := 566) (by decide +kernel) rfl
theorem im_Mo_count : Cond.instanceMethod y_Mo_count ∈ lw_gd := tw_mem (i := 567) (by decide +kernel) rfl
theorem se_Mo_count : Cond.selects R_Mo y_Mo_count y_Mo_count ∈ lw_gd := tw_mem (i := 568) (by decide +kernel) rfl
theorem cd_Mo_count : Cond.code y_Mo_count b_Mo_count 4 (some .int) ∈ lw_gd := tw_mem (i := 569) (by decide +kernel) rfl
theorem ml_Lw_88 : Cond.methodLink R_Lw 88 y_Mo_check ∈ lw_gd := tw_mem (i := 570) (by decide +kernel) rfl
theorem im_Mo_check : Cond.instanceMethod y_Mo_check ∈ lw_gd := tw_mem (i := 571) (by decide +kernel) rfl
theorem se_Mo_check : Cond.selects R_Mo y_Mo_check y_Mo_check ∈ lw_gd := tw_mem (i := 572) (by decide +kernel) rfl
theorem cd_Mo_check : Cond.code y_Mo_check b_Mo_check 1 (some .int) ∈ lw_gd := tw_mem (i := 573) (by decide +kernel) rfl
theorem kl_Lw_66 : Cond.constantLong R_Lw 66 (4294967295) ∈ lw_gd := tw_mem (i := 574) (by decide +kernel) rfl
