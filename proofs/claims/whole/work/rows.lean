section
-- ===== PART A: goes FIRST, ahead of the names: the tables' words, and 'selects' of the private methods out of them =====
/-- a private method of a class that the tables say can be made, by its rows of tables_1 -/
def lw_okq (q : MethodName × Nat) : Prop := (q.1.cls ≠ "java/lang/invoke/MethodHandle" ∧ q.1.cls ≠ "java/lang/invoke/VarHandle") ∧ Cond.instantiable q.1.cls q.2 ∈ tables_1 ∧ Cond.privateMethod q.1 ∈ tables_1 ∧ Cond.instanceMethod q.1 ∈ tables_1
theorem lw_p0 : lw_okq (⟨"ThinPool", "layEmpty", "()V"⟩, 6) := ⟨⟨by decide +kernel, by decide +kernel⟩, List.mem_of_getElem? (i := 10) (by decide +kernel), List.mem_of_getElem? (i := 82) (by decide +kernel), List.mem_of_getElem? (i := 83) (by decide +kernel)⟩
theorem lw_p1 : lw_okq (⟨"ThinPool", "goOnFrom", "(I)V"⟩, 6) := ⟨⟨by decide +kernel, by decide +kernel⟩, List.mem_of_getElem? (i := 10) (by decide +kernel), List.mem_of_getElem? (i := 102) (by decide +kernel), List.mem_of_getElem? (i := 103) (by decide +kernel)⟩
theorem lw_p2 : lw_okq (⟨"ThinPool", "isThere", "(I)Z"⟩, 6) := ⟨⟨by decide +kernel, by decide +kernel⟩, List.mem_of_getElem? (i := 10) (by decide +kernel), List.mem_of_getElem? (i := 152) (by decide +kernel), List.mem_of_getElem? (i := 153) (by decide +kernel)⟩
theorem lw_p3 : lw_okq (⟨"ThinPool$Trees", "takeBlank", "()I"⟩, 6) := ⟨⟨by decide +kernel, by decide +kernel⟩, List.mem_of_getElem? (i := 29) (by decide +kernel), List.mem_of_getElem? (i := 169) (by decide +kernel), List.mem_of_getElem? (i := 170) (by decide +kernel)⟩
theorem lw_p4 : lw_okq (⟨"ThinPool$Trees", "take", "()I"⟩, 6) := ⟨⟨by decide +kernel, by decide +kernel⟩, List.mem_of_getElem? (i := 29) (by decide +kernel), List.mem_of_getElem? (i := 173) (by decide +kernel), List.mem_of_getElem? (i := 174) (by decide +kernel)⟩
theorem lw_p5 : lw_okq (⟨"ThinPool$Trees", "addWay", "(I)V"⟩, 6) := ⟨⟨by decide +kernel, by decide +kernel⟩, List.mem_of_getElem? (i := 29) (by decide +kernel), List.mem_of_getElem? (i := 227) (by decide +kernel), List.mem_of_getElem? (i := 228) (by decide +kernel)⟩
theorem lw_p6 : lw_okq (⟨"ThinPool$Trees", "release", "(II)V"⟩, 6) := ⟨⟨by decide +kernel, by decide +kernel⟩, List.mem_of_getElem? (i := 29) (by decide +kernel), List.mem_of_getElem? (i := 239) (by decide +kernel), List.mem_of_getElem? (i := 240) (by decide +kernel)⟩
theorem lw_p7 : lw_okq (⟨"ThinPool$Trees", "ownRoot", "(I)I"⟩, 6) := ⟨⟨by decide +kernel, by decide +kernel⟩, List.mem_of_getElem? (i := 29) (by decide +kernel), List.mem_of_getElem? (i := 268) (by decide +kernel), List.mem_of_getElem? (i := 269) (by decide +kernel)⟩
theorem lw_p8 : lw_okq (⟨"ThinPool$Trees", "own", "(II)I"⟩, 6) := ⟨⟨by decide +kernel, by decide +kernel⟩, List.mem_of_getElem? (i := 29) (by decide +kernel), List.mem_of_getElem? (i := 272) (by decide +kernel), List.mem_of_getElem? (i := 273) (by decide +kernel)⟩
theorem lw_p9 : lw_okq (⟨"ThinPool$Trees", "ownLink", "(III)I"⟩, 6) := ⟨⟨by decide +kernel, by decide +kernel⟩, List.mem_of_getElem? (i := 29) (by decide +kernel), List.mem_of_getElem? (i := 277) (by decide +kernel), List.mem_of_getElem? (i := 278) (by decide +kernel)⟩
theorem lw_p10 : lw_okq (⟨"ThinPool$Trees", "dropLink", "(III)V"⟩, 6) := ⟨⟨by decide +kernel, by decide +kernel⟩, List.mem_of_getElem? (i := 29) (by decide +kernel), List.mem_of_getElem? (i := 300) (by decide +kernel), List.mem_of_getElem? (i := 301) (by decide +kernel)⟩
theorem lw_p11 : lw_okq (⟨"ThinPool", "writeBlocks", "(ZJ)V"⟩, 6) := ⟨⟨by decide +kernel, by decide +kernel⟩, List.mem_of_getElem? (i := 10) (by decide +kernel), List.mem_of_getElem? (i := 339) (by decide +kernel), List.mem_of_getElem? (i := 340) (by decide +kernel)⟩
theorem lw_p12 : lw_okq (⟨"ThinPool", "otherHead", "()I"⟩, 6) := ⟨⟨by decide +kernel, by decide +kernel⟩, List.mem_of_getElem? (i := 10) (by decide +kernel), List.mem_of_getElem? (i := 354) (by decide +kernel), List.mem_of_getElem? (i := 355) (by decide +kernel)⟩
theorem lw_p13 : lw_okq (⟨"ThinPool", "losePower", "()V"⟩, 6) := ⟨⟨by decide +kernel, by decide +kernel⟩, List.mem_of_getElem? (i := 10) (by decide +kernel), List.mem_of_getElem? (i := 359) (by decide +kernel), List.mem_of_getElem? (i := 360) (by decide +kernel)⟩
theorem lw_p14 : lw_okq (⟨"ThinPool", "writeOtherHead", "(ZJ)V"⟩, 6) := ⟨⟨by decide +kernel, by decide +kernel⟩, List.mem_of_getElem? (i := 10) (by decide +kernel), List.mem_of_getElem? (i := 370) (by decide +kernel), List.mem_of_getElem? (i := 371) (by decide +kernel)⟩
theorem lw_p15 : lw_okq (⟨"ThinPool", "keptNumber", "()I"⟩, 6) := ⟨⟨by decide +kernel, by decide +kernel⟩, List.mem_of_getElem? (i := 10) (by decide +kernel), List.mem_of_getElem? (i := 374) (by decide +kernel), List.mem_of_getElem? (i := 375) (by decide +kernel)⟩
def lw_privs_1 : List (MethodName × Nat) := [(⟨"ThinPool", "layEmpty", "()V"⟩, 6), (⟨"ThinPool", "goOnFrom", "(I)V"⟩, 6), (⟨"ThinPool", "isThere", "(I)Z"⟩, 6), (⟨"ThinPool$Trees", "takeBlank", "()I"⟩, 6), (⟨"ThinPool$Trees", "take", "()I"⟩, 6), (⟨"ThinPool$Trees", "addWay", "(I)V"⟩, 6), (⟨"ThinPool$Trees", "release", "(II)V"⟩, 6), (⟨"ThinPool$Trees", "ownRoot", "(I)I"⟩, 6), (⟨"ThinPool$Trees", "own", "(II)I"⟩, 6), (⟨"ThinPool$Trees", "ownLink", "(III)I"⟩, 6), (⟨"ThinPool$Trees", "dropLink", "(III)V"⟩, 6), (⟨"ThinPool", "writeBlocks", "(ZJ)V"⟩, 6), (⟨"ThinPool", "otherHead", "()I"⟩, 6), (⟨"ThinPool", "losePower", "()V"⟩, 6), (⟨"ThinPool", "writeOtherHead", "(ZJ)V"⟩, 6), (⟨"ThinPool", "keptNumber", "()I"⟩, 6)]
theorem lw_r1 : ∀ q ∈ lw_privs_1, lw_okq q := List.forall_mem_cons.mpr ⟨lw_p0, List.forall_mem_cons.mpr ⟨lw_p1, List.forall_mem_cons.mpr ⟨lw_p2, List.forall_mem_cons.mpr ⟨lw_p3, List.forall_mem_cons.mpr ⟨lw_p4, List.forall_mem_cons.mpr ⟨lw_p5, List.forall_mem_cons.mpr ⟨lw_p6, List.forall_mem_cons.mpr ⟨lw_p7, List.forall_mem_cons.mpr ⟨lw_p8, List.forall_mem_cons.mpr ⟨lw_p9, List.forall_mem_cons.mpr ⟨lw_p10, List.forall_mem_cons.mpr ⟨lw_p11, List.forall_mem_cons.mpr ⟨lw_p12, List.forall_mem_cons.mpr ⟨lw_p13, List.forall_mem_cons.mpr ⟨lw_p14, List.forall_mem_cons.mpr ⟨lw_p15, fun _ h => absurd h List.not_mem_nil⟩⟩⟩⟩⟩⟩⟩⟩⟩⟩⟩⟩⟩⟩⟩⟩
theorem lw_p16 : lw_okq (⟨"ThinPool", "newerHead", "()I"⟩, 6) := ⟨⟨by decide +kernel, by decide +kernel⟩, List.mem_of_getElem? (i := 10) (by decide +kernel), List.mem_of_getElem? (i := 387) (by decide +kernel), List.mem_of_getElem? (i := 388) (by decide +kernel)⟩
theorem lw_p17 : lw_okq (⟨"ThinPool", "countVolumes", "()I"⟩, 6) := ⟨⟨by decide +kernel, by decide +kernel⟩, List.mem_of_getElem? (i := 10) (by decide +kernel), List.mem_of_getElem? (i := 395) (by decide +kernel), List.mem_of_getElem? (i := 396) (by decide +kernel)⟩
theorem lw_p18 : lw_okq (⟨"ThinPool$Audit", "visit", "(LThinPool$Image;II)I"⟩, 1) := ⟨⟨by decide +kernel, by decide +kernel⟩, List.mem_of_getElem? (i := 71) (by decide +kernel), List.mem_of_getElem? (i := 411) (by decide +kernel), List.mem_of_getElem? (i := 412) (by decide +kernel)⟩
theorem lw_p19 : lw_okq (⟨"ThinPool$Audit", "visitLinks", "(LThinPool$Image;II)I"⟩, 1) := ⟨⟨by decide +kernel, by decide +kernel⟩, List.mem_of_getElem? (i := 71) (by decide +kernel), List.mem_of_getElem? (i := 416) (by decide +kernel), List.mem_of_getElem? (i := 417) (by decide +kernel)⟩
theorem lw_p20 : lw_okq (⟨"ThinPoolModel", "begin", "()V"⟩, 9) := ⟨⟨by decide +kernel, by decide +kernel⟩, List.mem_of_getElem? (i := 426) (by decide +kernel), List.mem_of_getElem? (i := 433) (by decide +kernel), List.mem_of_getElem? (i := 434) (by decide +kernel)⟩
theorem lw_p21 : lw_okq (⟨"ThinPoolModel", "isThere", "(I)Z"⟩, 9) := ⟨⟨by decide +kernel, by decide +kernel⟩, List.mem_of_getElem? (i := 426) (by decide +kernel), List.mem_of_getElem? (i := 479) (by decide +kernel), List.mem_of_getElem? (i := 480) (by decide +kernel)⟩
theorem lw_p22 : lw_okq (⟨"ThinPoolModel", "many", "(I)I"⟩, 9) := ⟨⟨by decide +kernel, by decide +kernel⟩, List.mem_of_getElem? (i := 426) (by decide +kernel), List.mem_of_getElem? (i := 483) (by decide +kernel), List.mem_of_getElem? (i := 484) (by decide +kernel)⟩
theorem lw_p23 : lw_okq (⟨"ThinPoolModel", "all", "()I"⟩, 9) := ⟨⟨by decide +kernel, by decide +kernel⟩, List.mem_of_getElem? (i := 426) (by decide +kernel), List.mem_of_getElem? (i := 487) (by decide +kernel), List.mem_of_getElem? (i := 488) (by decide +kernel)⟩
theorem lw_p24 : lw_okq (⟨"ThinPoolModel", "fresh", "()I"⟩, 9) := ⟨⟨by decide +kernel, by decide +kernel⟩, List.mem_of_getElem? (i := 426) (by decide +kernel), List.mem_of_getElem? (i := 491) (by decide +kernel), List.mem_of_getElem? (i := 492) (by decide +kernel)⟩
theorem lw_p25 : lw_okq (⟨"ThinPoolModel", "clear", "(I)V"⟩, 9) := ⟨⟨by decide +kernel, by decide +kernel⟩, List.mem_of_getElem? (i := 426) (by decide +kernel), List.mem_of_getElem? (i := 499) (by decide +kernel), List.mem_of_getElem? (i := 500) (by decide +kernel)⟩
theorem lw_p26 : lw_okq (⟨"ThinPoolModel", "copy", "(II)V"⟩, 9) := ⟨⟨by decide +kernel, by decide +kernel⟩, List.mem_of_getElem? (i := 426) (by decide +kernel), List.mem_of_getElem? (i := 543) (by decide +kernel), List.mem_of_getElem? (i := 544) (by decide +kernel)⟩
def lw_privs_2 : List (MethodName × Nat) := [(⟨"ThinPool", "newerHead", "()I"⟩, 6), (⟨"ThinPool", "countVolumes", "()I"⟩, 6), (⟨"ThinPool$Audit", "visit", "(LThinPool$Image;II)I"⟩, 1), (⟨"ThinPool$Audit", "visitLinks", "(LThinPool$Image;II)I"⟩, 1), (⟨"ThinPoolModel", "begin", "()V"⟩, 9), (⟨"ThinPoolModel", "isThere", "(I)Z"⟩, 9), (⟨"ThinPoolModel", "many", "(I)I"⟩, 9), (⟨"ThinPoolModel", "all", "()I"⟩, 9), (⟨"ThinPoolModel", "fresh", "()I"⟩, 9), (⟨"ThinPoolModel", "clear", "(I)V"⟩, 9), (⟨"ThinPoolModel", "copy", "(II)V"⟩, 9)]
theorem lw_r2 : ∀ q ∈ lw_privs_2, lw_okq q := List.forall_mem_cons.mpr ⟨lw_p16, List.forall_mem_cons.mpr ⟨lw_p17, List.forall_mem_cons.mpr ⟨lw_p18, List.forall_mem_cons.mpr ⟨lw_p19, List.forall_mem_cons.mpr ⟨lw_p20, List.forall_mem_cons.mpr ⟨lw_p21, List.forall_mem_cons.mpr ⟨lw_p22, List.forall_mem_cons.mpr ⟨lw_p23, List.forall_mem_cons.mpr ⟨lw_p24, List.forall_mem_cons.mpr ⟨lw_p25, List.forall_mem_cons.mpr ⟨lw_p26, fun _ h => absurd h List.not_mem_nil⟩⟩⟩⟩⟩⟩⟩⟩⟩⟩⟩
def lw_privs : List (MethodName × Nat) := lw_privs_1 ++ (lw_privs_2)
def lw_tbl : List Cond := k2_sels lw_privs ++ tables_1
theorem lw_privs_ok : ∀ q ∈ lw_privs, lw_okq q := by
  show ∀ q ∈ lw_privs_1 ++ (lw_privs_2), lw_okq q
  exact List.forall_mem_append.mpr ⟨lw_r1, lw_r2⟩
/-- the words that a callee may have from its caller (all but those on nest mates) -/
def lw_gd : List Cond := lw_tbl.filter goodWord
theorem tw_tbl {i : Nat} {w : Cond} (h : tables_1[i]? = some w) : w ∈ lw_tbl := List.mem_append_right _ (List.mem_of_getElem? h)
theorem tw_mem {i : Nat} {w : Cond} (h : tables_1[i]? = some w) (hg : goodWord w = true) : w ∈ lw_gd := List.mem_filter.mpr ⟨List.mem_append_right _ (List.mem_of_getElem? h), hg⟩
theorem tw_sel {i : Nat} {w : Cond} (h : (k2_sels lw_privs)[i]? = some w) (hg : goodWord w = true) : w ∈ lw_gd := List.mem_filter.mpr ⟨List.mem_append_left _ (List.mem_of_getElem? h), hg⟩
abbrev R_Tp : String := "ThinPool"
abbrev R_Au : String := "ThinPool$Audit"
abbrev R_Im : String := "ThinPool$Image"
abbrev R_Tb : String := "ThinPool$Tables"
abbrev R_Tr : String := "ThinPool$Trees"
abbrev R_Mo : String := "ThinPoolModel"
abbrev R_Lw : String := "ThinPoolLaw"
abbrev R_Ar : String := "java/util/Arrays"
abbrev R_Ob : String := "java/lang/Object"
def F_Au : u_T := fun k => match k with
  | _ => ("ThinPool$Audit", "met", "[I", true)
def t_Au : Nat → FieldType := fun k => match k with
  | _ => .array .int
theorem n_Au : ∀ a, a < 1 → ∀ b, b < 1 → a ≠ b → (F_Au a).2.1 ≠ (F_Au b).2.1 := by decide +kernel
theorem t_Au_ok : ∀ k, k < 1 → parseFieldDescriptor (F_Au k).2.2.1 = some (t_Au k) := by decide +kernel
theorem i_Au : ∀ w ∈ u_ws R_Au F_Au 1, w ∈ lw_gd := by decide +kernel
def F_Im : u_T := fun k => match k with
  | _ => ("ThinPool$Image", "words", "[J", true)
def t_Im : Nat → FieldType := fun k => match k with
  | _ => .array .long
theorem n_Im : ∀ a, a < 1 → ∀ b, b < 1 → a ≠ b → (F_Im a).2.1 ≠ (F_Im b).2.1 := by decide +kernel
theorem t_Im_ok : ∀ k, k < 1 → parseFieldDescriptor (F_Im k).2.2.1 = some (t_Im k) := by decide +kernel
theorem i_Im : ∀ w ∈ u_ws R_Im F_Im 1, w ∈ lw_gd := by decide +kernel
def F_Tb : u_T := fun k => match k with
  | 0 => ("ThinPool$Tables", "image", "LThinPool$Image;", true)
  | _ => ("ThinPool$Tables", "start", "I", true)
def t_Tb : Nat → FieldType := fun k => match k with
  | 0 => .object "ThinPool$Image"
  | _ => .int
theorem n_Tb : ∀ a, a < 2 → ∀ b, b < 2 → a ≠ b → (F_Tb a).2.1 ≠ (F_Tb b).2.1 := by decide +kernel
theorem t_Tb_ok : ∀ k, k < 2 → parseFieldDescriptor (F_Tb k).2.2.1 = some (t_Tb k) := by decide +kernel
theorem i_Tb : ∀ w ∈ u_ws R_Tb F_Tb 2, w ∈ lw_gd := by decide +kernel
def F_Tr : u_T := fun k => match k with
  | 0 => ("ThinPool$Trees", "image", "LThinPool$Image;", true)
  | 1 => ("ThinPool$Trees", "ofFirstHead", "LThinPool$Tables;", true)
  | 2 => ("ThinPool$Trees", "ofSecondHead", "LThinPool$Tables;", true)
  | 3 => ("ThinPool$Trees", "now", "LThinPool$Tables;", false)
  | 4 => ("ThinPool$Trees", "kept", "LThinPool$Tables;", false)
  | _ => ("ThinPool$Trees", "hand", "I", false)
def t_Tr : Nat → FieldType := fun k => match k with
  | 0 => .object "ThinPool$Image"
  | 1 => .object "ThinPool$Tables"
  | 2 => .object "ThinPool$Tables"
  | 3 => .object "ThinPool$Tables"
  | 4 => .object "ThinPool$Tables"
  | _ => .int
theorem n_Tr : ∀ a, a < 6 → ∀ b, b < 6 → a ≠ b → (F_Tr a).2.1 ≠ (F_Tr b).2.1 := by decide +kernel
theorem t_Tr_ok : ∀ k, k < 6 → parseFieldDescriptor (F_Tr k).2.2.1 = some (t_Tr k) := by decide +kernel
theorem i_Tr : ∀ w ∈ u_ws R_Tr F_Tr 6, w ∈ lw_gd := by decide +kernel
def F_Tp : u_T := fun k => match k with
  | 0 => ("ThinPool", "memory", "LThinPool$Image;", true)
  | 1 => ("ThinPool", "medium", "LThinPool$Image;", true)
  | 2 => ("ThinPool", "trees", "LThinPool$Trees;", true)
  | 3 => ("ThinPool", "audit", "LThinPool$Audit;", true)
  | 4 => ("ThinPool", "head", "I", false)
  | _ => ("ThinPool", "on", "Z", false)
def t_Tp : Nat → FieldType := fun k => match k with
  | 0 => .object "ThinPool$Image"
  | 1 => .object "ThinPool$Image"
  | 2 => .object "ThinPool$Trees"
  | 3 => .object "ThinPool$Audit"
  | 4 => .int
  | _ => .boolean
theorem n_Tp : ∀ a, a < 6 → ∀ b, b < 6 → a ≠ b → (F_Tp a).2.1 ≠ (F_Tp b).2.1 := by decide +kernel
theorem t_Tp_ok : ∀ k, k < 6 → parseFieldDescriptor (F_Tp k).2.2.1 = some (t_Tp k) := by decide +kernel
theorem i_Tp : ∀ w ∈ u_ws R_Tp F_Tp 6, w ∈ lw_gd := by decide +kernel
def F_Mo : u_T := fun k => match k with
  | 0 => ("ThinPoolModel", "there", "[Z", true)
  | 1 => ("ThinPoolModel", "places", "[I", true)
  | 2 => ("ThinPoolModel", "marks", "[I", true)
  | 3 => ("ThinPoolModel", "notes", "[I", true)
  | 4 => ("ThinPoolModel", "bytes", "[B", true)
  | 5 => ("ThinPoolModel", "used", "[Z", true)
  | 6 => ("ThinPoolModel", "marked", "I", false)
  | 7 => ("ThinPoolModel", "kept", "I", false)
  | _ => ("ThinPoolModel", "off", "Z", false)
def t_Mo : Nat → FieldType := fun k => match k with
  | 0 => .array .boolean
  | 1 => .array .int
  | 2 => .array .int
  | 3 => .array .int
  | 4 => .array .byte
  | 5 => .array .boolean
  | 6 => .int
  | 7 => .int
  | _ => .boolean
theorem n_Mo : ∀ a, a < 9 → ∀ b, b < 9 → a ≠ b → (F_Mo a).2.1 ≠ (F_Mo b).2.1 := by decide +kernel
theorem t_Mo_ok : ∀ k, k < 9 → parseFieldDescriptor (F_Mo k).2.2.1 = some (t_Mo k) := by decide +kernel
theorem i_Mo : ∀ w ∈ u_ws R_Mo F_Mo 9, w ∈ lw_gd := by decide +kernel
abbrev cls : List vw_C := [(R_Au, F_Au, 1), (R_Im, F_Im, 1), (R_Tb, F_Tb, 2), (R_Tr, F_Tr, 6), (R_Tp, F_Tp, 6), (R_Mo, F_Mo, 9)]
abbrev b_Tp_init : ByteArray := prog_1_method_1_code
abbrev y_Tp_init : MethodName := ⟨R_Tp, "<init>", "()V"⟩
abbrev w_Tp_init : List Cond := .code y_Tp_init b_Tp_init 1 none :: lw_gd
abbrev b_Im_init : ByteArray := prog_3_method_1_code
abbrev y_Im_init : MethodName := ⟨R_Im, "<init>", "()V"⟩
abbrev w_Im_init : List Cond := .code y_Im_init b_Im_init 1 none :: lw_gd
abbrev b_Tr_init : ByteArray := prog_5_method_1_code
abbrev y_Tr_init : MethodName := ⟨R_Tr, "<init>", "(LThinPool$Image;)V"⟩
abbrev w_Tr_init : List Cond := .code y_Tr_init b_Tr_init 2 none :: lw_gd
abbrev b_Tb_init : ByteArray := prog_4_method_1_code
abbrev y_Tb_init : MethodName := ⟨R_Tb, "<init>", "(LThinPool$Image;I)V"⟩
abbrev w_Tb_init : List Cond := .code y_Tb_init b_Tb_init 3 none :: lw_gd
abbrev b_Tb_startOf : ByteArray := prog_4_method_2_code
abbrev y_Tb_startOf : MethodName := ⟨R_Tb, "startOf", "(I)I"⟩
abbrev w_Tb_startOf : List Cond := .code y_Tb_startOf b_Tb_startOf 1 (some .int) :: lw_gd
abbrev b_Au_init : ByteArray := prog_2_method_1_code
abbrev y_Au_init : MethodName := ⟨R_Au, "<init>", "()V"⟩
abbrev w_Au_init : List Cond := .code y_Au_init b_Au_init 1 none :: lw_gd
abbrev b_Tp_layEmpty : ByteArray := prog_1_method_26_code
abbrev y_Tp_layEmpty : MethodName := ⟨R_Tp, "layEmpty", "()V"⟩
abbrev w_Tp_layEmpty : List Cond := .code y_Tp_layEmpty b_Tp_layEmpty 2 none :: lw_gd
abbrev b_Im_blank : ByteArray := prog_3_method_10_code
abbrev y_Im_blank : MethodName := ⟨R_Im, "blank", "(I)V"⟩
abbrev w_Im_blank : List Cond := .code y_Im_blank b_Im_blank 3 none :: lw_gd
abbrev b_Im_setWord : ByteArray := prog_3_method_3_code
abbrev y_Im_setWord : MethodName := ⟨R_Im, "setWord", "(IIJ)V"⟩
abbrev w_Im_setWord : List Cond := .code y_Im_setWord b_Im_setWord 6 none :: lw_gd
abbrev b_Im_receiveAll : ByteArray := prog_3_method_14_code
abbrev y_Im_receiveAll : MethodName := ⟨R_Im, "receiveAll", "(LThinPool$Image;)V"⟩
abbrev w_Im_receiveAll : List Cond := .code y_Im_receiveAll b_Im_receiveAll 2 none :: lw_gd
abbrev b_Tp_goOnFrom : ByteArray := prog_1_method_31_code
abbrev y_Tp_goOnFrom : MethodName := ⟨R_Tp, "goOnFrom", "(I)V"⟩
abbrev w_Tp_goOnFrom : List Cond := .code y_Tp_goOnFrom b_Tp_goOnFrom 2 none :: lw_gd
abbrev b_Tr_goOnFrom : ByteArray := prog_5_method_2_code
abbrev y_Tr_goOnFrom : MethodName := ⟨R_Tr, "goOnFrom", "(I)V"⟩
abbrev w_Tr_goOnFrom : List Cond := .code y_Tr_goOnFrom b_Tr_goOnFrom 2 none :: lw_gd
abbrev b_Tb_becomeLike : ByteArray := prog_4_method_9_code
abbrev y_Tb_becomeLike : MethodName := ⟨R_Tb, "becomeLike", "(LThinPool$Tables;)V"⟩
abbrev w_Tb_becomeLike : List Cond := .code y_Tb_becomeLike b_Tb_becomeLike 3 none :: lw_gd
abbrev b_Im_duplicate : ByteArray := prog_3_method_11_code
abbrev y_Im_duplicate : MethodName := ⟨R_Im, "duplicate", "(II)V"⟩
abbrev w_Im_duplicate : List Cond := .code y_Im_duplicate b_Im_duplicate 4 none :: lw_gd
abbrev b_Im_wordAt : ByteArray := prog_3_method_2_code
abbrev y_Im_wordAt : MethodName := ⟨R_Im, "wordAt", "(II)J"⟩
abbrev w_Im_wordAt : List Cond := .code y_Im_wordAt b_Im_wordAt 4 (some .long) :: lw_gd
abbrev b_Tp_lay : ByteArray := prog_1_method_2_code
abbrev y_Tp_lay : MethodName := ⟨R_Tp, "lay", "()I"⟩
abbrev w_Tp_lay : List Cond := .code y_Tp_lay b_Tp_lay 1 (some .int) :: lw_gd
abbrev b_Tp_make : ByteArray := prog_1_method_3_code
abbrev y_Tp_make : MethodName := ⟨R_Tp, "make", "(I)I"⟩
abbrev w_Tp_make : List Cond := .code y_Tp_make b_Tp_make 2 (some .int) :: lw_gd
abbrev b_Tp_isVolume : ByteArray := prog_1_method_19_code
abbrev y_Tp_isVolume : MethodName := ⟨R_Tp, "isVolume", "(I)Z"⟩
abbrev w_Tp_isVolume : List Cond := .code y_Tp_isVolume b_Tp_isVolume 1 (some .boolean) :: lw_gd
abbrev b_Tp_isThere : ByteArray := prog_1_method_24_code
abbrev y_Tp_isThere : MethodName := ⟨R_Tp, "isThere", "(I)Z"⟩
abbrev w_Tp_isThere : List Cond := .code y_Tp_isThere b_Tp_isThere 2 (some .boolean) :: lw_gd
abbrev b_Tb_rootOf : ByteArray := prog_4_method_3_code
abbrev y_Tb_rootOf : MethodName := ⟨R_Tb, "rootOf", "(I)I"⟩
abbrev w_Tb_rootOf : List Cond := .code y_Tb_rootOf b_Tb_rootOf 2 (some .int) :: lw_gd
abbrev b_Im_linkAt : ByteArray := prog_3_method_6_code
abbrev y_Im_linkAt : MethodName := ⟨R_Im, "linkAt", "(II)I"⟩
abbrev w_Im_linkAt : List Cond := .code y_Im_linkAt b_Im_linkAt 3 (some .int) :: lw_gd
abbrev b_Tr_addEmpty : ByteArray := prog_5_method_7_code
abbrev y_Tr_addEmpty : MethodName := ⟨R_Tr, "addEmpty", "(I)V"⟩
abbrev w_Tr_addEmpty : List Cond := .code y_Tr_addEmpty b_Tr_addEmpty 2 none :: lw_gd
abbrev b_Tr_takeBlank : ByteArray := prog_5_method_16_code
abbrev y_Tr_takeBlank : MethodName := ⟨R_Tr, "takeBlank", "()I"⟩
abbrev w_Tr_takeBlank : List Cond := .code y_Tr_takeBlank b_Tr_takeBlank 2 (some .int) :: lw_gd
abbrev b_Tr_take : ByteArray := prog_5_method_17_code
abbrev y_Tr_take : MethodName := ⟨R_Tr, "take", "()I"⟩
abbrev w_Tr_take : List Cond := .code y_Tr_take b_Tr_take 2 (some .int) :: lw_gd
abbrev b_Tb_waysTo : ByteArray := prog_4_method_7_code
abbrev y_Tb_waysTo : MethodName := ⟨R_Tb, "waysTo", "(I)I"⟩
abbrev w_Tb_waysTo : List Cond := .code y_Tb_waysTo b_Tb_waysTo 3 (some .int) :: lw_gd
abbrev b_Im_byteAt : ByteArray := prog_3_method_4_code
abbrev y_Im_byteAt : MethodName := ⟨R_Im, "byteAt", "(II)I"⟩
abbrev w_Im_byteAt : List Cond := .code y_Im_byteAt b_Im_byteAt 4 (some .int) :: lw_gd
abbrev b_Tb_setWays : ByteArray := prog_4_method_8_code
abbrev y_Tb_setWays : MethodName := ⟨R_Tb, "setWays", "(II)V"⟩
abbrev w_Tb_setWays : List Cond := .code y_Tb_setWays b_Tb_setWays 4 none :: lw_gd
abbrev b_Im_setByte : ByteArray := prog_3_method_5_code
abbrev y_Im_setByte : MethodName := ⟨R_Im, "setByte", "(III)V"⟩
abbrev w_Im_setByte : List Cond := .code y_Im_setByte b_Im_setByte 6 none :: lw_gd
abbrev b_Tb_setRoot : ByteArray := prog_4_method_4_code
abbrev y_Tb_setRoot : MethodName := ⟨R_Tb, "setRoot", "(II)V"⟩
abbrev w_Tb_setRoot : List Cond := .code y_Tb_setRoot b_Tb_setRoot 3 none :: lw_gd
abbrev b_Im_setLink : ByteArray := prog_3_method_7_code
abbrev y_Im_setLink : MethodName := ⟨R_Im, "setLink", "(III)V"⟩
abbrev w_Im_setLink : List Cond := .code y_Im_setLink b_Im_setLink 7 none :: lw_gd
abbrev b_Tp_snap : ByteArray := prog_1_method_4_code
abbrev y_Tp_snap : MethodName := ⟨R_Tp, "snap", "(II)I"⟩
abbrev w_Tp_snap : List Cond := .code y_Tp_snap b_Tp_snap 4 (some .int) :: lw_gd
abbrev b_Tr_sizeOf : ByteArray := prog_5_method_4_code
abbrev y_Tr_sizeOf : MethodName := ⟨R_Tr, "sizeOf", "(I)I"⟩
abbrev w_Tr_sizeOf : List Cond := .code y_Tr_sizeOf b_Tr_sizeOf 3 (some .int) :: lw_gd
abbrev b_Im_sizeAt : ByteArray := prog_3_method_8_code
abbrev y_Im_sizeAt : MethodName := ⟨R_Im, "sizeAt", "(I)I"⟩
abbrev w_Im_sizeAt : List Cond := .code y_Im_sizeAt b_Im_sizeAt 2 (some .int) :: lw_gd
abbrev b_Tr_sizeOfAll : ByteArray := prog_5_method_5_code
abbrev y_Tr_sizeOfAll : MethodName := ⟨R_Tr, "sizeOfAll", "()I"⟩
abbrev w_Tr_sizeOfAll : List Cond := .code y_Tr_sizeOfAll b_Tr_sizeOfAll 3 (some .int) :: lw_gd
abbrev b_Tr_addTwin : ByteArray := prog_5_method_8_code
abbrev y_Tr_addTwin : MethodName := ⟨R_Tr, "addTwin", "(II)V"⟩
abbrev w_Tr_addTwin : List Cond := .code y_Tr_addTwin b_Tr_addTwin 4 none :: lw_gd
abbrev b_Tr_addWay : ByteArray := prog_5_method_18_code
abbrev y_Tr_addWay : MethodName := ⟨R_Tr, "addWay", "(I)V"⟩
abbrev w_Tr_addWay : List Cond := .code y_Tr_addWay b_Tr_addWay 2 none :: lw_gd
abbrev b_Tp_remove : ByteArray := prog_1_method_5_code
abbrev y_Tp_remove : MethodName := ⟨R_Tp, "remove", "(I)I"⟩
abbrev w_Tp_remove : List Cond := .code y_Tp_remove b_Tp_remove 3 (some .int) :: lw_gd
abbrev b_Tr_dropVolume : ByteArray := prog_5_method_9_code
abbrev y_Tr_dropVolume : MethodName := ⟨R_Tr, "dropVolume", "(I)V"⟩
abbrev w_Tr_dropVolume : List Cond := .code y_Tr_dropVolume b_Tr_dropVolume 2 none :: lw_gd
abbrev b_Tr_release : ByteArray := prog_5_method_19_code
abbrev y_Tr_release : MethodName := ⟨R_Tr, "release", "(II)V"⟩
abbrev w_Tr_release : List Cond := .code y_Tr_release b_Tr_release 5 none :: lw_gd
abbrev b_Tr_linksOf : ByteArray := prog_5_method_20_code
abbrev y_Tr_linksOf : MethodName := ⟨R_Tr, "linksOf", "(I)I"⟩
abbrev w_Tr_linksOf : List Cond := .code y_Tr_linksOf b_Tr_linksOf 1 (some .int) :: lw_gd
abbrev b_Tp_write : ByteArray := prog_1_method_6_code
abbrev y_Tp_write : MethodName := ⟨R_Tp, "write", "(IIIII)I"⟩
abbrev w_Tp_write : List Cond := .code y_Tp_write b_Tp_write 8 (some .int) :: lw_gd
abbrev b_Tp_isPiece : ByteArray := prog_1_method_20_code
abbrev y_Tp_isPiece : MethodName := ⟨R_Tp, "isPiece", "(I)Z"⟩
abbrev w_Tp_isPiece : List Cond := .code y_Tp_isPiece b_Tp_isPiece 1 (some .boolean) :: lw_gd
abbrev b_Tp_areBytes : ByteArray := prog_1_method_21_code
abbrev y_Tp_areBytes : MethodName := ⟨R_Tp, "areBytes", "(II)Z"⟩
abbrev w_Tp_areBytes : List Cond := .code y_Tp_areBytes b_Tp_areBytes 2 (some .boolean) :: lw_gd
abbrev b_Tp_isByte : ByteArray := prog_1_method_22_code
abbrev y_Tp_isByte : MethodName := ⟨R_Tp, "isByte", "(I)Z"⟩
abbrev w_Tp_isByte : List Cond := .code y_Tp_isByte b_Tp_isByte 1 (some .boolean) :: lw_gd
abbrev b_Tr_find : ByteArray := prog_5_method_6_code
abbrev y_Tr_find : MethodName := ⟨R_Tr, "find", "(II)I"⟩
abbrev w_Tr_find : List Cond := .code y_Tr_find b_Tr_find 5 (some .int) :: lw_gd
abbrev b_Tr_ownPiece : ByteArray := prog_5_method_10_code
abbrev y_Tr_ownPiece : MethodName := ⟨R_Tr, "ownPiece", "(II)I"⟩
abbrev w_Tr_ownPiece : List Cond := .code y_Tr_ownPiece b_Tr_ownPiece 5 (some .int) :: lw_gd
abbrev b_Tr_ownRoot : ByteArray := prog_5_method_12_code
abbrev y_Tr_ownRoot : MethodName := ⟨R_Tr, "ownRoot", "(I)I"⟩
abbrev w_Tr_ownRoot : List Cond := .code y_Tr_ownRoot b_Tr_ownRoot 3 (some .int) :: lw_gd
abbrev b_Tr_own : ByteArray := prog_5_method_15_code
abbrev y_Tr_own : MethodName := ⟨R_Tr, "own", "(II)I"⟩
abbrev w_Tr_own : List Cond := .code y_Tr_own b_Tr_own 5 (some .int) :: lw_gd
abbrev b_Tr_ownLink : ByteArray := prog_5_method_13_code
abbrev y_Tr_ownLink : MethodName := ⟨R_Tr, "ownLink", "(III)I"⟩
abbrev w_Tr_ownLink : List Cond := .code y_Tr_ownLink b_Tr_ownLink 6 (some .int) :: lw_gd
abbrev b_Im_addSize : ByteArray := prog_3_method_9_code
abbrev y_Im_addSize : MethodName := ⟨R_Im, "addSize", "(II)V"⟩
abbrev w_Im_addSize : List Cond := .code y_Im_addSize b_Im_addSize 3 none :: lw_gd
abbrev b_Tp_read : ByteArray := prog_1_method_7_code
abbrev y_Tp_read : MethodName := ⟨R_Tp, "read", "(III)I"⟩
abbrev w_Tp_read : List Cond := .code y_Tp_read b_Tp_read 5 (some .int) :: lw_gd
abbrev b_Tp_trim : ByteArray := prog_1_method_8_code
abbrev y_Tp_trim : MethodName := ⟨R_Tp, "trim", "(III)I"⟩
abbrev w_Tp_trim : List Cond := .code y_Tp_trim b_Tp_trim 6 (some .int) :: lw_gd
abbrev b_Tr_dropPiece : ByteArray := prog_5_method_11_code
abbrev y_Tr_dropPiece : MethodName := ⟨R_Tr, "dropPiece", "(II)V"⟩
abbrev w_Tr_dropPiece : List Cond := .code y_Tr_dropPiece b_Tr_dropPiece 5 none :: lw_gd
abbrev b_Tr_dropLink : ByteArray := prog_5_method_14_code
abbrev y_Tr_dropLink : MethodName := ⟨R_Tr, "dropLink", "(III)V"⟩
abbrev w_Tr_dropLink : List Cond := .code y_Tr_dropLink b_Tr_dropLink 4 none :: lw_gd
abbrev b_Tp_pieces : ByteArray := prog_1_method_9_code
abbrev y_Tp_pieces : MethodName := ⟨R_Tp, "pieces", "(I)I"⟩
abbrev w_Tp_pieces : List Cond := .code y_Tp_pieces b_Tp_pieces 2 (some .int) :: lw_gd
abbrev b_Tp_next : ByteArray := prog_1_method_10_code
abbrev y_Tp_next : MethodName := ⟨R_Tp, "next", "(II)I"⟩
abbrev w_Tp_next : List Cond := .code y_Tp_next b_Tp_next 4 (some .int) :: lw_gd
abbrev b_Tp_shared : ByteArray := prog_1_method_11_code
abbrev y_Tp_shared : MethodName := ⟨R_Tp, "shared", "(II)I"⟩
abbrev w_Tp_shared : List Cond := .code y_Tp_shared b_Tp_shared 5 (some .int) :: lw_gd
abbrev b_Tp_tell : ByteArray := prog_1_method_12_code
abbrev y_Tp_tell : MethodName := ⟨R_Tp, "tell", "(II)I"⟩
abbrev w_Tp_tell : List Cond := .code y_Tp_tell b_Tp_tell 4 (some .int) :: lw_gd
abbrev b_Tp_isNote : ByteArray := prog_1_method_23_code
abbrev y_Tp_isNote : MethodName := ⟨R_Tp, "isNote", "(I)Z"⟩
abbrev w_Tp_isNote : List Cond := .code y_Tp_isNote b_Tp_isNote 1 (some .boolean) :: lw_gd
abbrev b_Tb_noteAt : ByteArray := prog_4_method_5_code
abbrev y_Tb_noteAt : MethodName := ⟨R_Tb, "noteAt", "(I)I"⟩
abbrev w_Tb_noteAt : List Cond := .code y_Tb_noteAt b_Tb_noteAt 2 (some .int) :: lw_gd
abbrev b_Tb_setNote : ByteArray := prog_4_method_6_code
abbrev y_Tb_setNote : MethodName := ⟨R_Tb, "setNote", "(II)V"⟩
abbrev w_Tb_setNote : List Cond := .code y_Tb_setNote b_Tb_setNote 3 none :: lw_gd
abbrev b_Tp_told : ByteArray := prog_1_method_13_code
abbrev y_Tp_told : MethodName := ⟨R_Tp, "told", "(I)I"⟩
abbrev w_Tp_told : List Cond := .code y_Tp_told b_Tp_told 2 (some .int) :: lw_gd
abbrev b_Tp_keep : ByteArray := prog_1_method_14_code
abbrev y_Tp_keep : MethodName := ⟨R_Tp, "keep", "(IJ)I"⟩
abbrev w_Tp_keep : List Cond := .code y_Tp_keep b_Tp_keep 4 (some .int) :: lw_gd
abbrev b_Tp_writeBlocks : ByteArray := prog_1_method_32_code
abbrev y_Tp_writeBlocks : MethodName := ⟨R_Tp, "writeBlocks", "(ZJ)V"⟩
abbrev w_Tp_writeBlocks : List Cond := .code y_Tp_writeBlocks b_Tp_writeBlocks 7 none :: lw_gd
abbrev b_Tr_isNew : ByteArray := prog_5_method_3_code
abbrev y_Tr_isNew : MethodName := ⟨R_Tr, "isNew", "(I)Z"⟩
abbrev w_Tr_isNew : List Cond := .code y_Tr_isNew b_Tr_isNew 2 (some .boolean) :: lw_gd
abbrev b_Tp_partDown : ByteArray := prog_1_method_34_code
abbrev y_Tp_partDown : MethodName := ⟨R_Tp, "partDown", "(ZJI)I"⟩
abbrev w_Tp_partDown : List Cond := .code y_Tp_partDown b_Tp_partDown 4 (some .int) :: lw_gd
abbrev b_Im_receive : ByteArray := prog_3_method_12_code
abbrev y_Im_receive : MethodName := ⟨R_Im, "receive", "(LThinPool$Image;II)V"⟩
abbrev w_Im_receive : List Cond := .code y_Im_receive b_Im_receive 7 none :: lw_gd
abbrev b_Tp_otherHead : ByteArray := prog_1_method_28_code
abbrev y_Tp_otherHead : MethodName := ⟨R_Tp, "otherHead", "()I"⟩
abbrev w_Tp_otherHead : List Cond := .code y_Tp_otherHead b_Tp_otherHead 1 (some .int) :: lw_gd
abbrev b_Tp_losePower : ByteArray := prog_1_method_27_code
abbrev y_Tp_losePower : MethodName := ⟨R_Tp, "losePower", "()V"⟩
abbrev w_Tp_losePower : List Cond := .code y_Tp_losePower b_Tp_losePower 1 none :: lw_gd
abbrev b_Im_forgetAll : ByteArray := prog_3_method_13_code
abbrev y_Im_forgetAll : MethodName := ⟨R_Im, "forgetAll", "()V"⟩
abbrev w_Im_forgetAll : List Cond := .code y_Im_forgetAll b_Im_forgetAll 1 none :: lw_gd
abbrev b_Ar_fillJ : ByteArray := prog_9_method_101_code
abbrev y_Ar_fillJ : MethodName := ⟨R_Ar, "fill", "([JJ)V"⟩
abbrev w_Ar_fillJ : List Cond := .code y_Ar_fillJ b_Ar_fillJ 5 none :: lw_gd
abbrev b_Tp_writeOtherHead : ByteArray := prog_1_method_33_code
abbrev y_Tp_writeOtherHead : MethodName := ⟨R_Tp, "writeOtherHead", "(ZJ)V"⟩
abbrev w_Tp_writeOtherHead : List Cond := .code y_Tp_writeOtherHead b_Tp_writeOtherHead 4 none :: lw_gd
abbrev b_Tp_keptNumber : ByteArray := prog_1_method_30_code
abbrev y_Tp_keptNumber : MethodName := ⟨R_Tp, "keptNumber", "()I"⟩
abbrev w_Tp_keptNumber : List Cond := .code y_Tp_keptNumber b_Tp_keptNumber 1 (some .int) :: lw_gd
abbrev b_Tp_fail : ByteArray := prog_1_method_15_code
abbrev y_Tp_fail : MethodName := ⟨R_Tp, "fail", "()I"⟩
abbrev w_Tp_fail : List Cond := .code y_Tp_fail b_Tp_fail 1 (some .int) :: lw_gd
abbrev b_Tp_mount : ByteArray := prog_1_method_16_code
abbrev y_Tp_mount : MethodName := ⟨R_Tp, "mount", "()I"⟩
abbrev w_Tp_mount : List Cond := .code y_Tp_mount b_Tp_mount 1 (some .int) :: lw_gd
abbrev b_Tp_newerHead : ByteArray := prog_1_method_29_code
abbrev y_Tp_newerHead : MethodName := ⟨R_Tp, "newerHead", "()I"⟩
abbrev w_Tp_newerHead : List Cond := .code y_Tp_newerHead b_Tp_newerHead 1 (some .int) :: lw_gd
abbrev b_Tp_count : ByteArray := prog_1_method_17_code
abbrev y_Tp_count : MethodName := ⟨R_Tp, "count", "(I)I"⟩
abbrev w_Tp_count : List Cond := .code y_Tp_count b_Tp_count 2 (some .int) :: lw_gd
abbrev b_Tp_countVolumes : ByteArray := prog_1_method_25_code
abbrev y_Tp_countVolumes : MethodName := ⟨R_Tp, "countVolumes", "()I"⟩
abbrev w_Tp_countVolumes : List Cond := .code y_Tp_countVolumes b_Tp_countVolumes 3 (some .int) :: lw_gd
abbrev b_Tp_check : ByteArray := prog_1_method_18_code
abbrev y_Tp_check : MethodName := ⟨R_Tp, "check", "()I"⟩
abbrev w_Tp_check : List Cond := .code y_Tp_check b_Tp_check 2 (some .int) :: lw_gd
abbrev b_Au_firstFault : ByteArray := prog_2_method_2_code
abbrev y_Au_firstFault : MethodName := ⟨R_Au, "firstFault", "(LThinPool$Image;LThinPool$Tables;)I"⟩
abbrev w_Au_firstFault : List Cond := .code y_Au_firstFault b_Au_firstFault 5 (some .int) :: lw_gd
abbrev b_Ar_fillI : ByteArray := prog_9_method_103_code
abbrev y_Ar_fillI : MethodName := ⟨R_Ar, "fill", "([II)V"⟩
abbrev w_Ar_fillI : List Cond := .code y_Ar_fillI b_Ar_fillI 4 none :: lw_gd
abbrev b_Au_visit : ByteArray := prog_2_method_3_code
abbrev y_Au_visit : MethodName := ⟨R_Au, "visit", "(LThinPool$Image;II)I"⟩
abbrev w_Au_visit : List Cond := .code y_Au_visit b_Au_visit 6 (some .int) :: lw_gd
abbrev b_Au_visitLinks : ByteArray := prog_2_method_4_code
abbrev y_Au_visitLinks : MethodName := ⟨R_Au, "visitLinks", "(LThinPool$Image;II)I"⟩
abbrev w_Au_visitLinks : List Cond := .code y_Au_visitLinks b_Au_visitLinks 8 (some .int) :: lw_gd
abbrev b_Mo_init : ByteArray := prog_7_method_1_code
abbrev y_Mo_init : MethodName := ⟨R_Mo, "<init>", "()V"⟩
abbrev w_Mo_init : List Cond := .code y_Mo_init b_Mo_init 1 none :: lw_gd
abbrev b_Mo_begin : ByteArray := prog_7_method_2_code
abbrev y_Mo_begin : MethodName := ⟨R_Mo, "begin", "()V"⟩
abbrev w_Mo_begin : List Cond := .code y_Mo_begin b_Mo_begin 2 none :: lw_gd
abbrev b_Mo_lay : ByteArray := prog_7_method_3_code
abbrev y_Mo_lay : MethodName := ⟨R_Mo, "lay", "()I"⟩
abbrev w_Mo_lay : List Cond := .code y_Mo_lay b_Mo_lay 1 (some .int) :: lw_gd
abbrev b_Mo_make : ByteArray := prog_7_method_10_code
abbrev y_Mo_make : MethodName := ⟨R_Mo, "make", "(I)I"⟩
abbrev w_Mo_make : List Cond := .code y_Mo_make b_Mo_make 2 (some .int) :: lw_gd
abbrev b_Mo_snap : ByteArray := prog_7_method_11_code
abbrev y_Mo_snap : MethodName := ⟨R_Mo, "snap", "(II)I"⟩
abbrev w_Mo_snap : List Cond := .code y_Mo_snap b_Mo_snap 8 (some .int) :: lw_gd
abbrev b_Mo_isThere : ByteArray := prog_7_method_4_code
abbrev y_Mo_isThere : MethodName := ⟨R_Mo, "isThere", "(I)Z"⟩
abbrev w_Mo_isThere : List Cond := .code y_Mo_isThere b_Mo_isThere 2 (some .boolean) :: lw_gd
abbrev b_Mo_many : ByteArray := prog_7_method_6_code
abbrev y_Mo_many : MethodName := ⟨R_Mo, "many", "(I)I"⟩
abbrev w_Mo_many : List Cond := .code y_Mo_many b_Mo_many 4 (some .int) :: lw_gd
abbrev b_Mo_all : ByteArray := prog_7_method_7_code
abbrev y_Mo_all : MethodName := ⟨R_Mo, "all", "()I"⟩
abbrev w_Mo_all : List Cond := .code y_Mo_all b_Mo_all 3 (some .int) :: lw_gd
abbrev b_Mo_fresh : ByteArray := prog_7_method_8_code
abbrev y_Mo_fresh : MethodName := ⟨R_Mo, "fresh", "()I"⟩
abbrev w_Mo_fresh : List Cond := .code y_Mo_fresh b_Mo_fresh 3 (some .int) :: lw_gd
abbrev b_Mo_remove : ByteArray := prog_7_method_12_code
abbrev y_Mo_remove : MethodName := ⟨R_Mo, "remove", "(I)I"⟩
abbrev w_Mo_remove : List Cond := .code y_Mo_remove b_Mo_remove 4 (some .int) :: lw_gd
abbrev b_Mo_clear : ByteArray := prog_7_method_9_code
abbrev y_Mo_clear : MethodName := ⟨R_Mo, "clear", "(I)V"⟩
abbrev w_Mo_clear : List Cond := .code y_Mo_clear b_Mo_clear 2 none :: lw_gd
abbrev b_Mo_write : ByteArray := prog_7_method_13_code
abbrev y_Mo_write : MethodName := ⟨R_Mo, "write", "(IIIII)I"⟩
abbrev w_Mo_write : List Cond := .code y_Mo_write b_Mo_write 8 (some .int) :: lw_gd
abbrev b_Mo_isPiece : ByteArray := prog_7_method_5_code
abbrev y_Mo_isPiece : MethodName := ⟨R_Mo, "isPiece", "(I)Z"⟩
abbrev w_Mo_isPiece : List Cond := .code y_Mo_isPiece b_Mo_isPiece 1 (some .boolean) :: lw_gd
abbrev b_Mo_read : ByteArray := prog_7_method_14_code
abbrev y_Mo_read : MethodName := ⟨R_Mo, "read", "(III)I"⟩
abbrev w_Mo_read : List Cond := .code y_Mo_read b_Mo_read 5 (some .int) :: lw_gd
abbrev b_Mo_trim : ByteArray := prog_7_method_15_code
abbrev y_Mo_trim : MethodName := ⟨R_Mo, "trim", "(III)I"⟩
abbrev w_Mo_trim : List Cond := .code y_Mo_trim b_Mo_trim 6 (some .int) :: lw_gd
abbrev b_Mo_pieces : ByteArray := prog_7_method_16_code
abbrev y_Mo_pieces : MethodName := ⟨R_Mo, "pieces", "(I)I"⟩
abbrev w_Mo_pieces : List Cond := .code y_Mo_pieces b_Mo_pieces 2 (some .int) :: lw_gd
abbrev b_Mo_next : ByteArray := prog_7_method_17_code
abbrev y_Mo_next : MethodName := ⟨R_Mo, "next", "(II)I"⟩
abbrev w_Mo_next : List Cond := .code y_Mo_next b_Mo_next 4 (some .int) :: lw_gd
abbrev b_Mo_shared : ByteArray := prog_7_method_18_code
abbrev y_Mo_shared : MethodName := ⟨R_Mo, "shared", "(II)I"⟩
abbrev w_Mo_shared : List Cond := .code y_Mo_shared b_Mo_shared 6 (some .int) :: lw_gd
abbrev b_Mo_tell : ByteArray := prog_7_method_19_code
abbrev y_Mo_tell : MethodName := ⟨R_Mo, "tell", "(II)I"⟩
abbrev w_Mo_tell : List Cond := .code y_Mo_tell b_Mo_tell 4 (some .int) :: lw_gd
abbrev b_Mo_told : ByteArray := prog_7_method_20_code
abbrev y_Mo_told : MethodName := ⟨R_Mo, "told", "(I)I"⟩
abbrev w_Mo_told : List Cond := .code y_Mo_told b_Mo_told 2 (some .int) :: lw_gd
abbrev b_Mo_keep : ByteArray := prog_7_method_22_code
abbrev y_Mo_keep : MethodName := ⟨R_Mo, "keep", "(IJ)I"⟩
abbrev w_Mo_keep : List Cond := .code y_Mo_keep b_Mo_keep 5 (some .int) :: lw_gd
abbrev b_Mo_copy : ByteArray := prog_7_method_21_code
abbrev y_Mo_copy : MethodName := ⟨R_Mo, "copy", "(II)V"⟩
abbrev w_Mo_copy : List Cond := .code y_Mo_copy b_Mo_copy 5 none :: lw_gd
abbrev b_Mo_fail : ByteArray := prog_7_method_23_code
abbrev y_Mo_fail : MethodName := ⟨R_Mo, "fail", "()I"⟩
abbrev w_Mo_fail : List Cond := .code y_Mo_fail b_Mo_fail 1 (some .int) :: lw_gd
abbrev b_Mo_mount : ByteArray := prog_7_method_24_code
abbrev y_Mo_mount : MethodName := ⟨R_Mo, "mount", "()I"⟩
abbrev w_Mo_mount : List Cond := .code y_Mo_mount b_Mo_mount 1 (some .int) :: lw_gd
abbrev b_Mo_count : ByteArray := prog_7_method_25_code
abbrev y_Mo_count : MethodName := ⟨R_Mo, "count", "(I)I"⟩
abbrev w_Mo_count : List Cond := .code y_Mo_count b_Mo_count 4 (some .int) :: lw_gd
abbrev b_Mo_check : ByteArray := prog_7_method_26_code
abbrev y_Mo_check : MethodName := ⟨R_Mo, "check", "()I"⟩
abbrev w_Mo_check : List Cond := .code y_Mo_check b_Mo_check 1 (some .int) :: lw_gd
theorem se_Tp_layEmpty : Cond.selects R_Tp y_Tp_layEmpty y_Tp_layEmpty ∈ lw_gd := tw_sel (i := 0) (by decide +kernel) rfl
theorem se_Tp_goOnFrom : Cond.selects R_Tp y_Tp_goOnFrom y_Tp_goOnFrom ∈ lw_gd := tw_sel (i := 1) (by decide +kernel) rfl
theorem se_Tp_isThere : Cond.selects R_Tp y_Tp_isThere y_Tp_isThere ∈ lw_gd := tw_sel (i := 2) (by decide +kernel) rfl
theorem se_Tr_takeBlank : Cond.selects R_Tr y_Tr_takeBlank y_Tr_takeBlank ∈ lw_gd := tw_sel (i := 3) (by decide +kernel) rfl
theorem se_Tr_take : Cond.selects R_Tr y_Tr_take y_Tr_take ∈ lw_gd := tw_sel (i := 4) (by decide +kernel) rfl
theorem se_Tr_addWay : Cond.selects R_Tr y_Tr_addWay y_Tr_addWay ∈ lw_gd := tw_sel (i := 5) (by decide +kernel) rfl
theorem se_Tr_release : Cond.selects R_Tr y_Tr_release y_Tr_release ∈ lw_gd := tw_sel (i := 6) (by decide +kernel) rfl
theorem se_Tr_ownRoot : Cond.selects R_Tr y_Tr_ownRoot y_Tr_ownRoot ∈ lw_gd := tw_sel (i := 7) (by decide +kernel) rfl
theorem se_Tr_own : Cond.selects R_Tr y_Tr_own y_Tr_own ∈ lw_gd := tw_sel (i := 8) (by decide +kernel) rfl
theorem se_Tr_ownLink : Cond.selects R_Tr y_Tr_ownLink y_Tr_ownLink ∈ lw_gd := tw_sel (i := 9) (by decide +kernel) rfl
theorem se_Tr_dropLink : Cond.selects R_Tr y_Tr_dropLink y_Tr_dropLink ∈ lw_gd := tw_sel (i := 10) (by decide +kernel) rfl
theorem se_Tp_writeBlocks : Cond.selects R_Tp y_Tp_writeBlocks y_Tp_writeBlocks ∈ lw_gd := tw_sel (i := 11) (by decide +kernel) rfl
theorem se_Tp_otherHead : Cond.selects R_Tp y_Tp_otherHead y_Tp_otherHead ∈ lw_gd := tw_sel (i := 12) (by decide +kernel) rfl
theorem se_Tp_losePower : Cond.selects R_Tp y_Tp_losePower y_Tp_losePower ∈ lw_gd := tw_sel (i := 13) (by decide +kernel) rfl
theorem se_Tp_writeOtherHead : Cond.selects R_Tp y_Tp_writeOtherHead y_Tp_writeOtherHead ∈ lw_gd := tw_sel (i := 14) (by decide +kernel) rfl
theorem se_Tp_keptNumber : Cond.selects R_Tp y_Tp_keptNumber y_Tp_keptNumber ∈ lw_gd := tw_sel (i := 15) (by decide +kernel) rfl
theorem se_Tp_newerHead : Cond.selects R_Tp y_Tp_newerHead y_Tp_newerHead ∈ lw_gd := tw_sel (i := 16) (by decide +kernel) rfl
theorem se_Tp_countVolumes : Cond.selects R_Tp y_Tp_countVolumes y_Tp_countVolumes ∈ lw_gd := tw_sel (i := 17) (by decide +kernel) rfl
theorem se_Au_visit : Cond.selects R_Au y_Au_visit y_Au_visit ∈ lw_gd := tw_sel (i := 18) (by decide +kernel) rfl
theorem se_Au_visitLinks : Cond.selects R_Au y_Au_visitLinks y_Au_visitLinks ∈ lw_gd := tw_sel (i := 19) (by decide +kernel) rfl
theorem se_Mo_begin : Cond.selects R_Mo y_Mo_begin y_Mo_begin ∈ lw_gd := tw_sel (i := 20) (by decide +kernel) rfl
theorem se_Mo_isThere : Cond.selects R_Mo y_Mo_isThere y_Mo_isThere ∈ lw_gd := tw_sel (i := 21) (by decide +kernel) rfl
theorem se_Mo_many : Cond.selects R_Mo y_Mo_many y_Mo_many ∈ lw_gd := tw_sel (i := 22) (by decide +kernel) rfl
theorem se_Mo_all : Cond.selects R_Mo y_Mo_all y_Mo_all ∈ lw_gd := tw_sel (i := 23) (by decide +kernel) rfl
theorem se_Mo_fresh : Cond.selects R_Mo y_Mo_fresh y_Mo_fresh ∈ lw_gd := tw_sel (i := 24) (by decide +kernel) rfl
theorem se_Mo_clear : Cond.selects R_Mo y_Mo_clear y_Mo_clear ∈ lw_gd := tw_sel (i := 25) (by decide +kernel) rfl
theorem se_Mo_copy : Cond.selects R_Mo y_Mo_copy y_Mo_copy ∈ lw_gd := tw_sel (i := 26) (by decide +kernel) rfl
theorem in_Lw : Cond.initialized "ThinPoolLaw" ∈ lw_gd := tw_mem (i := 0) (by decide +kernel) rfl
theorem in_Tp : Cond.initialized "ThinPool" ∈ lw_gd := tw_mem (i := 1) (by decide +kernel) rfl
theorem in_Im : Cond.initialized "ThinPool$Image" ∈ lw_gd := tw_mem (i := 2) (by decide +kernel) rfl
theorem in_Tr : Cond.initialized "ThinPool$Trees" ∈ lw_gd := tw_mem (i := 3) (by decide +kernel) rfl
theorem in_Tb : Cond.initialized "ThinPool$Tables" ∈ lw_gd := tw_mem (i := 4) (by decide +kernel) rfl
theorem in_Au : Cond.initialized "ThinPool$Audit" ∈ lw_gd := tw_mem (i := 5) (by decide +kernel) rfl
theorem in_System : Cond.initialized "java/lang/System" ∈ lw_gd := tw_mem (i := 6) (by decide +kernel) rfl
theorem in_Mo : Cond.initialized "ThinPoolModel" ∈ lw_gd := tw_mem (i := 7) (by decide +kernel) rfl
theorem in_Ar : Cond.initialized "java/util/Arrays" ∈ lw_gd := tw_mem (i := 8) (by decide +kernel) rfl
theorem cl_Lw_7 : Cond.classLink R_Lw 7 R_Tp ∈ lw_gd := tw_mem (i := 9) (by decide +kernel) rfl
theorem it_Tp : Cond.instantiable R_Tp 6 ∈ lw_gd := tw_mem (i := 10) (by decide +kernel) rfl
theorem ml_Lw_9 : Cond.methodLink R_Lw 9 y_Tp_init ∈ lw_gd := tw_mem (i := 11) (by decide +kernel) rfl
theorem im_Tp_init : Cond.instanceMethod y_Tp_init ∈ lw_gd := tw_mem (i := 12) (by decide +kernel) rfl
theorem cd_Tp_init : Cond.code y_Tp_init b_Tp_init 1 none ∈ lw_gd := tw_mem (i := 13) (by decide +kernel) rfl
theorem ml_Tp_3 : Cond.methodLink R_Tp 3 objectInit ∈ lw_gd := tw_mem (i := 14) (by decide +kernel) rfl
theorem im_objectInit : Cond.instanceMethod objectInit ∈ lw_gd := tw_mem (i := 15) (by decide +kernel) rfl
theorem cd_objectInit : Cond.code objectInit ⟨#[0xb1]⟩ 1 none ∈ lw_gd := tw_mem (i := 16) (by decide +kernel) rfl
theorem cl_Tp_9 : Cond.classLink R_Tp 9 R_Im ∈ lw_gd := tw_mem (i := 17) (by decide +kernel) rfl
theorem it_Im : Cond.instantiable R_Im 1 ∈ lw_gd := tw_mem (i := 18) (by decide +kernel) rfl
theorem ml_Tp_11 : Cond.methodLinkNest R_Tp 11 y_Im_init "ThinPool" ∈ lw_tbl := tw_tbl (i := 19) (by decide +kernel)
theorem im_Im_init : Cond.instanceMethod y_Im_init ∈ lw_gd := tw_mem (i := 20) (by decide +kernel) rfl
theorem cd_Im_init : Cond.code y_Im_init b_Im_init 1 none ∈ lw_gd := tw_mem (i := 21) (by decide +kernel) rfl
theorem ml_Im_3 : Cond.methodLink R_Im 3 objectInit ∈ lw_gd := tw_mem (i := 22) (by decide +kernel) rfl
theorem fl_Im_9 : Cond.fieldLink R_Im 9 "ThinPool$Image" "words" "[J" ∈ lw_gd := tw_mem (i := 23) (by decide +kernel) rfl
theorem ac_long : Cond.arrayClass .long ∈ lw_gd := tw_mem (i := 27) (by decide +kernel) rfl
theorem cl_Tp_19 : Cond.classLink R_Tp 19 R_Tr ∈ lw_gd := tw_mem (i := 28) (by decide +kernel) rfl
theorem it_Tr : Cond.instantiable R_Tr 6 ∈ lw_gd := tw_mem (i := 29) (by decide +kernel) rfl
theorem ml_Tp_21 : Cond.methodLink R_Tp 21 y_Tr_init ∈ lw_gd := tw_mem (i := 30) (by decide +kernel) rfl
theorem im_Tr_init : Cond.instanceMethod y_Tr_init ∈ lw_gd := tw_mem (i := 31) (by decide +kernel) rfl
theorem cd_Tr_init : Cond.code y_Tr_init b_Tr_init 2 none ∈ lw_gd := tw_mem (i := 32) (by decide +kernel) rfl
theorem ml_Tr_3 : Cond.methodLink R_Tr 3 objectInit ∈ lw_gd := tw_mem (i := 33) (by decide +kernel) rfl
theorem cl_Tr_19 : Cond.classLink R_Tr 19 R_Tb ∈ lw_gd := tw_mem (i := 34) (by decide +kernel) rfl
theorem it_Tb : Cond.instantiable R_Tb 2 ∈ lw_gd := tw_mem (i := 35) (by decide +kernel) rfl
theorem ml_Tr_21 : Cond.methodLink R_Tr 21 y_Tb_init ∈ lw_gd := tw_mem (i := 36) (by decide +kernel) rfl
theorem im_Tb_init : Cond.instanceMethod y_Tb_init ∈ lw_gd := tw_mem (i := 37) (by decide +kernel) rfl
theorem cd_Tb_init : Cond.code y_Tb_init b_Tb_init 3 none ∈ lw_gd := tw_mem (i := 38) (by decide +kernel) rfl
theorem ml_Tb_3 : Cond.methodLink R_Tb 3 objectInit ∈ lw_gd := tw_mem (i := 39) (by decide +kernel) rfl
theorem ml_Tb_15 : Cond.methodLink R_Tb 15 y_Tb_startOf ∈ lw_gd := tw_mem (i := 40) (by decide +kernel) rfl
theorem st_Tb_startOf : Cond.static y_Tb_startOf ∈ lw_gd := tw_mem (i := 41) (by decide +kernel) rfl
theorem cd_Tb_startOf : Cond.code y_Tb_startOf b_Tb_startOf 1 (some .int) ∈ lw_gd := tw_mem (i := 42) (by decide +kernel) rfl
theorem fl_Tb_9 : Cond.fieldLink R_Tb 9 "ThinPool$Tables" "image" "LThinPool$Image;" ∈ lw_gd := tw_mem (i := 43) (by decide +kernel) rfl
theorem fl_Tb_19 : Cond.fieldLink R_Tb 19 "ThinPool$Tables" "start" "I" ∈ lw_gd := tw_mem (i := 44) (by decide +kernel) rfl
theorem fl_Tr_15 : Cond.fieldLink R_Tr 15 "ThinPool$Trees" "image" "LThinPool$Image;" ∈ lw_gd := tw_mem (i := 50) (by decide +kernel) rfl
theorem fl_Tr_24 : Cond.fieldLink R_Tr 24 "ThinPool$Trees" "ofFirstHead" "LThinPool$Tables;" ∈ lw_gd := tw_mem (i := 51) (by decide +kernel) rfl
theorem fl_Tr_28 : Cond.fieldLink R_Tr 28 "ThinPool$Trees" "ofSecondHead" "LThinPool$Tables;" ∈ lw_gd := tw_mem (i := 52) (by decide +kernel) rfl
theorem fl_Tr_34 : Cond.fieldLink R_Tr 34 "ThinPool$Trees" "now" "LThinPool$Tables;" ∈ lw_gd := tw_mem (i := 53) (by decide +kernel) rfl
theorem fl_Tp_98 : Cond.fieldLinkNest R_Tp 98 "ThinPool$Trees" "now" "LThinPool$Tables;" "ThinPool" ∈ lw_tbl := tw_tbl (i := 54) (by decide +kernel)
theorem fl_Tr_31 : Cond.fieldLink R_Tr 31 "ThinPool$Trees" "kept" "LThinPool$Tables;" ∈ lw_gd := tw_mem (i := 55) (by decide +kernel) rfl
theorem fl_Tr_9 : Cond.fieldLink R_Tr 9 "ThinPool$Trees" "hand" "I" ∈ lw_gd := tw_mem (i := 56) (by decide +kernel) rfl
theorem cl_Tp_28 : Cond.classLink R_Tp 28 R_Au ∈ lw_gd := tw_mem (i := 70) (by decide +kernel) rfl
theorem it_Au : Cond.instantiable R_Au 1 ∈ lw_gd := tw_mem (i := 71) (by decide +kernel) rfl
theorem ml_Tp_30 : Cond.methodLinkNest R_Tp 30 y_Au_init "ThinPool" ∈ lw_tbl := tw_tbl (i := 72) (by decide +kernel)
theorem im_Au_init : Cond.instanceMethod y_Au_init ∈ lw_gd := tw_mem (i := 73) (by decide +kernel) rfl
theorem cd_Au_init : Cond.code y_Au_init b_Au_init 1 none ∈ lw_gd := tw_mem (i := 74) (by decide +kernel) rfl
theorem ml_Au_3 : Cond.methodLink R_Au 3 objectInit ∈ lw_gd := tw_mem (i := 75) (by decide +kernel) rfl
theorem fl_Au_9 : Cond.fieldLink R_Au 9 "ThinPool$Audit" "met" "[I" ∈ lw_gd := tw_mem (i := 76) (by decide +kernel) rfl
theorem ac_int : Cond.arrayClass .int ∈ lw_gd := tw_mem (i := 80) (by decide +kernel) rfl
theorem ml_Tp_35 : Cond.methodLink R_Tp 35 y_Tp_layEmpty ∈ lw_gd := tw_mem (i := 81) (by decide +kernel) rfl
theorem im_Tp_layEmpty : Cond.instanceMethod y_Tp_layEmpty ∈ lw_gd := tw_mem (i := 83) (by decide +kernel) rfl
theorem cd_Tp_layEmpty : Cond.code y_Tp_layEmpty b_Tp_layEmpty 2 none ∈ lw_gd := tw_mem (i := 84) (by decide +kernel) rfl
theorem ml_Tp_152 : Cond.methodLink R_Tp 152 y_Im_blank ∈ lw_gd := tw_mem (i := 85) (by decide +kernel) rfl
theorem im_Im_blank : Cond.instanceMethod y_Im_blank ∈ lw_gd := tw_mem (i := 86) (by decide +kernel) rfl
theorem se_Im_blank : Cond.selects R_Im y_Im_blank y_Im_blank ∈ lw_gd := tw_mem (i := 87) (by decide +kernel) rfl
theorem cd_Im_blank : Cond.code y_Im_blank b_Im_blank 3 none ∈ lw_gd := tw_mem (i := 88) (by decide +kernel) rfl
theorem ml_Im_26 : Cond.methodLink R_Im 26 y_Im_setWord ∈ lw_gd := tw_mem (i := 89) (by decide +kernel) rfl
theorem im_Im_setWord : Cond.instanceMethod y_Im_setWord ∈ lw_gd := tw_mem (i := 90) (by decide +kernel) rfl
theorem se_Im_setWord : Cond.selects R_Im y_Im_setWord y_Im_setWord ∈ lw_gd := tw_mem (i := 91) (by decide +kernel) rfl
theorem cd_Im_setWord : Cond.code y_Im_setWord b_Im_setWord 6 none ∈ lw_gd := tw_mem (i := 92) (by decide +kernel) rfl
theorem ml_Tp_155 : Cond.methodLink R_Tp 155 y_Im_setWord ∈ lw_gd := tw_mem (i := 93) (by decide +kernel) rfl
theorem ml_Tp_126 : Cond.methodLink R_Tp 126 y_Im_receiveAll ∈ lw_gd := tw_mem (i := 94) (by decide +kernel) rfl
theorem im_Im_receiveAll : Cond.instanceMethod y_Im_receiveAll ∈ lw_gd := tw_mem (i := 95) (by decide +kernel) rfl
theorem se_Im_receiveAll : Cond.selects R_Im y_Im_receiveAll y_Im_receiveAll ∈ lw_gd := tw_mem (i := 96) (by decide +kernel) rfl
theorem cd_Im_receiveAll : Cond.code y_Im_receiveAll b_Im_receiveAll 2 none ∈ lw_gd := tw_mem (i := 97) (by decide +kernel) rfl
theorem ml_Im_36 : Cond.methodLink R_Im 36 arraycopyName ∈ lw_gd := tw_mem (i := 98) (by decide +kernel) rfl
theorem st_arraycopyName : Cond.static arraycopyName ∈ lw_gd := tw_mem (i := 99) (by decide +kernel) rfl
theorem na_arraycopyName : Cond.native arraycopyName ∈ lw_gd := tw_mem (i := 100) (by decide +kernel) rfl
theorem ml_Tp_123 : Cond.methodLink R_Tp 123 y_Tp_goOnFrom ∈ lw_gd := tw_mem (i := 101) (by decide +kernel) rfl
theorem im_Tp_goOnFrom : Cond.instanceMethod y_Tp_goOnFrom ∈ lw_gd := tw_mem (i := 103) (by decide +kernel) rfl
theorem cd_Tp_goOnFrom : Cond.code y_Tp_goOnFrom b_Tp_goOnFrom 2 none ∈ lw_gd := tw_mem (i := 104) (by decide +kernel) rfl
theorem ml_Tp_166 : Cond.methodLink R_Tp 166 y_Tr_goOnFrom ∈ lw_gd := tw_mem (i := 105) (by decide +kernel) rfl
theorem im_Tr_goOnFrom : Cond.instanceMethod y_Tr_goOnFrom ∈ lw_gd := tw_mem (i := 106) (by decide +kernel) rfl
theorem se_Tr_goOnFrom : Cond.selects R_Tr y_Tr_goOnFrom y_Tr_goOnFrom ∈ lw_gd := tw_mem (i := 107) (by decide +kernel) rfl
theorem cd_Tr_goOnFrom : Cond.code y_Tr_goOnFrom b_Tr_goOnFrom 2 none ∈ lw_gd := tw_mem (i := 108) (by decide +kernel) rfl
theorem ml_Tr_37 : Cond.methodLink R_Tr 37 y_Tb_becomeLike ∈ lw_gd := tw_mem (i := 109) (by decide +kernel) rfl
theorem im_Tb_becomeLike : Cond.instanceMethod y_Tb_becomeLike ∈ lw_gd := tw_mem (i := 110) (by decide +kernel) rfl
theorem se_Tb_becomeLike : Cond.selects R_Tb y_Tb_becomeLike y_Tb_becomeLike ∈ lw_gd := tw_mem (i := 111) (by decide +kernel) rfl
theorem cd_Tb_becomeLike : Cond.code y_Tb_becomeLike b_Tb_becomeLike 3 none ∈ lw_gd := tw_mem (i := 112) (by decide +kernel) rfl
theorem ml_Tb_39 : Cond.methodLink R_Tb 39 y_Im_duplicate ∈ lw_gd := tw_mem (i := 113) (by decide +kernel) rfl
theorem im_Im_duplicate : Cond.instanceMethod y_Im_duplicate ∈ lw_gd := tw_mem (i := 114) (by decide +kernel) rfl
theorem se_Im_duplicate : Cond.selects R_Im y_Im_duplicate y_Im_duplicate ∈ lw_gd := tw_mem (i := 115) (by decide +kernel) rfl
theorem cd_Im_duplicate : Cond.code y_Im_duplicate b_Im_duplicate 4 none ∈ lw_gd := tw_mem (i := 116) (by decide +kernel) rfl
theorem ml_Im_19 : Cond.methodLink R_Im 19 y_Im_wordAt ∈ lw_gd := tw_mem (i := 117) (by decide +kernel) rfl
theorem im_Im_wordAt : Cond.instanceMethod y_Im_wordAt ∈ lw_gd := tw_mem (i := 118) (by decide +kernel) rfl
theorem se_Im_wordAt : Cond.selects R_Im y_Im_wordAt y_Im_wordAt ∈ lw_gd := tw_mem (i := 119) (by decide +kernel) rfl
theorem cd_Im_wordAt : Cond.code y_Im_wordAt b_Im_wordAt 4 (some .long) ∈ lw_gd := tw_mem (i := 120) (by decide +kernel) rfl
theorem fl_Tp_12 : Cond.fieldLink R_Tp 12 "ThinPool" "memory" "LThinPool$Image;" ∈ lw_gd := tw_mem (i := 121) (by decide +kernel) rfl
theorem fl_Tp_16 : Cond.fieldLink R_Tp 16 "ThinPool" "medium" "LThinPool$Image;" ∈ lw_gd := tw_mem (i := 122) (by decide +kernel) rfl
theorem fl_Tp_24 : Cond.fieldLink R_Tp 24 "ThinPool" "trees" "LThinPool$Trees;" ∈ lw_gd := tw_mem (i := 123) (by decide +kernel) rfl
theorem fl_Tp_31 : Cond.fieldLink R_Tp 31 "ThinPool" "audit" "LThinPool$Audit;" ∈ lw_gd := tw_mem (i := 124) (by decide +kernel) rfl
theorem fl_Tp_142 : Cond.fieldLink R_Tp 142 "ThinPool" "head" "I" ∈ lw_gd := tw_mem (i := 125) (by decide +kernel) rfl
theorem fl_Tp_38 : Cond.fieldLink R_Tp 38 "ThinPool" "on" "Z" ∈ lw_gd := tw_mem (i := 126) (by decide +kernel) rfl
theorem ml_Lw_13 : Cond.methodLink R_Lw 13 y_Tp_lay ∈ lw_gd := tw_mem (i := 140) (by decide +kernel) rfl
theorem im_Tp_lay : Cond.instanceMethod y_Tp_lay ∈ lw_gd := tw_mem (i := 141) (by decide +kernel) rfl
theorem se_Tp_lay : Cond.selects R_Tp y_Tp_lay y_Tp_lay ∈ lw_gd := tw_mem (i := 142) (by decide +kernel) rfl
theorem cd_Tp_lay : Cond.code y_Tp_lay b_Tp_lay 1 (some .int) ∈ lw_gd := tw_mem (i := 143) (by decide +kernel) rfl
theorem ml_Lw_18 : Cond.methodLink R_Lw 18 y_Tp_make ∈ lw_gd := tw_mem (i := 144) (by decide +kernel) rfl
theorem im_Tp_make : Cond.instanceMethod y_Tp_make ∈ lw_gd := tw_mem (i := 145) (by decide +kernel) rfl
theorem se_Tp_make : Cond.selects R_Tp y_Tp_make y_Tp_make ∈ lw_gd := tw_mem (i := 146) (by decide +kernel) rfl
theorem cd_Tp_make : Cond.code y_Tp_make b_Tp_make 2 (some .int) ∈ lw_gd := tw_mem (i := 147) (by decide +kernel) rfl
theorem ml_Tp_42 : Cond.methodLink R_Tp 42 y_Tp_isVolume ∈ lw_gd := tw_mem (i := 148) (by decide +kernel) rfl
theorem st_Tp_isVolume : Cond.static y_Tp_isVolume ∈ lw_gd := tw_mem (i := 149) (by decide +kernel) rfl
theorem cd_Tp_isVolume : Cond.code y_Tp_isVolume b_Tp_isVolume 1 (some .boolean) ∈ lw_gd := tw_mem (i := 150) (by decide +kernel) rfl
theorem ml_Tp_46 : Cond.methodLink R_Tp 46 y_Tp_isThere ∈ lw_gd := tw_mem (i := 151) (by decide +kernel) rfl
theorem im_Tp_isThere : Cond.instanceMethod y_Tp_isThere ∈ lw_gd := tw_mem (i := 153) (by decide +kernel) rfl
theorem cd_Tp_isThere : Cond.code y_Tp_isThere b_Tp_isThere 2 (some .boolean) ∈ lw_gd := tw_mem (i := 154) (by decide +kernel) rfl
theorem ml_Tp_149 : Cond.methodLink R_Tp 149 y_Tb_rootOf ∈ lw_gd := tw_mem (i := 155) (by decide +kernel) rfl
theorem im_Tb_rootOf : Cond.instanceMethod y_Tb_rootOf ∈ lw_gd := tw_mem (i := 156) (by decide +kernel) rfl
theorem se_Tb_rootOf : Cond.selects R_Tb y_Tb_rootOf y_Tb_rootOf ∈ lw_gd := tw_mem (i := 157) (by decide +kernel) rfl
theorem cd_Tb_rootOf : Cond.code y_Tb_rootOf b_Tb_rootOf 2 (some .int) ∈ lw_gd := tw_mem (i := 158) (by decide +kernel) rfl
theorem ml_Tb_23 : Cond.methodLink R_Tb 23 y_Im_linkAt ∈ lw_gd := tw_mem (i := 159) (by decide +kernel) rfl
theorem im_Im_linkAt : Cond.instanceMethod y_Im_linkAt ∈ lw_gd := tw_mem (i := 160) (by decide +kernel) rfl
theorem se_Im_linkAt : Cond.selects R_Im y_Im_linkAt y_Im_linkAt ∈ lw_gd := tw_mem (i := 161) (by decide +kernel) rfl
theorem cd_Im_linkAt : Cond.code y_Im_linkAt b_Im_linkAt 3 (some .int) ∈ lw_gd := tw_mem (i := 162) (by decide +kernel) rfl
theorem kc_Im_23 : Cond.constant R_Im 23 (65535) ∈ lw_gd := tw_mem (i := 163) (by decide +kernel) rfl
theorem ml_Tp_49 : Cond.methodLink R_Tp 49 y_Tr_addEmpty ∈ lw_gd := tw_mem (i := 164) (by decide +kernel) rfl
theorem im_Tr_addEmpty : Cond.instanceMethod y_Tr_addEmpty ∈ lw_gd := tw_mem (i := 165) (by decide +kernel) rfl
theorem se_Tr_addEmpty : Cond.selects R_Tr y_Tr_addEmpty y_Tr_addEmpty ∈ lw_gd := tw_mem (i := 166) (by decide +kernel) rfl
theorem cd_Tr_addEmpty : Cond.code y_Tr_addEmpty b_Tr_addEmpty 2 none ∈ lw_gd := tw_mem (i := 167) (by decide +kernel) rfl
theorem ml_Tr_60 : Cond.methodLink R_Tr 60 y_Tr_takeBlank ∈ lw_gd := tw_mem (i := 168) (by decide +kernel) rfl
theorem im_Tr_takeBlank : Cond.instanceMethod y_Tr_takeBlank ∈ lw_gd := tw_mem (i := 170) (by decide +kernel) rfl
theorem cd_Tr_takeBlank : Cond.code y_Tr_takeBlank b_Tr_takeBlank 2 (some .int) ∈ lw_gd := tw_mem (i := 171) (by decide +kernel) rfl
theorem ml_Tr_95 : Cond.methodLink R_Tr 95 y_Tr_take ∈ lw_gd := tw_mem (i := 172) (by decide +kernel) rfl
theorem im_Tr_take : Cond.instanceMethod y_Tr_take ∈ lw_gd := tw_mem (i := 174) (by decide +kernel) rfl
theorem cd_Tr_take : Cond.code y_Tr_take b_Tr_take 2 (some .int) ∈ lw_gd := tw_mem (i := 175) (by decide +kernel) rfl
theorem ml_Tr_41 : Cond.methodLink R_Tr 41 y_Tb_waysTo ∈ lw_gd := tw_mem (i := 176) (by decide +kernel) rfl
theorem im_Tb_waysTo : Cond.instanceMethod y_Tb_waysTo ∈ lw_gd := tw_mem (i := 177) (by decide +kernel) rfl
theorem se_Tb_waysTo : Cond.selects R_Tb y_Tb_waysTo y_Tb_waysTo ∈ lw_gd := tw_mem (i := 178) (by decide +kernel) rfl
theorem cd_Tb_waysTo : Cond.code y_Tb_waysTo b_Tb_waysTo 3 (some .int) ∈ lw_gd := tw_mem (i := 179) (by decide +kernel) rfl
theorem ml_Tb_33 : Cond.methodLink R_Tb 33 y_Im_byteAt ∈ lw_gd := tw_mem (i := 180) (by decide +kernel) rfl
theorem im_Im_byteAt : Cond.instanceMethod y_Im_byteAt ∈ lw_gd := tw_mem (i := 181) (by decide +kernel) rfl
theorem se_Im_byteAt : Cond.selects R_Im y_Im_byteAt y_Im_byteAt ∈ lw_gd := tw_mem (i := 182) (by decide +kernel) rfl
theorem cd_Im_byteAt : Cond.code y_Im_byteAt b_Im_byteAt 4 (some .int) ∈ lw_gd := tw_mem (i := 183) (by decide +kernel) rfl
theorem ml_Tr_107 : Cond.methodLink R_Tr 107 y_Tb_setWays ∈ lw_gd := tw_mem (i := 184) (by decide +kernel) rfl
theorem im_Tb_setWays : Cond.instanceMethod y_Tb_setWays ∈ lw_gd := tw_mem (i := 185) (by decide +kernel) rfl
theorem se_Tb_setWays : Cond.selects R_Tb y_Tb_setWays y_Tb_setWays ∈ lw_gd := tw_mem (i := 186) (by decide +kernel) rfl
theorem cd_Tb_setWays : Cond.code y_Tb_setWays b_Tb_setWays 4 none ∈ lw_gd := tw_mem (i := 187) (by decide +kernel) rfl
theorem ml_Tb_36 : Cond.methodLink R_Tb 36 y_Im_setByte ∈ lw_gd := tw_mem (i := 188) (by decide +kernel) rfl
theorem im_Im_setByte : Cond.instanceMethod y_Im_setByte ∈ lw_gd := tw_mem (i := 189) (by decide +kernel) rfl
theorem se_Im_setByte : Cond.selects R_Im y_Im_setByte y_Im_setByte ∈ lw_gd := tw_mem (i := 190) (by decide +kernel) rfl
theorem cd_Im_setByte : Cond.code y_Im_setByte b_Im_setByte 6 none ∈ lw_gd := tw_mem (i := 191) (by decide +kernel) rfl
theorem kl_Im_15 : Cond.constantLong R_Im 15 (255) ∈ lw_gd := tw_mem (i := 192) (by decide +kernel) rfl
theorem kl_Im_17 : Cond.constantLong R_Im 17 (-1) ∈ lw_gd := tw_mem (i := 193) (by decide +kernel) rfl
theorem ml_Tr_104 : Cond.methodLink R_Tr 104 y_Im_blank ∈ lw_gd := tw_mem (i := 194) (by decide +kernel) rfl
theorem ml_Tr_64 : Cond.methodLink R_Tr 64 y_Tb_setRoot ∈ lw_gd := tw_mem (i := 195) (by decide +kernel) rfl
theorem im_Tb_setRoot : Cond.instanceMethod y_Tb_setRoot ∈ lw_gd := tw_mem (i := 196) (by decide +kernel) rfl
theorem se_Tb_setRoot : Cond.selects R_Tb y_Tb_setRoot y_Tb_setRoot ∈ lw_gd := tw_mem (i := 197) (by decide +kernel) rfl
theorem cd_Tb_setRoot : Cond.code y_Tb_setRoot b_Tb_setRoot 3 none ∈ lw_gd := tw_mem (i := 198) (by decide +kernel) rfl
theorem ml_Tb_29 : Cond.methodLink R_Tb 29 y_Im_setLink ∈ lw_gd := tw_mem (i := 199) (by decide +kernel) rfl
theorem im_Im_setLink : Cond.instanceMethod y_Im_setLink ∈ lw_gd := tw_mem (i := 200) (by decide +kernel) rfl
theorem se_Im_setLink : Cond.selects R_Im y_Im_setLink y_Im_setLink ∈ lw_gd := tw_mem (i := 201) (by decide +kernel) rfl
theorem cd_Im_setLink : Cond.code y_Im_setLink b_Im_setLink 7 none ∈ lw_gd := tw_mem (i := 202) (by decide +kernel) rfl
theorem kl_Im_24 : Cond.constantLong R_Im 24 (65535) ∈ lw_gd := tw_mem (i := 203) (by decide +kernel) rfl
theorem ml_Lw_23 : Cond.methodLink R_Lw 23 y_Tp_snap ∈ lw_gd := tw_mem (i := 204) (by decide +kernel) rfl
theorem im_Tp_snap : Cond.instanceMethod y_Tp_snap ∈ lw_gd := tw_mem (i := 205) (by decide +kernel) rfl
theorem se_Tp_snap : Cond.selects R_Tp y_Tp_snap y_Tp_snap ∈ lw_gd := tw_mem (i := 206) (by decide +kernel) rfl
theorem cd_Tp_snap : Cond.code y_Tp_snap b_Tp_snap 4 (some .int) ∈ lw_gd := tw_mem (i := 207) (by decide +kernel) rfl
theorem ml_Tp_53 : Cond.methodLink R_Tp 53 y_Tr_sizeOf ∈ lw_gd := tw_mem (i := 208) (by decide +kernel) rfl
theorem im_Tr_sizeOf : Cond.instanceMethod y_Tr_sizeOf ∈ lw_gd := tw_mem (i := 209) (by decide +kernel) rfl
theorem se_Tr_sizeOf : Cond.selects R_Tr y_Tr_sizeOf y_Tr_sizeOf ∈ lw_gd := tw_mem (i := 210) (by decide +kernel) rfl
theorem cd_Tr_sizeOf : Cond.code y_Tr_sizeOf b_Tr_sizeOf 3 (some .int) ∈ lw_gd := tw_mem (i := 211) (by decide +kernel) rfl
theorem ml_Tr_45 : Cond.methodLink R_Tr 45 y_Tb_rootOf ∈ lw_gd := tw_mem (i := 212) (by decide +kernel) rfl
theorem ml_Tr_48 : Cond.methodLink R_Tr 48 y_Im_sizeAt ∈ lw_gd := tw_mem (i := 213) (by decide +kernel) rfl
theorem im_Im_sizeAt : Cond.instanceMethod y_Im_sizeAt ∈ lw_gd := tw_mem (i := 214) (by decide +kernel) rfl
theorem se_Im_sizeAt : Cond.selects R_Im y_Im_sizeAt y_Im_sizeAt ∈ lw_gd := tw_mem (i := 215) (by decide +kernel) rfl
theorem cd_Im_sizeAt : Cond.code y_Im_sizeAt b_Im_sizeAt 2 (some .int) ∈ lw_gd := tw_mem (i := 216) (by decide +kernel) rfl
theorem ml_Tp_57 : Cond.methodLink R_Tp 57 y_Tr_sizeOfAll ∈ lw_gd := tw_mem (i := 217) (by decide +kernel) rfl
theorem im_Tr_sizeOfAll : Cond.instanceMethod y_Tr_sizeOfAll ∈ lw_gd := tw_mem (i := 218) (by decide +kernel) rfl
theorem se_Tr_sizeOfAll : Cond.selects R_Tr y_Tr_sizeOfAll y_Tr_sizeOfAll ∈ lw_gd := tw_mem (i := 219) (by decide +kernel) rfl
theorem cd_Tr_sizeOfAll : Cond.code y_Tr_sizeOfAll b_Tr_sizeOfAll 3 (some .int) ∈ lw_gd := tw_mem (i := 220) (by decide +kernel) rfl
theorem ml_Tr_53 : Cond.methodLink R_Tr 53 y_Tr_sizeOf ∈ lw_gd := tw_mem (i := 221) (by decide +kernel) rfl
theorem ml_Tp_61 : Cond.methodLink R_Tp 61 y_Tr_addTwin ∈ lw_gd := tw_mem (i := 222) (by decide +kernel) rfl
theorem im_Tr_addTwin : Cond.instanceMethod y_Tr_addTwin ∈ lw_gd := tw_mem (i := 223) (by decide +kernel) rfl
theorem se_Tr_addTwin : Cond.selects R_Tr y_Tr_addTwin y_Tr_addTwin ∈ lw_gd := tw_mem (i := 224) (by decide +kernel) rfl
theorem cd_Tr_addTwin : Cond.code y_Tr_addTwin b_Tr_addTwin 4 none ∈ lw_gd := tw_mem (i := 225) (by decide +kernel) rfl
theorem ml_Tr_68 : Cond.methodLink R_Tr 68 y_Tr_addWay ∈ lw_gd := tw_mem (i := 226) (by decide +kernel) rfl
theorem im_Tr_addWay : Cond.instanceMethod y_Tr_addWay ∈ lw_gd := tw_mem (i := 228) (by decide +kernel) rfl
theorem cd_Tr_addWay : Cond.code y_Tr_addWay b_Tr_addWay 2 none ∈ lw_gd := tw_mem (i := 229) (by decide +kernel) rfl
theorem ml_Lw_28 : Cond.methodLink R_Lw 28 y_Tp_remove ∈ lw_gd := tw_mem (i := 230) (by decide +kernel) rfl
theorem im_Tp_remove : Cond.instanceMethod y_Tp_remove ∈ lw_gd := tw_mem (i := 231) (by decide +kernel) rfl
theorem se_Tp_remove : Cond.selects R_Tp y_Tp_remove y_Tp_remove ∈ lw_gd := tw_mem (i := 232) (by decide +kernel) rfl
theorem cd_Tp_remove : Cond.code y_Tp_remove b_Tp_remove 3 (some .int) ∈ lw_gd := tw_mem (i := 233) (by decide +kernel) rfl
theorem ml_Tp_65 : Cond.methodLink R_Tp 65 y_Tr_dropVolume ∈ lw_gd := tw_mem (i := 234) (by decide +kernel) rfl
theorem im_Tr_dropVolume : Cond.instanceMethod y_Tr_dropVolume ∈ lw_gd := tw_mem (i := 235) (by decide +kernel) rfl
theorem se_Tr_dropVolume : Cond.selects R_Tr y_Tr_dropVolume y_Tr_dropVolume ∈ lw_gd := tw_mem (i := 236) (by decide +kernel) rfl
theorem cd_Tr_dropVolume : Cond.code y_Tr_dropVolume b_Tr_dropVolume 2 none ∈ lw_gd := tw_mem (i := 237) (by decide +kernel) rfl
theorem ml_Tr_72 : Cond.methodLink R_Tr 72 y_Tr_release ∈ lw_gd := tw_mem (i := 238) (by decide +kernel) rfl
theorem im_Tr_release : Cond.instanceMethod y_Tr_release ∈ lw_gd := tw_mem (i := 240) (by decide +kernel) rfl
theorem cd_Tr_release : Cond.code y_Tr_release b_Tr_release 5 none ∈ lw_gd := tw_mem (i := 241) (by decide +kernel) rfl
theorem ml_Tr_101 : Cond.methodLink R_Tr 101 y_Tr_linksOf ∈ lw_gd := tw_mem (i := 242) (by decide +kernel) rfl
theorem st_Tr_linksOf : Cond.static y_Tr_linksOf ∈ lw_gd := tw_mem (i := 243) (by decide +kernel) rfl
theorem cd_Tr_linksOf : Cond.code y_Tr_linksOf b_Tr_linksOf 1 (some .int) ∈ lw_gd := tw_mem (i := 244) (by decide +kernel) rfl
theorem ml_Tr_56 : Cond.methodLink R_Tr 56 y_Im_linkAt ∈ lw_gd := tw_mem (i := 245) (by decide +kernel) rfl
theorem ml_Lw_32 : Cond.methodLink R_Lw 32 y_Tp_write ∈ lw_gd := tw_mem (i := 246) (by decide +kernel) rfl
theorem im_Tp_write : Cond.instanceMethod y_Tp_write ∈ lw_gd := tw_mem (i := 247) (by decide +kernel) rfl
theorem se_Tp_write : Cond.selects R_Tp y_Tp_write y_Tp_write ∈ lw_gd := tw_mem (i := 248) (by decide +kernel) rfl
theorem cd_Tp_write : Cond.code y_Tp_write b_Tp_write 8 (some .int) ∈ lw_gd := tw_mem (i := 249) (by decide +kernel) rfl
theorem ml_Tp_68 : Cond.methodLink R_Tp 68 y_Tp_isPiece ∈ lw_gd := tw_mem (i := 250) (by decide +kernel) rfl
theorem st_Tp_isPiece : Cond.static y_Tp_isPiece ∈ lw_gd := tw_mem (i := 251) (by decide +kernel) rfl
theorem cd_Tp_isPiece : Cond.code y_Tp_isPiece b_Tp_isPiece 1 (some .boolean) ∈ lw_gd := tw_mem (i := 252) (by decide +kernel) rfl
theorem ml_Tp_71 : Cond.methodLink R_Tp 71 y_Tp_areBytes ∈ lw_gd := tw_mem (i := 253) (by decide +kernel) rfl
theorem st_Tp_areBytes : Cond.static y_Tp_areBytes ∈ lw_gd := tw_mem (i := 254) (by decide +kernel) rfl
theorem cd_Tp_areBytes : Cond.code y_Tp_areBytes b_Tp_areBytes 2 (some .boolean) ∈ lw_gd := tw_mem (i := 255) (by decide +kernel) rfl
theorem ml_Tp_75 : Cond.methodLink R_Tp 75 y_Tp_isByte ∈ lw_gd := tw_mem (i := 256) (by decide +kernel) rfl
theorem st_Tp_isByte : Cond.static y_Tp_isByte ∈ lw_gd := tw_mem (i := 257) (by decide +kernel) rfl
theorem cd_Tp_isByte : Cond.code y_Tp_isByte b_Tp_isByte 1 (some .boolean) ∈ lw_gd := tw_mem (i := 258) (by decide +kernel) rfl
theorem ml_Tp_78 : Cond.methodLink R_Tp 78 y_Tr_find ∈ lw_gd := tw_mem (i := 259) (by decide +kernel) rfl
theorem im_Tr_find : Cond.instanceMethod y_Tr_find ∈ lw_gd := tw_mem (i := 260) (by decide +kernel) rfl
theorem se_Tr_find : Cond.selects R_Tr y_Tr_find y_Tr_find ∈ lw_gd := tw_mem (i := 261) (by decide +kernel) rfl
theorem cd_Tr_find : Cond.code y_Tr_find b_Tr_find 5 (some .int) ∈ lw_gd := tw_mem (i := 262) (by decide +kernel) rfl
theorem ml_Tp_82 : Cond.methodLink R_Tp 82 y_Tr_ownPiece ∈ lw_gd := tw_mem (i := 263) (by decide +kernel) rfl
theorem im_Tr_ownPiece : Cond.instanceMethod y_Tr_ownPiece ∈ lw_gd := tw_mem (i := 264) (by decide +kernel) rfl
theorem se_Tr_ownPiece : Cond.selects R_Tr y_Tr_ownPiece y_Tr_ownPiece ∈ lw_gd := tw_mem (i := 265) (by decide +kernel) rfl
theorem cd_Tr_ownPiece : Cond.code y_Tr_ownPiece b_Tr_ownPiece 5 (some .int) ∈ lw_gd := tw_mem (i := 266) (by decide +kernel) rfl
theorem ml_Tr_75 : Cond.methodLink R_Tr 75 y_Tr_ownRoot ∈ lw_gd := tw_mem (i := 267) (by decide +kernel) rfl
theorem im_Tr_ownRoot : Cond.instanceMethod y_Tr_ownRoot ∈ lw_gd := tw_mem (i := 269) (by decide +kernel) rfl
theorem cd_Tr_ownRoot : Cond.code y_Tr_ownRoot b_Tr_ownRoot 3 (some .int) ∈ lw_gd := tw_mem (i := 270) (by decide +kernel) rfl
theorem ml_Tr_89 : Cond.methodLink R_Tr 89 y_Tr_own ∈ lw_gd := tw_mem (i := 271) (by decide +kernel) rfl
theorem im_Tr_own : Cond.instanceMethod y_Tr_own ∈ lw_gd := tw_mem (i := 273) (by decide +kernel) rfl
theorem cd_Tr_own : Cond.code y_Tr_own b_Tr_own 5 (some .int) ∈ lw_gd := tw_mem (i := 274) (by decide +kernel) rfl
theorem ml_Tr_98 : Cond.methodLink R_Tr 98 y_Im_duplicate ∈ lw_gd := tw_mem (i := 275) (by decide +kernel) rfl
theorem ml_Tr_78 : Cond.methodLink R_Tr 78 y_Tr_ownLink ∈ lw_gd := tw_mem (i := 276) (by decide +kernel) rfl
theorem im_Tr_ownLink : Cond.instanceMethod y_Tr_ownLink ∈ lw_gd := tw_mem (i := 278) (by decide +kernel) rfl
theorem cd_Tr_ownLink : Cond.code y_Tr_ownLink b_Tr_ownLink 6 (some .int) ∈ lw_gd := tw_mem (i := 279) (by decide +kernel) rfl
theorem ml_Tr_92 : Cond.methodLink R_Tr 92 y_Im_setLink ∈ lw_gd := tw_mem (i := 280) (by decide +kernel) rfl
theorem ml_Tr_82 : Cond.methodLink R_Tr 82 y_Im_addSize ∈ lw_gd := tw_mem (i := 281) (by decide +kernel) rfl
theorem im_Im_addSize : Cond.instanceMethod y_Im_addSize ∈ lw_gd := tw_mem (i := 282) (by decide +kernel) rfl
theorem se_Im_addSize : Cond.selects R_Im y_Im_addSize y_Im_addSize ∈ lw_gd := tw_mem (i := 283) (by decide +kernel) rfl
theorem cd_Im_addSize : Cond.code y_Im_addSize b_Im_addSize 3 none ∈ lw_gd := tw_mem (i := 284) (by decide +kernel) rfl
theorem ml_Tp_85 : Cond.methodLink R_Tp 85 y_Im_setByte ∈ lw_gd := tw_mem (i := 285) (by decide +kernel) rfl
theorem ml_Lw_37 : Cond.methodLink R_Lw 37 y_Tp_read ∈ lw_gd := tw_mem (i := 286) (by decide +kernel) rfl
theorem im_Tp_read : Cond.instanceMethod y_Tp_read ∈ lw_gd := tw_mem (i := 287) (by decide +kernel) rfl
theorem se_Tp_read : Cond.selects R_Tp y_Tp_read y_Tp_read ∈ lw_gd := tw_mem (i := 288) (by decide +kernel) rfl
theorem cd_Tp_read : Cond.code y_Tp_read b_Tp_read 5 (some .int) ∈ lw_gd := tw_mem (i := 289) (by decide +kernel) rfl
theorem ml_Tp_89 : Cond.methodLink R_Tp 89 y_Im_byteAt ∈ lw_gd := tw_mem (i := 290) (by decide +kernel) rfl
theorem ml_Lw_42 : Cond.methodLink R_Lw 42 y_Tp_trim ∈ lw_gd := tw_mem (i := 291) (by decide +kernel) rfl
theorem im_Tp_trim : Cond.instanceMethod y_Tp_trim ∈ lw_gd := tw_mem (i := 292) (by decide +kernel) rfl
theorem se_Tp_trim : Cond.selects R_Tp y_Tp_trim y_Tp_trim ∈ lw_gd := tw_mem (i := 293) (by decide +kernel) rfl
theorem cd_Tp_trim : Cond.code y_Tp_trim b_Tp_trim 6 (some .int) ∈ lw_gd := tw_mem (i := 294) (by decide +kernel) rfl
theorem ml_Tp_92 : Cond.methodLink R_Tp 92 y_Tr_dropPiece ∈ lw_gd := tw_mem (i := 295) (by decide +kernel) rfl
theorem im_Tr_dropPiece : Cond.instanceMethod y_Tr_dropPiece ∈ lw_gd := tw_mem (i := 296) (by decide +kernel) rfl
theorem se_Tr_dropPiece : Cond.selects R_Tr y_Tr_dropPiece y_Tr_dropPiece ∈ lw_gd := tw_mem (i := 297) (by decide +kernel) rfl
theorem cd_Tr_dropPiece : Cond.code y_Tr_dropPiece b_Tr_dropPiece 5 none ∈ lw_gd := tw_mem (i := 298) (by decide +kernel) rfl
theorem ml_Tr_85 : Cond.methodLink R_Tr 85 y_Tr_dropLink ∈ lw_gd := tw_mem (i := 299) (by decide +kernel) rfl
theorem im_Tr_dropLink : Cond.instanceMethod y_Tr_dropLink ∈ lw_gd := tw_mem (i := 301) (by decide +kernel) rfl
theorem cd_Tr_dropLink : Cond.code y_Tr_dropLink b_Tr_dropLink 4 none ∈ lw_gd := tw_mem (i := 302) (by decide +kernel) rfl
theorem ml_Lw_46 : Cond.methodLink R_Lw 46 y_Tp_pieces ∈ lw_gd := tw_mem (i := 303) (by decide +kernel) rfl
theorem im_Tp_pieces : Cond.instanceMethod y_Tp_pieces ∈ lw_gd := tw_mem (i := 304) (by decide +kernel) rfl
theorem se_Tp_pieces : Cond.selects R_Tp y_Tp_pieces y_Tp_pieces ∈ lw_gd := tw_mem (i := 305) (by decide +kernel) rfl
theorem cd_Tp_pieces : Cond.code y_Tp_pieces b_Tp_pieces 2 (some .int) ∈ lw_gd := tw_mem (i := 306) (by decide +kernel) rfl
theorem ml_Lw_50 : Cond.methodLink R_Lw 50 y_Tp_next ∈ lw_gd := tw_mem (i := 307) (by decide +kernel) rfl
theorem im_Tp_next : Cond.instanceMethod y_Tp_next ∈ lw_gd := tw_mem (i := 308) (by decide +kernel) rfl
theorem se_Tp_next : Cond.selects R_Tp y_Tp_next y_Tp_next ∈ lw_gd := tw_mem (i := 309) (by decide +kernel) rfl
theorem cd_Tp_next : Cond.code y_Tp_next b_Tp_next 4 (some .int) ∈ lw_gd := tw_mem (i := 310) (by decide +kernel) rfl
theorem ml_Lw_54 : Cond.methodLink R_Lw 54 y_Tp_shared ∈ lw_gd := tw_mem (i := 311) (by decide +kernel) rfl
theorem im_Tp_shared : Cond.instanceMethod y_Tp_shared ∈ lw_gd := tw_mem (i := 312) (by decide +kernel) rfl
theorem se_Tp_shared : Cond.selects R_Tp y_Tp_shared y_Tp_shared ∈ lw_gd := tw_mem (i := 313) (by decide +kernel) rfl
theorem cd_Tp_shared : Cond.code y_Tp_shared b_Tp_shared 5 (some .int) ∈ lw_gd := tw_mem (i := 314) (by decide +kernel) rfl
theorem ml_Lw_58 : Cond.methodLink R_Lw 58 y_Tp_tell ∈ lw_gd := tw_mem (i := 315) (by decide +kernel) rfl
theorem im_Tp_tell : Cond.instanceMethod y_Tp_tell ∈ lw_gd := tw_mem (i := 316) (by decide +kernel) rfl
theorem se_Tp_tell : Cond.selects R_Tp y_Tp_tell y_Tp_tell ∈ lw_gd := tw_mem (i := 317) (by decide +kernel) rfl
theorem cd_Tp_tell : Cond.code y_Tp_tell b_Tp_tell 4 (some .int) ∈ lw_gd := tw_mem (i := 318) (by decide +kernel) rfl
theorem ml_Tp_95 : Cond.methodLink R_Tp 95 y_Tp_isNote ∈ lw_gd := tw_mem (i := 319) (by decide +kernel) rfl
theorem st_Tp_isNote : Cond.static y_Tp_isNote ∈ lw_gd := tw_mem (i := 320) (by decide +kernel) rfl
theorem cd_Tp_isNote : Cond.code y_Tp_isNote b_Tp_isNote 1 (some .boolean) ∈ lw_gd := tw_mem (i := 321) (by decide +kernel) rfl
theorem ml_Tp_102 : Cond.methodLink R_Tp 102 y_Tb_noteAt ∈ lw_gd := tw_mem (i := 322) (by decide +kernel) rfl
theorem im_Tb_noteAt : Cond.instanceMethod y_Tb_noteAt ∈ lw_gd := tw_mem (i := 323) (by decide +kernel) rfl
theorem se_Tb_noteAt : Cond.selects R_Tb y_Tb_noteAt y_Tb_noteAt ∈ lw_gd := tw_mem (i := 324) (by decide +kernel) rfl
theorem cd_Tb_noteAt : Cond.code y_Tb_noteAt b_Tb_noteAt 2 (some .int) ∈ lw_gd := tw_mem (i := 325) (by decide +kernel) rfl
theorem ml_Tp_107 : Cond.methodLink R_Tp 107 y_Tb_setNote ∈ lw_gd := tw_mem (i := 326) (by decide +kernel) rfl
theorem im_Tb_setNote : Cond.instanceMethod y_Tb_setNote ∈ lw_gd := tw_mem (i := 327) (by decide +kernel) rfl
theorem se_Tb_setNote : Cond.selects R_Tb y_Tb_setNote y_Tb_setNote ∈ lw_gd := tw_mem (i := 328) (by decide +kernel) rfl
theorem cd_Tb_setNote : Cond.code y_Tb_setNote b_Tb_setNote 3 none ∈ lw_gd := tw_mem (i := 329) (by decide +kernel) rfl
theorem ml_Lw_62 : Cond.methodLink R_Lw 62 y_Tp_told ∈ lw_gd := tw_mem (i := 330) (by decide +kernel) rfl
theorem im_Tp_told : Cond.instanceMethod y_Tp_told ∈ lw_gd := tw_mem (i := 331) (by decide +kernel) rfl
theorem se_Tp_told : Cond.selects R_Tp y_Tp_told y_Tp_told ∈ lw_gd := tw_mem (i := 332) (by decide +kernel) rfl
theorem cd_Tp_told : Cond.code y_Tp_told b_Tp_told 2 (some .int) ∈ lw_gd := tw_mem (i := 333) (by decide +kernel) rfl
theorem ml_Lw_68 : Cond.methodLink R_Lw 68 y_Tp_keep ∈ lw_gd := tw_mem (i := 334) (by decide +kernel) rfl
theorem im_Tp_keep : Cond.instanceMethod y_Tp_keep ∈ lw_gd := tw_mem (i := 335) (by decide +kernel) rfl
theorem se_Tp_keep : Cond.selects R_Tp y_Tp_keep y_Tp_keep ∈ lw_gd := tw_mem (i := 336) (by decide +kernel) rfl
theorem cd_Tp_keep : Cond.code y_Tp_keep b_Tp_keep 4 (some .int) ∈ lw_gd := tw_mem (i := 337) (by decide +kernel) rfl
theorem ml_Tp_110 : Cond.methodLink R_Tp 110 y_Tp_writeBlocks ∈ lw_gd := tw_mem (i := 338) (by decide +kernel) rfl
theorem im_Tp_writeBlocks : Cond.instanceMethod y_Tp_writeBlocks ∈ lw_gd := tw_mem (i := 340) (by decide +kernel) rfl
theorem cd_Tp_writeBlocks : Cond.code y_Tp_writeBlocks b_Tp_writeBlocks 7 none ∈ lw_gd := tw_mem (i := 341) (by decide +kernel) rfl
theorem ml_Tp_167 : Cond.methodLink R_Tp 167 y_Tr_isNew ∈ lw_gd := tw_mem (i := 342) (by decide +kernel) rfl
theorem im_Tr_isNew : Cond.instanceMethod y_Tr_isNew ∈ lw_gd := tw_mem (i := 343) (by decide +kernel) rfl
theorem se_Tr_isNew : Cond.selects R_Tr y_Tr_isNew y_Tr_isNew ∈ lw_gd := tw_mem (i := 344) (by decide +kernel) rfl
theorem cd_Tr_isNew : Cond.code y_Tr_isNew b_Tr_isNew 2 (some .boolean) ∈ lw_gd := tw_mem (i := 345) (by decide +kernel) rfl
theorem ml_Tp_170 : Cond.methodLink R_Tp 170 y_Tp_partDown ∈ lw_gd := tw_mem (i := 346) (by decide +kernel) rfl
theorem st_Tp_partDown : Cond.static y_Tp_partDown ∈ lw_gd := tw_mem (i := 347) (by decide +kernel) rfl
theorem cd_Tp_partDown : Cond.code y_Tp_partDown b_Tp_partDown 4 (some .int) ∈ lw_gd := tw_mem (i := 348) (by decide +kernel) rfl
theorem ml_Tp_174 : Cond.methodLink R_Tp 174 y_Im_receive ∈ lw_gd := tw_mem (i := 349) (by decide +kernel) rfl
theorem im_Im_receive : Cond.instanceMethod y_Im_receive ∈ lw_gd := tw_mem (i := 350) (by decide +kernel) rfl
theorem se_Im_receive : Cond.selects R_Im y_Im_receive y_Im_receive ∈ lw_gd := tw_mem (i := 351) (by decide +kernel) rfl
theorem cd_Im_receive : Cond.code y_Im_receive b_Im_receive 7 none ∈ lw_gd := tw_mem (i := 352) (by decide +kernel) rfl
theorem ml_Tp_120 : Cond.methodLink R_Tp 120 y_Tp_otherHead ∈ lw_gd := tw_mem (i := 353) (by decide +kernel) rfl
theorem im_Tp_otherHead : Cond.instanceMethod y_Tp_otherHead ∈ lw_gd := tw_mem (i := 355) (by decide +kernel) rfl
theorem cd_Tp_otherHead : Cond.code y_Tp_otherHead b_Tp_otherHead 1 (some .int) ∈ lw_gd := tw_mem (i := 356) (by decide +kernel) rfl
theorem ml_Tp_178 : Cond.methodLink R_Tp 178 y_Tb_startOf ∈ lw_gd := tw_mem (i := 357) (by decide +kernel) rfl
theorem ml_Tp_114 : Cond.methodLink R_Tp 114 y_Tp_losePower ∈ lw_gd := tw_mem (i := 358) (by decide +kernel) rfl
theorem im_Tp_losePower : Cond.instanceMethod y_Tp_losePower ∈ lw_gd := tw_mem (i := 360) (by decide +kernel) rfl
theorem cd_Tp_losePower : Cond.code y_Tp_losePower b_Tp_losePower 1 none ∈ lw_gd := tw_mem (i := 361) (by decide +kernel) rfl
theorem ml_Tp_159 : Cond.methodLink R_Tp 159 y_Im_forgetAll ∈ lw_gd := tw_mem (i := 362) (by decide +kernel) rfl
theorem im_Im_forgetAll : Cond.instanceMethod y_Im_forgetAll ∈ lw_gd := tw_mem (i := 363) (by decide +kernel) rfl
theorem se_Im_forgetAll : Cond.selects R_Im y_Im_forgetAll y_Im_forgetAll ∈ lw_gd := tw_mem (i := 364) (by decide +kernel) rfl
theorem cd_Im_forgetAll : Cond.code y_Im_forgetAll b_Im_forgetAll 1 none ∈ lw_gd := tw_mem (i := 365) (by decide +kernel) rfl
theorem ml_Im_30 : Cond.methodLink R_Im 30 y_Ar_fillJ ∈ lw_gd := tw_mem (i := 366) (by decide +kernel) rfl
theorem st_Ar_fillJ : Cond.static y_Ar_fillJ ∈ lw_gd := tw_mem (i := 367) (by decide +kernel) rfl
theorem cd_Ar_fillJ : Cond.code y_Ar_fillJ b_Ar_fillJ 5 none ∈ lw_gd := tw_mem (i := 368) (by decide +kernel) rfl
theorem ml_Tp_117 : Cond.methodLink R_Tp 117 y_Tp_writeOtherHead ∈ lw_gd := tw_mem (i := 369) (by decide +kernel) rfl
theorem im_Tp_writeOtherHead : Cond.instanceMethod y_Tp_writeOtherHead ∈ lw_gd := tw_mem (i := 371) (by decide +kernel) rfl
theorem cd_Tp_writeOtherHead : Cond.code y_Tp_writeOtherHead b_Tp_writeOtherHead 4 none ∈ lw_gd := tw_mem (i := 372) (by decide +kernel) rfl
theorem ml_Tp_135 : Cond.methodLink R_Tp 135 y_Tp_keptNumber ∈ lw_gd := tw_mem (i := 373) (by decide +kernel) rfl
theorem im_Tp_keptNumber : Cond.instanceMethod y_Tp_keptNumber ∈ lw_gd := tw_mem (i := 375) (by decide +kernel) rfl
theorem cd_Tp_keptNumber : Cond.code y_Tp_keptNumber b_Tp_keptNumber 1 (some .int) ∈ lw_gd := tw_mem (i := 376) (by decide +kernel) rfl
theorem ml_Tp_162 : Cond.methodLink R_Tp 162 y_Im_wordAt ∈ lw_gd := tw_mem (i := 377) (by decide +kernel) rfl
theorem ml_Lw_73 : Cond.methodLink R_Lw 73 y_Tp_fail ∈ lw_gd := tw_mem (i := 378) (by decide +kernel) rfl
theorem im_Tp_fail : Cond.instanceMethod y_Tp_fail ∈ lw_gd := tw_mem (i := 379) (by decide +kernel) rfl
theorem se_Tp_fail : Cond.selects R_Tp y_Tp_fail y_Tp_fail ∈ lw_gd := tw_mem (i := 380) (by decide +kernel) rfl
theorem cd_Tp_fail : Cond.code y_Tp_fail b_Tp_fail 1 (some .int) ∈ lw_gd := tw_mem (i := 381) (by decide +kernel) rfl
theorem ml_Lw_77 : Cond.methodLink R_Lw 77 y_Tp_mount ∈ lw_gd := tw_mem (i := 382) (by decide +kernel) rfl
theorem im_Tp_mount : Cond.instanceMethod y_Tp_mount ∈ lw_gd := tw_mem (i := 383) (by decide +kernel) rfl
theorem se_Tp_mount : Cond.selects R_Tp y_Tp_mount y_Tp_mount ∈ lw_gd := tw_mem (i := 384) (by decide +kernel) rfl
theorem cd_Tp_mount : Cond.code y_Tp_mount b_Tp_mount 1 (some .int) ∈ lw_gd := tw_mem (i := 385) (by decide +kernel) rfl
theorem ml_Tp_129 : Cond.methodLink R_Tp 129 y_Tp_newerHead ∈ lw_gd := tw_mem (i := 386) (by decide +kernel) rfl
theorem im_Tp_newerHead : Cond.instanceMethod y_Tp_newerHead ∈ lw_gd := tw_mem (i := 388) (by decide +kernel) rfl
theorem cd_Tp_newerHead : Cond.code y_Tp_newerHead b_Tp_newerHead 1 (some .int) ∈ lw_gd := tw_mem (i := 389) (by decide +kernel) rfl
theorem ml_Lw_81 : Cond.methodLink R_Lw 81 y_Tp_count ∈ lw_gd := tw_mem (i := 390) (by decide +kernel) rfl
theorem im_Tp_count : Cond.instanceMethod y_Tp_count ∈ lw_gd := tw_mem (i := 391) (by decide +kernel) rfl
theorem se_Tp_count : Cond.selects R_Tp y_Tp_count y_Tp_count ∈ lw_gd := tw_mem (i := 392) (by decide +kernel) rfl
theorem cd_Tp_count : Cond.code y_Tp_count b_Tp_count 2 (some .int) ∈ lw_gd := tw_mem (i := 393) (by decide +kernel) rfl
theorem ml_Tp_132 : Cond.methodLink R_Tp 132 y_Tp_countVolumes ∈ lw_gd := tw_mem (i := 394) (by decide +kernel) rfl
theorem im_Tp_countVolumes : Cond.instanceMethod y_Tp_countVolumes ∈ lw_gd := tw_mem (i := 396) (by decide +kernel) rfl
theorem cd_Tp_countVolumes : Cond.code y_Tp_countVolumes b_Tp_countVolumes 3 (some .int) ∈ lw_gd := tw_mem (i := 397) (by decide +kernel) rfl
theorem ml_Lw_85 : Cond.methodLink R_Lw 85 y_Tp_check ∈ lw_gd := tw_mem (i := 398) (by decide +kernel) rfl
theorem im_Tp_check : Cond.instanceMethod y_Tp_check ∈ lw_gd := tw_mem (i := 399) (by decide +kernel) rfl
theorem se_Tp_check : Cond.selects R_Tp y_Tp_check y_Tp_check ∈ lw_gd := tw_mem (i := 400) (by decide +kernel) rfl
theorem cd_Tp_check : Cond.code y_Tp_check b_Tp_check 2 (some .int) ∈ lw_gd := tw_mem (i := 401) (by decide +kernel) rfl
theorem ml_Tp_138 : Cond.methodLink R_Tp 138 y_Au_firstFault ∈ lw_gd := tw_mem (i := 402) (by decide +kernel) rfl
theorem im_Au_firstFault : Cond.instanceMethod y_Au_firstFault ∈ lw_gd := tw_mem (i := 403) (by decide +kernel) rfl
theorem se_Au_firstFault : Cond.selects R_Au y_Au_firstFault y_Au_firstFault ∈ lw_gd := tw_mem (i := 404) (by decide +kernel) rfl
theorem cd_Au_firstFault : Cond.code y_Au_firstFault b_Au_firstFault 5 (some .int) ∈ lw_gd := tw_mem (i := 405) (by decide +kernel) rfl
theorem ml_Au_15 : Cond.methodLink R_Au 15 y_Ar_fillI ∈ lw_gd := tw_mem (i := 406) (by decide +kernel) rfl
theorem st_Ar_fillI : Cond.static y_Ar_fillI ∈ lw_gd := tw_mem (i := 407) (by decide +kernel) rfl
theorem cd_Ar_fillI : Cond.code y_Ar_fillI b_Ar_fillI 4 none ∈ lw_gd := tw_mem (i := 408) (by decide +kernel) rfl
theorem ml_Au_21 : Cond.methodLink R_Au 21 y_Tb_rootOf ∈ lw_gd := tw_mem (i := 409) (by decide +kernel) rfl
theorem ml_Au_27 : Cond.methodLink R_Au 27 y_Au_visit ∈ lw_gd := tw_mem (i := 410) (by decide +kernel) rfl
theorem im_Au_visit : Cond.instanceMethod y_Au_visit ∈ lw_gd := tw_mem (i := 412) (by decide +kernel) rfl
theorem cd_Au_visit : Cond.code y_Au_visit b_Au_visit 6 (some .int) ∈ lw_gd := tw_mem (i := 413) (by decide +kernel) rfl
theorem kc_Au_31 : Cond.constant R_Au 31 (65536) ∈ lw_gd := tw_mem (i := 414) (by decide +kernel) rfl
theorem ml_Au_35 : Cond.methodLink R_Au 35 y_Au_visitLinks ∈ lw_gd := tw_mem (i := 415) (by decide +kernel) rfl
theorem im_Au_visitLinks : Cond.instanceMethod y_Au_visitLinks ∈ lw_gd := tw_mem (i := 417) (by decide +kernel) rfl
theorem cd_Au_visitLinks : Cond.code y_Au_visitLinks b_Au_visitLinks 8 (some .int) ∈ lw_gd := tw_mem (i := 418) (by decide +kernel) rfl
theorem ml_Au_38 : Cond.methodLink R_Au 38 y_Tr_linksOf ∈ lw_gd := tw_mem (i := 419) (by decide +kernel) rfl
theorem ml_Au_43 : Cond.methodLink R_Au 43 y_Im_linkAt ∈ lw_gd := tw_mem (i := 420) (by decide +kernel) rfl
theorem ml_Au_49 : Cond.methodLink R_Au 49 y_Im_sizeAt ∈ lw_gd := tw_mem (i := 421) (by decide +kernel) rfl
theorem ml_Au_32 : Cond.methodLink R_Au 32 y_Tb_waysTo ∈ lw_gd := tw_mem (i := 422) (by decide +kernel) rfl
theorem cl_Tp_103 : Cond.classLink R_Tp 103 R_Tb ∈ lw_gd := tw_mem (i := 423) (by decide +kernel) rfl
theorem ml_Tp_146 : Cond.methodLink R_Tp 146 y_Tb_init ∈ lw_gd := tw_mem (i := 424) (by decide +kernel) rfl
theorem cl_Lw_10 : Cond.classLink R_Lw 10 R_Mo ∈ lw_gd := tw_mem (i := 425) (by decide +kernel) rfl
theorem it_Mo : Cond.instantiable R_Mo 9 ∈ lw_gd := tw_mem (i := 426) (by decide +kernel) rfl
theorem ml_Lw_12 : Cond.methodLink R_Lw 12 y_Mo_init ∈ lw_gd := tw_mem (i := 427) (by decide +kernel) rfl
theorem im_Mo_init : Cond.instanceMethod y_Mo_init ∈ lw_gd := tw_mem (i := 428) (by decide +kernel) rfl
theorem cd_Mo_init : Cond.code y_Mo_init b_Mo_init 1 none ∈ lw_gd := tw_mem (i := 429) (by decide +kernel) rfl
theorem ml_Mo_1 : Cond.methodLink R_Mo 1 objectInit ∈ lw_gd := tw_mem (i := 430) (by decide +kernel) rfl
theorem kc_Mo_23 : Cond.constant R_Mo 23 (76800) ∈ lw_gd := tw_mem (i := 431) (by decide +kernel) rfl
theorem ml_Mo_31 : Cond.methodLink R_Mo 31 y_Mo_begin ∈ lw_gd := tw_mem (i := 432) (by decide +kernel) rfl
theorem im_Mo_begin : Cond.instanceMethod y_Mo_begin ∈ lw_gd := tw_mem (i := 434) (by decide +kernel) rfl
theorem cd_Mo_begin : Cond.code y_Mo_begin b_Mo_begin 2 none ∈ lw_gd := tw_mem (i := 435) (by decide +kernel) rfl
theorem fl_Mo_7 : Cond.fieldLink R_Mo 7 "ThinPoolModel" "there" "[Z" ∈ lw_gd := tw_mem (i := 436) (by decide +kernel) rfl
theorem fl_Mo_13 : Cond.fieldLink R_Mo 13 "ThinPoolModel" "places" "[I" ∈ lw_gd := tw_mem (i := 437) (by decide +kernel) rfl
theorem fl_Mo_17 : Cond.fieldLink R_Mo 17 "ThinPoolModel" "marks" "[I" ∈ lw_gd := tw_mem (i := 438) (by decide +kernel) rfl
theorem fl_Mo_20 : Cond.fieldLink R_Mo 20 "ThinPoolModel" "notes" "[I" ∈ lw_gd := tw_mem (i := 439) (by decide +kernel) rfl
theorem fl_Mo_24 : Cond.fieldLink R_Mo 24 "ThinPoolModel" "bytes" "[B" ∈ lw_gd := tw_mem (i := 440) (by decide +kernel) rfl
theorem fl_Mo_28 : Cond.fieldLink R_Mo 28 "ThinPoolModel" "used" "[Z" ∈ lw_gd := tw_mem (i := 441) (by decide +kernel) rfl
theorem fl_Mo_64 : Cond.fieldLink R_Mo 64 "ThinPoolModel" "marked" "I" ∈ lw_gd := tw_mem (i := 442) (by decide +kernel) rfl
theorem fl_Mo_34 : Cond.fieldLink R_Mo 34 "ThinPoolModel" "kept" "I" ∈ lw_gd := tw_mem (i := 443) (by decide +kernel) rfl
theorem fl_Mo_38 : Cond.fieldLink R_Mo 38 "ThinPoolModel" "off" "Z" ∈ lw_gd := tw_mem (i := 444) (by decide +kernel) rfl
theorem ac_boolean : Cond.arrayClass .boolean ∈ lw_gd := tw_mem (i := 464) (by decide +kernel) rfl
theorem ac_byte : Cond.arrayClass .byte ∈ lw_gd := tw_mem (i := 465) (by decide +kernel) rfl
theorem ml_Lw_17 : Cond.methodLink R_Lw 17 y_Mo_lay ∈ lw_gd := tw_mem (i := 466) (by decide +kernel) rfl
theorem im_Mo_lay : Cond.instanceMethod y_Mo_lay ∈ lw_gd := tw_mem (i := 467) (by decide +kernel) rfl
theorem se_Mo_lay : Cond.selects R_Mo y_Mo_lay y_Mo_lay ∈ lw_gd := tw_mem (i := 468) (by decide +kernel) rfl
theorem cd_Mo_lay : Cond.code y_Mo_lay b_Mo_lay 1 (some .int) ∈ lw_gd := tw_mem (i := 469) (by decide +kernel) rfl
theorem ml_Lw_22 : Cond.methodLink R_Lw 22 y_Mo_make ∈ lw_gd := tw_mem (i := 470) (by decide +kernel) rfl
theorem im_Mo_make : Cond.instanceMethod y_Mo_make ∈ lw_gd := tw_mem (i := 471) (by decide +kernel) rfl
theorem se_Mo_make : Cond.selects R_Mo y_Mo_make y_Mo_make ∈ lw_gd := tw_mem (i := 472) (by decide +kernel) rfl
theorem cd_Mo_make : Cond.code y_Mo_make b_Mo_make 2 (some .int) ∈ lw_gd := tw_mem (i := 473) (by decide +kernel) rfl
theorem ml_Lw_27 : Cond.methodLink R_Lw 27 y_Mo_snap ∈ lw_gd := tw_mem (i := 474) (by decide +kernel) rfl
theorem im_Mo_snap : Cond.instanceMethod y_Mo_snap ∈ lw_gd := tw_mem (i := 475) (by decide +kernel) rfl
theorem se_Mo_snap : Cond.selects R_Mo y_Mo_snap y_Mo_snap ∈ lw_gd := tw_mem (i := 476) (by decide +kernel) rfl
theorem cd_Mo_snap : Cond.code y_Mo_snap b_Mo_snap 8 (some .int) ∈ lw_gd := tw_mem (i := 477) (by decide +kernel) rfl
theorem ml_Mo_46 : Cond.methodLink R_Mo 46 y_Mo_isThere ∈ lw_gd := tw_mem (i := 478) (by decide +kernel) rfl
theorem im_Mo_isThere : Cond.instanceMethod y_Mo_isThere ∈ lw_gd := tw_mem (i := 480) (by decide +kernel) rfl
theorem cd_Mo_isThere : Cond.code y_Mo_isThere b_Mo_isThere 2 (some .boolean) ∈ lw_gd := tw_mem (i := 481) (by decide +kernel) rfl
theorem ml_Mo_42 : Cond.methodLink R_Mo 42 y_Mo_many ∈ lw_gd := tw_mem (i := 482) (by decide +kernel) rfl
theorem im_Mo_many : Cond.instanceMethod y_Mo_many ∈ lw_gd := tw_mem (i := 484) (by decide +kernel) rfl
theorem cd_Mo_many : Cond.code y_Mo_many b_Mo_many 4 (some .int) ∈ lw_gd := tw_mem (i := 485) (by decide +kernel) rfl
theorem ml_Mo_50 : Cond.methodLink R_Mo 50 y_Mo_all ∈ lw_gd := tw_mem (i := 486) (by decide +kernel) rfl
theorem im_Mo_all : Cond.instanceMethod y_Mo_all ∈ lw_gd := tw_mem (i := 488) (by decide +kernel) rfl
theorem cd_Mo_all : Cond.code y_Mo_all b_Mo_all 3 (some .int) ∈ lw_gd := tw_mem (i := 489) (by decide +kernel) rfl
theorem ml_Mo_54 : Cond.methodLink R_Mo 54 y_Mo_fresh ∈ lw_gd := tw_mem (i := 490) (by decide +kernel) rfl
theorem im_Mo_fresh : Cond.instanceMethod y_Mo_fresh ∈ lw_gd := tw_mem (i := 492) (by decide +kernel) rfl
theorem cd_Mo_fresh : Cond.code y_Mo_fresh b_Mo_fresh 3 (some .int) ∈ lw_gd := tw_mem (i := 493) (by decide +kernel) rfl
theorem ml_Lw_31 : Cond.methodLink R_Lw 31 y_Mo_remove ∈ lw_gd := tw_mem (i := 494) (by decide +kernel) rfl
theorem im_Mo_remove : Cond.instanceMethod y_Mo_remove ∈ lw_gd := tw_mem (i := 495) (by decide +kernel) rfl
theorem se_Mo_remove : Cond.selects R_Mo y_Mo_remove y_Mo_remove ∈ lw_gd := tw_mem (i := 496) (by decide +kernel) rfl
theorem cd_Mo_remove : Cond.code y_Mo_remove b_Mo_remove 4 (some .int) ∈ lw_gd := tw_mem (i := 497) (by decide +kernel) rfl
theorem ml_Mo_57 : Cond.methodLink R_Mo 57 y_Mo_clear ∈ lw_gd := tw_mem (i := 498) (by decide +kernel) rfl
theorem im_Mo_clear : Cond.instanceMethod y_Mo_clear ∈ lw_gd := tw_mem (i := 500) (by decide +kernel) rfl
theorem cd_Mo_clear : Cond.code y_Mo_clear b_Mo_clear 2 none ∈ lw_gd := tw_mem (i := 501) (by decide +kernel) rfl
theorem ml_Lw_36 : Cond.methodLink R_Lw 36 y_Mo_write ∈ lw_gd := tw_mem (i := 502) (by decide +kernel) rfl
theorem im_Mo_write : Cond.instanceMethod y_Mo_write ∈ lw_gd := tw_mem (i := 503) (by decide +kernel) rfl
theorem se_Mo_write : Cond.selects R_Mo y_Mo_write y_Mo_write ∈ lw_gd := tw_mem (i := 504) (by decide +kernel) rfl
theorem cd_Mo_write : Cond.code y_Mo_write b_Mo_write 8 (some .int) ∈ lw_gd := tw_mem (i := 505) (by decide +kernel) rfl
theorem ml_Mo_61 : Cond.methodLink R_Mo 61 y_Mo_isPiece ∈ lw_gd := tw_mem (i := 506) (by decide +kernel) rfl
theorem st_Mo_isPiece : Cond.static y_Mo_isPiece ∈ lw_gd := tw_mem (i := 507) (by decide +kernel) rfl
theorem cd_Mo_isPiece : Cond.code y_Mo_isPiece b_Mo_isPiece 1 (some .boolean) ∈ lw_gd := tw_mem (i := 508) (by decide +kernel) rfl
theorem ml_Lw_41 : Cond.methodLink R_Lw 41 y_Mo_read ∈ lw_gd := tw_mem (i := 509) (by decide +kernel) rfl
theorem im_Mo_read : Cond.instanceMethod y_Mo_read ∈ lw_gd := tw_mem (i := 510) (by decide +kernel) rfl
theorem se_Mo_read : Cond.selects R_Mo y_Mo_read y_Mo_read ∈ lw_gd := tw_mem (i := 511) (by decide +kernel) rfl
theorem cd_Mo_read : Cond.code y_Mo_read b_Mo_read 5 (some .int) ∈ lw_gd := tw_mem (i := 512) (by decide +kernel) rfl
theorem ml_Lw_45 : Cond.methodLink R_Lw 45 y_Mo_trim ∈ lw_gd := tw_mem (i := 513) (by decide +kernel) rfl
theorem im_Mo_trim : Cond.instanceMethod y_Mo_trim ∈ lw_gd := tw_mem (i := 514) (by decide +kernel) rfl
theorem se_Mo_trim : Cond.selects R_Mo y_Mo_trim y_Mo_trim ∈ lw_gd := tw_mem (i := 515) (by decide +kernel) rfl
theorem cd_Mo_trim : Cond.code y_Mo_trim b_Mo_trim 6 (some .int) ∈ lw_gd := tw_mem (i := 516) (by decide +kernel) rfl
theorem ml_Lw_49 : Cond.methodLink R_Lw 49 y_Mo_pieces ∈ lw_gd := tw_mem (i := 517) (by decide +kernel) rfl
theorem im_Mo_pieces : Cond.instanceMethod y_Mo_pieces ∈ lw_gd := tw_mem (i := 518) (by decide +kernel) rfl
theorem se_Mo_pieces : Cond.selects R_Mo y_Mo_pieces y_Mo_pieces ∈ lw_gd := tw_mem (i := 519) (by decide +kernel) rfl
theorem cd_Mo_pieces : Cond.code y_Mo_pieces b_Mo_pieces 2 (some .int) ∈ lw_gd := tw_mem (i := 520) (by decide +kernel) rfl
theorem ml_Lw_53 : Cond.methodLink R_Lw 53 y_Mo_next ∈ lw_gd := tw_mem (i := 521) (by decide +kernel) rfl
theorem im_Mo_next : Cond.instanceMethod y_Mo_next ∈ lw_gd := tw_mem (i := 522) (by decide +kernel) rfl
theorem se_Mo_next : Cond.selects R_Mo y_Mo_next y_Mo_next ∈ lw_gd := tw_mem (i := 523) (by decide +kernel) rfl
theorem cd_Mo_next : Cond.code y_Mo_next b_Mo_next 4 (some .int) ∈ lw_gd := tw_mem (i := 524) (by decide +kernel) rfl
theorem ml_Lw_57 : Cond.methodLink R_Lw 57 y_Mo_shared ∈ lw_gd := tw_mem (i := 525) (by decide +kernel) rfl
theorem im_Mo_shared : Cond.instanceMethod y_Mo_shared ∈ lw_gd := tw_mem (i := 526) (by decide +kernel) rfl
theorem se_Mo_shared : Cond.selects R_Mo y_Mo_shared y_Mo_shared ∈ lw_gd := tw_mem (i := 527) (by decide +kernel) rfl
theorem cd_Mo_shared : Cond.code y_Mo_shared b_Mo_shared 6 (some .int) ∈ lw_gd := tw_mem (i := 528) (by decide +kernel) rfl
theorem ml_Lw_61 : Cond.methodLink R_Lw 61 y_Mo_tell ∈ lw_gd := tw_mem (i := 529) (by decide +kernel) rfl
theorem im_Mo_tell : Cond.instanceMethod y_Mo_tell ∈ lw_gd := tw_mem (i := 530) (by decide +kernel) rfl
theorem se_Mo_tell : Cond.selects R_Mo y_Mo_tell y_Mo_tell ∈ lw_gd := tw_mem (i := 531) (by decide +kernel) rfl
theorem cd_Mo_tell : Cond.code y_Mo_tell b_Mo_tell 4 (some .int) ∈ lw_gd := tw_mem (i := 532) (by decide +kernel) rfl
theorem ml_Lw_65 : Cond.methodLink R_Lw 65 y_Mo_told ∈ lw_gd := tw_mem (i := 533) (by decide +kernel) rfl
theorem im_Mo_told : Cond.instanceMethod y_Mo_told ∈ lw_gd := tw_mem (i := 534) (by decide +kernel) rfl
theorem se_Mo_told : Cond.selects R_Mo y_Mo_told y_Mo_told ∈ lw_gd := tw_mem (i := 535) (by decide +kernel) rfl
theorem cd_Mo_told : Cond.code y_Mo_told b_Mo_told 2 (some .int) ∈ lw_gd := tw_mem (i := 536) (by decide +kernel) rfl
theorem ml_Lw_72 : Cond.methodLink R_Lw 72 y_Mo_keep ∈ lw_gd := tw_mem (i := 537) (by decide +kernel) rfl
theorem im_Mo_keep : Cond.instanceMethod y_Mo_keep ∈ lw_gd := tw_mem (i := 538) (by decide +kernel) rfl
theorem se_Mo_keep : Cond.selects R_Mo y_Mo_keep y_Mo_keep ∈ lw_gd := tw_mem (i := 539) (by decide +kernel) rfl
theorem cd_Mo_keep : Cond.code y_Mo_keep b_Mo_keep 5 (some .int) ∈ lw_gd := tw_mem (i := 540) (by decide +kernel) rfl
theorem kl_Mo_68 : Cond.constantLong R_Mo 68 (3) ∈ lw_gd := tw_mem (i := 541) (by decide +kernel) rfl
theorem ml_Mo_70 : Cond.methodLink R_Mo 70 y_Mo_copy ∈ lw_gd := tw_mem (i := 542) (by decide +kernel) rfl
theorem im_Mo_copy : Cond.instanceMethod y_Mo_copy ∈ lw_gd := tw_mem (i := 544) (by decide +kernel) rfl
theorem cd_Mo_copy : Cond.code y_Mo_copy b_Mo_copy 5 none ∈ lw_gd := tw_mem (i := 545) (by decide +kernel) rfl
theorem kc_Mo_67 : Cond.constant R_Mo 67 (38400) ∈ lw_gd := tw_mem (i := 546) (by decide +kernel) rfl
theorem ml_Lw_76 : Cond.methodLink R_Lw 76 y_Mo_fail ∈ lw_gd := tw_mem (i := 547) (by decide +kernel) rfl
theorem im_Mo_fail : Cond.instanceMethod y_Mo_fail ∈ lw_gd := tw_mem (i := 548) (by decide +kernel) rfl
theorem se_Mo_fail : Cond.selects R_Mo y_Mo_fail y_Mo_fail ∈ lw_gd := tw_mem (i := 549) (by decide +kernel) rfl
theorem cd_Mo_fail : Cond.code y_Mo_fail b_Mo_fail 1 (some .int) ∈ lw_gd := tw_mem (i := 550) (by decide +kernel) rfl
theorem ml_Lw_80 : Cond.methodLink R_Lw 80 y_Mo_mount ∈ lw_gd := tw_mem (i := 551) (by decide +kernel) rfl
theorem im_Mo_mount : Cond.instanceMethod y_Mo_mount ∈ lw_gd := tw_mem (i := 552) (by decide +kernel) rfl
theorem se_Mo_mount : Cond.selects R_Mo y_Mo_mount y_Mo_mount ∈ lw_gd := tw_mem (i := 553) (by decide +kernel) rfl
theorem cd_Mo_mount : Cond.code y_Mo_mount b_Mo_mount 1 (some .int) ∈ lw_gd := tw_mem (i := 554) (by decide +kernel) rfl
theorem ml_Lw_84 : Cond.methodLink R_Lw 84 y_Mo_count ∈ lw_gd := tw_mem (i := 555) (by decide +kernel) rfl
theorem im_Mo_count : Cond.instanceMethod y_Mo_count ∈ lw_gd := tw_mem (i := 556) (by decide +kernel) rfl
theorem se_Mo_count : Cond.selects R_Mo y_Mo_count y_Mo_count ∈ lw_gd := tw_mem (i := 557) (by decide +kernel) rfl
theorem cd_Mo_count : Cond.code y_Mo_count b_Mo_count 4 (some .int) ∈ lw_gd := tw_mem (i := 558) (by decide +kernel) rfl
theorem ml_Lw_88 : Cond.methodLink R_Lw 88 y_Mo_check ∈ lw_gd := tw_mem (i := 559) (by decide +kernel) rfl
theorem im_Mo_check : Cond.instanceMethod y_Mo_check ∈ lw_gd := tw_mem (i := 560) (by decide +kernel) rfl
theorem se_Mo_check : Cond.selects R_Mo y_Mo_check y_Mo_check ∈ lw_gd := tw_mem (i := 561) (by decide +kernel) rfl
theorem cd_Mo_check : Cond.code y_Mo_check b_Mo_check 1 (some .int) ∈ lw_gd := tw_mem (i := 562) (by decide +kernel) rfl
theorem kl_Lw_66 : Cond.constantLong R_Lw 66 (4294967295) ∈ lw_gd := tw_mem (i := 563) (by decide +kernel) rfl
end
section
theorem d_Im_init_0 : decode b_Im_init 0 = .ok (.aload_n 0, 1) := by decide +kernel
theorem d_Im_init_1 : decode b_Im_init 1 = .ok (.invokespecial 3, 3) := by decide +kernel
theorem d_Im_init_4 : decode b_Im_init 4 = .ok (.aload_n 0, 1) := by decide +kernel
theorem d_Im_init_5 : decode b_Im_init 5 = .ok (.sipush 12544, 3) := by decide +kernel
theorem d_Im_init_8 : decode b_Im_init 8 = .ok (.newarray .long, 2) := by decide +kernel
theorem d_Im_init_10 : decode b_Im_init 10 = .ok (.putfield 9, 3) := by decide +kernel
theorem d_Im_init_13 : decode b_Im_init 13 = .ok (.return_, 1) := by decide +kernel
theorem d_Im_wordAt_0 : decode b_Im_wordAt 0 = .ok (.iload_n 1, 1) := by decide +kernel
theorem d_Im_wordAt_1 : decode b_Im_wordAt 1 = .ok (.bipush 16, 2) := by decide +kernel
theorem d_Im_wordAt_3 : decode b_Im_wordAt 3 = .ok (.imul, 1) := by decide +kernel
theorem d_Im_wordAt_4 : decode b_Im_wordAt 4 = .ok (.iload_n 2, 1) := by decide +kernel
theorem d_Im_wordAt_5 : decode b_Im_wordAt 5 = .ok (.iadd, 1) := by decide +kernel
theorem d_Im_wordAt_6 : decode b_Im_wordAt 6 = .ok (.istore_n 3, 1) := by decide +kernel
theorem d_Im_wordAt_7 : decode b_Im_wordAt 7 = .ok (.iload_n 3, 1) := by decide +kernel
theorem d_Im_wordAt_8 : decode b_Im_wordAt 8 = .ok (.ifCond .lt 21, 3) := by decide +kernel
theorem d_Im_wordAt_11 : decode b_Im_wordAt 11 = .ok (.iload_n 3, 1) := by decide +kernel
theorem d_Im_wordAt_12 : decode b_Im_wordAt 12 = .ok (.aload_n 0, 1) := by decide +kernel
theorem d_Im_wordAt_13 : decode b_Im_wordAt 13 = .ok (.getfield 9, 3) := by decide +kernel
theorem d_Im_wordAt_16 : decode b_Im_wordAt 16 = .ok (.arraylength, 1) := by decide +kernel
theorem d_Im_wordAt_17 : decode b_Im_wordAt 17 = .ok (.if_icmp .ge 12, 3) := by decide +kernel
theorem d_Im_wordAt_20 : decode b_Im_wordAt 20 = .ok (.aload_n 0, 1) := by decide +kernel
theorem d_Im_wordAt_21 : decode b_Im_wordAt 21 = .ok (.getfield 9, 3) := by decide +kernel
theorem d_Im_wordAt_24 : decode b_Im_wordAt 24 = .ok (.iload_n 3, 1) := by decide +kernel
theorem d_Im_wordAt_25 : decode b_Im_wordAt 25 = .ok (.laload, 1) := by decide +kernel
theorem d_Im_wordAt_26 : decode b_Im_wordAt 26 = .ok (.goto 4, 3) := by decide +kernel
theorem d_Im_wordAt_29 : decode b_Im_wordAt 29 = .ok (.lconst 0, 1) := by decide +kernel
theorem d_Im_wordAt_30 : decode b_Im_wordAt 30 = .ok (.lreturn, 1) := by decide +kernel
theorem d_Im_setWord_0 : decode b_Im_setWord 0 = .ok (.iload_n 1, 1) := by decide +kernel
theorem d_Im_setWord_1 : decode b_Im_setWord 1 = .ok (.bipush 16, 2) := by decide +kernel
theorem d_Im_setWord_3 : decode b_Im_setWord 3 = .ok (.imul, 1) := by decide +kernel
theorem d_Im_setWord_4 : decode b_Im_setWord 4 = .ok (.iload_n 2, 1) := by decide +kernel
theorem d_Im_setWord_5 : decode b_Im_setWord 5 = .ok (.iadd, 1) := by decide +kernel
theorem d_Im_setWord_6 : decode b_Im_setWord 6 = .ok (.istore 5, 2) := by decide +kernel
theorem d_Im_setWord_8 : decode b_Im_setWord 8 = .ok (.iload 5, 2) := by decide +kernel
theorem d_Im_setWord_10 : decode b_Im_setWord 10 = .ok (.ifCond .lt 21, 3) := by decide +kernel
theorem d_Im_setWord_13 : decode b_Im_setWord 13 = .ok (.iload 5, 2) := by decide +kernel
theorem d_Im_setWord_15 : decode b_Im_setWord 15 = .ok (.aload_n 0, 1) := by decide +kernel
theorem d_Im_setWord_16 : decode b_Im_setWord 16 = .ok (.getfield 9, 3) := by decide +kernel
theorem d_Im_setWord_19 : decode b_Im_setWord 19 = .ok (.arraylength, 1) := by decide +kernel
theorem d_Im_setWord_20 : decode b_Im_setWord 20 = .ok (.if_icmp .ge 11, 3) := by decide +kernel
theorem d_Im_setWord_23 : decode b_Im_setWord 23 = .ok (.aload_n 0, 1) := by decide +kernel
theorem d_Im_setWord_24 : decode b_Im_setWord 24 = .ok (.getfield 9, 3) := by decide +kernel
theorem d_Im_setWord_27 : decode b_Im_setWord 27 = .ok (.iload 5, 2) := by decide +kernel
theorem d_Im_setWord_29 : decode b_Im_setWord 29 = .ok (.lload_n 3, 1) := by decide +kernel
theorem d_Im_setWord_30 : decode b_Im_setWord 30 = .ok (.lastore, 1) := by decide +kernel
theorem d_Im_setWord_31 : decode b_Im_setWord 31 = .ok (.return_, 1) := by decide +kernel
theorem d_Im_byteAt_0 : decode b_Im_byteAt 0 = .ok (.iload_n 1, 1) := by decide +kernel
theorem d_Im_byteAt_1 : decode b_Im_byteAt 1 = .ok (.bipush 16, 2) := by decide +kernel
theorem d_Im_byteAt_3 : decode b_Im_byteAt 3 = .ok (.imul, 1) := by decide +kernel
theorem d_Im_byteAt_4 : decode b_Im_byteAt 4 = .ok (.iload_n 2, 1) := by decide +kernel
theorem d_Im_byteAt_5 : decode b_Im_byteAt 5 = .ok (.iconst 3, 1) := by decide +kernel
theorem d_Im_byteAt_6 : decode b_Im_byteAt 6 = .ok (.ishr, 1) := by decide +kernel
theorem d_Im_byteAt_7 : decode b_Im_byteAt 7 = .ok (.iadd, 1) := by decide +kernel
theorem d_Im_byteAt_8 : decode b_Im_byteAt 8 = .ok (.istore_n 3, 1) := by decide +kernel
theorem d_Im_byteAt_9 : decode b_Im_byteAt 9 = .ok (.iload_n 3, 1) := by decide +kernel
theorem d_Im_byteAt_10 : decode b_Im_byteAt 10 = .ok (.ifCond .lt 33, 3) := by decide +kernel
theorem d_Im_byteAt_13 : decode b_Im_byteAt 13 = .ok (.iload_n 3, 1) := by decide +kernel
theorem d_Im_byteAt_14 : decode b_Im_byteAt 14 = .ok (.aload_n 0, 1) := by decide +kernel
theorem d_Im_byteAt_15 : decode b_Im_byteAt 15 = .ok (.getfield 9, 3) := by decide +kernel
theorem d_Im_byteAt_18 : decode b_Im_byteAt 18 = .ok (.arraylength, 1) := by decide +kernel
theorem d_Im_byteAt_19 : decode b_Im_byteAt 19 = .ok (.if_icmp .ge 24, 3) := by decide +kernel
theorem d_Im_byteAt_22 : decode b_Im_byteAt 22 = .ok (.aload_n 0, 1) := by decide +kernel
theorem d_Im_byteAt_23 : decode b_Im_byteAt 23 = .ok (.getfield 9, 3) := by decide +kernel
theorem d_Im_byteAt_26 : decode b_Im_byteAt 26 = .ok (.iload_n 3, 1) := by decide +kernel
theorem d_Im_byteAt_27 : decode b_Im_byteAt 27 = .ok (.laload, 1) := by decide +kernel
theorem d_Im_byteAt_28 : decode b_Im_byteAt 28 = .ok (.iload_n 2, 1) := by decide +kernel
theorem d_Im_byteAt_29 : decode b_Im_byteAt 29 = .ok (.bipush 7, 2) := by decide +kernel
theorem d_Im_byteAt_31 : decode b_Im_byteAt 31 = .ok (.iand, 1) := by decide +kernel
theorem d_Im_byteAt_32 : decode b_Im_byteAt 32 = .ok (.iconst 3, 1) := by decide +kernel
theorem d_Im_byteAt_33 : decode b_Im_byteAt 33 = .ok (.ishl, 1) := by decide +kernel
theorem d_Im_byteAt_34 : decode b_Im_byteAt 34 = .ok (.lushr, 1) := by decide +kernel
theorem d_Im_byteAt_35 : decode b_Im_byteAt 35 = .ok (.l2i, 1) := by decide +kernel
theorem d_Im_byteAt_36 : decode b_Im_byteAt 36 = .ok (.sipush 255, 3) := by decide +kernel
theorem d_Im_byteAt_39 : decode b_Im_byteAt 39 = .ok (.iand, 1) := by decide +kernel
theorem d_Im_byteAt_40 : decode b_Im_byteAt 40 = .ok (.goto 4, 3) := by decide +kernel
theorem d_Im_byteAt_43 : decode b_Im_byteAt 43 = .ok (.iconst 0, 1) := by decide +kernel
theorem d_Im_byteAt_44 : decode b_Im_byteAt 44 = .ok (.ireturn, 1) := by decide +kernel
theorem d_Im_setByte_0 : decode b_Im_setByte 0 = .ok (.iload_n 1, 1) := by decide +kernel
theorem d_Im_setByte_1 : decode b_Im_setByte 1 = .ok (.bipush 16, 2) := by decide +kernel
theorem d_Im_setByte_3 : decode b_Im_setByte 3 = .ok (.imul, 1) := by decide +kernel
theorem d_Im_setByte_4 : decode b_Im_setByte 4 = .ok (.iload_n 2, 1) := by decide +kernel
theorem d_Im_setByte_5 : decode b_Im_setByte 5 = .ok (.iconst 3, 1) := by decide +kernel
theorem d_Im_setByte_6 : decode b_Im_setByte 6 = .ok (.ishr, 1) := by decide +kernel
theorem d_Im_setByte_7 : decode b_Im_setByte 7 = .ok (.iadd, 1) := by decide +kernel
theorem d_Im_setByte_8 : decode b_Im_setByte 8 = .ok (.istore 4, 2) := by decide +kernel
theorem d_Im_setByte_10 : decode b_Im_setByte 10 = .ok (.iload_n 2, 1) := by decide +kernel
theorem d_Im_setByte_11 : decode b_Im_setByte 11 = .ok (.bipush 7, 2) := by decide +kernel
theorem d_Im_setByte_13 : decode b_Im_setByte 13 = .ok (.iand, 1) := by decide +kernel
theorem d_Im_setByte_14 : decode b_Im_setByte 14 = .ok (.iconst 3, 1) := by decide +kernel
theorem d_Im_setByte_15 : decode b_Im_setByte 15 = .ok (.ishl, 1) := by decide +kernel
theorem d_Im_setByte_16 : decode b_Im_setByte 16 = .ok (.istore 5, 2) := by decide +kernel
theorem d_Im_setByte_18 : decode b_Im_setByte 18 = .ok (.iload 4, 2) := by decide +kernel
theorem d_Im_setByte_20 : decode b_Im_setByte 20 = .ok (.ifCond .lt 48, 3) := by decide +kernel
theorem d_Im_setByte_23 : decode b_Im_setByte 23 = .ok (.iload 4, 2) := by decide +kernel
theorem d_Im_setByte_25 : decode b_Im_setByte 25 = .ok (.aload_n 0, 1) := by decide +kernel
theorem d_Im_setByte_26 : decode b_Im_setByte 26 = .ok (.getfield 9, 3) := by decide +kernel
theorem d_Im_setByte_29 : decode b_Im_setByte 29 = .ok (.arraylength, 1) := by decide +kernel
theorem d_Im_setByte_30 : decode b_Im_setByte 30 = .ok (.if_icmp .ge 38, 3) := by decide +kernel
theorem d_Im_setByte_33 : decode b_Im_setByte 33 = .ok (.aload_n 0, 1) := by decide +kernel
theorem d_Im_setByte_34 : decode b_Im_setByte 34 = .ok (.getfield 9, 3) := by decide +kernel
theorem d_Im_setByte_37 : decode b_Im_setByte 37 = .ok (.iload 4, 2) := by decide +kernel
theorem d_Im_setByte_39 : decode b_Im_setByte 39 = .ok (.aload_n 0, 1) := by decide +kernel
theorem d_Im_setByte_40 : decode b_Im_setByte 40 = .ok (.getfield 9, 3) := by decide +kernel
theorem d_Im_setByte_43 : decode b_Im_setByte 43 = .ok (.iload 4, 2) := by decide +kernel
theorem d_Im_setByte_45 : decode b_Im_setByte 45 = .ok (.laload, 1) := by decide +kernel
theorem d_Im_setByte_46 : decode b_Im_setByte 46 = .ok (.ldc2_w 15, 3) := by decide +kernel
theorem d_Im_setByte_49 : decode b_Im_setByte 49 = .ok (.iload 5, 2) := by decide +kernel
theorem d_Im_setByte_51 : decode b_Im_setByte 51 = .ok (.lshl, 1) := by decide +kernel
theorem d_Im_setByte_52 : decode b_Im_setByte 52 = .ok (.ldc2_w 17, 3) := by decide +kernel
theorem d_Im_setByte_55 : decode b_Im_setByte 55 = .ok (.lxor, 1) := by decide +kernel
theorem d_Im_setByte_56 : decode b_Im_setByte 56 = .ok (.land, 1) := by decide +kernel
theorem d_Im_setByte_57 : decode b_Im_setByte 57 = .ok (.iload_n 3, 1) := by decide +kernel
theorem d_Im_setByte_58 : decode b_Im_setByte 58 = .ok (.i2l, 1) := by decide +kernel
theorem d_Im_setByte_59 : decode b_Im_setByte 59 = .ok (.ldc2_w 15, 3) := by decide +kernel
theorem d_Im_setByte_62 : decode b_Im_setByte 62 = .ok (.land, 1) := by decide +kernel
theorem d_Im_setByte_63 : decode b_Im_setByte 63 = .ok (.iload 5, 2) := by decide +kernel
theorem d_Im_setByte_65 : decode b_Im_setByte 65 = .ok (.lshl, 1) := by decide +kernel
theorem d_Im_setByte_66 : decode b_Im_setByte 66 = .ok (.lor, 1) := by decide +kernel
theorem d_Im_setByte_67 : decode b_Im_setByte 67 = .ok (.lastore, 1) := by decide +kernel
theorem d_Im_setByte_68 : decode b_Im_setByte 68 = .ok (.return_, 1) := by decide +kernel
theorem d_Im_linkAt_0 : decode b_Im_linkAt 0 = .ok (.aload_n 0, 1) := by decide +kernel
theorem d_Im_linkAt_1 : decode b_Im_linkAt 1 = .ok (.iload_n 1, 1) := by decide +kernel
theorem d_Im_linkAt_2 : decode b_Im_linkAt 2 = .ok (.iload_n 2, 1) := by decide +kernel
theorem d_Im_linkAt_3 : decode b_Im_linkAt 3 = .ok (.iconst 2, 1) := by decide +kernel
theorem d_Im_linkAt_4 : decode b_Im_linkAt 4 = .ok (.ishr, 1) := by decide +kernel
theorem d_Im_linkAt_5 : decode b_Im_linkAt 5 = .ok (.invokevirtual 19, 3) := by decide +kernel
theorem d_Im_linkAt_8 : decode b_Im_linkAt 8 = .ok (.iload_n 2, 1) := by decide +kernel
theorem d_Im_linkAt_9 : decode b_Im_linkAt 9 = .ok (.iconst 3, 1) := by decide +kernel
theorem d_Im_linkAt_10 : decode b_Im_linkAt 10 = .ok (.iand, 1) := by decide +kernel
theorem d_Im_linkAt_11 : decode b_Im_linkAt 11 = .ok (.iconst 4, 1) := by decide +kernel
theorem d_Im_linkAt_12 : decode b_Im_linkAt 12 = .ok (.ishl, 1) := by decide +kernel
theorem d_Im_linkAt_13 : decode b_Im_linkAt 13 = .ok (.lushr, 1) := by decide +kernel
theorem d_Im_linkAt_14 : decode b_Im_linkAt 14 = .ok (.l2i, 1) := by decide +kernel
theorem d_Im_linkAt_15 : decode b_Im_linkAt 15 = .ok (.ldc 23, 2) := by decide +kernel
theorem d_Im_linkAt_17 : decode b_Im_linkAt 17 = .ok (.iand, 1) := by decide +kernel
theorem d_Im_linkAt_18 : decode b_Im_linkAt 18 = .ok (.ireturn, 1) := by decide +kernel
theorem d_Im_setLink_0 : decode b_Im_setLink 0 = .ok (.iload_n 2, 1) := by decide +kernel
theorem d_Im_setLink_1 : decode b_Im_setLink 1 = .ok (.iconst 3, 1) := by decide +kernel
theorem d_Im_setLink_2 : decode b_Im_setLink 2 = .ok (.iand, 1) := by decide +kernel
theorem d_Im_setLink_3 : decode b_Im_setLink 3 = .ok (.iconst 4, 1) := by decide +kernel
theorem d_Im_setLink_4 : decode b_Im_setLink 4 = .ok (.ishl, 1) := by decide +kernel
theorem d_Im_setLink_5 : decode b_Im_setLink 5 = .ok (.istore 4, 2) := by decide +kernel
theorem d_Im_setLink_7 : decode b_Im_setLink 7 = .ok (.aload_n 0, 1) := by decide +kernel
theorem d_Im_setLink_8 : decode b_Im_setLink 8 = .ok (.iload_n 1, 1) := by decide +kernel
theorem d_Im_setLink_9 : decode b_Im_setLink 9 = .ok (.iload_n 2, 1) := by decide +kernel
theorem d_Im_setLink_10 : decode b_Im_setLink 10 = .ok (.iconst 2, 1) := by decide +kernel
theorem d_Im_setLink_11 : decode b_Im_setLink 11 = .ok (.ishr, 1) := by decide +kernel
theorem d_Im_setLink_12 : decode b_Im_setLink 12 = .ok (.invokevirtual 19, 3) := by decide +kernel
theorem d_Im_setLink_15 : decode b_Im_setLink 15 = .ok (.ldc2_w 24, 3) := by decide +kernel
theorem d_Im_setLink_18 : decode b_Im_setLink 18 = .ok (.iload 4, 2) := by decide +kernel
theorem d_Im_setLink_20 : decode b_Im_setLink 20 = .ok (.lshl, 1) := by decide +kernel
theorem d_Im_setLink_21 : decode b_Im_setLink 21 = .ok (.ldc2_w 17, 3) := by decide +kernel
theorem d_Im_setLink_24 : decode b_Im_setLink 24 = .ok (.lxor, 1) := by decide +kernel
theorem d_Im_setLink_25 : decode b_Im_setLink 25 = .ok (.land, 1) := by decide +kernel
theorem d_Im_setLink_26 : decode b_Im_setLink 26 = .ok (.lstore 5, 2) := by decide +kernel
theorem d_Im_setLink_28 : decode b_Im_setLink 28 = .ok (.aload_n 0, 1) := by decide +kernel
theorem d_Im_setLink_29 : decode b_Im_setLink 29 = .ok (.iload_n 1, 1) := by decide +kernel
theorem d_Im_setLink_30 : decode b_Im_setLink 30 = .ok (.iload_n 2, 1) := by decide +kernel
theorem d_Im_setLink_31 : decode b_Im_setLink 31 = .ok (.iconst 2, 1) := by decide +kernel
theorem d_Im_setLink_32 : decode b_Im_setLink 32 = .ok (.ishr, 1) := by decide +kernel
theorem d_Im_setLink_33 : decode b_Im_setLink 33 = .ok (.lload 5, 2) := by decide +kernel
theorem d_Im_setLink_35 : decode b_Im_setLink 35 = .ok (.iload_n 3, 1) := by decide +kernel
theorem d_Im_setLink_36 : decode b_Im_setLink 36 = .ok (.i2l, 1) := by decide +kernel
theorem d_Im_setLink_37 : decode b_Im_setLink 37 = .ok (.ldc2_w 24, 3) := by decide +kernel
theorem d_Im_setLink_40 : decode b_Im_setLink 40 = .ok (.land, 1) := by decide +kernel
theorem d_Im_setLink_41 : decode b_Im_setLink 41 = .ok (.iload 4, 2) := by decide +kernel
theorem d_Im_setLink_43 : decode b_Im_setLink 43 = .ok (.lshl, 1) := by decide +kernel
theorem d_Im_setLink_44 : decode b_Im_setLink 44 = .ok (.lor, 1) := by decide +kernel
theorem d_Im_setLink_45 : decode b_Im_setLink 45 = .ok (.invokevirtual 26, 3) := by decide +kernel
theorem d_Im_setLink_48 : decode b_Im_setLink 48 = .ok (.return_, 1) := by decide +kernel
theorem d_Im_sizeAt_0 : decode b_Im_sizeAt 0 = .ok (.aload_n 0, 1) := by decide +kernel
theorem d_Im_sizeAt_1 : decode b_Im_sizeAt 1 = .ok (.iload_n 1, 1) := by decide +kernel
theorem d_Im_sizeAt_2 : decode b_Im_sizeAt 2 = .ok (.bipush 15, 2) := by decide +kernel
theorem d_Im_sizeAt_4 : decode b_Im_sizeAt 4 = .ok (.invokevirtual 19, 3) := by decide +kernel
theorem d_Im_sizeAt_7 : decode b_Im_sizeAt 7 = .ok (.l2i, 1) := by decide +kernel
theorem d_Im_sizeAt_8 : decode b_Im_sizeAt 8 = .ok (.ireturn, 1) := by decide +kernel
theorem d_Im_addSize_0 : decode b_Im_addSize 0 = .ok (.aload_n 0, 1) := by decide +kernel
theorem d_Im_addSize_1 : decode b_Im_addSize 1 = .ok (.iload_n 1, 1) := by decide +kernel
theorem d_Im_addSize_2 : decode b_Im_addSize 2 = .ok (.bipush 15, 2) := by decide +kernel
theorem d_Im_addSize_4 : decode b_Im_addSize 4 = .ok (.aload_n 0, 1) := by decide +kernel
theorem d_Im_addSize_5 : decode b_Im_addSize 5 = .ok (.iload_n 1, 1) := by decide +kernel
theorem d_Im_addSize_6 : decode b_Im_addSize 6 = .ok (.bipush 15, 2) := by decide +kernel
theorem d_Im_addSize_8 : decode b_Im_addSize 8 = .ok (.invokevirtual 19, 3) := by decide +kernel
theorem d_Im_addSize_11 : decode b_Im_addSize 11 = .ok (.iload_n 2, 1) := by decide +kernel
theorem d_Im_addSize_12 : decode b_Im_addSize 12 = .ok (.i2l, 1) := by decide +kernel
theorem d_Im_addSize_13 : decode b_Im_addSize 13 = .ok (.ladd, 1) := by decide +kernel
theorem d_Im_addSize_14 : decode b_Im_addSize 14 = .ok (.invokevirtual 26, 3) := by decide +kernel
theorem d_Im_addSize_17 : decode b_Im_addSize 17 = .ok (.return_, 1) := by decide +kernel
theorem d_Im_blank_0 : decode b_Im_blank 0 = .ok (.iconst 0, 1) := by decide +kernel
theorem d_Im_blank_1 : decode b_Im_blank 1 = .ok (.istore_n 2, 1) := by decide +kernel
theorem d_Im_blank_2 : decode b_Im_blank 2 = .ok (.iload_n 2, 1) := by decide +kernel
theorem d_Im_blank_3 : decode b_Im_blank 3 = .ok (.bipush 16, 2) := by decide +kernel
theorem d_Im_blank_5 : decode b_Im_blank 5 = .ok (.if_icmp .ge 16, 3) := by decide +kernel
theorem d_Im_blank_8 : decode b_Im_blank 8 = .ok (.aload_n 0, 1) := by decide +kernel
theorem d_Im_blank_9 : decode b_Im_blank 9 = .ok (.iload_n 1, 1) := by decide +kernel
theorem d_Im_blank_10 : decode b_Im_blank 10 = .ok (.iload_n 2, 1) := by decide +kernel
theorem d_Im_blank_11 : decode b_Im_blank 11 = .ok (.lconst 0, 1) := by decide +kernel
theorem d_Im_blank_12 : decode b_Im_blank 12 = .ok (.invokevirtual 26, 3) := by decide +kernel
theorem d_Im_blank_15 : decode b_Im_blank 15 = .ok (.iinc 2 1, 3) := by decide +kernel
theorem d_Im_blank_18 : decode b_Im_blank 18 = .ok (.goto (-16), 3) := by decide +kernel
theorem d_Im_blank_21 : decode b_Im_blank 21 = .ok (.return_, 1) := by decide +kernel
theorem d_Im_duplicate_0 : decode b_Im_duplicate 0 = .ok (.iconst 0, 1) := by decide +kernel
theorem d_Im_duplicate_1 : decode b_Im_duplicate 1 = .ok (.istore_n 3, 1) := by decide +kernel
theorem d_Im_duplicate_2 : decode b_Im_duplicate 2 = .ok (.iload_n 3, 1) := by decide +kernel
theorem d_Im_duplicate_3 : decode b_Im_duplicate 3 = .ok (.bipush 16, 2) := by decide +kernel
theorem d_Im_duplicate_5 : decode b_Im_duplicate 5 = .ok (.if_icmp .ge 21, 3) := by decide +kernel
theorem d_Im_duplicate_8 : decode b_Im_duplicate 8 = .ok (.aload_n 0, 1) := by decide +kernel
theorem d_Im_duplicate_9 : decode b_Im_duplicate 9 = .ok (.iload_n 2, 1) := by decide +kernel
theorem d_Im_duplicate_10 : decode b_Im_duplicate 10 = .ok (.iload_n 3, 1) := by decide +kernel
theorem d_Im_duplicate_11 : decode b_Im_duplicate 11 = .ok (.aload_n 0, 1) := by decide +kernel
theorem d_Im_duplicate_12 : decode b_Im_duplicate 12 = .ok (.iload_n 1, 1) := by decide +kernel
theorem d_Im_duplicate_13 : decode b_Im_duplicate 13 = .ok (.iload_n 3, 1) := by decide +kernel
theorem d_Im_duplicate_14 : decode b_Im_duplicate 14 = .ok (.invokevirtual 19, 3) := by decide +kernel
theorem d_Im_duplicate_17 : decode b_Im_duplicate 17 = .ok (.invokevirtual 26, 3) := by decide +kernel
theorem d_Im_duplicate_20 : decode b_Im_duplicate 20 = .ok (.iinc 3 1, 3) := by decide +kernel
theorem d_Im_duplicate_23 : decode b_Im_duplicate 23 = .ok (.goto (-21), 3) := by decide +kernel
theorem d_Im_duplicate_26 : decode b_Im_duplicate 26 = .ok (.return_, 1) := by decide +kernel
theorem d_Im_receive_0 : decode b_Im_receive 0 = .ok (.iload_n 3, 1) := by decide +kernel
theorem d_Im_receive_1 : decode b_Im_receive 1 = .ok (.iconst 1, 1) := by decide +kernel
theorem d_Im_receive_2 : decode b_Im_receive 2 = .ok (.if_icmp .eq 8, 3) := by decide +kernel
theorem d_Im_receive_5 : decode b_Im_receive 5 = .ok (.iload_n 3, 1) := by decide +kernel
theorem d_Im_receive_6 : decode b_Im_receive 6 = .ok (.iconst 2, 1) := by decide +kernel
theorem d_Im_receive_7 : decode b_Im_receive 7 = .ok (.if_icmp .ne 7, 3) := by decide +kernel
theorem d_Im_receive_10 : decode b_Im_receive 10 = .ok (.iconst 1, 1) := by decide +kernel
theorem d_Im_receive_11 : decode b_Im_receive 11 = .ok (.goto 4, 3) := by decide +kernel
theorem d_Im_receive_14 : decode b_Im_receive 14 = .ok (.iconst 0, 1) := by decide +kernel
theorem d_Im_receive_15 : decode b_Im_receive 15 = .ok (.istore 4, 2) := by decide +kernel
theorem d_Im_receive_17 : decode b_Im_receive 17 = .ok (.iload_n 3, 1) := by decide +kernel
theorem d_Im_receive_18 : decode b_Im_receive 18 = .ok (.iconst 1, 1) := by decide +kernel
theorem d_Im_receive_19 : decode b_Im_receive 19 = .ok (.if_icmp .eq 8, 3) := by decide +kernel
theorem d_Im_receive_22 : decode b_Im_receive 22 = .ok (.iload_n 3, 1) := by decide +kernel
theorem d_Im_receive_23 : decode b_Im_receive 23 = .ok (.iconst 3, 1) := by decide +kernel
theorem d_Im_receive_24 : decode b_Im_receive 24 = .ok (.if_icmp .ne 7, 3) := by decide +kernel
theorem d_Im_receive_27 : decode b_Im_receive 27 = .ok (.iconst 1, 1) := by decide +kernel
theorem d_Im_receive_28 : decode b_Im_receive 28 = .ok (.goto 4, 3) := by decide +kernel
theorem d_Im_receive_31 : decode b_Im_receive 31 = .ok (.iconst 0, 1) := by decide +kernel
theorem d_Im_receive_32 : decode b_Im_receive 32 = .ok (.istore 5, 2) := by decide +kernel
theorem d_Im_receive_34 : decode b_Im_receive 34 = .ok (.iload 4, 2) := by decide +kernel
theorem d_Im_receive_36 : decode b_Im_receive 36 = .ok (.ifCond .eq 7, 3) := by decide +kernel
theorem d_Im_receive_39 : decode b_Im_receive 39 = .ok (.iconst 0, 1) := by decide +kernel
theorem d_Im_receive_40 : decode b_Im_receive 40 = .ok (.goto 5, 3) := by decide +kernel
theorem d_Im_receive_43 : decode b_Im_receive 43 = .ok (.bipush 8, 2) := by decide +kernel
theorem d_Im_receive_45 : decode b_Im_receive 45 = .ok (.istore 6, 2) := by decide +kernel
theorem d_Im_receive_47 : decode b_Im_receive 47 = .ok (.iload 6, 2) := by decide +kernel
theorem d_Im_receive_49 : decode b_Im_receive 49 = .ok (.iload 5, 2) := by decide +kernel
theorem d_Im_receive_51 : decode b_Im_receive 51 = .ok (.ifCond .eq 8, 3) := by decide +kernel
theorem d_Im_receive_54 : decode b_Im_receive 54 = .ok (.bipush 16, 2) := by decide +kernel
theorem d_Im_receive_56 : decode b_Im_receive 56 = .ok (.goto 5, 3) := by decide +kernel
theorem d_Im_receive_59 : decode b_Im_receive 59 = .ok (.bipush 8, 2) := by decide +kernel
theorem d_Im_receive_61 : decode b_Im_receive 61 = .ok (.if_icmp .ge 23, 3) := by decide +kernel
theorem d_Im_receive_64 : decode b_Im_receive 64 = .ok (.aload_n 0, 1) := by decide +kernel
theorem d_Im_receive_65 : decode b_Im_receive 65 = .ok (.iload_n 2, 1) := by decide +kernel
theorem d_Im_receive_66 : decode b_Im_receive 66 = .ok (.iload 6, 2) := by decide +kernel
theorem d_Im_receive_68 : decode b_Im_receive 68 = .ok (.aload_n 1, 1) := by decide +kernel
theorem d_Im_receive_69 : decode b_Im_receive 69 = .ok (.iload_n 2, 1) := by decide +kernel
theorem d_Im_receive_70 : decode b_Im_receive 70 = .ok (.iload 6, 2) := by decide +kernel
theorem d_Im_receive_72 : decode b_Im_receive 72 = .ok (.invokevirtual 19, 3) := by decide +kernel
theorem d_Im_receive_75 : decode b_Im_receive 75 = .ok (.invokevirtual 26, 3) := by decide +kernel
theorem d_Im_receive_78 : decode b_Im_receive 78 = .ok (.iinc 6 1, 3) := by decide +kernel
theorem d_Im_receive_81 : decode b_Im_receive 81 = .ok (.goto (-34), 3) := by decide +kernel
theorem d_Im_receive_84 : decode b_Im_receive 84 = .ok (.return_, 1) := by decide +kernel
theorem d_Im_forgetAll_0 : decode b_Im_forgetAll 0 = .ok (.aload_n 0, 1) := by decide +kernel
theorem d_Im_forgetAll_1 : decode b_Im_forgetAll 1 = .ok (.getfield 9, 3) := by decide +kernel
theorem d_Im_forgetAll_4 : decode b_Im_forgetAll 4 = .ok (.lconst 0, 1) := by decide +kernel
theorem d_Im_forgetAll_5 : decode b_Im_forgetAll 5 = .ok (.invokestatic 30, 3) := by decide +kernel
theorem d_Im_forgetAll_8 : decode b_Im_forgetAll 8 = .ok (.return_, 1) := by decide +kernel
theorem d_Im_receiveAll_0 : decode b_Im_receiveAll 0 = .ok (.aload_n 1, 1) := by decide +kernel
theorem d_Im_receiveAll_1 : decode b_Im_receiveAll 1 = .ok (.getfield 9, 3) := by decide +kernel
theorem d_Im_receiveAll_4 : decode b_Im_receiveAll 4 = .ok (.iconst 0, 1) := by decide +kernel
theorem d_Im_receiveAll_5 : decode b_Im_receiveAll 5 = .ok (.aload_n 0, 1) := by decide +kernel
theorem d_Im_receiveAll_6 : decode b_Im_receiveAll 6 = .ok (.getfield 9, 3) := by decide +kernel
theorem d_Im_receiveAll_9 : decode b_Im_receiveAll 9 = .ok (.iconst 0, 1) := by decide +kernel
theorem d_Im_receiveAll_10 : decode b_Im_receiveAll 10 = .ok (.aload_n 0, 1) := by decide +kernel
theorem d_Im_receiveAll_11 : decode b_Im_receiveAll 11 = .ok (.getfield 9, 3) := by decide +kernel
theorem d_Im_receiveAll_14 : decode b_Im_receiveAll 14 = .ok (.arraylength, 1) := by decide +kernel
theorem d_Im_receiveAll_15 : decode b_Im_receiveAll 15 = .ok (.invokestatic 36, 3) := by decide +kernel
theorem d_Im_receiveAll_18 : decode b_Im_receiveAll 18 = .ok (.return_, 1) := by decide +kernel
theorem d_Tb_init_0 : decode b_Tb_init 0 = .ok (.aload_n 0, 1) := by decide +kernel
theorem d_Tb_init_1 : decode b_Tb_init 1 = .ok (.invokespecial 3, 3) := by decide +kernel
theorem d_Tb_init_4 : decode b_Tb_init 4 = .ok (.aload_n 0, 1) := by decide +kernel
theorem d_Tb_init_5 : decode b_Tb_init 5 = .ok (.aload_n 1, 1) := by decide +kernel
theorem d_Tb_init_6 : decode b_Tb_init 6 = .ok (.putfield 9, 3) := by decide +kernel
theorem d_Tb_init_9 : decode b_Tb_init 9 = .ok (.aload_n 0, 1) := by decide +kernel
theorem d_Tb_init_10 : decode b_Tb_init 10 = .ok (.iload_n 2, 1) := by decide +kernel
theorem d_Tb_init_11 : decode b_Tb_init 11 = .ok (.invokestatic 15, 3) := by decide +kernel
theorem d_Tb_init_14 : decode b_Tb_init 14 = .ok (.putfield 19, 3) := by decide +kernel
theorem d_Tb_init_17 : decode b_Tb_init 17 = .ok (.return_, 1) := by decide +kernel
theorem d_Tb_startOf_0 : decode b_Tb_startOf 0 = .ok (.iconst 2, 1) := by decide +kernel
theorem d_Tb_startOf_1 : decode b_Tb_startOf 1 = .ok (.iload_n 0, 1) := by decide +kernel
theorem d_Tb_startOf_2 : decode b_Tb_startOf 2 = .ok (.bipush 7, 2) := by decide +kernel
theorem d_Tb_startOf_4 : decode b_Tb_startOf 4 = .ok (.imul, 1) := by decide +kernel
theorem d_Tb_startOf_5 : decode b_Tb_startOf 5 = .ok (.iadd, 1) := by decide +kernel
theorem d_Tb_startOf_6 : decode b_Tb_startOf 6 = .ok (.ireturn, 1) := by decide +kernel
theorem d_Tb_rootOf_0 : decode b_Tb_rootOf 0 = .ok (.aload_n 0, 1) := by decide +kernel
theorem d_Tb_rootOf_1 : decode b_Tb_rootOf 1 = .ok (.getfield 9, 3) := by decide +kernel
theorem d_Tb_rootOf_4 : decode b_Tb_rootOf 4 = .ok (.aload_n 0, 1) := by decide +kernel
theorem d_Tb_rootOf_5 : decode b_Tb_rootOf 5 = .ok (.getfield 19, 3) := by decide +kernel
theorem d_Tb_rootOf_8 : decode b_Tb_rootOf 8 = .ok (.iload_n 1, 1) := by decide +kernel
theorem d_Tb_rootOf_9 : decode b_Tb_rootOf 9 = .ok (.invokevirtual 23, 3) := by decide +kernel
theorem d_Tb_rootOf_12 : decode b_Tb_rootOf 12 = .ok (.ireturn, 1) := by decide +kernel
theorem d_Tb_setRoot_0 : decode b_Tb_setRoot 0 = .ok (.aload_n 0, 1) := by decide +kernel
theorem d_Tb_setRoot_1 : decode b_Tb_setRoot 1 = .ok (.getfield 9, 3) := by decide +kernel
theorem d_Tb_setRoot_4 : decode b_Tb_setRoot 4 = .ok (.aload_n 0, 1) := by decide +kernel
theorem d_Tb_setRoot_5 : decode b_Tb_setRoot 5 = .ok (.getfield 19, 3) := by decide +kernel
theorem d_Tb_setRoot_8 : decode b_Tb_setRoot 8 = .ok (.iload_n 1, 1) := by decide +kernel
theorem d_Tb_setRoot_9 : decode b_Tb_setRoot 9 = .ok (.iload_n 2, 1) := by decide +kernel
theorem d_Tb_setRoot_10 : decode b_Tb_setRoot 10 = .ok (.invokevirtual 29, 3) := by decide +kernel
theorem d_Tb_setRoot_13 : decode b_Tb_setRoot 13 = .ok (.return_, 1) := by decide +kernel
theorem d_Tb_noteAt_0 : decode b_Tb_noteAt 0 = .ok (.aload_n 0, 1) := by decide +kernel
theorem d_Tb_noteAt_1 : decode b_Tb_noteAt 1 = .ok (.getfield 9, 3) := by decide +kernel
theorem d_Tb_noteAt_4 : decode b_Tb_noteAt 4 = .ok (.aload_n 0, 1) := by decide +kernel
theorem d_Tb_noteAt_5 : decode b_Tb_noteAt 5 = .ok (.getfield 19, 3) := by decide +kernel
theorem d_Tb_noteAt_8 : decode b_Tb_noteAt 8 = .ok (.bipush 32, 2) := by decide +kernel
theorem d_Tb_noteAt_10 : decode b_Tb_noteAt 10 = .ok (.iload_n 1, 1) := by decide +kernel
theorem d_Tb_noteAt_11 : decode b_Tb_noteAt 11 = .ok (.iadd, 1) := by decide +kernel
theorem d_Tb_noteAt_12 : decode b_Tb_noteAt 12 = .ok (.invokevirtual 33, 3) := by decide +kernel
theorem d_Tb_noteAt_15 : decode b_Tb_noteAt 15 = .ok (.ireturn, 1) := by decide +kernel
theorem d_Tb_setNote_0 : decode b_Tb_setNote 0 = .ok (.aload_n 0, 1) := by decide +kernel
theorem d_Tb_setNote_1 : decode b_Tb_setNote 1 = .ok (.getfield 9, 3) := by decide +kernel
theorem d_Tb_setNote_4 : decode b_Tb_setNote 4 = .ok (.aload_n 0, 1) := by decide +kernel
theorem d_Tb_setNote_5 : decode b_Tb_setNote 5 = .ok (.getfield 19, 3) := by decide +kernel
theorem d_Tb_setNote_8 : decode b_Tb_setNote 8 = .ok (.bipush 32, 2) := by decide +kernel
theorem d_Tb_setNote_10 : decode b_Tb_setNote 10 = .ok (.iload_n 1, 1) := by decide +kernel
theorem d_Tb_setNote_11 : decode b_Tb_setNote 11 = .ok (.iadd, 1) := by decide +kernel
theorem d_Tb_setNote_12 : decode b_Tb_setNote 12 = .ok (.iload_n 2, 1) := by decide +kernel
theorem d_Tb_setNote_13 : decode b_Tb_setNote 13 = .ok (.invokevirtual 36, 3) := by decide +kernel
theorem d_Tb_setNote_16 : decode b_Tb_setNote 16 = .ok (.return_, 1) := by decide +kernel
theorem d_Tb_waysTo_0 : decode b_Tb_waysTo 0 = .ok (.iload_n 1, 1) := by decide +kernel
theorem d_Tb_waysTo_1 : decode b_Tb_waysTo 1 = .ok (.bipush 16, 2) := by decide +kernel
theorem d_Tb_waysTo_3 : decode b_Tb_waysTo 3 = .ok (.isub, 1) := by decide +kernel
theorem d_Tb_waysTo_4 : decode b_Tb_waysTo 4 = .ok (.istore_n 2, 1) := by decide +kernel
theorem d_Tb_waysTo_5 : decode b_Tb_waysTo 5 = .ok (.iload_n 2, 1) := by decide +kernel
theorem d_Tb_waysTo_6 : decode b_Tb_waysTo 6 = .ok (.ifCond .lt 37, 3) := by decide +kernel
theorem d_Tb_waysTo_9 : decode b_Tb_waysTo 9 = .ok (.iload_n 2, 1) := by decide +kernel
theorem d_Tb_waysTo_10 : decode b_Tb_waysTo 10 = .ok (.sipush 768, 3) := by decide +kernel
theorem d_Tb_waysTo_13 : decode b_Tb_waysTo 13 = .ok (.if_icmp .ge 30, 3) := by decide +kernel
theorem d_Tb_waysTo_16 : decode b_Tb_waysTo 16 = .ok (.aload_n 0, 1) := by decide +kernel
theorem d_Tb_waysTo_17 : decode b_Tb_waysTo 17 = .ok (.getfield 9, 3) := by decide +kernel
theorem d_Tb_waysTo_20 : decode b_Tb_waysTo 20 = .ok (.aload_n 0, 1) := by decide +kernel
theorem d_Tb_waysTo_21 : decode b_Tb_waysTo 21 = .ok (.getfield 19, 3) := by decide +kernel
theorem d_Tb_waysTo_24 : decode b_Tb_waysTo 24 = .ok (.iconst 1, 1) := by decide +kernel
theorem d_Tb_waysTo_25 : decode b_Tb_waysTo 25 = .ok (.iadd, 1) := by decide +kernel
theorem d_Tb_waysTo_26 : decode b_Tb_waysTo 26 = .ok (.iload_n 2, 1) := by decide +kernel
theorem d_Tb_waysTo_27 : decode b_Tb_waysTo 27 = .ok (.sipush 128, 3) := by decide +kernel
theorem d_Tb_waysTo_30 : decode b_Tb_waysTo 30 = .ok (.idiv, 1) := by decide +kernel
theorem d_Tb_waysTo_31 : decode b_Tb_waysTo 31 = .ok (.iadd, 1) := by decide +kernel
theorem d_Tb_waysTo_32 : decode b_Tb_waysTo 32 = .ok (.iload_n 2, 1) := by decide +kernel
theorem d_Tb_waysTo_33 : decode b_Tb_waysTo 33 = .ok (.sipush 128, 3) := by decide +kernel
theorem d_Tb_waysTo_36 : decode b_Tb_waysTo 36 = .ok (.irem, 1) := by decide +kernel
theorem d_Tb_waysTo_37 : decode b_Tb_waysTo 37 = .ok (.invokevirtual 33, 3) := by decide +kernel
theorem d_Tb_waysTo_40 : decode b_Tb_waysTo 40 = .ok (.goto 4, 3) := by decide +kernel
theorem d_Tb_waysTo_43 : decode b_Tb_waysTo 43 = .ok (.iconst 0, 1) := by decide +kernel
theorem d_Tb_waysTo_44 : decode b_Tb_waysTo 44 = .ok (.ireturn, 1) := by decide +kernel
theorem d_Tb_setWays_0 : decode b_Tb_setWays 0 = .ok (.iload_n 1, 1) := by decide +kernel
theorem d_Tb_setWays_1 : decode b_Tb_setWays 1 = .ok (.bipush 16, 2) := by decide +kernel
theorem d_Tb_setWays_3 : decode b_Tb_setWays 3 = .ok (.isub, 1) := by decide +kernel
theorem d_Tb_setWays_4 : decode b_Tb_setWays 4 = .ok (.istore_n 3, 1) := by decide +kernel
theorem d_Tb_setWays_5 : decode b_Tb_setWays 5 = .ok (.iload_n 3, 1) := by decide +kernel
theorem d_Tb_setWays_6 : decode b_Tb_setWays 6 = .ok (.ifCond .lt 35, 3) := by decide +kernel
theorem d_Tb_setWays_9 : decode b_Tb_setWays 9 = .ok (.iload_n 3, 1) := by decide +kernel
theorem d_Tb_setWays_10 : decode b_Tb_setWays 10 = .ok (.sipush 768, 3) := by decide +kernel
theorem d_Tb_setWays_13 : decode b_Tb_setWays 13 = .ok (.if_icmp .ge 28, 3) := by decide +kernel
theorem d_Tb_setWays_16 : decode b_Tb_setWays 16 = .ok (.aload_n 0, 1) := by decide +kernel
theorem d_Tb_setWays_17 : decode b_Tb_setWays 17 = .ok (.getfield 9, 3) := by decide +kernel
theorem d_Tb_setWays_20 : decode b_Tb_setWays 20 = .ok (.aload_n 0, 1) := by decide +kernel
theorem d_Tb_setWays_21 : decode b_Tb_setWays 21 = .ok (.getfield 19, 3) := by decide +kernel
theorem d_Tb_setWays_24 : decode b_Tb_setWays 24 = .ok (.iconst 1, 1) := by decide +kernel
theorem d_Tb_setWays_25 : decode b_Tb_setWays 25 = .ok (.iadd, 1) := by decide +kernel
theorem d_Tb_setWays_26 : decode b_Tb_setWays 26 = .ok (.iload_n 3, 1) := by decide +kernel
theorem d_Tb_setWays_27 : decode b_Tb_setWays 27 = .ok (.sipush 128, 3) := by decide +kernel
theorem d_Tb_setWays_30 : decode b_Tb_setWays 30 = .ok (.idiv, 1) := by decide +kernel
theorem d_Tb_setWays_31 : decode b_Tb_setWays 31 = .ok (.iadd, 1) := by decide +kernel
theorem d_Tb_setWays_32 : decode b_Tb_setWays 32 = .ok (.iload_n 3, 1) := by decide +kernel
theorem d_Tb_setWays_33 : decode b_Tb_setWays 33 = .ok (.sipush 128, 3) := by decide +kernel
theorem d_Tb_setWays_36 : decode b_Tb_setWays 36 = .ok (.irem, 1) := by decide +kernel
theorem d_Tb_setWays_37 : decode b_Tb_setWays 37 = .ok (.iload_n 2, 1) := by decide +kernel
theorem d_Tb_setWays_38 : decode b_Tb_setWays 38 = .ok (.invokevirtual 36, 3) := by decide +kernel
theorem d_Tb_setWays_41 : decode b_Tb_setWays 41 = .ok (.return_, 1) := by decide +kernel
theorem d_Tb_becomeLike_0 : decode b_Tb_becomeLike 0 = .ok (.iconst 0, 1) := by decide +kernel
theorem d_Tb_becomeLike_1 : decode b_Tb_becomeLike 1 = .ok (.istore_n 2, 1) := by decide +kernel
theorem d_Tb_becomeLike_2 : decode b_Tb_becomeLike 2 = .ok (.iload_n 2, 1) := by decide +kernel
theorem d_Tb_becomeLike_3 : decode b_Tb_becomeLike 3 = .ok (.bipush 7, 2) := by decide +kernel
theorem d_Tb_becomeLike_5 : decode b_Tb_becomeLike 5 = .ok (.if_icmp .ge 28, 3) := by decide +kernel
theorem d_Tb_becomeLike_8 : decode b_Tb_becomeLike 8 = .ok (.aload_n 0, 1) := by decide +kernel
theorem d_Tb_becomeLike_9 : decode b_Tb_becomeLike 9 = .ok (.getfield 9, 3) := by decide +kernel
theorem d_Tb_becomeLike_12 : decode b_Tb_becomeLike 12 = .ok (.aload_n 1, 1) := by decide +kernel
theorem d_Tb_becomeLike_13 : decode b_Tb_becomeLike 13 = .ok (.getfield 19, 3) := by decide +kernel
theorem d_Tb_becomeLike_16 : decode b_Tb_becomeLike 16 = .ok (.iload_n 2, 1) := by decide +kernel
theorem d_Tb_becomeLike_17 : decode b_Tb_becomeLike 17 = .ok (.iadd, 1) := by decide +kernel
theorem d_Tb_becomeLike_18 : decode b_Tb_becomeLike 18 = .ok (.aload_n 0, 1) := by decide +kernel
theorem d_Tb_becomeLike_19 : decode b_Tb_becomeLike 19 = .ok (.getfield 19, 3) := by decide +kernel
theorem d_Tb_becomeLike_22 : decode b_Tb_becomeLike 22 = .ok (.iload_n 2, 1) := by decide +kernel
theorem d_Tb_becomeLike_23 : decode b_Tb_becomeLike 23 = .ok (.iadd, 1) := by decide +kernel
theorem d_Tb_becomeLike_24 : decode b_Tb_becomeLike 24 = .ok (.invokevirtual 39, 3) := by decide +kernel
theorem d_Tb_becomeLike_27 : decode b_Tb_becomeLike 27 = .ok (.iinc 2 1, 3) := by decide +kernel
theorem d_Tb_becomeLike_30 : decode b_Tb_becomeLike 30 = .ok (.goto (-28), 3) := by decide +kernel
theorem d_Tb_becomeLike_33 : decode b_Tb_becomeLike 33 = .ok (.return_, 1) := by decide +kernel
theorem d_Tr_init_0 : decode b_Tr_init 0 = .ok (.aload_n 0, 1) := by decide +kernel
theorem d_Tr_init_1 : decode b_Tr_init 1 = .ok (.invokespecial 3, 3) := by decide +kernel
theorem d_Tr_init_4 : decode b_Tr_init 4 = .ok (.aload_n 0, 1) := by decide +kernel
theorem d_Tr_init_5 : decode b_Tr_init 5 = .ok (.bipush 16, 2) := by decide +kernel
theorem d_Tr_init_7 : decode b_Tr_init 7 = .ok (.putfield 9, 3) := by decide +kernel
theorem d_Tr_init_10 : decode b_Tr_init 10 = .ok (.aload_n 0, 1) := by decide +kernel
theorem d_Tr_init_11 : decode b_Tr_init 11 = .ok (.aload_n 1, 1) := by decide +kernel
theorem d_Tr_init_12 : decode b_Tr_init 12 = .ok (.putfield 15, 3) := by decide +kernel
theorem d_Tr_init_15 : decode b_Tr_init 15 = .ok (.aload_n 0, 1) := by decide +kernel
theorem d_Tr_init_16 : decode b_Tr_init 16 = .ok (.new 19, 3) := by decide +kernel
theorem d_Tr_init_19 : decode b_Tr_init 19 = .ok (.dup, 1) := by decide +kernel
theorem d_Tr_init_20 : decode b_Tr_init 20 = .ok (.aload_n 1, 1) := by decide +kernel
theorem d_Tr_init_21 : decode b_Tr_init 21 = .ok (.iconst 0, 1) := by decide +kernel
theorem d_Tr_init_22 : decode b_Tr_init 22 = .ok (.invokespecial 21, 3) := by decide +kernel
theorem d_Tr_init_25 : decode b_Tr_init 25 = .ok (.putfield 24, 3) := by decide +kernel
theorem d_Tr_init_28 : decode b_Tr_init 28 = .ok (.aload_n 0, 1) := by decide +kernel
theorem d_Tr_init_29 : decode b_Tr_init 29 = .ok (.new 19, 3) := by decide +kernel
theorem d_Tr_init_32 : decode b_Tr_init 32 = .ok (.dup, 1) := by decide +kernel
theorem d_Tr_init_33 : decode b_Tr_init 33 = .ok (.aload_n 1, 1) := by decide +kernel
theorem d_Tr_init_34 : decode b_Tr_init 34 = .ok (.iconst 1, 1) := by decide +kernel
theorem d_Tr_init_35 : decode b_Tr_init 35 = .ok (.invokespecial 21, 3) := by decide +kernel
theorem d_Tr_init_38 : decode b_Tr_init 38 = .ok (.putfield 28, 3) := by decide +kernel
theorem d_Tr_init_41 : decode b_Tr_init 41 = .ok (.aload_n 0, 1) := by decide +kernel
theorem d_Tr_init_42 : decode b_Tr_init 42 = .ok (.aload_n 0, 1) := by decide +kernel
theorem d_Tr_init_43 : decode b_Tr_init 43 = .ok (.getfield 24, 3) := by decide +kernel
theorem d_Tr_init_46 : decode b_Tr_init 46 = .ok (.putfield 31, 3) := by decide +kernel
theorem d_Tr_init_49 : decode b_Tr_init 49 = .ok (.aload_n 0, 1) := by decide +kernel
theorem d_Tr_init_50 : decode b_Tr_init 50 = .ok (.aload_n 0, 1) := by decide +kernel
theorem d_Tr_init_51 : decode b_Tr_init 51 = .ok (.getfield 28, 3) := by decide +kernel
theorem d_Tr_init_54 : decode b_Tr_init 54 = .ok (.putfield 34, 3) := by decide +kernel
theorem d_Tr_init_57 : decode b_Tr_init 57 = .ok (.return_, 1) := by decide +kernel
theorem d_Tr_goOnFrom_0 : decode b_Tr_goOnFrom 0 = .ok (.aload_n 0, 1) := by decide +kernel
theorem d_Tr_goOnFrom_1 : decode b_Tr_goOnFrom 1 = .ok (.iload_n 1, 1) := by decide +kernel
theorem d_Tr_goOnFrom_2 : decode b_Tr_goOnFrom 2 = .ok (.ifCond .ne 10, 3) := by decide +kernel
theorem d_Tr_goOnFrom_5 : decode b_Tr_goOnFrom 5 = .ok (.aload_n 0, 1) := by decide +kernel
theorem d_Tr_goOnFrom_6 : decode b_Tr_goOnFrom 6 = .ok (.getfield 24, 3) := by decide +kernel
theorem d_Tr_goOnFrom_9 : decode b_Tr_goOnFrom 9 = .ok (.goto 7, 3) := by decide +kernel
theorem d_Tr_goOnFrom_12 : decode b_Tr_goOnFrom 12 = .ok (.aload_n 0, 1) := by decide +kernel
theorem d_Tr_goOnFrom_13 : decode b_Tr_goOnFrom 13 = .ok (.getfield 28, 3) := by decide +kernel
theorem d_Tr_goOnFrom_16 : decode b_Tr_goOnFrom 16 = .ok (.putfield 31, 3) := by decide +kernel
theorem d_Tr_goOnFrom_19 : decode b_Tr_goOnFrom 19 = .ok (.aload_n 0, 1) := by decide +kernel
theorem d_Tr_goOnFrom_20 : decode b_Tr_goOnFrom 20 = .ok (.iload_n 1, 1) := by decide +kernel
theorem d_Tr_goOnFrom_21 : decode b_Tr_goOnFrom 21 = .ok (.ifCond .ne 10, 3) := by decide +kernel
theorem d_Tr_goOnFrom_24 : decode b_Tr_goOnFrom 24 = .ok (.aload_n 0, 1) := by decide +kernel
theorem d_Tr_goOnFrom_25 : decode b_Tr_goOnFrom 25 = .ok (.getfield 28, 3) := by decide +kernel
theorem d_Tr_goOnFrom_28 : decode b_Tr_goOnFrom 28 = .ok (.goto 7, 3) := by decide +kernel
theorem d_Tr_goOnFrom_31 : decode b_Tr_goOnFrom 31 = .ok (.aload_n 0, 1) := by decide +kernel
theorem d_Tr_goOnFrom_32 : decode b_Tr_goOnFrom 32 = .ok (.getfield 24, 3) := by decide +kernel
theorem d_Tr_goOnFrom_35 : decode b_Tr_goOnFrom 35 = .ok (.putfield 34, 3) := by decide +kernel
theorem d_Tr_goOnFrom_38 : decode b_Tr_goOnFrom 38 = .ok (.aload_n 0, 1) := by decide +kernel
theorem d_Tr_goOnFrom_39 : decode b_Tr_goOnFrom 39 = .ok (.getfield 34, 3) := by decide +kernel
theorem d_Tr_goOnFrom_42 : decode b_Tr_goOnFrom 42 = .ok (.aload_n 0, 1) := by decide +kernel
theorem d_Tr_goOnFrom_43 : decode b_Tr_goOnFrom 43 = .ok (.getfield 31, 3) := by decide +kernel
theorem d_Tr_goOnFrom_46 : decode b_Tr_goOnFrom 46 = .ok (.invokevirtual 37, 3) := by decide +kernel
theorem d_Tr_goOnFrom_49 : decode b_Tr_goOnFrom 49 = .ok (.return_, 1) := by decide +kernel
theorem d_Tr_isNew_0 : decode b_Tr_isNew 0 = .ok (.aload_n 0, 1) := by decide +kernel
theorem d_Tr_isNew_1 : decode b_Tr_isNew 1 = .ok (.getfield 34, 3) := by decide +kernel
theorem d_Tr_isNew_4 : decode b_Tr_isNew 4 = .ok (.iload_n 1, 1) := by decide +kernel
theorem d_Tr_isNew_5 : decode b_Tr_isNew 5 = .ok (.invokevirtual 41, 3) := by decide +kernel
theorem d_Tr_isNew_8 : decode b_Tr_isNew 8 = .ok (.ifCond .le 18, 3) := by decide +kernel
theorem d_Tr_isNew_11 : decode b_Tr_isNew 11 = .ok (.aload_n 0, 1) := by decide +kernel
theorem d_Tr_isNew_12 : decode b_Tr_isNew 12 = .ok (.getfield 31, 3) := by decide +kernel
theorem d_Tr_isNew_15 : decode b_Tr_isNew 15 = .ok (.iload_n 1, 1) := by decide +kernel
theorem d_Tr_isNew_16 : decode b_Tr_isNew 16 = .ok (.invokevirtual 41, 3) := by decide +kernel
theorem d_Tr_isNew_19 : decode b_Tr_isNew 19 = .ok (.ifCond .ne 7, 3) := by decide +kernel
theorem d_Tr_isNew_22 : decode b_Tr_isNew 22 = .ok (.iconst 1, 1) := by decide +kernel
theorem d_Tr_isNew_23 : decode b_Tr_isNew 23 = .ok (.goto 4, 3) := by decide +kernel
theorem d_Tr_isNew_26 : decode b_Tr_isNew 26 = .ok (.iconst 0, 1) := by decide +kernel
theorem d_Tr_isNew_27 : decode b_Tr_isNew 27 = .ok (.ireturn, 1) := by decide +kernel
theorem d_Tr_sizeOf_0 : decode b_Tr_sizeOf 0 = .ok (.aload_n 0, 1) := by decide +kernel
theorem d_Tr_sizeOf_1 : decode b_Tr_sizeOf 1 = .ok (.getfield 34, 3) := by decide +kernel
theorem d_Tr_sizeOf_4 : decode b_Tr_sizeOf 4 = .ok (.iload_n 1, 1) := by decide +kernel
theorem d_Tr_sizeOf_5 : decode b_Tr_sizeOf 5 = .ok (.invokevirtual 45, 3) := by decide +kernel
theorem d_Tr_sizeOf_8 : decode b_Tr_sizeOf 8 = .ok (.istore_n 2, 1) := by decide +kernel
theorem d_Tr_sizeOf_9 : decode b_Tr_sizeOf 9 = .ok (.iload_n 2, 1) := by decide +kernel
theorem d_Tr_sizeOf_10 : decode b_Tr_sizeOf 10 = .ok (.ifCond .ne 7, 3) := by decide +kernel
theorem d_Tr_sizeOf_13 : decode b_Tr_sizeOf 13 = .ok (.iconst 0, 1) := by decide +kernel
theorem d_Tr_sizeOf_14 : decode b_Tr_sizeOf 14 = .ok (.goto 11, 3) := by decide +kernel
theorem d_Tr_sizeOf_17 : decode b_Tr_sizeOf 17 = .ok (.aload_n 0, 1) := by decide +kernel
theorem d_Tr_sizeOf_18 : decode b_Tr_sizeOf 18 = .ok (.getfield 15, 3) := by decide +kernel
theorem d_Tr_sizeOf_21 : decode b_Tr_sizeOf 21 = .ok (.iload_n 2, 1) := by decide +kernel
theorem d_Tr_sizeOf_22 : decode b_Tr_sizeOf 22 = .ok (.invokevirtual 48, 3) := by decide +kernel
theorem d_Tr_sizeOf_25 : decode b_Tr_sizeOf 25 = .ok (.ireturn, 1) := by decide +kernel
theorem d_Tr_sizeOfAll_0 : decode b_Tr_sizeOfAll 0 = .ok (.iconst 0, 1) := by decide +kernel
theorem d_Tr_sizeOfAll_1 : decode b_Tr_sizeOfAll 1 = .ok (.istore_n 1, 1) := by decide +kernel
theorem d_Tr_sizeOfAll_2 : decode b_Tr_sizeOfAll 2 = .ok (.iconst 0, 1) := by decide +kernel
theorem d_Tr_sizeOfAll_3 : decode b_Tr_sizeOfAll 3 = .ok (.istore_n 2, 1) := by decide +kernel
theorem d_Tr_sizeOfAll_4 : decode b_Tr_sizeOfAll 4 = .ok (.iload_n 2, 1) := by decide +kernel
theorem d_Tr_sizeOfAll_5 : decode b_Tr_sizeOfAll 5 = .ok (.bipush 16, 2) := by decide +kernel
theorem d_Tr_sizeOfAll_7 : decode b_Tr_sizeOfAll 7 = .ok (.if_icmp .ge 17, 3) := by decide +kernel
theorem d_Tr_sizeOfAll_10 : decode b_Tr_sizeOfAll 10 = .ok (.iload_n 1, 1) := by decide +kernel
theorem d_Tr_sizeOfAll_11 : decode b_Tr_sizeOfAll 11 = .ok (.aload_n 0, 1) := by decide +kernel
theorem d_Tr_sizeOfAll_12 : decode b_Tr_sizeOfAll 12 = .ok (.iload_n 2, 1) := by decide +kernel
theorem d_Tr_sizeOfAll_13 : decode b_Tr_sizeOfAll 13 = .ok (.invokevirtual 53, 3) := by decide +kernel
theorem d_Tr_sizeOfAll_16 : decode b_Tr_sizeOfAll 16 = .ok (.iadd, 1) := by decide +kernel
theorem d_Tr_sizeOfAll_17 : decode b_Tr_sizeOfAll 17 = .ok (.istore_n 1, 1) := by decide +kernel
theorem d_Tr_sizeOfAll_18 : decode b_Tr_sizeOfAll 18 = .ok (.iinc 2 1, 3) := by decide +kernel
theorem d_Tr_sizeOfAll_21 : decode b_Tr_sizeOfAll 21 = .ok (.goto (-17), 3) := by decide +kernel
theorem d_Tr_sizeOfAll_24 : decode b_Tr_sizeOfAll 24 = .ok (.iload_n 1, 1) := by decide +kernel
theorem d_Tr_sizeOfAll_25 : decode b_Tr_sizeOfAll 25 = .ok (.ireturn, 1) := by decide +kernel
theorem d_Tr_find_0 : decode b_Tr_find 0 = .ok (.aload_n 0, 1) := by decide +kernel
theorem d_Tr_find_1 : decode b_Tr_find 1 = .ok (.getfield 34, 3) := by decide +kernel
theorem d_Tr_find_4 : decode b_Tr_find 4 = .ok (.iload_n 1, 1) := by decide +kernel
theorem d_Tr_find_5 : decode b_Tr_find 5 = .ok (.invokevirtual 45, 3) := by decide +kernel
theorem d_Tr_find_8 : decode b_Tr_find 8 = .ok (.istore_n 3, 1) := by decide +kernel
theorem d_Tr_find_9 : decode b_Tr_find 9 = .ok (.iload_n 3, 1) := by decide +kernel
theorem d_Tr_find_10 : decode b_Tr_find 10 = .ok (.ifCond .ne 7, 3) := by decide +kernel
theorem d_Tr_find_13 : decode b_Tr_find 13 = .ok (.iconst 0, 1) := by decide +kernel
theorem d_Tr_find_14 : decode b_Tr_find 14 = .ok (.goto 15, 3) := by decide +kernel
theorem d_Tr_find_17 : decode b_Tr_find 17 = .ok (.aload_n 0, 1) := by decide +kernel
theorem d_Tr_find_18 : decode b_Tr_find 18 = .ok (.getfield 15, 3) := by decide +kernel
theorem d_Tr_find_21 : decode b_Tr_find 21 = .ok (.iload_n 3, 1) := by decide +kernel
theorem d_Tr_find_22 : decode b_Tr_find 22 = .ok (.iload_n 2, 1) := by decide +kernel
theorem d_Tr_find_23 : decode b_Tr_find 23 = .ok (.bipush 32, 2) := by decide +kernel
theorem d_Tr_find_25 : decode b_Tr_find 25 = .ok (.idiv, 1) := by decide +kernel
theorem d_Tr_find_26 : decode b_Tr_find 26 = .ok (.invokevirtual 56, 3) := by decide +kernel
theorem d_Tr_find_29 : decode b_Tr_find 29 = .ok (.istore 4, 2) := by decide +kernel
theorem d_Tr_find_31 : decode b_Tr_find 31 = .ok (.iload 4, 2) := by decide +kernel
theorem d_Tr_find_33 : decode b_Tr_find 33 = .ok (.ifCond .ne 7, 3) := by decide +kernel
theorem d_Tr_find_36 : decode b_Tr_find 36 = .ok (.iconst 0, 1) := by decide +kernel
theorem d_Tr_find_37 : decode b_Tr_find 37 = .ok (.goto 16, 3) := by decide +kernel
theorem d_Tr_find_40 : decode b_Tr_find 40 = .ok (.aload_n 0, 1) := by decide +kernel
theorem d_Tr_find_41 : decode b_Tr_find 41 = .ok (.getfield 15, 3) := by decide +kernel
theorem d_Tr_find_44 : decode b_Tr_find 44 = .ok (.iload 4, 2) := by decide +kernel
theorem d_Tr_find_46 : decode b_Tr_find 46 = .ok (.iload_n 2, 1) := by decide +kernel
theorem d_Tr_find_47 : decode b_Tr_find 47 = .ok (.bipush 32, 2) := by decide +kernel
theorem d_Tr_find_49 : decode b_Tr_find 49 = .ok (.irem, 1) := by decide +kernel
theorem d_Tr_find_50 : decode b_Tr_find 50 = .ok (.invokevirtual 56, 3) := by decide +kernel
theorem d_Tr_find_53 : decode b_Tr_find 53 = .ok (.ireturn, 1) := by decide +kernel
theorem d_Tr_addEmpty_0 : decode b_Tr_addEmpty 0 = .ok (.aload_n 0, 1) := by decide +kernel
theorem d_Tr_addEmpty_1 : decode b_Tr_addEmpty 1 = .ok (.getfield 34, 3) := by decide +kernel
theorem d_Tr_addEmpty_4 : decode b_Tr_addEmpty 4 = .ok (.iload_n 1, 1) := by decide +kernel
theorem d_Tr_addEmpty_5 : decode b_Tr_addEmpty 5 = .ok (.aload_n 0, 1) := by decide +kernel
theorem d_Tr_addEmpty_6 : decode b_Tr_addEmpty 6 = .ok (.invokevirtual 60, 3) := by decide +kernel
theorem d_Tr_addEmpty_9 : decode b_Tr_addEmpty 9 = .ok (.invokevirtual 64, 3) := by decide +kernel
theorem d_Tr_addEmpty_12 : decode b_Tr_addEmpty 12 = .ok (.return_, 1) := by decide +kernel
theorem d_Tr_addTwin_0 : decode b_Tr_addTwin 0 = .ok (.aload_n 0, 1) := by decide +kernel
theorem d_Tr_addTwin_1 : decode b_Tr_addTwin 1 = .ok (.getfield 34, 3) := by decide +kernel
theorem d_Tr_addTwin_4 : decode b_Tr_addTwin 4 = .ok (.iload_n 2, 1) := by decide +kernel
theorem d_Tr_addTwin_5 : decode b_Tr_addTwin 5 = .ok (.invokevirtual 45, 3) := by decide +kernel
theorem d_Tr_addTwin_8 : decode b_Tr_addTwin 8 = .ok (.istore_n 3, 1) := by decide +kernel
theorem d_Tr_addTwin_9 : decode b_Tr_addTwin 9 = .ok (.aload_n 0, 1) := by decide +kernel
theorem d_Tr_addTwin_10 : decode b_Tr_addTwin 10 = .ok (.getfield 34, 3) := by decide +kernel
theorem d_Tr_addTwin_13 : decode b_Tr_addTwin 13 = .ok (.iload_n 1, 1) := by decide +kernel
theorem d_Tr_addTwin_14 : decode b_Tr_addTwin 14 = .ok (.iload_n 3, 1) := by decide +kernel
theorem d_Tr_addTwin_15 : decode b_Tr_addTwin 15 = .ok (.invokevirtual 64, 3) := by decide +kernel
theorem d_Tr_addTwin_18 : decode b_Tr_addTwin 18 = .ok (.aload_n 0, 1) := by decide +kernel
theorem d_Tr_addTwin_19 : decode b_Tr_addTwin 19 = .ok (.iload_n 3, 1) := by decide +kernel
theorem d_Tr_addTwin_20 : decode b_Tr_addTwin 20 = .ok (.invokevirtual 68, 3) := by decide +kernel
theorem d_Tr_addTwin_23 : decode b_Tr_addTwin 23 = .ok (.return_, 1) := by decide +kernel
theorem d_Tr_dropVolume_0 : decode b_Tr_dropVolume 0 = .ok (.aload_n 0, 1) := by decide +kernel
theorem d_Tr_dropVolume_1 : decode b_Tr_dropVolume 1 = .ok (.aload_n 0, 1) := by decide +kernel
theorem d_Tr_dropVolume_2 : decode b_Tr_dropVolume 2 = .ok (.getfield 34, 3) := by decide +kernel
theorem d_Tr_dropVolume_5 : decode b_Tr_dropVolume 5 = .ok (.iload_n 1, 1) := by decide +kernel
theorem d_Tr_dropVolume_6 : decode b_Tr_dropVolume 6 = .ok (.invokevirtual 45, 3) := by decide +kernel
theorem d_Tr_dropVolume_9 : decode b_Tr_dropVolume 9 = .ok (.iconst 2, 1) := by decide +kernel
theorem d_Tr_dropVolume_10 : decode b_Tr_dropVolume 10 = .ok (.invokevirtual 72, 3) := by decide +kernel
theorem d_Tr_dropVolume_13 : decode b_Tr_dropVolume 13 = .ok (.aload_n 0, 1) := by decide +kernel
theorem d_Tr_dropVolume_14 : decode b_Tr_dropVolume 14 = .ok (.getfield 34, 3) := by decide +kernel
theorem d_Tr_dropVolume_17 : decode b_Tr_dropVolume 17 = .ok (.iload_n 1, 1) := by decide +kernel
theorem d_Tr_dropVolume_18 : decode b_Tr_dropVolume 18 = .ok (.iconst 0, 1) := by decide +kernel
theorem d_Tr_dropVolume_19 : decode b_Tr_dropVolume 19 = .ok (.invokevirtual 64, 3) := by decide +kernel
theorem d_Tr_dropVolume_22 : decode b_Tr_dropVolume 22 = .ok (.return_, 1) := by decide +kernel
theorem d_Tr_ownPiece_0 : decode b_Tr_ownPiece 0 = .ok (.aload_n 0, 1) := by decide +kernel
theorem d_Tr_ownPiece_1 : decode b_Tr_ownPiece 1 = .ok (.iload_n 1, 1) := by decide +kernel
theorem d_Tr_ownPiece_2 : decode b_Tr_ownPiece 2 = .ok (.invokevirtual 75, 3) := by decide +kernel
theorem d_Tr_ownPiece_5 : decode b_Tr_ownPiece 5 = .ok (.istore_n 3, 1) := by decide +kernel
theorem d_Tr_ownPiece_6 : decode b_Tr_ownPiece 6 = .ok (.aload_n 0, 1) := by decide +kernel
theorem d_Tr_ownPiece_7 : decode b_Tr_ownPiece 7 = .ok (.iload_n 3, 1) := by decide +kernel
theorem d_Tr_ownPiece_8 : decode b_Tr_ownPiece 8 = .ok (.iload_n 2, 1) := by decide +kernel
theorem d_Tr_ownPiece_9 : decode b_Tr_ownPiece 9 = .ok (.bipush 32, 2) := by decide +kernel
theorem d_Tr_ownPiece_11 : decode b_Tr_ownPiece 11 = .ok (.idiv, 1) := by decide +kernel
theorem d_Tr_ownPiece_12 : decode b_Tr_ownPiece 12 = .ok (.iconst 1, 1) := by decide +kernel
theorem d_Tr_ownPiece_13 : decode b_Tr_ownPiece 13 = .ok (.invokevirtual 78, 3) := by decide +kernel
theorem d_Tr_ownPiece_16 : decode b_Tr_ownPiece 16 = .ok (.istore 4, 2) := by decide +kernel
theorem d_Tr_ownPiece_18 : decode b_Tr_ownPiece 18 = .ok (.aload_n 0, 1) := by decide +kernel
theorem d_Tr_ownPiece_19 : decode b_Tr_ownPiece 19 = .ok (.getfield 15, 3) := by decide +kernel
theorem d_Tr_ownPiece_22 : decode b_Tr_ownPiece 22 = .ok (.iload 4, 2) := by decide +kernel
theorem d_Tr_ownPiece_24 : decode b_Tr_ownPiece 24 = .ok (.iload_n 2, 1) := by decide +kernel
theorem d_Tr_ownPiece_25 : decode b_Tr_ownPiece 25 = .ok (.bipush 32, 2) := by decide +kernel
theorem d_Tr_ownPiece_27 : decode b_Tr_ownPiece 27 = .ok (.irem, 1) := by decide +kernel
theorem d_Tr_ownPiece_28 : decode b_Tr_ownPiece 28 = .ok (.invokevirtual 56, 3) := by decide +kernel
theorem d_Tr_ownPiece_31 : decode b_Tr_ownPiece 31 = .ok (.ifCond .ne 22, 3) := by decide +kernel
theorem d_Tr_ownPiece_34 : decode b_Tr_ownPiece 34 = .ok (.aload_n 0, 1) := by decide +kernel
theorem d_Tr_ownPiece_35 : decode b_Tr_ownPiece 35 = .ok (.getfield 15, 3) := by decide +kernel
theorem d_Tr_ownPiece_38 : decode b_Tr_ownPiece 38 = .ok (.iload_n 3, 1) := by decide +kernel
theorem d_Tr_ownPiece_39 : decode b_Tr_ownPiece 39 = .ok (.iconst 1, 1) := by decide +kernel
theorem d_Tr_ownPiece_40 : decode b_Tr_ownPiece 40 = .ok (.invokevirtual 82, 3) := by decide +kernel
theorem d_Tr_ownPiece_43 : decode b_Tr_ownPiece 43 = .ok (.aload_n 0, 1) := by decide +kernel
theorem d_Tr_ownPiece_44 : decode b_Tr_ownPiece 44 = .ok (.getfield 15, 3) := by decide +kernel
theorem d_Tr_ownPiece_47 : decode b_Tr_ownPiece 47 = .ok (.iload 4, 2) := by decide +kernel
theorem d_Tr_ownPiece_49 : decode b_Tr_ownPiece 49 = .ok (.iconst 1, 1) := by decide +kernel
theorem d_Tr_ownPiece_50 : decode b_Tr_ownPiece 50 = .ok (.invokevirtual 82, 3) := by decide +kernel
theorem d_Tr_ownPiece_53 : decode b_Tr_ownPiece 53 = .ok (.aload_n 0, 1) := by decide +kernel
theorem d_Tr_ownPiece_54 : decode b_Tr_ownPiece 54 = .ok (.iload 4, 2) := by decide +kernel
theorem d_Tr_ownPiece_56 : decode b_Tr_ownPiece 56 = .ok (.iload_n 2, 1) := by decide +kernel
theorem d_Tr_ownPiece_57 : decode b_Tr_ownPiece 57 = .ok (.bipush 32, 2) := by decide +kernel
theorem d_Tr_ownPiece_59 : decode b_Tr_ownPiece 59 = .ok (.irem, 1) := by decide +kernel
theorem d_Tr_ownPiece_60 : decode b_Tr_ownPiece 60 = .ok (.iconst 0, 1) := by decide +kernel
theorem d_Tr_ownPiece_61 : decode b_Tr_ownPiece 61 = .ok (.invokevirtual 78, 3) := by decide +kernel
theorem d_Tr_ownPiece_64 : decode b_Tr_ownPiece 64 = .ok (.ireturn, 1) := by decide +kernel
theorem d_Tr_dropPiece_0 : decode b_Tr_dropPiece 0 = .ok (.aload_n 0, 1) := by decide +kernel
theorem d_Tr_dropPiece_1 : decode b_Tr_dropPiece 1 = .ok (.iload_n 1, 1) := by decide +kernel
theorem d_Tr_dropPiece_2 : decode b_Tr_dropPiece 2 = .ok (.invokevirtual 75, 3) := by decide +kernel
theorem d_Tr_dropPiece_5 : decode b_Tr_dropPiece 5 = .ok (.istore_n 3, 1) := by decide +kernel
theorem d_Tr_dropPiece_6 : decode b_Tr_dropPiece 6 = .ok (.aload_n 0, 1) := by decide +kernel
theorem d_Tr_dropPiece_7 : decode b_Tr_dropPiece 7 = .ok (.iload_n 3, 1) := by decide +kernel
theorem d_Tr_dropPiece_8 : decode b_Tr_dropPiece 8 = .ok (.iload_n 2, 1) := by decide +kernel
theorem d_Tr_dropPiece_9 : decode b_Tr_dropPiece 9 = .ok (.bipush 32, 2) := by decide +kernel
theorem d_Tr_dropPiece_11 : decode b_Tr_dropPiece 11 = .ok (.idiv, 1) := by decide +kernel
theorem d_Tr_dropPiece_12 : decode b_Tr_dropPiece 12 = .ok (.iconst 1, 1) := by decide +kernel
theorem d_Tr_dropPiece_13 : decode b_Tr_dropPiece 13 = .ok (.invokevirtual 78, 3) := by decide +kernel
theorem d_Tr_dropPiece_16 : decode b_Tr_dropPiece 16 = .ok (.istore 4, 2) := by decide +kernel
theorem d_Tr_dropPiece_18 : decode b_Tr_dropPiece 18 = .ok (.aload_n 0, 1) := by decide +kernel
theorem d_Tr_dropPiece_19 : decode b_Tr_dropPiece 19 = .ok (.getfield 15, 3) := by decide +kernel
theorem d_Tr_dropPiece_22 : decode b_Tr_dropPiece 22 = .ok (.iload_n 3, 1) := by decide +kernel
theorem d_Tr_dropPiece_23 : decode b_Tr_dropPiece 23 = .ok (.iconst (-1), 1) := by decide +kernel
theorem d_Tr_dropPiece_24 : decode b_Tr_dropPiece 24 = .ok (.invokevirtual 82, 3) := by decide +kernel
theorem d_Tr_dropPiece_27 : decode b_Tr_dropPiece 27 = .ok (.aload_n 0, 1) := by decide +kernel
theorem d_Tr_dropPiece_28 : decode b_Tr_dropPiece 28 = .ok (.getfield 15, 3) := by decide +kernel
theorem d_Tr_dropPiece_31 : decode b_Tr_dropPiece 31 = .ok (.iload 4, 2) := by decide +kernel
theorem d_Tr_dropPiece_33 : decode b_Tr_dropPiece 33 = .ok (.iconst (-1), 1) := by decide +kernel
theorem d_Tr_dropPiece_34 : decode b_Tr_dropPiece 34 = .ok (.invokevirtual 82, 3) := by decide +kernel
theorem d_Tr_dropPiece_37 : decode b_Tr_dropPiece 37 = .ok (.aload_n 0, 1) := by decide +kernel
theorem d_Tr_dropPiece_38 : decode b_Tr_dropPiece 38 = .ok (.iload 4, 2) := by decide +kernel
theorem d_Tr_dropPiece_40 : decode b_Tr_dropPiece 40 = .ok (.iload_n 2, 1) := by decide +kernel
theorem d_Tr_dropPiece_41 : decode b_Tr_dropPiece 41 = .ok (.bipush 32, 2) := by decide +kernel
theorem d_Tr_dropPiece_43 : decode b_Tr_dropPiece 43 = .ok (.irem, 1) := by decide +kernel
theorem d_Tr_dropPiece_44 : decode b_Tr_dropPiece 44 = .ok (.iconst 0, 1) := by decide +kernel
theorem d_Tr_dropPiece_45 : decode b_Tr_dropPiece 45 = .ok (.invokevirtual 85, 3) := by decide +kernel
theorem d_Tr_dropPiece_48 : decode b_Tr_dropPiece 48 = .ok (.aload_n 0, 1) := by decide +kernel
theorem d_Tr_dropPiece_49 : decode b_Tr_dropPiece 49 = .ok (.getfield 15, 3) := by decide +kernel
theorem d_Tr_dropPiece_52 : decode b_Tr_dropPiece 52 = .ok (.iload 4, 2) := by decide +kernel
theorem d_Tr_dropPiece_54 : decode b_Tr_dropPiece 54 = .ok (.invokevirtual 48, 3) := by decide +kernel
theorem d_Tr_dropPiece_57 : decode b_Tr_dropPiece 57 = .ok (.ifCond .ne 13, 3) := by decide +kernel
theorem d_Tr_dropPiece_60 : decode b_Tr_dropPiece 60 = .ok (.aload_n 0, 1) := by decide +kernel
theorem d_Tr_dropPiece_61 : decode b_Tr_dropPiece 61 = .ok (.iload_n 3, 1) := by decide +kernel
theorem d_Tr_dropPiece_62 : decode b_Tr_dropPiece 62 = .ok (.iload_n 2, 1) := by decide +kernel
theorem d_Tr_dropPiece_63 : decode b_Tr_dropPiece 63 = .ok (.bipush 32, 2) := by decide +kernel
theorem d_Tr_dropPiece_65 : decode b_Tr_dropPiece 65 = .ok (.idiv, 1) := by decide +kernel
theorem d_Tr_dropPiece_66 : decode b_Tr_dropPiece 66 = .ok (.iconst 1, 1) := by decide +kernel
theorem d_Tr_dropPiece_67 : decode b_Tr_dropPiece 67 = .ok (.invokevirtual 85, 3) := by decide +kernel
theorem d_Tr_dropPiece_70 : decode b_Tr_dropPiece 70 = .ok (.return_, 1) := by decide +kernel
theorem d_Tr_ownRoot_0 : decode b_Tr_ownRoot 0 = .ok (.aload_n 0, 1) := by decide +kernel
theorem d_Tr_ownRoot_1 : decode b_Tr_ownRoot 1 = .ok (.aload_n 0, 1) := by decide +kernel
theorem d_Tr_ownRoot_2 : decode b_Tr_ownRoot 2 = .ok (.getfield 34, 3) := by decide +kernel
theorem d_Tr_ownRoot_5 : decode b_Tr_ownRoot 5 = .ok (.iload_n 1, 1) := by decide +kernel
theorem d_Tr_ownRoot_6 : decode b_Tr_ownRoot 6 = .ok (.invokevirtual 45, 3) := by decide +kernel
theorem d_Tr_ownRoot_9 : decode b_Tr_ownRoot 9 = .ok (.iconst 2, 1) := by decide +kernel
theorem d_Tr_ownRoot_10 : decode b_Tr_ownRoot 10 = .ok (.invokevirtual 89, 3) := by decide +kernel
theorem d_Tr_ownRoot_13 : decode b_Tr_ownRoot 13 = .ok (.istore_n 2, 1) := by decide +kernel
theorem d_Tr_ownRoot_14 : decode b_Tr_ownRoot 14 = .ok (.aload_n 0, 1) := by decide +kernel
theorem d_Tr_ownRoot_15 : decode b_Tr_ownRoot 15 = .ok (.getfield 34, 3) := by decide +kernel
theorem d_Tr_ownRoot_18 : decode b_Tr_ownRoot 18 = .ok (.iload_n 1, 1) := by decide +kernel
theorem d_Tr_ownRoot_19 : decode b_Tr_ownRoot 19 = .ok (.iload_n 2, 1) := by decide +kernel
theorem d_Tr_ownRoot_20 : decode b_Tr_ownRoot 20 = .ok (.invokevirtual 64, 3) := by decide +kernel
theorem d_Tr_ownRoot_23 : decode b_Tr_ownRoot 23 = .ok (.iload_n 2, 1) := by decide +kernel
theorem d_Tr_ownRoot_24 : decode b_Tr_ownRoot 24 = .ok (.ireturn, 1) := by decide +kernel
theorem d_Tr_ownLink_0 : decode b_Tr_ownLink 0 = .ok (.aload_n 0, 1) := by decide +kernel
theorem d_Tr_ownLink_1 : decode b_Tr_ownLink 1 = .ok (.getfield 15, 3) := by decide +kernel
theorem d_Tr_ownLink_4 : decode b_Tr_ownLink 4 = .ok (.iload_n 1, 1) := by decide +kernel
theorem d_Tr_ownLink_5 : decode b_Tr_ownLink 5 = .ok (.iload_n 2, 1) := by decide +kernel
theorem d_Tr_ownLink_6 : decode b_Tr_ownLink 6 = .ok (.invokevirtual 56, 3) := by decide +kernel
theorem d_Tr_ownLink_9 : decode b_Tr_ownLink 9 = .ok (.istore 4, 2) := by decide +kernel
theorem d_Tr_ownLink_11 : decode b_Tr_ownLink 11 = .ok (.iload 4, 2) := by decide +kernel
theorem d_Tr_ownLink_13 : decode b_Tr_ownLink 13 = .ok (.ifCond .ne 10, 3) := by decide +kernel
theorem d_Tr_ownLink_16 : decode b_Tr_ownLink 16 = .ok (.aload_n 0, 1) := by decide +kernel
theorem d_Tr_ownLink_17 : decode b_Tr_ownLink 17 = .ok (.invokevirtual 60, 3) := by decide +kernel
theorem d_Tr_ownLink_20 : decode b_Tr_ownLink 20 = .ok (.goto 10, 3) := by decide +kernel
theorem d_Tr_ownLink_23 : decode b_Tr_ownLink 23 = .ok (.aload_n 0, 1) := by decide +kernel
theorem d_Tr_ownLink_24 : decode b_Tr_ownLink 24 = .ok (.iload 4, 2) := by decide +kernel
theorem d_Tr_ownLink_26 : decode b_Tr_ownLink 26 = .ok (.iload_n 3, 1) := by decide +kernel
theorem d_Tr_ownLink_27 : decode b_Tr_ownLink 27 = .ok (.invokevirtual 89, 3) := by decide +kernel
theorem d_Tr_ownLink_30 : decode b_Tr_ownLink 30 = .ok (.istore 5, 2) := by decide +kernel
theorem d_Tr_ownLink_32 : decode b_Tr_ownLink 32 = .ok (.aload_n 0, 1) := by decide +kernel
theorem d_Tr_ownLink_33 : decode b_Tr_ownLink 33 = .ok (.getfield 15, 3) := by decide +kernel
theorem d_Tr_ownLink_36 : decode b_Tr_ownLink 36 = .ok (.iload_n 1, 1) := by decide +kernel
theorem d_Tr_ownLink_37 : decode b_Tr_ownLink 37 = .ok (.iload_n 2, 1) := by decide +kernel
theorem d_Tr_ownLink_38 : decode b_Tr_ownLink 38 = .ok (.iload 5, 2) := by decide +kernel
theorem d_Tr_ownLink_40 : decode b_Tr_ownLink 40 = .ok (.invokevirtual 92, 3) := by decide +kernel
theorem d_Tr_ownLink_43 : decode b_Tr_ownLink 43 = .ok (.iload 5, 2) := by decide +kernel
theorem d_Tr_ownLink_45 : decode b_Tr_ownLink 45 = .ok (.ireturn, 1) := by decide +kernel
theorem d_Tr_dropLink_0 : decode b_Tr_dropLink 0 = .ok (.aload_n 0, 1) := by decide +kernel
theorem d_Tr_dropLink_1 : decode b_Tr_dropLink 1 = .ok (.aload_n 0, 1) := by decide +kernel
theorem d_Tr_dropLink_2 : decode b_Tr_dropLink 2 = .ok (.getfield 15, 3) := by decide +kernel
theorem d_Tr_dropLink_5 : decode b_Tr_dropLink 5 = .ok (.iload_n 1, 1) := by decide +kernel
theorem d_Tr_dropLink_6 : decode b_Tr_dropLink 6 = .ok (.iload_n 2, 1) := by decide +kernel
theorem d_Tr_dropLink_7 : decode b_Tr_dropLink 7 = .ok (.invokevirtual 56, 3) := by decide +kernel
theorem d_Tr_dropLink_10 : decode b_Tr_dropLink 10 = .ok (.iload_n 3, 1) := by decide +kernel
theorem d_Tr_dropLink_11 : decode b_Tr_dropLink 11 = .ok (.invokevirtual 72, 3) := by decide +kernel
theorem d_Tr_dropLink_14 : decode b_Tr_dropLink 14 = .ok (.aload_n 0, 1) := by decide +kernel
theorem d_Tr_dropLink_15 : decode b_Tr_dropLink 15 = .ok (.getfield 15, 3) := by decide +kernel
theorem d_Tr_dropLink_18 : decode b_Tr_dropLink 18 = .ok (.iload_n 1, 1) := by decide +kernel
theorem d_Tr_dropLink_19 : decode b_Tr_dropLink 19 = .ok (.iload_n 2, 1) := by decide +kernel
theorem d_Tr_dropLink_20 : decode b_Tr_dropLink 20 = .ok (.iconst 0, 1) := by decide +kernel
theorem d_Tr_dropLink_21 : decode b_Tr_dropLink 21 = .ok (.invokevirtual 92, 3) := by decide +kernel
theorem d_Tr_dropLink_24 : decode b_Tr_dropLink 24 = .ok (.return_, 1) := by decide +kernel
theorem d_Tr_own_0 : decode b_Tr_own 0 = .ok (.aload_n 0, 1) := by decide +kernel
theorem d_Tr_own_1 : decode b_Tr_own 1 = .ok (.getfield 34, 3) := by decide +kernel
theorem d_Tr_own_4 : decode b_Tr_own 4 = .ok (.iload_n 1, 1) := by decide +kernel
theorem d_Tr_own_5 : decode b_Tr_own 5 = .ok (.invokevirtual 41, 3) := by decide +kernel
theorem d_Tr_own_8 : decode b_Tr_own 8 = .ok (.iconst 1, 1) := by decide +kernel
theorem d_Tr_own_9 : decode b_Tr_own 9 = .ok (.if_icmp .ne 16, 3) := by decide +kernel
theorem d_Tr_own_12 : decode b_Tr_own 12 = .ok (.aload_n 0, 1) := by decide +kernel
theorem d_Tr_own_13 : decode b_Tr_own 13 = .ok (.getfield 31, 3) := by decide +kernel
theorem d_Tr_own_16 : decode b_Tr_own 16 = .ok (.iload_n 1, 1) := by decide +kernel
theorem d_Tr_own_17 : decode b_Tr_own 17 = .ok (.invokevirtual 41, 3) := by decide +kernel
theorem d_Tr_own_20 : decode b_Tr_own 20 = .ok (.ifCond .ne 5, 3) := by decide +kernel
theorem d_Tr_own_23 : decode b_Tr_own 23 = .ok (.iload_n 1, 1) := by decide +kernel
theorem d_Tr_own_24 : decode b_Tr_own 24 = .ok (.ireturn, 1) := by decide +kernel
theorem d_Tr_own_25 : decode b_Tr_own 25 = .ok (.aload_n 0, 1) := by decide +kernel
theorem d_Tr_own_26 : decode b_Tr_own 26 = .ok (.invokevirtual 95, 3) := by decide +kernel
theorem d_Tr_own_29 : decode b_Tr_own 29 = .ok (.istore_n 3, 1) := by decide +kernel
theorem d_Tr_own_30 : decode b_Tr_own 30 = .ok (.aload_n 0, 1) := by decide +kernel
theorem d_Tr_own_31 : decode b_Tr_own 31 = .ok (.getfield 15, 3) := by decide +kernel
theorem d_Tr_own_34 : decode b_Tr_own 34 = .ok (.iload_n 1, 1) := by decide +kernel
theorem d_Tr_own_35 : decode b_Tr_own 35 = .ok (.iload_n 3, 1) := by decide +kernel
theorem d_Tr_own_36 : decode b_Tr_own 36 = .ok (.invokevirtual 98, 3) := by decide +kernel
theorem d_Tr_own_39 : decode b_Tr_own 39 = .ok (.iconst 0, 1) := by decide +kernel
theorem d_Tr_own_40 : decode b_Tr_own 40 = .ok (.istore 4, 2) := by decide +kernel
theorem d_Tr_own_42 : decode b_Tr_own 42 = .ok (.iload 4, 2) := by decide +kernel
theorem d_Tr_own_44 : decode b_Tr_own 44 = .ok (.iload_n 2, 1) := by decide +kernel
theorem d_Tr_own_45 : decode b_Tr_own 45 = .ok (.invokestatic 101, 3) := by decide +kernel
theorem d_Tr_own_48 : decode b_Tr_own 48 = .ok (.if_icmp .ge 23, 3) := by decide +kernel
theorem d_Tr_own_51 : decode b_Tr_own 51 = .ok (.aload_n 0, 1) := by decide +kernel
theorem d_Tr_own_52 : decode b_Tr_own 52 = .ok (.aload_n 0, 1) := by decide +kernel
theorem d_Tr_own_53 : decode b_Tr_own 53 = .ok (.getfield 15, 3) := by decide +kernel
theorem d_Tr_own_56 : decode b_Tr_own 56 = .ok (.iload_n 3, 1) := by decide +kernel
theorem d_Tr_own_57 : decode b_Tr_own 57 = .ok (.iload 4, 2) := by decide +kernel
theorem d_Tr_own_59 : decode b_Tr_own 59 = .ok (.invokevirtual 56, 3) := by decide +kernel
theorem d_Tr_own_62 : decode b_Tr_own 62 = .ok (.invokevirtual 68, 3) := by decide +kernel
theorem d_Tr_own_65 : decode b_Tr_own 65 = .ok (.iinc 4 1, 3) := by decide +kernel
theorem d_Tr_own_68 : decode b_Tr_own 68 = .ok (.goto (-26), 3) := by decide +kernel
theorem d_Tr_own_71 : decode b_Tr_own 71 = .ok (.aload_n 0, 1) := by decide +kernel
theorem d_Tr_own_72 : decode b_Tr_own 72 = .ok (.iload_n 1, 1) := by decide +kernel
theorem d_Tr_own_73 : decode b_Tr_own 73 = .ok (.iload_n 2, 1) := by decide +kernel
theorem d_Tr_own_74 : decode b_Tr_own 74 = .ok (.invokevirtual 72, 3) := by decide +kernel
theorem d_Tr_own_77 : decode b_Tr_own 77 = .ok (.iload_n 3, 1) := by decide +kernel
theorem d_Tr_own_78 : decode b_Tr_own 78 = .ok (.ireturn, 1) := by decide +kernel
theorem d_Tr_takeBlank_0 : decode b_Tr_takeBlank 0 = .ok (.aload_n 0, 1) := by decide +kernel
theorem d_Tr_takeBlank_1 : decode b_Tr_takeBlank 1 = .ok (.invokevirtual 95, 3) := by decide +kernel
theorem d_Tr_takeBlank_4 : decode b_Tr_takeBlank 4 = .ok (.istore_n 1, 1) := by decide +kernel
theorem d_Tr_takeBlank_5 : decode b_Tr_takeBlank 5 = .ok (.aload_n 0, 1) := by decide +kernel
theorem d_Tr_takeBlank_6 : decode b_Tr_takeBlank 6 = .ok (.getfield 15, 3) := by decide +kernel
theorem d_Tr_takeBlank_9 : decode b_Tr_takeBlank 9 = .ok (.iload_n 1, 1) := by decide +kernel
theorem d_Tr_takeBlank_10 : decode b_Tr_takeBlank 10 = .ok (.invokevirtual 104, 3) := by decide +kernel
theorem d_Tr_takeBlank_13 : decode b_Tr_takeBlank 13 = .ok (.iload_n 1, 1) := by decide +kernel
theorem d_Tr_takeBlank_14 : decode b_Tr_takeBlank 14 = .ok (.ireturn, 1) := by decide +kernel
theorem d_Tr_take_0 : decode b_Tr_take 0 = .ok (.iconst 0, 1) := by decide +kernel
theorem d_Tr_take_1 : decode b_Tr_take 1 = .ok (.istore_n 1, 1) := by decide +kernel
theorem d_Tr_take_2 : decode b_Tr_take 2 = .ok (.iload_n 1, 1) := by decide +kernel
theorem d_Tr_take_3 : decode b_Tr_take 3 = .ok (.sipush 768, 3) := by decide +kernel
theorem d_Tr_take_6 : decode b_Tr_take 6 = .ok (.if_icmp .ge 81, 3) := by decide +kernel
theorem d_Tr_take_9 : decode b_Tr_take 9 = .ok (.aload_n 0, 1) := by decide +kernel
theorem d_Tr_take_10 : decode b_Tr_take 10 = .ok (.aload_n 0, 1) := by decide +kernel
theorem d_Tr_take_11 : decode b_Tr_take 11 = .ok (.getfield 9, 3) := by decide +kernel
theorem d_Tr_take_14 : decode b_Tr_take 14 = .ok (.iconst 1, 1) := by decide +kernel
theorem d_Tr_take_15 : decode b_Tr_take 15 = .ok (.iadd, 1) := by decide +kernel
theorem d_Tr_take_16 : decode b_Tr_take 16 = .ok (.sipush 784, 3) := by decide +kernel
theorem d_Tr_take_19 : decode b_Tr_take 19 = .ok (.if_icmp .ge 12, 3) := by decide +kernel
theorem d_Tr_take_22 : decode b_Tr_take 22 = .ok (.aload_n 0, 1) := by decide +kernel
theorem d_Tr_take_23 : decode b_Tr_take 23 = .ok (.getfield 9, 3) := by decide +kernel
theorem d_Tr_take_26 : decode b_Tr_take 26 = .ok (.iconst 1, 1) := by decide +kernel
theorem d_Tr_take_27 : decode b_Tr_take 27 = .ok (.iadd, 1) := by decide +kernel
theorem d_Tr_take_28 : decode b_Tr_take 28 = .ok (.goto 5, 3) := by decide +kernel
theorem d_Tr_take_31 : decode b_Tr_take 31 = .ok (.bipush 16, 2) := by decide +kernel
theorem d_Tr_take_33 : decode b_Tr_take 33 = .ok (.putfield 9, 3) := by decide +kernel
theorem d_Tr_take_36 : decode b_Tr_take 36 = .ok (.aload_n 0, 1) := by decide +kernel
theorem d_Tr_take_37 : decode b_Tr_take 37 = .ok (.getfield 34, 3) := by decide +kernel
theorem d_Tr_take_40 : decode b_Tr_take 40 = .ok (.aload_n 0, 1) := by decide +kernel
theorem d_Tr_take_41 : decode b_Tr_take 41 = .ok (.getfield 9, 3) := by decide +kernel
theorem d_Tr_take_44 : decode b_Tr_take 44 = .ok (.invokevirtual 41, 3) := by decide +kernel
theorem d_Tr_take_47 : decode b_Tr_take 47 = .ok (.ifCond .ne 34, 3) := by decide +kernel
theorem d_Tr_take_50 : decode b_Tr_take 50 = .ok (.aload_n 0, 1) := by decide +kernel
theorem d_Tr_take_51 : decode b_Tr_take 51 = .ok (.getfield 31, 3) := by decide +kernel
theorem d_Tr_take_54 : decode b_Tr_take 54 = .ok (.aload_n 0, 1) := by decide +kernel
theorem d_Tr_take_55 : decode b_Tr_take 55 = .ok (.getfield 9, 3) := by decide +kernel
theorem d_Tr_take_58 : decode b_Tr_take 58 = .ok (.invokevirtual 41, 3) := by decide +kernel
theorem d_Tr_take_61 : decode b_Tr_take 61 = .ok (.ifCond .ne 20, 3) := by decide +kernel
theorem d_Tr_take_64 : decode b_Tr_take 64 = .ok (.aload_n 0, 1) := by decide +kernel
theorem d_Tr_take_65 : decode b_Tr_take 65 = .ok (.getfield 34, 3) := by decide +kernel
theorem d_Tr_take_68 : decode b_Tr_take 68 = .ok (.aload_n 0, 1) := by decide +kernel
theorem d_Tr_take_69 : decode b_Tr_take 69 = .ok (.getfield 9, 3) := by decide +kernel
theorem d_Tr_take_72 : decode b_Tr_take 72 = .ok (.iconst 1, 1) := by decide +kernel
theorem d_Tr_take_73 : decode b_Tr_take 73 = .ok (.invokevirtual 107, 3) := by decide +kernel
theorem d_Tr_take_76 : decode b_Tr_take 76 = .ok (.aload_n 0, 1) := by decide +kernel
theorem d_Tr_take_77 : decode b_Tr_take 77 = .ok (.getfield 9, 3) := by decide +kernel
theorem d_Tr_take_80 : decode b_Tr_take 80 = .ok (.ireturn, 1) := by decide +kernel
theorem d_Tr_take_81 : decode b_Tr_take 81 = .ok (.iinc 1 1, 3) := by decide +kernel
theorem d_Tr_take_84 : decode b_Tr_take 84 = .ok (.goto (-82), 3) := by decide +kernel
theorem d_Tr_take_87 : decode b_Tr_take 87 = .ok (.iconst 0, 1) := by decide +kernel
theorem d_Tr_take_88 : decode b_Tr_take 88 = .ok (.ireturn, 1) := by decide +kernel
theorem d_Tr_addWay_0 : decode b_Tr_addWay 0 = .ok (.aload_n 0, 1) := by decide +kernel
theorem d_Tr_addWay_1 : decode b_Tr_addWay 1 = .ok (.getfield 34, 3) := by decide +kernel
theorem d_Tr_addWay_4 : decode b_Tr_addWay 4 = .ok (.iload_n 1, 1) := by decide +kernel
theorem d_Tr_addWay_5 : decode b_Tr_addWay 5 = .ok (.aload_n 0, 1) := by decide +kernel
theorem d_Tr_addWay_6 : decode b_Tr_addWay 6 = .ok (.getfield 34, 3) := by decide +kernel
theorem d_Tr_addWay_9 : decode b_Tr_addWay 9 = .ok (.iload_n 1, 1) := by decide +kernel
theorem d_Tr_addWay_10 : decode b_Tr_addWay 10 = .ok (.invokevirtual 41, 3) := by decide +kernel
theorem d_Tr_addWay_13 : decode b_Tr_addWay 13 = .ok (.iconst 1, 1) := by decide +kernel
theorem d_Tr_addWay_14 : decode b_Tr_addWay 14 = .ok (.iadd, 1) := by decide +kernel
theorem d_Tr_addWay_15 : decode b_Tr_addWay 15 = .ok (.invokevirtual 107, 3) := by decide +kernel
theorem d_Tr_addWay_18 : decode b_Tr_addWay 18 = .ok (.return_, 1) := by decide +kernel
theorem d_Tr_release_0 : decode b_Tr_release 0 = .ok (.aload_n 0, 1) := by decide +kernel
theorem d_Tr_release_1 : decode b_Tr_release 1 = .ok (.getfield 34, 3) := by decide +kernel
theorem d_Tr_release_4 : decode b_Tr_release 4 = .ok (.iload_n 1, 1) := by decide +kernel
theorem d_Tr_release_5 : decode b_Tr_release 5 = .ok (.invokevirtual 41, 3) := by decide +kernel
theorem d_Tr_release_8 : decode b_Tr_release 8 = .ok (.istore_n 3, 1) := by decide +kernel
theorem d_Tr_release_9 : decode b_Tr_release 9 = .ok (.iload_n 3, 1) := by decide +kernel
theorem d_Tr_release_10 : decode b_Tr_release 10 = .ok (.ifCond .ne 4, 3) := by decide +kernel
theorem d_Tr_release_13 : decode b_Tr_release 13 = .ok (.return_, 1) := by decide +kernel
theorem d_Tr_release_14 : decode b_Tr_release 14 = .ok (.aload_n 0, 1) := by decide +kernel
theorem d_Tr_release_15 : decode b_Tr_release 15 = .ok (.getfield 34, 3) := by decide +kernel
theorem d_Tr_release_18 : decode b_Tr_release 18 = .ok (.iload_n 1, 1) := by decide +kernel
theorem d_Tr_release_19 : decode b_Tr_release 19 = .ok (.iload_n 3, 1) := by decide +kernel
theorem d_Tr_release_20 : decode b_Tr_release 20 = .ok (.iconst 1, 1) := by decide +kernel
theorem d_Tr_release_21 : decode b_Tr_release 21 = .ok (.isub, 1) := by decide +kernel
theorem d_Tr_release_22 : decode b_Tr_release 22 = .ok (.invokevirtual 107, 3) := by decide +kernel
theorem d_Tr_release_25 : decode b_Tr_release 25 = .ok (.iload_n 3, 1) := by decide +kernel
theorem d_Tr_release_26 : decode b_Tr_release 26 = .ok (.iconst 1, 1) := by decide +kernel
theorem d_Tr_release_27 : decode b_Tr_release 27 = .ok (.if_icmp .le 4, 3) := by decide +kernel
theorem d_Tr_release_30 : decode b_Tr_release 30 = .ok (.return_, 1) := by decide +kernel
theorem d_Tr_release_31 : decode b_Tr_release 31 = .ok (.iconst 0, 1) := by decide +kernel
theorem d_Tr_release_32 : decode b_Tr_release 32 = .ok (.istore 4, 2) := by decide +kernel
theorem d_Tr_release_34 : decode b_Tr_release 34 = .ok (.iload 4, 2) := by decide +kernel
theorem d_Tr_release_36 : decode b_Tr_release 36 = .ok (.iload_n 2, 1) := by decide +kernel
theorem d_Tr_release_37 : decode b_Tr_release 37 = .ok (.invokestatic 101, 3) := by decide +kernel
theorem d_Tr_release_40 : decode b_Tr_release 40 = .ok (.if_icmp .ge 26, 3) := by decide +kernel
theorem d_Tr_release_43 : decode b_Tr_release 43 = .ok (.aload_n 0, 1) := by decide +kernel
theorem d_Tr_release_44 : decode b_Tr_release 44 = .ok (.aload_n 0, 1) := by decide +kernel
theorem d_Tr_release_45 : decode b_Tr_release 45 = .ok (.getfield 15, 3) := by decide +kernel
theorem d_Tr_release_48 : decode b_Tr_release 48 = .ok (.iload_n 1, 1) := by decide +kernel
theorem d_Tr_release_49 : decode b_Tr_release 49 = .ok (.iload 4, 2) := by decide +kernel
theorem d_Tr_release_51 : decode b_Tr_release 51 = .ok (.invokevirtual 56, 3) := by decide +kernel
theorem d_Tr_release_54 : decode b_Tr_release 54 = .ok (.iload_n 2, 1) := by decide +kernel
theorem d_Tr_release_55 : decode b_Tr_release 55 = .ok (.iconst 1, 1) := by decide +kernel
theorem d_Tr_release_56 : decode b_Tr_release 56 = .ok (.isub, 1) := by decide +kernel
theorem d_Tr_release_57 : decode b_Tr_release 57 = .ok (.invokevirtual 72, 3) := by decide +kernel
theorem d_Tr_release_60 : decode b_Tr_release 60 = .ok (.iinc 4 1, 3) := by decide +kernel
theorem d_Tr_release_63 : decode b_Tr_release 63 = .ok (.goto (-29), 3) := by decide +kernel
theorem d_Tr_release_66 : decode b_Tr_release 66 = .ok (.return_, 1) := by decide +kernel
theorem d_Tr_linksOf_0 : decode b_Tr_linksOf 0 = .ok (.iload_n 0, 1) := by decide +kernel
theorem d_Tr_linksOf_1 : decode b_Tr_linksOf 1 = .ok (.iconst 2, 1) := by decide +kernel
theorem d_Tr_linksOf_2 : decode b_Tr_linksOf 2 = .ok (.if_icmp .ne 7, 3) := by decide +kernel
theorem d_Tr_linksOf_5 : decode b_Tr_linksOf 5 = .ok (.iconst 4, 1) := by decide +kernel
theorem d_Tr_linksOf_6 : decode b_Tr_linksOf 6 = .ok (.goto 14, 3) := by decide +kernel
theorem d_Tr_linksOf_9 : decode b_Tr_linksOf 9 = .ok (.iload_n 0, 1) := by decide +kernel
theorem d_Tr_linksOf_10 : decode b_Tr_linksOf 10 = .ok (.iconst 1, 1) := by decide +kernel
theorem d_Tr_linksOf_11 : decode b_Tr_linksOf 11 = .ok (.if_icmp .ne 8, 3) := by decide +kernel
theorem d_Tr_linksOf_14 : decode b_Tr_linksOf 14 = .ok (.bipush 32, 2) := by decide +kernel
theorem d_Tr_linksOf_16 : decode b_Tr_linksOf 16 = .ok (.goto 4, 3) := by decide +kernel
theorem d_Tr_linksOf_19 : decode b_Tr_linksOf 19 = .ok (.iconst 0, 1) := by decide +kernel
theorem d_Tr_linksOf_20 : decode b_Tr_linksOf 20 = .ok (.ireturn, 1) := by decide +kernel
theorem d_Au_init_0 : decode b_Au_init 0 = .ok (.aload_n 0, 1) := by decide +kernel
theorem d_Au_init_1 : decode b_Au_init 1 = .ok (.invokespecial 3, 3) := by decide +kernel
theorem d_Au_init_4 : decode b_Au_init 4 = .ok (.aload_n 0, 1) := by decide +kernel
theorem d_Au_init_5 : decode b_Au_init 5 = .ok (.sipush 768, 3) := by decide +kernel
theorem d_Au_init_8 : decode b_Au_init 8 = .ok (.newarray .int, 2) := by decide +kernel
theorem d_Au_init_10 : decode b_Au_init 10 = .ok (.putfield 9, 3) := by decide +kernel
theorem d_Au_init_13 : decode b_Au_init 13 = .ok (.return_, 1) := by decide +kernel
theorem d_Au_firstFault_0 : decode b_Au_firstFault 0 = .ok (.aload_n 0, 1) := by decide +kernel
theorem d_Au_firstFault_1 : decode b_Au_firstFault 1 = .ok (.getfield 9, 3) := by decide +kernel
theorem d_Au_firstFault_4 : decode b_Au_firstFault 4 = .ok (.iconst 0, 1) := by decide +kernel
theorem d_Au_firstFault_5 : decode b_Au_firstFault 5 = .ok (.invokestatic 15, 3) := by decide +kernel
theorem d_Au_firstFault_8 : decode b_Au_firstFault 8 = .ok (.iconst 0, 1) := by decide +kernel
theorem d_Au_firstFault_9 : decode b_Au_firstFault 9 = .ok (.istore_n 3, 1) := by decide +kernel
theorem d_Au_firstFault_10 : decode b_Au_firstFault 10 = .ok (.iload_n 3, 1) := by decide +kernel
theorem d_Au_firstFault_11 : decode b_Au_firstFault 11 = .ok (.bipush 16, 2) := by decide +kernel
theorem d_Au_firstFault_13 : decode b_Au_firstFault 13 = .ok (.if_icmp .ge 30, 3) := by decide +kernel
theorem d_Au_firstFault_16 : decode b_Au_firstFault 16 = .ok (.aload_n 0, 1) := by decide +kernel
theorem d_Au_firstFault_17 : decode b_Au_firstFault 17 = .ok (.aload_n 1, 1) := by decide +kernel
theorem d_Au_firstFault_18 : decode b_Au_firstFault 18 = .ok (.aload_n 2, 1) := by decide +kernel
theorem d_Au_firstFault_19 : decode b_Au_firstFault 19 = .ok (.iload_n 3, 1) := by decide +kernel
theorem d_Au_firstFault_20 : decode b_Au_firstFault 20 = .ok (.invokevirtual 21, 3) := by decide +kernel
theorem d_Au_firstFault_23 : decode b_Au_firstFault 23 = .ok (.iconst 2, 1) := by decide +kernel
theorem d_Au_firstFault_24 : decode b_Au_firstFault 24 = .ok (.invokevirtual 27, 3) := by decide +kernel
theorem d_Au_firstFault_27 : decode b_Au_firstFault 27 = .ok (.istore 4, 2) := by decide +kernel
theorem d_Au_firstFault_29 : decode b_Au_firstFault 29 = .ok (.iload 4, 2) := by decide +kernel
theorem d_Au_firstFault_31 : decode b_Au_firstFault 31 = .ok (.ifCond .eq 6, 3) := by decide +kernel
theorem d_Au_firstFault_34 : decode b_Au_firstFault 34 = .ok (.iload 4, 2) := by decide +kernel
theorem d_Au_firstFault_36 : decode b_Au_firstFault 36 = .ok (.ireturn, 1) := by decide +kernel
theorem d_Au_firstFault_37 : decode b_Au_firstFault 37 = .ok (.iinc 3 1, 3) := by decide +kernel
theorem d_Au_firstFault_40 : decode b_Au_firstFault 40 = .ok (.goto (-30), 3) := by decide +kernel
theorem d_Au_firstFault_43 : decode b_Au_firstFault 43 = .ok (.iconst 0, 1) := by decide +kernel
theorem d_Au_firstFault_44 : decode b_Au_firstFault 44 = .ok (.istore_n 3, 1) := by decide +kernel
theorem d_Au_firstFault_45 : decode b_Au_firstFault 45 = .ok (.iload_n 3, 1) := by decide +kernel
theorem d_Au_firstFault_46 : decode b_Au_firstFault 46 = .ok (.sipush 768, 3) := by decide +kernel
theorem d_Au_firstFault_49 : decode b_Au_firstFault 49 = .ok (.if_icmp .ge 34, 3) := by decide +kernel
theorem d_Au_firstFault_52 : decode b_Au_firstFault 52 = .ok (.aload_n 0, 1) := by decide +kernel
theorem d_Au_firstFault_53 : decode b_Au_firstFault 53 = .ok (.getfield 9, 3) := by decide +kernel
theorem d_Au_firstFault_56 : decode b_Au_firstFault 56 = .ok (.iload_n 3, 1) := by decide +kernel
theorem d_Au_firstFault_57 : decode b_Au_firstFault 57 = .ok (.iaload, 1) := by decide +kernel
theorem d_Au_firstFault_58 : decode b_Au_firstFault 58 = .ok (.ldc 31, 2) := by decide +kernel
theorem d_Au_firstFault_60 : decode b_Au_firstFault 60 = .ok (.irem, 1) := by decide +kernel
theorem d_Au_firstFault_61 : decode b_Au_firstFault 61 = .ok (.aload_n 2, 1) := by decide +kernel
theorem d_Au_firstFault_62 : decode b_Au_firstFault 62 = .ok (.bipush 16, 2) := by decide +kernel
theorem d_Au_firstFault_64 : decode b_Au_firstFault 64 = .ok (.iload_n 3, 1) := by decide +kernel
theorem d_Au_firstFault_65 : decode b_Au_firstFault 65 = .ok (.iadd, 1) := by decide +kernel
theorem d_Au_firstFault_66 : decode b_Au_firstFault 66 = .ok (.invokevirtual 32, 3) := by decide +kernel
theorem d_Au_firstFault_69 : decode b_Au_firstFault 69 = .ok (.if_icmp .eq 8, 3) := by decide +kernel
theorem d_Au_firstFault_72 : decode b_Au_firstFault 72 = .ok (.bipush 16, 2) := by decide +kernel
theorem d_Au_firstFault_74 : decode b_Au_firstFault 74 = .ok (.iload_n 3, 1) := by decide +kernel
theorem d_Au_firstFault_75 : decode b_Au_firstFault 75 = .ok (.iadd, 1) := by decide +kernel
theorem d_Au_firstFault_76 : decode b_Au_firstFault 76 = .ok (.ireturn, 1) := by decide +kernel
theorem d_Au_firstFault_77 : decode b_Au_firstFault 77 = .ok (.iinc 3 1, 3) := by decide +kernel
theorem d_Au_firstFault_80 : decode b_Au_firstFault 80 = .ok (.goto (-35), 3) := by decide +kernel
theorem d_Au_firstFault_83 : decode b_Au_firstFault 83 = .ok (.iconst 0, 1) := by decide +kernel
theorem d_Au_firstFault_84 : decode b_Au_firstFault 84 = .ok (.ireturn, 1) := by decide +kernel
theorem d_Au_visit_0 : decode b_Au_visit 0 = .ok (.iload_n 2, 1) := by decide +kernel
theorem d_Au_visit_1 : decode b_Au_visit 1 = .ok (.ifCond .ne 5, 3) := by decide +kernel
theorem d_Au_visit_4 : decode b_Au_visit 4 = .ok (.iconst 0, 1) := by decide +kernel
theorem d_Au_visit_5 : decode b_Au_visit 5 = .ok (.ireturn, 1) := by decide +kernel
theorem d_Au_visit_6 : decode b_Au_visit 6 = .ok (.iload_n 2, 1) := by decide +kernel
theorem d_Au_visit_7 : decode b_Au_visit 7 = .ok (.bipush 16, 2) := by decide +kernel
theorem d_Au_visit_9 : decode b_Au_visit 9 = .ok (.isub, 1) := by decide +kernel
theorem d_Au_visit_10 : decode b_Au_visit 10 = .ok (.istore 4, 2) := by decide +kernel
theorem d_Au_visit_12 : decode b_Au_visit 12 = .ok (.iload 4, 2) := by decide +kernel
theorem d_Au_visit_14 : decode b_Au_visit 14 = .ok (.ifCond .lt 11, 3) := by decide +kernel
theorem d_Au_visit_17 : decode b_Au_visit 17 = .ok (.iload 4, 2) := by decide +kernel
theorem d_Au_visit_19 : decode b_Au_visit 19 = .ok (.sipush 768, 3) := by decide +kernel
theorem d_Au_visit_22 : decode b_Au_visit 22 = .ok (.if_icmp .lt 5, 3) := by decide +kernel
theorem d_Au_visit_25 : decode b_Au_visit 25 = .ok (.iload_n 2, 1) := by decide +kernel
theorem d_Au_visit_26 : decode b_Au_visit 26 = .ok (.ireturn, 1) := by decide +kernel
theorem d_Au_visit_27 : decode b_Au_visit 27 = .ok (.aload_n 0, 1) := by decide +kernel
theorem d_Au_visit_28 : decode b_Au_visit 28 = .ok (.getfield 9, 3) := by decide +kernel
theorem d_Au_visit_31 : decode b_Au_visit 31 = .ok (.iload 4, 2) := by decide +kernel
theorem d_Au_visit_33 : decode b_Au_visit 33 = .ok (.iaload, 1) := by decide +kernel
theorem d_Au_visit_34 : decode b_Au_visit 34 = .ok (.ifCond .le 38, 3) := by decide +kernel
theorem d_Au_visit_37 : decode b_Au_visit 37 = .ok (.aload_n 0, 1) := by decide +kernel
theorem d_Au_visit_38 : decode b_Au_visit 38 = .ok (.getfield 9, 3) := by decide +kernel
theorem d_Au_visit_41 : decode b_Au_visit 41 = .ok (.iload 4, 2) := by decide +kernel
theorem d_Au_visit_43 : decode b_Au_visit 43 = .ok (.iaload, 1) := by decide +kernel
theorem d_Au_visit_44 : decode b_Au_visit 44 = .ok (.ldc 31, 2) := by decide +kernel
theorem d_Au_visit_46 : decode b_Au_visit 46 = .ok (.idiv, 1) := by decide +kernel
theorem d_Au_visit_47 : decode b_Au_visit 47 = .ok (.istore 5, 2) := by decide +kernel
theorem d_Au_visit_49 : decode b_Au_visit 49 = .ok (.aload_n 0, 1) := by decide +kernel
theorem d_Au_visit_50 : decode b_Au_visit 50 = .ok (.getfield 9, 3) := by decide +kernel
theorem d_Au_visit_53 : decode b_Au_visit 53 = .ok (.iload 4, 2) := by decide +kernel
theorem d_Au_visit_55 : decode b_Au_visit 55 = .ok (.dup2, 1) := by decide +kernel
theorem d_Au_visit_56 : decode b_Au_visit 56 = .ok (.iaload, 1) := by decide +kernel
theorem d_Au_visit_57 : decode b_Au_visit 57 = .ok (.iconst 1, 1) := by decide +kernel
theorem d_Au_visit_58 : decode b_Au_visit 58 = .ok (.iadd, 1) := by decide +kernel
theorem d_Au_visit_59 : decode b_Au_visit 59 = .ok (.iastore, 1) := by decide +kernel
theorem d_Au_visit_60 : decode b_Au_visit 60 = .ok (.iload 5, 2) := by decide +kernel
theorem d_Au_visit_62 : decode b_Au_visit 62 = .ok (.iload_n 3, 1) := by decide +kernel
theorem d_Au_visit_63 : decode b_Au_visit 63 = .ok (.if_icmp .ne 7, 3) := by decide +kernel
theorem d_Au_visit_66 : decode b_Au_visit 66 = .ok (.iconst 0, 1) := by decide +kernel
theorem d_Au_visit_67 : decode b_Au_visit 67 = .ok (.goto 4, 3) := by decide +kernel
theorem d_Au_visit_70 : decode b_Au_visit 70 = .ok (.iload_n 2, 1) := by decide +kernel
theorem d_Au_visit_71 : decode b_Au_visit 71 = .ok (.ireturn, 1) := by decide +kernel
theorem d_Au_visit_72 : decode b_Au_visit 72 = .ok (.aload_n 0, 1) := by decide +kernel
theorem d_Au_visit_73 : decode b_Au_visit 73 = .ok (.getfield 9, 3) := by decide +kernel
theorem d_Au_visit_76 : decode b_Au_visit 76 = .ok (.iload 4, 2) := by decide +kernel
theorem d_Au_visit_78 : decode b_Au_visit 78 = .ok (.iload_n 3, 1) := by decide +kernel
theorem d_Au_visit_79 : decode b_Au_visit 79 = .ok (.ldc 31, 2) := by decide +kernel
theorem d_Au_visit_81 : decode b_Au_visit 81 = .ok (.imul, 1) := by decide +kernel
theorem d_Au_visit_82 : decode b_Au_visit 82 = .ok (.iconst 1, 1) := by decide +kernel
theorem d_Au_visit_83 : decode b_Au_visit 83 = .ok (.iadd, 1) := by decide +kernel
theorem d_Au_visit_84 : decode b_Au_visit 84 = .ok (.iastore, 1) := by decide +kernel
theorem d_Au_visit_85 : decode b_Au_visit 85 = .ok (.iload_n 3, 1) := by decide +kernel
theorem d_Au_visit_86 : decode b_Au_visit 86 = .ok (.ifCond .le 13, 3) := by decide +kernel
theorem d_Au_visit_89 : decode b_Au_visit 89 = .ok (.aload_n 0, 1) := by decide +kernel
theorem d_Au_visit_90 : decode b_Au_visit 90 = .ok (.aload_n 1, 1) := by decide +kernel
theorem d_Au_visit_91 : decode b_Au_visit 91 = .ok (.iload_n 2, 1) := by decide +kernel
theorem d_Au_visit_92 : decode b_Au_visit 92 = .ok (.iload_n 3, 1) := by decide +kernel
theorem d_Au_visit_93 : decode b_Au_visit 93 = .ok (.invokevirtual 35, 3) := by decide +kernel
theorem d_Au_visit_96 : decode b_Au_visit 96 = .ok (.goto 4, 3) := by decide +kernel
theorem d_Au_visit_99 : decode b_Au_visit 99 = .ok (.iconst 0, 1) := by decide +kernel
theorem d_Au_visit_100 : decode b_Au_visit 100 = .ok (.ireturn, 1) := by decide +kernel
theorem d_Au_visitLinks_0 : decode b_Au_visitLinks 0 = .ok (.iconst 0, 1) := by decide +kernel
theorem d_Au_visitLinks_1 : decode b_Au_visitLinks 1 = .ok (.istore 4, 2) := by decide +kernel
theorem d_Au_visitLinks_3 : decode b_Au_visitLinks 3 = .ok (.iconst 0, 1) := by decide +kernel
theorem d_Au_visitLinks_4 : decode b_Au_visitLinks 4 = .ok (.istore 5, 2) := by decide +kernel
theorem d_Au_visitLinks_6 : decode b_Au_visitLinks 6 = .ok (.iload 5, 2) := by decide +kernel
theorem d_Au_visitLinks_8 : decode b_Au_visitLinks 8 = .ok (.iload_n 3, 1) := by decide +kernel
theorem d_Au_visitLinks_9 : decode b_Au_visitLinks 9 = .ok (.invokestatic 38, 3) := by decide +kernel
theorem d_Au_visitLinks_12 : decode b_Au_visitLinks 12 = .ok (.if_icmp .ge 67, 3) := by decide +kernel
theorem d_Au_visitLinks_15 : decode b_Au_visitLinks 15 = .ok (.aload_n 1, 1) := by decide +kernel
theorem d_Au_visitLinks_16 : decode b_Au_visitLinks 16 = .ok (.iload_n 2, 1) := by decide +kernel
theorem d_Au_visitLinks_17 : decode b_Au_visitLinks 17 = .ok (.iload 5, 2) := by decide +kernel
theorem d_Au_visitLinks_19 : decode b_Au_visitLinks 19 = .ok (.invokevirtual 43, 3) := by decide +kernel
theorem d_Au_visitLinks_22 : decode b_Au_visitLinks 22 = .ok (.istore 6, 2) := by decide +kernel
theorem d_Au_visitLinks_24 : decode b_Au_visitLinks 24 = .ok (.aload_n 0, 1) := by decide +kernel
theorem d_Au_visitLinks_25 : decode b_Au_visitLinks 25 = .ok (.aload_n 1, 1) := by decide +kernel
theorem d_Au_visitLinks_26 : decode b_Au_visitLinks 26 = .ok (.iload 6, 2) := by decide +kernel
theorem d_Au_visitLinks_28 : decode b_Au_visitLinks 28 = .ok (.iload_n 3, 1) := by decide +kernel
theorem d_Au_visitLinks_29 : decode b_Au_visitLinks 29 = .ok (.iconst 1, 1) := by decide +kernel
theorem d_Au_visitLinks_30 : decode b_Au_visitLinks 30 = .ok (.isub, 1) := by decide +kernel
theorem d_Au_visitLinks_31 : decode b_Au_visitLinks 31 = .ok (.invokevirtual 27, 3) := by decide +kernel
theorem d_Au_visitLinks_34 : decode b_Au_visitLinks 34 = .ok (.istore 7, 2) := by decide +kernel
theorem d_Au_visitLinks_36 : decode b_Au_visitLinks 36 = .ok (.iload 7, 2) := by decide +kernel
theorem d_Au_visitLinks_38 : decode b_Au_visitLinks 38 = .ok (.ifCond .eq 6, 3) := by decide +kernel
theorem d_Au_visitLinks_41 : decode b_Au_visitLinks 41 = .ok (.iload 7, 2) := by decide +kernel
theorem d_Au_visitLinks_43 : decode b_Au_visitLinks 43 = .ok (.ireturn, 1) := by decide +kernel
theorem d_Au_visitLinks_44 : decode b_Au_visitLinks 44 = .ok (.iload 4, 2) := by decide +kernel
theorem d_Au_visitLinks_46 : decode b_Au_visitLinks 46 = .ok (.iload 6, 2) := by decide +kernel
theorem d_Au_visitLinks_48 : decode b_Au_visitLinks 48 = .ok (.ifCond .ne 7, 3) := by decide +kernel
theorem d_Au_visitLinks_51 : decode b_Au_visitLinks 51 = .ok (.iconst 0, 1) := by decide +kernel
theorem d_Au_visitLinks_52 : decode b_Au_visitLinks 52 = .ok (.goto 18, 3) := by decide +kernel
theorem d_Au_visitLinks_55 : decode b_Au_visitLinks 55 = .ok (.iload_n 3, 1) := by decide +kernel
theorem d_Au_visitLinks_56 : decode b_Au_visitLinks 56 = .ok (.iconst 1, 1) := by decide +kernel
theorem d_Au_visitLinks_57 : decode b_Au_visitLinks 57 = .ok (.if_icmp .ne 7, 3) := by decide +kernel
theorem d_Au_visitLinks_60 : decode b_Au_visitLinks 60 = .ok (.iconst 1, 1) := by decide +kernel
theorem d_Au_visitLinks_61 : decode b_Au_visitLinks 61 = .ok (.goto 9, 3) := by decide +kernel
theorem d_Au_visitLinks_64 : decode b_Au_visitLinks 64 = .ok (.aload_n 1, 1) := by decide +kernel
theorem d_Au_visitLinks_65 : decode b_Au_visitLinks 65 = .ok (.iload 6, 2) := by decide +kernel
theorem d_Au_visitLinks_67 : decode b_Au_visitLinks 67 = .ok (.invokevirtual 49, 3) := by decide +kernel
theorem d_Au_visitLinks_70 : decode b_Au_visitLinks 70 = .ok (.iadd, 1) := by decide +kernel
theorem d_Au_visitLinks_71 : decode b_Au_visitLinks 71 = .ok (.istore 4, 2) := by decide +kernel
theorem d_Au_visitLinks_73 : decode b_Au_visitLinks 73 = .ok (.iinc 5 1, 3) := by decide +kernel
theorem d_Au_visitLinks_76 : decode b_Au_visitLinks 76 = .ok (.goto (-70), 3) := by decide +kernel
theorem d_Au_visitLinks_79 : decode b_Au_visitLinks 79 = .ok (.iload_n 3, 1) := by decide +kernel
theorem d_Au_visitLinks_80 : decode b_Au_visitLinks 80 = .ok (.iconst 1, 1) := by decide +kernel
theorem d_Au_visitLinks_81 : decode b_Au_visitLinks 81 = .ok (.if_icmp .ne 12, 3) := by decide +kernel
theorem d_Au_visitLinks_84 : decode b_Au_visitLinks 84 = .ok (.iload 4, 2) := by decide +kernel
theorem d_Au_visitLinks_86 : decode b_Au_visitLinks 86 = .ok (.ifCond .ne 7, 3) := by decide +kernel
theorem d_Au_visitLinks_89 : decode b_Au_visitLinks 89 = .ok (.iconst 1, 1) := by decide +kernel
theorem d_Au_visitLinks_90 : decode b_Au_visitLinks 90 = .ok (.goto 4, 3) := by decide +kernel
theorem d_Au_visitLinks_93 : decode b_Au_visitLinks 93 = .ok (.iconst 0, 1) := by decide +kernel
theorem d_Au_visitLinks_94 : decode b_Au_visitLinks 94 = .ok (.istore 5, 2) := by decide +kernel
theorem d_Au_visitLinks_96 : decode b_Au_visitLinks 96 = .ok (.iload 4, 2) := by decide +kernel
theorem d_Au_visitLinks_98 : decode b_Au_visitLinks 98 = .ok (.aload_n 1, 1) := by decide +kernel
theorem d_Au_visitLinks_99 : decode b_Au_visitLinks 99 = .ok (.iload_n 2, 1) := by decide +kernel
theorem d_Au_visitLinks_100 : decode b_Au_visitLinks 100 = .ok (.invokevirtual 49, 3) := by decide +kernel
theorem d_Au_visitLinks_103 : decode b_Au_visitLinks 103 = .ok (.if_icmp .ne 12, 3) := by decide +kernel
theorem d_Au_visitLinks_106 : decode b_Au_visitLinks 106 = .ok (.iload 5, 2) := by decide +kernel
theorem d_Au_visitLinks_108 : decode b_Au_visitLinks 108 = .ok (.ifCond .ne 7, 3) := by decide +kernel
theorem d_Au_visitLinks_111 : decode b_Au_visitLinks 111 = .ok (.iconst 0, 1) := by decide +kernel
theorem d_Au_visitLinks_112 : decode b_Au_visitLinks 112 = .ok (.goto 4, 3) := by decide +kernel
theorem d_Au_visitLinks_115 : decode b_Au_visitLinks 115 = .ok (.iload_n 2, 1) := by decide +kernel
theorem d_Au_visitLinks_116 : decode b_Au_visitLinks 116 = .ok (.ireturn, 1) := by decide +kernel
theorem d_Ar_fillI_0 : decode b_Ar_fillI 0 = .ok (.iconst 0, 1) := by decide +kernel
theorem d_Ar_fillI_1 : decode b_Ar_fillI 1 = .ok (.istore_n 2, 1) := by decide +kernel
theorem d_Ar_fillI_2 : decode b_Ar_fillI 2 = .ok (.aload_n 0, 1) := by decide +kernel
theorem d_Ar_fillI_3 : decode b_Ar_fillI 3 = .ok (.arraylength, 1) := by decide +kernel
theorem d_Ar_fillI_4 : decode b_Ar_fillI 4 = .ok (.istore_n 3, 1) := by decide +kernel
theorem d_Ar_fillI_5 : decode b_Ar_fillI 5 = .ok (.iload_n 2, 1) := by decide +kernel
theorem d_Ar_fillI_6 : decode b_Ar_fillI 6 = .ok (.iload_n 3, 1) := by decide +kernel
theorem d_Ar_fillI_7 : decode b_Ar_fillI 7 = .ok (.if_icmp .ge 13, 3) := by decide +kernel
theorem d_Ar_fillI_10 : decode b_Ar_fillI 10 = .ok (.aload_n 0, 1) := by decide +kernel
theorem d_Ar_fillI_11 : decode b_Ar_fillI 11 = .ok (.iload_n 2, 1) := by decide +kernel
theorem d_Ar_fillI_12 : decode b_Ar_fillI 12 = .ok (.iload_n 1, 1) := by decide +kernel
theorem d_Ar_fillI_13 : decode b_Ar_fillI 13 = .ok (.iastore, 1) := by decide +kernel
theorem d_Ar_fillI_14 : decode b_Ar_fillI 14 = .ok (.iinc 2 1, 3) := by decide +kernel
theorem d_Ar_fillI_17 : decode b_Ar_fillI 17 = .ok (.goto (-12), 3) := by decide +kernel
theorem d_Ar_fillI_20 : decode b_Ar_fillI 20 = .ok (.return_, 1) := by decide +kernel
theorem d_Ar_fillJ_0 : decode b_Ar_fillJ 0 = .ok (.iconst 0, 1) := by decide +kernel
theorem d_Ar_fillJ_1 : decode b_Ar_fillJ 1 = .ok (.istore_n 3, 1) := by decide +kernel
theorem d_Ar_fillJ_2 : decode b_Ar_fillJ 2 = .ok (.aload_n 0, 1) := by decide +kernel
theorem d_Ar_fillJ_3 : decode b_Ar_fillJ 3 = .ok (.arraylength, 1) := by decide +kernel
theorem d_Ar_fillJ_4 : decode b_Ar_fillJ 4 = .ok (.istore 4, 2) := by decide +kernel
theorem d_Ar_fillJ_6 : decode b_Ar_fillJ 6 = .ok (.iload_n 3, 1) := by decide +kernel
theorem d_Ar_fillJ_7 : decode b_Ar_fillJ 7 = .ok (.iload 4, 2) := by decide +kernel
theorem d_Ar_fillJ_9 : decode b_Ar_fillJ 9 = .ok (.if_icmp .ge 13, 3) := by decide +kernel
theorem d_Ar_fillJ_12 : decode b_Ar_fillJ 12 = .ok (.aload_n 0, 1) := by decide +kernel
theorem d_Ar_fillJ_13 : decode b_Ar_fillJ 13 = .ok (.iload_n 3, 1) := by decide +kernel
theorem d_Ar_fillJ_14 : decode b_Ar_fillJ 14 = .ok (.lload_n 1, 1) := by decide +kernel
theorem d_Ar_fillJ_15 : decode b_Ar_fillJ 15 = .ok (.lastore, 1) := by decide +kernel
theorem d_Ar_fillJ_16 : decode b_Ar_fillJ 16 = .ok (.iinc 3 1, 3) := by decide +kernel
theorem d_Ar_fillJ_19 : decode b_Ar_fillJ 19 = .ok (.goto (-13), 3) := by decide +kernel
theorem d_Ar_fillJ_22 : decode b_Ar_fillJ 22 = .ok (.return_, 1) := by decide +kernel
end
section
theorem d_Tp_init_0 : decode b_Tp_init 0 = .ok (.aload_n 0, 1) := by decide +kernel
theorem d_Tp_init_1 : decode b_Tp_init 1 = .ok (.invokespecial 3, 3) := by decide +kernel
theorem d_Tp_init_4 : decode b_Tp_init 4 = .ok (.aload_n 0, 1) := by decide +kernel
theorem d_Tp_init_5 : decode b_Tp_init 5 = .ok (.new 9, 3) := by decide +kernel
theorem d_Tp_init_8 : decode b_Tp_init 8 = .ok (.dup, 1) := by decide +kernel
theorem d_Tp_init_9 : decode b_Tp_init 9 = .ok (.invokespecial 11, 3) := by decide +kernel
theorem d_Tp_init_12 : decode b_Tp_init 12 = .ok (.putfield 12, 3) := by decide +kernel
theorem d_Tp_init_15 : decode b_Tp_init 15 = .ok (.aload_n 0, 1) := by decide +kernel
theorem d_Tp_init_16 : decode b_Tp_init 16 = .ok (.new 9, 3) := by decide +kernel
theorem d_Tp_init_19 : decode b_Tp_init 19 = .ok (.dup, 1) := by decide +kernel
theorem d_Tp_init_20 : decode b_Tp_init 20 = .ok (.invokespecial 11, 3) := by decide +kernel
theorem d_Tp_init_23 : decode b_Tp_init 23 = .ok (.putfield 16, 3) := by decide +kernel
theorem d_Tp_init_26 : decode b_Tp_init 26 = .ok (.aload_n 0, 1) := by decide +kernel
theorem d_Tp_init_27 : decode b_Tp_init 27 = .ok (.new 19, 3) := by decide +kernel
theorem d_Tp_init_30 : decode b_Tp_init 30 = .ok (.dup, 1) := by decide +kernel
theorem d_Tp_init_31 : decode b_Tp_init 31 = .ok (.aload_n 0, 1) := by decide +kernel
theorem d_Tp_init_32 : decode b_Tp_init 32 = .ok (.getfield 12, 3) := by decide +kernel
theorem d_Tp_init_35 : decode b_Tp_init 35 = .ok (.invokespecial 21, 3) := by decide +kernel
theorem d_Tp_init_38 : decode b_Tp_init 38 = .ok (.putfield 24, 3) := by decide +kernel
theorem d_Tp_init_41 : decode b_Tp_init 41 = .ok (.aload_n 0, 1) := by decide +kernel
theorem d_Tp_init_42 : decode b_Tp_init 42 = .ok (.new 28, 3) := by decide +kernel
theorem d_Tp_init_45 : decode b_Tp_init 45 = .ok (.dup, 1) := by decide +kernel
theorem d_Tp_init_46 : decode b_Tp_init 46 = .ok (.invokespecial 30, 3) := by decide +kernel
theorem d_Tp_init_49 : decode b_Tp_init 49 = .ok (.putfield 31, 3) := by decide +kernel
theorem d_Tp_init_52 : decode b_Tp_init 52 = .ok (.aload_n 0, 1) := by decide +kernel
theorem d_Tp_init_53 : decode b_Tp_init 53 = .ok (.invokevirtual 35, 3) := by decide +kernel
theorem d_Tp_init_56 : decode b_Tp_init 56 = .ok (.return_, 1) := by decide +kernel
theorem d_Tp_lay_0 : decode b_Tp_lay 0 = .ok (.aload_n 0, 1) := by decide +kernel
theorem d_Tp_lay_1 : decode b_Tp_lay 1 = .ok (.invokevirtual 35, 3) := by decide +kernel
theorem d_Tp_lay_4 : decode b_Tp_lay 4 = .ok (.iconst 0, 1) := by decide +kernel
theorem d_Tp_lay_5 : decode b_Tp_lay 5 = .ok (.ireturn, 1) := by decide +kernel
theorem d_Tp_make_0 : decode b_Tp_make 0 = .ok (.aload_n 0, 1) := by decide +kernel
theorem d_Tp_make_1 : decode b_Tp_make 1 = .ok (.getfield 38, 3) := by decide +kernel
theorem d_Tp_make_4 : decode b_Tp_make 4 = .ok (.ifCond .ne 6, 3) := by decide +kernel
theorem d_Tp_make_7 : decode b_Tp_make 7 = .ok (.bipush (-2), 2) := by decide +kernel
theorem d_Tp_make_9 : decode b_Tp_make 9 = .ok (.ireturn, 1) := by decide +kernel
theorem d_Tp_make_10 : decode b_Tp_make 10 = .ok (.iload_n 1, 1) := by decide +kernel
theorem d_Tp_make_11 : decode b_Tp_make 11 = .ok (.invokestatic 42, 3) := by decide +kernel
theorem d_Tp_make_14 : decode b_Tp_make 14 = .ok (.ifCond .eq 11, 3) := by decide +kernel
theorem d_Tp_make_17 : decode b_Tp_make 17 = .ok (.aload_n 0, 1) := by decide +kernel
theorem d_Tp_make_18 : decode b_Tp_make 18 = .ok (.iload_n 1, 1) := by decide +kernel
theorem d_Tp_make_19 : decode b_Tp_make 19 = .ok (.invokevirtual 46, 3) := by decide +kernel
theorem d_Tp_make_22 : decode b_Tp_make 22 = .ok (.ifCond .eq 5, 3) := by decide +kernel
theorem d_Tp_make_25 : decode b_Tp_make 25 = .ok (.iconst (-1), 1) := by decide +kernel
theorem d_Tp_make_26 : decode b_Tp_make 26 = .ok (.ireturn, 1) := by decide +kernel
theorem d_Tp_make_27 : decode b_Tp_make 27 = .ok (.aload_n 0, 1) := by decide +kernel
theorem d_Tp_make_28 : decode b_Tp_make 28 = .ok (.getfield 24, 3) := by decide +kernel
theorem d_Tp_make_31 : decode b_Tp_make 31 = .ok (.iload_n 1, 1) := by decide +kernel
theorem d_Tp_make_32 : decode b_Tp_make 32 = .ok (.invokevirtual 49, 3) := by decide +kernel
theorem d_Tp_make_35 : decode b_Tp_make 35 = .ok (.iconst 0, 1) := by decide +kernel
theorem d_Tp_make_36 : decode b_Tp_make 36 = .ok (.ireturn, 1) := by decide +kernel
theorem d_Tp_snap_0 : decode b_Tp_snap 0 = .ok (.aload_n 0, 1) := by decide +kernel
theorem d_Tp_snap_1 : decode b_Tp_snap 1 = .ok (.getfield 38, 3) := by decide +kernel
theorem d_Tp_snap_4 : decode b_Tp_snap 4 = .ok (.ifCond .ne 6, 3) := by decide +kernel
theorem d_Tp_snap_7 : decode b_Tp_snap 7 = .ok (.bipush (-2), 2) := by decide +kernel
theorem d_Tp_snap_9 : decode b_Tp_snap 9 = .ok (.ireturn, 1) := by decide +kernel
theorem d_Tp_snap_10 : decode b_Tp_snap 10 = .ok (.iload_n 1, 1) := by decide +kernel
theorem d_Tp_snap_11 : decode b_Tp_snap 11 = .ok (.invokestatic 42, 3) := by decide +kernel
theorem d_Tp_snap_14 : decode b_Tp_snap 14 = .ok (.ifCond .eq 19, 3) := by decide +kernel
theorem d_Tp_snap_17 : decode b_Tp_snap 17 = .ok (.aload_n 0, 1) := by decide +kernel
theorem d_Tp_snap_18 : decode b_Tp_snap 18 = .ok (.iload_n 1, 1) := by decide +kernel
theorem d_Tp_snap_19 : decode b_Tp_snap 19 = .ok (.invokevirtual 46, 3) := by decide +kernel
theorem d_Tp_snap_22 : decode b_Tp_snap 22 = .ok (.ifCond .ne 11, 3) := by decide +kernel
theorem d_Tp_snap_25 : decode b_Tp_snap 25 = .ok (.aload_n 0, 1) := by decide +kernel
theorem d_Tp_snap_26 : decode b_Tp_snap 26 = .ok (.iload_n 2, 1) := by decide +kernel
theorem d_Tp_snap_27 : decode b_Tp_snap 27 = .ok (.invokevirtual 46, 3) := by decide +kernel
theorem d_Tp_snap_30 : decode b_Tp_snap 30 = .ok (.ifCond .ne 5, 3) := by decide +kernel
theorem d_Tp_snap_33 : decode b_Tp_snap 33 = .ok (.iconst (-1), 1) := by decide +kernel
theorem d_Tp_snap_34 : decode b_Tp_snap 34 = .ok (.ireturn, 1) := by decide +kernel
theorem d_Tp_snap_35 : decode b_Tp_snap 35 = .ok (.aload_n 0, 1) := by decide +kernel
theorem d_Tp_snap_36 : decode b_Tp_snap 36 = .ok (.getfield 24, 3) := by decide +kernel
theorem d_Tp_snap_39 : decode b_Tp_snap 39 = .ok (.iload_n 2, 1) := by decide +kernel
theorem d_Tp_snap_40 : decode b_Tp_snap 40 = .ok (.invokevirtual 53, 3) := by decide +kernel
theorem d_Tp_snap_43 : decode b_Tp_snap 43 = .ok (.istore_n 3, 1) := by decide +kernel
theorem d_Tp_snap_44 : decode b_Tp_snap 44 = .ok (.aload_n 0, 1) := by decide +kernel
theorem d_Tp_snap_45 : decode b_Tp_snap 45 = .ok (.getfield 24, 3) := by decide +kernel
theorem d_Tp_snap_48 : decode b_Tp_snap 48 = .ok (.invokevirtual 57, 3) := by decide +kernel
theorem d_Tp_snap_51 : decode b_Tp_snap 51 = .ok (.iload_n 3, 1) := by decide +kernel
theorem d_Tp_snap_52 : decode b_Tp_snap 52 = .ok (.iadd, 1) := by decide +kernel
theorem d_Tp_snap_53 : decode b_Tp_snap 53 = .ok (.sipush 300, 3) := by decide +kernel
theorem d_Tp_snap_56 : decode b_Tp_snap 56 = .ok (.if_icmp .le 6, 3) := by decide +kernel
theorem d_Tp_snap_59 : decode b_Tp_snap 59 = .ok (.bipush (-3), 2) := by decide +kernel
theorem d_Tp_snap_61 : decode b_Tp_snap 61 = .ok (.ireturn, 1) := by decide +kernel
theorem d_Tp_snap_62 : decode b_Tp_snap 62 = .ok (.aload_n 0, 1) := by decide +kernel
theorem d_Tp_snap_63 : decode b_Tp_snap 63 = .ok (.getfield 24, 3) := by decide +kernel
theorem d_Tp_snap_66 : decode b_Tp_snap 66 = .ok (.iload_n 1, 1) := by decide +kernel
theorem d_Tp_snap_67 : decode b_Tp_snap 67 = .ok (.iload_n 2, 1) := by decide +kernel
theorem d_Tp_snap_68 : decode b_Tp_snap 68 = .ok (.invokevirtual 61, 3) := by decide +kernel
theorem d_Tp_snap_71 : decode b_Tp_snap 71 = .ok (.iload_n 3, 1) := by decide +kernel
theorem d_Tp_snap_72 : decode b_Tp_snap 72 = .ok (.ireturn, 1) := by decide +kernel
theorem d_Tp_remove_0 : decode b_Tp_remove 0 = .ok (.aload_n 0, 1) := by decide +kernel
theorem d_Tp_remove_1 : decode b_Tp_remove 1 = .ok (.getfield 38, 3) := by decide +kernel
theorem d_Tp_remove_4 : decode b_Tp_remove 4 = .ok (.ifCond .ne 6, 3) := by decide +kernel
theorem d_Tp_remove_7 : decode b_Tp_remove 7 = .ok (.bipush (-2), 2) := by decide +kernel
theorem d_Tp_remove_9 : decode b_Tp_remove 9 = .ok (.ireturn, 1) := by decide +kernel
theorem d_Tp_remove_10 : decode b_Tp_remove 10 = .ok (.aload_n 0, 1) := by decide +kernel
theorem d_Tp_remove_11 : decode b_Tp_remove 11 = .ok (.iload_n 1, 1) := by decide +kernel
theorem d_Tp_remove_12 : decode b_Tp_remove 12 = .ok (.invokevirtual 46, 3) := by decide +kernel
theorem d_Tp_remove_15 : decode b_Tp_remove 15 = .ok (.ifCond .ne 5, 3) := by decide +kernel
theorem d_Tp_remove_18 : decode b_Tp_remove 18 = .ok (.iconst (-1), 1) := by decide +kernel
theorem d_Tp_remove_19 : decode b_Tp_remove 19 = .ok (.ireturn, 1) := by decide +kernel
theorem d_Tp_remove_20 : decode b_Tp_remove 20 = .ok (.aload_n 0, 1) := by decide +kernel
theorem d_Tp_remove_21 : decode b_Tp_remove 21 = .ok (.getfield 24, 3) := by decide +kernel
theorem d_Tp_remove_24 : decode b_Tp_remove 24 = .ok (.iload_n 1, 1) := by decide +kernel
theorem d_Tp_remove_25 : decode b_Tp_remove 25 = .ok (.invokevirtual 53, 3) := by decide +kernel
theorem d_Tp_remove_28 : decode b_Tp_remove 28 = .ok (.istore_n 2, 1) := by decide +kernel
theorem d_Tp_remove_29 : decode b_Tp_remove 29 = .ok (.aload_n 0, 1) := by decide +kernel
theorem d_Tp_remove_30 : decode b_Tp_remove 30 = .ok (.getfield 24, 3) := by decide +kernel
theorem d_Tp_remove_33 : decode b_Tp_remove 33 = .ok (.iload_n 1, 1) := by decide +kernel
theorem d_Tp_remove_34 : decode b_Tp_remove 34 = .ok (.invokevirtual 65, 3) := by decide +kernel
theorem d_Tp_remove_37 : decode b_Tp_remove 37 = .ok (.iload_n 2, 1) := by decide +kernel
theorem d_Tp_remove_38 : decode b_Tp_remove 38 = .ok (.ireturn, 1) := by decide +kernel
theorem d_Tp_write_0 : decode b_Tp_write 0 = .ok (.aload_n 0, 1) := by decide +kernel
theorem d_Tp_write_1 : decode b_Tp_write 1 = .ok (.getfield 38, 3) := by decide +kernel
theorem d_Tp_write_4 : decode b_Tp_write 4 = .ok (.ifCond .ne 6, 3) := by decide +kernel
theorem d_Tp_write_7 : decode b_Tp_write 7 = .ok (.bipush (-2), 2) := by decide +kernel
theorem d_Tp_write_9 : decode b_Tp_write 9 = .ok (.ireturn, 1) := by decide +kernel
theorem d_Tp_write_10 : decode b_Tp_write 10 = .ok (.aload_n 0, 1) := by decide +kernel
theorem d_Tp_write_11 : decode b_Tp_write 11 = .ok (.iload_n 1, 1) := by decide +kernel
theorem d_Tp_write_12 : decode b_Tp_write 12 = .ok (.invokevirtual 46, 3) := by decide +kernel
theorem d_Tp_write_15 : decode b_Tp_write 15 = .ok (.ifCond .eq 27, 3) := by decide +kernel
theorem d_Tp_write_18 : decode b_Tp_write 18 = .ok (.iload_n 2, 1) := by decide +kernel
theorem d_Tp_write_19 : decode b_Tp_write 19 = .ok (.invokestatic 68, 3) := by decide +kernel
theorem d_Tp_write_22 : decode b_Tp_write 22 = .ok (.ifCond .eq 20, 3) := by decide +kernel
theorem d_Tp_write_25 : decode b_Tp_write 25 = .ok (.iload_n 3, 1) := by decide +kernel
theorem d_Tp_write_26 : decode b_Tp_write 26 = .ok (.iload 4, 2) := by decide +kernel
theorem d_Tp_write_28 : decode b_Tp_write 28 = .ok (.invokestatic 71, 3) := by decide +kernel
theorem d_Tp_write_31 : decode b_Tp_write 31 = .ok (.ifCond .eq 11, 3) := by decide +kernel
theorem d_Tp_write_34 : decode b_Tp_write 34 = .ok (.iload 5, 2) := by decide +kernel
theorem d_Tp_write_36 : decode b_Tp_write 36 = .ok (.invokestatic 75, 3) := by decide +kernel
theorem d_Tp_write_39 : decode b_Tp_write 39 = .ok (.ifCond .ne 5, 3) := by decide +kernel
theorem d_Tp_write_42 : decode b_Tp_write 42 = .ok (.iconst (-1), 1) := by decide +kernel
theorem d_Tp_write_43 : decode b_Tp_write 43 = .ok (.ireturn, 1) := by decide +kernel
theorem d_Tp_write_44 : decode b_Tp_write 44 = .ok (.aload_n 0, 1) := by decide +kernel
theorem d_Tp_write_45 : decode b_Tp_write 45 = .ok (.getfield 24, 3) := by decide +kernel
theorem d_Tp_write_48 : decode b_Tp_write 48 = .ok (.iload_n 1, 1) := by decide +kernel
theorem d_Tp_write_49 : decode b_Tp_write 49 = .ok (.iload_n 2, 1) := by decide +kernel
theorem d_Tp_write_50 : decode b_Tp_write 50 = .ok (.invokevirtual 78, 3) := by decide +kernel
theorem d_Tp_write_53 : decode b_Tp_write 53 = .ok (.ifCond .ne 19, 3) := by decide +kernel
theorem d_Tp_write_56 : decode b_Tp_write 56 = .ok (.aload_n 0, 1) := by decide +kernel
theorem d_Tp_write_57 : decode b_Tp_write 57 = .ok (.getfield 24, 3) := by decide +kernel
theorem d_Tp_write_60 : decode b_Tp_write 60 = .ok (.invokevirtual 57, 3) := by decide +kernel
theorem d_Tp_write_63 : decode b_Tp_write 63 = .ok (.sipush 300, 3) := by decide +kernel
theorem d_Tp_write_66 : decode b_Tp_write 66 = .ok (.if_icmp .lt 6, 3) := by decide +kernel
theorem d_Tp_write_69 : decode b_Tp_write 69 = .ok (.bipush (-3), 2) := by decide +kernel
theorem d_Tp_write_71 : decode b_Tp_write 71 = .ok (.ireturn, 1) := by decide +kernel
theorem d_Tp_write_72 : decode b_Tp_write 72 = .ok (.aload_n 0, 1) := by decide +kernel
theorem d_Tp_write_73 : decode b_Tp_write 73 = .ok (.getfield 24, 3) := by decide +kernel
theorem d_Tp_write_76 : decode b_Tp_write 76 = .ok (.iload_n 1, 1) := by decide +kernel
theorem d_Tp_write_77 : decode b_Tp_write 77 = .ok (.iload_n 2, 1) := by decide +kernel
theorem d_Tp_write_78 : decode b_Tp_write 78 = .ok (.invokevirtual 82, 3) := by decide +kernel
theorem d_Tp_write_81 : decode b_Tp_write 81 = .ok (.istore 6, 2) := by decide +kernel
theorem d_Tp_write_83 : decode b_Tp_write 83 = .ok (.iload_n 3, 1) := by decide +kernel
theorem d_Tp_write_84 : decode b_Tp_write 84 = .ok (.istore 7, 2) := by decide +kernel
theorem d_Tp_write_86 : decode b_Tp_write 86 = .ok (.iload 7, 2) := by decide +kernel
theorem d_Tp_write_88 : decode b_Tp_write 88 = .ok (.iload_n 3, 1) := by decide +kernel
theorem d_Tp_write_89 : decode b_Tp_write 89 = .ok (.iload 4, 2) := by decide +kernel
theorem d_Tp_write_91 : decode b_Tp_write 91 = .ok (.iadd, 1) := by decide +kernel
theorem d_Tp_write_92 : decode b_Tp_write 92 = .ok (.if_icmp .ge 22, 3) := by decide +kernel
theorem d_Tp_write_95 : decode b_Tp_write 95 = .ok (.aload_n 0, 1) := by decide +kernel
theorem d_Tp_write_96 : decode b_Tp_write 96 = .ok (.getfield 12, 3) := by decide +kernel
theorem d_Tp_write_99 : decode b_Tp_write 99 = .ok (.iload 6, 2) := by decide +kernel
theorem d_Tp_write_101 : decode b_Tp_write 101 = .ok (.iload 7, 2) := by decide +kernel
theorem d_Tp_write_103 : decode b_Tp_write 103 = .ok (.iload 5, 2) := by decide +kernel
theorem d_Tp_write_105 : decode b_Tp_write 105 = .ok (.invokevirtual 85, 3) := by decide +kernel
theorem d_Tp_write_108 : decode b_Tp_write 108 = .ok (.iinc 7 1, 3) := by decide +kernel
theorem d_Tp_write_111 : decode b_Tp_write 111 = .ok (.goto (-25), 3) := by decide +kernel
theorem d_Tp_write_114 : decode b_Tp_write 114 = .ok (.aload_n 0, 1) := by decide +kernel
theorem d_Tp_write_115 : decode b_Tp_write 115 = .ok (.getfield 24, 3) := by decide +kernel
theorem d_Tp_write_118 : decode b_Tp_write 118 = .ok (.iload_n 1, 1) := by decide +kernel
theorem d_Tp_write_119 : decode b_Tp_write 119 = .ok (.invokevirtual 53, 3) := by decide +kernel
theorem d_Tp_write_122 : decode b_Tp_write 122 = .ok (.ireturn, 1) := by decide +kernel
theorem d_Tp_read_0 : decode b_Tp_read 0 = .ok (.aload_n 0, 1) := by decide +kernel
theorem d_Tp_read_1 : decode b_Tp_read 1 = .ok (.getfield 38, 3) := by decide +kernel
theorem d_Tp_read_4 : decode b_Tp_read 4 = .ok (.ifCond .ne 6, 3) := by decide +kernel
theorem d_Tp_read_7 : decode b_Tp_read 7 = .ok (.bipush (-2), 2) := by decide +kernel
theorem d_Tp_read_9 : decode b_Tp_read 9 = .ok (.ireturn, 1) := by decide +kernel
theorem d_Tp_read_10 : decode b_Tp_read 10 = .ok (.aload_n 0, 1) := by decide +kernel
theorem d_Tp_read_11 : decode b_Tp_read 11 = .ok (.iload_n 1, 1) := by decide +kernel
theorem d_Tp_read_12 : decode b_Tp_read 12 = .ok (.invokevirtual 46, 3) := by decide +kernel
theorem d_Tp_read_15 : decode b_Tp_read 15 = .ok (.ifCond .eq 18, 3) := by decide +kernel
theorem d_Tp_read_18 : decode b_Tp_read 18 = .ok (.iload_n 2, 1) := by decide +kernel
theorem d_Tp_read_19 : decode b_Tp_read 19 = .ok (.invokestatic 68, 3) := by decide +kernel
theorem d_Tp_read_22 : decode b_Tp_read 22 = .ok (.ifCond .eq 11, 3) := by decide +kernel
theorem d_Tp_read_25 : decode b_Tp_read 25 = .ok (.iload_n 3, 1) := by decide +kernel
theorem d_Tp_read_26 : decode b_Tp_read 26 = .ok (.iconst 1, 1) := by decide +kernel
theorem d_Tp_read_27 : decode b_Tp_read 27 = .ok (.invokestatic 71, 3) := by decide +kernel
theorem d_Tp_read_30 : decode b_Tp_read 30 = .ok (.ifCond .ne 5, 3) := by decide +kernel
theorem d_Tp_read_33 : decode b_Tp_read 33 = .ok (.iconst (-1), 1) := by decide +kernel
theorem d_Tp_read_34 : decode b_Tp_read 34 = .ok (.ireturn, 1) := by decide +kernel
theorem d_Tp_read_35 : decode b_Tp_read 35 = .ok (.aload_n 0, 1) := by decide +kernel
theorem d_Tp_read_36 : decode b_Tp_read 36 = .ok (.getfield 24, 3) := by decide +kernel
theorem d_Tp_read_39 : decode b_Tp_read 39 = .ok (.iload_n 1, 1) := by decide +kernel
theorem d_Tp_read_40 : decode b_Tp_read 40 = .ok (.iload_n 2, 1) := by decide +kernel
theorem d_Tp_read_41 : decode b_Tp_read 41 = .ok (.invokevirtual 78, 3) := by decide +kernel
theorem d_Tp_read_44 : decode b_Tp_read 44 = .ok (.istore 4, 2) := by decide +kernel
theorem d_Tp_read_46 : decode b_Tp_read 46 = .ok (.iload 4, 2) := by decide +kernel
theorem d_Tp_read_48 : decode b_Tp_read 48 = .ok (.ifCond .ne 7, 3) := by decide +kernel
theorem d_Tp_read_51 : decode b_Tp_read 51 = .ok (.iconst 0, 1) := by decide +kernel
theorem d_Tp_read_52 : decode b_Tp_read 52 = .ok (.goto 13, 3) := by decide +kernel
theorem d_Tp_read_55 : decode b_Tp_read 55 = .ok (.aload_n 0, 1) := by decide +kernel
theorem d_Tp_read_56 : decode b_Tp_read 56 = .ok (.getfield 12, 3) := by decide +kernel
theorem d_Tp_read_59 : decode b_Tp_read 59 = .ok (.iload 4, 2) := by decide +kernel
theorem d_Tp_read_61 : decode b_Tp_read 61 = .ok (.iload_n 3, 1) := by decide +kernel
theorem d_Tp_read_62 : decode b_Tp_read 62 = .ok (.invokevirtual 89, 3) := by decide +kernel
theorem d_Tp_read_65 : decode b_Tp_read 65 = .ok (.ireturn, 1) := by decide +kernel
theorem d_Tp_trim_0 : decode b_Tp_trim 0 = .ok (.aload_n 0, 1) := by decide +kernel
theorem d_Tp_trim_1 : decode b_Tp_trim 1 = .ok (.getfield 38, 3) := by decide +kernel
theorem d_Tp_trim_4 : decode b_Tp_trim 4 = .ok (.ifCond .ne 6, 3) := by decide +kernel
theorem d_Tp_trim_7 : decode b_Tp_trim 7 = .ok (.bipush (-2), 2) := by decide +kernel
theorem d_Tp_trim_9 : decode b_Tp_trim 9 = .ok (.ireturn, 1) := by decide +kernel
theorem d_Tp_trim_10 : decode b_Tp_trim 10 = .ok (.aload_n 0, 1) := by decide +kernel
theorem d_Tp_trim_11 : decode b_Tp_trim 11 = .ok (.iload_n 1, 1) := by decide +kernel
theorem d_Tp_trim_12 : decode b_Tp_trim 12 = .ok (.invokevirtual 46, 3) := by decide +kernel
theorem d_Tp_trim_15 : decode b_Tp_trim 15 = .ok (.ifCond .eq 22, 3) := by decide +kernel
theorem d_Tp_trim_18 : decode b_Tp_trim 18 = .ok (.iload_n 2, 1) := by decide +kernel
theorem d_Tp_trim_19 : decode b_Tp_trim 19 = .ok (.invokestatic 68, 3) := by decide +kernel
theorem d_Tp_trim_22 : decode b_Tp_trim 22 = .ok (.ifCond .eq 15, 3) := by decide +kernel
theorem d_Tp_trim_25 : decode b_Tp_trim 25 = .ok (.iload_n 3, 1) := by decide +kernel
theorem d_Tp_trim_26 : decode b_Tp_trim 26 = .ok (.invokestatic 68, 3) := by decide +kernel
theorem d_Tp_trim_29 : decode b_Tp_trim 29 = .ok (.ifCond .eq 8, 3) := by decide +kernel
theorem d_Tp_trim_32 : decode b_Tp_trim 32 = .ok (.iload_n 3, 1) := by decide +kernel
theorem d_Tp_trim_33 : decode b_Tp_trim 33 = .ok (.iload_n 2, 1) := by decide +kernel
theorem d_Tp_trim_34 : decode b_Tp_trim 34 = .ok (.if_icmp .ge 5, 3) := by decide +kernel
theorem d_Tp_trim_37 : decode b_Tp_trim 37 = .ok (.iconst (-1), 1) := by decide +kernel
theorem d_Tp_trim_38 : decode b_Tp_trim 38 = .ok (.ireturn, 1) := by decide +kernel
theorem d_Tp_trim_39 : decode b_Tp_trim 39 = .ok (.iconst 0, 1) := by decide +kernel
theorem d_Tp_trim_40 : decode b_Tp_trim 40 = .ok (.istore 4, 2) := by decide +kernel
theorem d_Tp_trim_42 : decode b_Tp_trim 42 = .ok (.iload_n 2, 1) := by decide +kernel
theorem d_Tp_trim_43 : decode b_Tp_trim 43 = .ok (.istore 5, 2) := by decide +kernel
theorem d_Tp_trim_45 : decode b_Tp_trim 45 = .ok (.iload 5, 2) := by decide +kernel
theorem d_Tp_trim_47 : decode b_Tp_trim 47 = .ok (.iload_n 3, 1) := by decide +kernel
theorem d_Tp_trim_48 : decode b_Tp_trim 48 = .ok (.if_icmp .gt 35, 3) := by decide +kernel
theorem d_Tp_trim_51 : decode b_Tp_trim 51 = .ok (.aload_n 0, 1) := by decide +kernel
theorem d_Tp_trim_52 : decode b_Tp_trim 52 = .ok (.getfield 24, 3) := by decide +kernel
theorem d_Tp_trim_55 : decode b_Tp_trim 55 = .ok (.iload_n 1, 1) := by decide +kernel
theorem d_Tp_trim_56 : decode b_Tp_trim 56 = .ok (.iload 5, 2) := by decide +kernel
theorem d_Tp_trim_58 : decode b_Tp_trim 58 = .ok (.invokevirtual 78, 3) := by decide +kernel
theorem d_Tp_trim_61 : decode b_Tp_trim 61 = .ok (.ifCond .eq 16, 3) := by decide +kernel
theorem d_Tp_trim_64 : decode b_Tp_trim 64 = .ok (.aload_n 0, 1) := by decide +kernel
theorem d_Tp_trim_65 : decode b_Tp_trim 65 = .ok (.getfield 24, 3) := by decide +kernel
theorem d_Tp_trim_68 : decode b_Tp_trim 68 = .ok (.iload_n 1, 1) := by decide +kernel
theorem d_Tp_trim_69 : decode b_Tp_trim 69 = .ok (.iload 5, 2) := by decide +kernel
theorem d_Tp_trim_71 : decode b_Tp_trim 71 = .ok (.invokevirtual 92, 3) := by decide +kernel
theorem d_Tp_trim_74 : decode b_Tp_trim 74 = .ok (.iinc 4 1, 3) := by decide +kernel
theorem d_Tp_trim_77 : decode b_Tp_trim 77 = .ok (.iinc 5 1, 3) := by decide +kernel
theorem d_Tp_trim_80 : decode b_Tp_trim 80 = .ok (.goto (-35), 3) := by decide +kernel
theorem d_Tp_trim_83 : decode b_Tp_trim 83 = .ok (.iload 4, 2) := by decide +kernel
theorem d_Tp_trim_85 : decode b_Tp_trim 85 = .ok (.ireturn, 1) := by decide +kernel
theorem d_Tp_pieces_0 : decode b_Tp_pieces 0 = .ok (.aload_n 0, 1) := by decide +kernel
theorem d_Tp_pieces_1 : decode b_Tp_pieces 1 = .ok (.getfield 38, 3) := by decide +kernel
theorem d_Tp_pieces_4 : decode b_Tp_pieces 4 = .ok (.ifCond .ne 6, 3) := by decide +kernel
theorem d_Tp_pieces_7 : decode b_Tp_pieces 7 = .ok (.bipush (-2), 2) := by decide +kernel
theorem d_Tp_pieces_9 : decode b_Tp_pieces 9 = .ok (.ireturn, 1) := by decide +kernel
theorem d_Tp_pieces_10 : decode b_Tp_pieces 10 = .ok (.iload_n 1, 1) := by decide +kernel
theorem d_Tp_pieces_11 : decode b_Tp_pieces 11 = .ok (.iconst (-1), 1) := by decide +kernel
theorem d_Tp_pieces_12 : decode b_Tp_pieces 12 = .ok (.if_icmp .ne 11, 3) := by decide +kernel
theorem d_Tp_pieces_15 : decode b_Tp_pieces 15 = .ok (.aload_n 0, 1) := by decide +kernel
theorem d_Tp_pieces_16 : decode b_Tp_pieces 16 = .ok (.getfield 24, 3) := by decide +kernel
theorem d_Tp_pieces_19 : decode b_Tp_pieces 19 = .ok (.invokevirtual 57, 3) := by decide +kernel
theorem d_Tp_pieces_22 : decode b_Tp_pieces 22 = .ok (.ireturn, 1) := by decide +kernel
theorem d_Tp_pieces_23 : decode b_Tp_pieces 23 = .ok (.aload_n 0, 1) := by decide +kernel
theorem d_Tp_pieces_24 : decode b_Tp_pieces 24 = .ok (.iload_n 1, 1) := by decide +kernel
theorem d_Tp_pieces_25 : decode b_Tp_pieces 25 = .ok (.invokevirtual 46, 3) := by decide +kernel
theorem d_Tp_pieces_28 : decode b_Tp_pieces 28 = .ok (.ifCond .eq 14, 3) := by decide +kernel
theorem d_Tp_pieces_31 : decode b_Tp_pieces 31 = .ok (.aload_n 0, 1) := by decide +kernel
theorem d_Tp_pieces_32 : decode b_Tp_pieces 32 = .ok (.getfield 24, 3) := by decide +kernel
theorem d_Tp_pieces_35 : decode b_Tp_pieces 35 = .ok (.iload_n 1, 1) := by decide +kernel
theorem d_Tp_pieces_36 : decode b_Tp_pieces 36 = .ok (.invokevirtual 53, 3) := by decide +kernel
theorem d_Tp_pieces_39 : decode b_Tp_pieces 39 = .ok (.goto 4, 3) := by decide +kernel
theorem d_Tp_pieces_42 : decode b_Tp_pieces 42 = .ok (.iconst (-1), 1) := by decide +kernel
theorem d_Tp_pieces_43 : decode b_Tp_pieces 43 = .ok (.ireturn, 1) := by decide +kernel
theorem d_Tp_next_0 : decode b_Tp_next 0 = .ok (.aload_n 0, 1) := by decide +kernel
theorem d_Tp_next_1 : decode b_Tp_next 1 = .ok (.getfield 38, 3) := by decide +kernel
theorem d_Tp_next_4 : decode b_Tp_next 4 = .ok (.ifCond .ne 6, 3) := by decide +kernel
theorem d_Tp_next_7 : decode b_Tp_next 7 = .ok (.bipush (-2), 2) := by decide +kernel
theorem d_Tp_next_9 : decode b_Tp_next 9 = .ok (.ireturn, 1) := by decide +kernel
theorem d_Tp_next_10 : decode b_Tp_next 10 = .ok (.aload_n 0, 1) := by decide +kernel
theorem d_Tp_next_11 : decode b_Tp_next 11 = .ok (.iload_n 1, 1) := by decide +kernel
theorem d_Tp_next_12 : decode b_Tp_next 12 = .ok (.invokevirtual 46, 3) := by decide +kernel
theorem d_Tp_next_15 : decode b_Tp_next 15 = .ok (.ifCond .eq 10, 3) := by decide +kernel
theorem d_Tp_next_18 : decode b_Tp_next 18 = .ok (.iload_n 2, 1) := by decide +kernel
theorem d_Tp_next_19 : decode b_Tp_next 19 = .ok (.invokestatic 68, 3) := by decide +kernel
theorem d_Tp_next_22 : decode b_Tp_next 22 = .ok (.ifCond .ne 5, 3) := by decide +kernel
theorem d_Tp_next_25 : decode b_Tp_next 25 = .ok (.iconst (-1), 1) := by decide +kernel
theorem d_Tp_next_26 : decode b_Tp_next 26 = .ok (.ireturn, 1) := by decide +kernel
theorem d_Tp_next_27 : decode b_Tp_next 27 = .ok (.iload_n 2, 1) := by decide +kernel
theorem d_Tp_next_28 : decode b_Tp_next 28 = .ok (.istore_n 3, 1) := by decide +kernel
theorem d_Tp_next_29 : decode b_Tp_next 29 = .ok (.iload_n 3, 1) := by decide +kernel
theorem d_Tp_next_30 : decode b_Tp_next 30 = .ok (.sipush 128, 3) := by decide +kernel
theorem d_Tp_next_33 : decode b_Tp_next 33 = .ok (.if_icmp .ge 23, 3) := by decide +kernel
theorem d_Tp_next_36 : decode b_Tp_next 36 = .ok (.aload_n 0, 1) := by decide +kernel
theorem d_Tp_next_37 : decode b_Tp_next 37 = .ok (.getfield 24, 3) := by decide +kernel
theorem d_Tp_next_40 : decode b_Tp_next 40 = .ok (.iload_n 1, 1) := by decide +kernel
theorem d_Tp_next_41 : decode b_Tp_next 41 = .ok (.iload_n 3, 1) := by decide +kernel
theorem d_Tp_next_42 : decode b_Tp_next 42 = .ok (.invokevirtual 78, 3) := by decide +kernel
theorem d_Tp_next_45 : decode b_Tp_next 45 = .ok (.ifCond .eq 5, 3) := by decide +kernel
theorem d_Tp_next_48 : decode b_Tp_next 48 = .ok (.iload_n 3, 1) := by decide +kernel
theorem d_Tp_next_49 : decode b_Tp_next 49 = .ok (.ireturn, 1) := by decide +kernel
theorem d_Tp_next_50 : decode b_Tp_next 50 = .ok (.iinc 3 1, 3) := by decide +kernel
theorem d_Tp_next_53 : decode b_Tp_next 53 = .ok (.goto (-24), 3) := by decide +kernel
theorem d_Tp_next_56 : decode b_Tp_next 56 = .ok (.sipush 128, 3) := by decide +kernel
theorem d_Tp_next_59 : decode b_Tp_next 59 = .ok (.ireturn, 1) := by decide +kernel
theorem d_Tp_shared_0 : decode b_Tp_shared 0 = .ok (.aload_n 0, 1) := by decide +kernel
theorem d_Tp_shared_1 : decode b_Tp_shared 1 = .ok (.getfield 38, 3) := by decide +kernel
theorem d_Tp_shared_4 : decode b_Tp_shared 4 = .ok (.ifCond .ne 6, 3) := by decide +kernel
theorem d_Tp_shared_7 : decode b_Tp_shared 7 = .ok (.bipush (-2), 2) := by decide +kernel
theorem d_Tp_shared_9 : decode b_Tp_shared 9 = .ok (.ireturn, 1) := by decide +kernel
theorem d_Tp_shared_10 : decode b_Tp_shared 10 = .ok (.aload_n 0, 1) := by decide +kernel
theorem d_Tp_shared_11 : decode b_Tp_shared 11 = .ok (.iload_n 1, 1) := by decide +kernel
theorem d_Tp_shared_12 : decode b_Tp_shared 12 = .ok (.invokevirtual 46, 3) := by decide +kernel
theorem d_Tp_shared_15 : decode b_Tp_shared 15 = .ok (.ifCond .eq 10, 3) := by decide +kernel
theorem d_Tp_shared_18 : decode b_Tp_shared 18 = .ok (.iload_n 2, 1) := by decide +kernel
theorem d_Tp_shared_19 : decode b_Tp_shared 19 = .ok (.invokestatic 68, 3) := by decide +kernel
theorem d_Tp_shared_22 : decode b_Tp_shared 22 = .ok (.ifCond .ne 5, 3) := by decide +kernel
theorem d_Tp_shared_25 : decode b_Tp_shared 25 = .ok (.iconst (-1), 1) := by decide +kernel
theorem d_Tp_shared_26 : decode b_Tp_shared 26 = .ok (.ireturn, 1) := by decide +kernel
theorem d_Tp_shared_27 : decode b_Tp_shared 27 = .ok (.aload_n 0, 1) := by decide +kernel
theorem d_Tp_shared_28 : decode b_Tp_shared 28 = .ok (.getfield 24, 3) := by decide +kernel
theorem d_Tp_shared_31 : decode b_Tp_shared 31 = .ok (.iload_n 1, 1) := by decide +kernel
theorem d_Tp_shared_32 : decode b_Tp_shared 32 = .ok (.iload_n 2, 1) := by decide +kernel
theorem d_Tp_shared_33 : decode b_Tp_shared 33 = .ok (.invokevirtual 78, 3) := by decide +kernel
theorem d_Tp_shared_36 : decode b_Tp_shared 36 = .ok (.istore_n 3, 1) := by decide +kernel
theorem d_Tp_shared_37 : decode b_Tp_shared 37 = .ok (.iload_n 3, 1) := by decide +kernel
theorem d_Tp_shared_38 : decode b_Tp_shared 38 = .ok (.ifCond .ne 5, 3) := by decide +kernel
theorem d_Tp_shared_41 : decode b_Tp_shared 41 = .ok (.iconst 0, 1) := by decide +kernel
theorem d_Tp_shared_42 : decode b_Tp_shared 42 = .ok (.ireturn, 1) := by decide +kernel
theorem d_Tp_shared_43 : decode b_Tp_shared 43 = .ok (.iconst 0, 1) := by decide +kernel
theorem d_Tp_shared_44 : decode b_Tp_shared 44 = .ok (.istore 4, 2) := by decide +kernel
theorem d_Tp_shared_46 : decode b_Tp_shared 46 = .ok (.iload 4, 2) := by decide +kernel
theorem d_Tp_shared_48 : decode b_Tp_shared 48 = .ok (.bipush 16, 2) := by decide +kernel
theorem d_Tp_shared_50 : decode b_Tp_shared 50 = .ok (.if_icmp .ge 31, 3) := by decide +kernel
theorem d_Tp_shared_53 : decode b_Tp_shared 53 = .ok (.iload 4, 2) := by decide +kernel
theorem d_Tp_shared_55 : decode b_Tp_shared 55 = .ok (.iload_n 1, 1) := by decide +kernel
theorem d_Tp_shared_56 : decode b_Tp_shared 56 = .ok (.if_icmp .eq 19, 3) := by decide +kernel
theorem d_Tp_shared_59 : decode b_Tp_shared 59 = .ok (.aload_n 0, 1) := by decide +kernel
theorem d_Tp_shared_60 : decode b_Tp_shared 60 = .ok (.getfield 24, 3) := by decide +kernel
theorem d_Tp_shared_63 : decode b_Tp_shared 63 = .ok (.iload 4, 2) := by decide +kernel
theorem d_Tp_shared_65 : decode b_Tp_shared 65 = .ok (.iload_n 2, 1) := by decide +kernel
theorem d_Tp_shared_66 : decode b_Tp_shared 66 = .ok (.invokevirtual 78, 3) := by decide +kernel
theorem d_Tp_shared_69 : decode b_Tp_shared 69 = .ok (.iload_n 3, 1) := by decide +kernel
theorem d_Tp_shared_70 : decode b_Tp_shared 70 = .ok (.if_icmp .ne 5, 3) := by decide +kernel
theorem d_Tp_shared_73 : decode b_Tp_shared 73 = .ok (.iconst 1, 1) := by decide +kernel
theorem d_Tp_shared_74 : decode b_Tp_shared 74 = .ok (.ireturn, 1) := by decide +kernel
theorem d_Tp_shared_75 : decode b_Tp_shared 75 = .ok (.iinc 4 1, 3) := by decide +kernel
theorem d_Tp_shared_78 : decode b_Tp_shared 78 = .ok (.goto (-32), 3) := by decide +kernel
theorem d_Tp_shared_81 : decode b_Tp_shared 81 = .ok (.iconst 0, 1) := by decide +kernel
theorem d_Tp_shared_82 : decode b_Tp_shared 82 = .ok (.ireturn, 1) := by decide +kernel
theorem d_Tp_tell_0 : decode b_Tp_tell 0 = .ok (.aload_n 0, 1) := by decide +kernel
theorem d_Tp_tell_1 : decode b_Tp_tell 1 = .ok (.getfield 38, 3) := by decide +kernel
theorem d_Tp_tell_4 : decode b_Tp_tell 4 = .ok (.ifCond .ne 6, 3) := by decide +kernel
theorem d_Tp_tell_7 : decode b_Tp_tell 7 = .ok (.bipush (-2), 2) := by decide +kernel
theorem d_Tp_tell_9 : decode b_Tp_tell 9 = .ok (.ireturn, 1) := by decide +kernel
theorem d_Tp_tell_10 : decode b_Tp_tell 10 = .ok (.iload_n 1, 1) := by decide +kernel
theorem d_Tp_tell_11 : decode b_Tp_tell 11 = .ok (.invokestatic 95, 3) := by decide +kernel
theorem d_Tp_tell_14 : decode b_Tp_tell 14 = .ok (.ifCond .eq 10, 3) := by decide +kernel
theorem d_Tp_tell_17 : decode b_Tp_tell 17 = .ok (.iload_n 2, 1) := by decide +kernel
theorem d_Tp_tell_18 : decode b_Tp_tell 18 = .ok (.invokestatic 75, 3) := by decide +kernel
theorem d_Tp_tell_21 : decode b_Tp_tell 21 = .ok (.ifCond .ne 5, 3) := by decide +kernel
theorem d_Tp_tell_24 : decode b_Tp_tell 24 = .ok (.iconst (-1), 1) := by decide +kernel
theorem d_Tp_tell_25 : decode b_Tp_tell 25 = .ok (.ireturn, 1) := by decide +kernel
theorem d_Tp_tell_26 : decode b_Tp_tell 26 = .ok (.aload_n 0, 1) := by decide +kernel
theorem d_Tp_tell_27 : decode b_Tp_tell 27 = .ok (.getfield 24, 3) := by decide +kernel
theorem d_Tp_tell_30 : decode b_Tp_tell 30 = .ok (.getfield 98, 3) := by decide +kernel
theorem d_Tp_tell_33 : decode b_Tp_tell 33 = .ok (.iload_n 1, 1) := by decide +kernel
theorem d_Tp_tell_34 : decode b_Tp_tell 34 = .ok (.invokevirtual 102, 3) := by decide +kernel
theorem d_Tp_tell_37 : decode b_Tp_tell 37 = .ok (.istore_n 3, 1) := by decide +kernel
theorem d_Tp_tell_38 : decode b_Tp_tell 38 = .ok (.aload_n 0, 1) := by decide +kernel
theorem d_Tp_tell_39 : decode b_Tp_tell 39 = .ok (.getfield 24, 3) := by decide +kernel
theorem d_Tp_tell_42 : decode b_Tp_tell 42 = .ok (.getfield 98, 3) := by decide +kernel
theorem d_Tp_tell_45 : decode b_Tp_tell 45 = .ok (.iload_n 1, 1) := by decide +kernel
theorem d_Tp_tell_46 : decode b_Tp_tell 46 = .ok (.iload_n 2, 1) := by decide +kernel
theorem d_Tp_tell_47 : decode b_Tp_tell 47 = .ok (.invokevirtual 107, 3) := by decide +kernel
theorem d_Tp_tell_50 : decode b_Tp_tell 50 = .ok (.iload_n 3, 1) := by decide +kernel
theorem d_Tp_tell_51 : decode b_Tp_tell 51 = .ok (.ireturn, 1) := by decide +kernel
theorem d_Tp_told_0 : decode b_Tp_told 0 = .ok (.aload_n 0, 1) := by decide +kernel
theorem d_Tp_told_1 : decode b_Tp_told 1 = .ok (.getfield 38, 3) := by decide +kernel
theorem d_Tp_told_4 : decode b_Tp_told 4 = .ok (.ifCond .ne 6, 3) := by decide +kernel
theorem d_Tp_told_7 : decode b_Tp_told 7 = .ok (.bipush (-2), 2) := by decide +kernel
theorem d_Tp_told_9 : decode b_Tp_told 9 = .ok (.ireturn, 1) := by decide +kernel
theorem d_Tp_told_10 : decode b_Tp_told 10 = .ok (.iload_n 1, 1) := by decide +kernel
theorem d_Tp_told_11 : decode b_Tp_told 11 = .ok (.invokestatic 95, 3) := by decide +kernel
theorem d_Tp_told_14 : decode b_Tp_told 14 = .ok (.ifCond .eq 17, 3) := by decide +kernel
theorem d_Tp_told_17 : decode b_Tp_told 17 = .ok (.aload_n 0, 1) := by decide +kernel
theorem d_Tp_told_18 : decode b_Tp_told 18 = .ok (.getfield 24, 3) := by decide +kernel
theorem d_Tp_told_21 : decode b_Tp_told 21 = .ok (.getfield 98, 3) := by decide +kernel
theorem d_Tp_told_24 : decode b_Tp_told 24 = .ok (.iload_n 1, 1) := by decide +kernel
theorem d_Tp_told_25 : decode b_Tp_told 25 = .ok (.invokevirtual 102, 3) := by decide +kernel
theorem d_Tp_told_28 : decode b_Tp_told 28 = .ok (.goto 4, 3) := by decide +kernel
theorem d_Tp_told_31 : decode b_Tp_told 31 = .ok (.iconst (-1), 1) := by decide +kernel
theorem d_Tp_told_32 : decode b_Tp_told 32 = .ok (.ireturn, 1) := by decide +kernel
theorem d_Tp_keep_0 : decode b_Tp_keep 0 = .ok (.aload_n 0, 1) := by decide +kernel
theorem d_Tp_keep_1 : decode b_Tp_keep 1 = .ok (.getfield 38, 3) := by decide +kernel
theorem d_Tp_keep_4 : decode b_Tp_keep 4 = .ok (.ifCond .ne 6, 3) := by decide +kernel
theorem d_Tp_keep_7 : decode b_Tp_keep 7 = .ok (.bipush (-2), 2) := by decide +kernel
theorem d_Tp_keep_9 : decode b_Tp_keep 9 = .ok (.ireturn, 1) := by decide +kernel
theorem d_Tp_keep_10 : decode b_Tp_keep 10 = .ok (.iload_n 1, 1) := by decide +kernel
theorem d_Tp_keep_11 : decode b_Tp_keep 11 = .ok (.ifCond .lt 8, 3) := by decide +kernel
theorem d_Tp_keep_14 : decode b_Tp_keep 14 = .ok (.iload_n 1, 1) := by decide +kernel
theorem d_Tp_keep_15 : decode b_Tp_keep 15 = .ok (.iconst 2, 1) := by decide +kernel
theorem d_Tp_keep_16 : decode b_Tp_keep 16 = .ok (.if_icmp .le 5, 3) := by decide +kernel
theorem d_Tp_keep_19 : decode b_Tp_keep 19 = .ok (.iconst (-1), 1) := by decide +kernel
theorem d_Tp_keep_20 : decode b_Tp_keep 20 = .ok (.ireturn, 1) := by decide +kernel
theorem d_Tp_keep_21 : decode b_Tp_keep 21 = .ok (.aload_n 0, 1) := by decide +kernel
theorem d_Tp_keep_22 : decode b_Tp_keep 22 = .ok (.iload_n 1, 1) := by decide +kernel
theorem d_Tp_keep_23 : decode b_Tp_keep 23 = .ok (.iconst 1, 1) := by decide +kernel
theorem d_Tp_keep_24 : decode b_Tp_keep 24 = .ok (.if_icmp .ne 7, 3) := by decide +kernel
theorem d_Tp_keep_27 : decode b_Tp_keep 27 = .ok (.iconst 1, 1) := by decide +kernel
theorem d_Tp_keep_28 : decode b_Tp_keep 28 = .ok (.goto 4, 3) := by decide +kernel
theorem d_Tp_keep_31 : decode b_Tp_keep 31 = .ok (.iconst 0, 1) := by decide +kernel
theorem d_Tp_keep_32 : decode b_Tp_keep 32 = .ok (.lload_n 2, 1) := by decide +kernel
theorem d_Tp_keep_33 : decode b_Tp_keep 33 = .ok (.invokevirtual 110, 3) := by decide +kernel
theorem d_Tp_keep_36 : decode b_Tp_keep 36 = .ok (.iload_n 1, 1) := by decide +kernel
theorem d_Tp_keep_37 : decode b_Tp_keep 37 = .ok (.iconst 1, 1) := by decide +kernel
theorem d_Tp_keep_38 : decode b_Tp_keep 38 = .ok (.if_icmp .ne 10, 3) := by decide +kernel
theorem d_Tp_keep_41 : decode b_Tp_keep 41 = .ok (.aload_n 0, 1) := by decide +kernel
theorem d_Tp_keep_42 : decode b_Tp_keep 42 = .ok (.invokevirtual 114, 3) := by decide +kernel
theorem d_Tp_keep_45 : decode b_Tp_keep 45 = .ok (.bipush (-2), 2) := by decide +kernel
theorem d_Tp_keep_47 : decode b_Tp_keep 47 = .ok (.ireturn, 1) := by decide +kernel
theorem d_Tp_keep_48 : decode b_Tp_keep 48 = .ok (.aload_n 0, 1) := by decide +kernel
theorem d_Tp_keep_49 : decode b_Tp_keep 49 = .ok (.iload_n 1, 1) := by decide +kernel
theorem d_Tp_keep_50 : decode b_Tp_keep 50 = .ok (.iconst 2, 1) := by decide +kernel
theorem d_Tp_keep_51 : decode b_Tp_keep 51 = .ok (.if_icmp .ne 7, 3) := by decide +kernel
theorem d_Tp_keep_54 : decode b_Tp_keep 54 = .ok (.iconst 1, 1) := by decide +kernel
theorem d_Tp_keep_55 : decode b_Tp_keep 55 = .ok (.goto 4, 3) := by decide +kernel
theorem d_Tp_keep_58 : decode b_Tp_keep 58 = .ok (.iconst 0, 1) := by decide +kernel
theorem d_Tp_keep_59 : decode b_Tp_keep 59 = .ok (.lload_n 2, 1) := by decide +kernel
theorem d_Tp_keep_60 : decode b_Tp_keep 60 = .ok (.invokevirtual 117, 3) := by decide +kernel
theorem d_Tp_keep_63 : decode b_Tp_keep 63 = .ok (.iload_n 1, 1) := by decide +kernel
theorem d_Tp_keep_64 : decode b_Tp_keep 64 = .ok (.iconst 2, 1) := by decide +kernel
theorem d_Tp_keep_65 : decode b_Tp_keep 65 = .ok (.if_icmp .ne 10, 3) := by decide +kernel
theorem d_Tp_keep_68 : decode b_Tp_keep 68 = .ok (.aload_n 0, 1) := by decide +kernel
theorem d_Tp_keep_69 : decode b_Tp_keep 69 = .ok (.invokevirtual 114, 3) := by decide +kernel
theorem d_Tp_keep_72 : decode b_Tp_keep 72 = .ok (.bipush (-2), 2) := by decide +kernel
theorem d_Tp_keep_74 : decode b_Tp_keep 74 = .ok (.ireturn, 1) := by decide +kernel
theorem d_Tp_keep_75 : decode b_Tp_keep 75 = .ok (.aload_n 0, 1) := by decide +kernel
theorem d_Tp_keep_76 : decode b_Tp_keep 76 = .ok (.aload_n 0, 1) := by decide +kernel
theorem d_Tp_keep_77 : decode b_Tp_keep 77 = .ok (.invokevirtual 120, 3) := by decide +kernel
theorem d_Tp_keep_80 : decode b_Tp_keep 80 = .ok (.invokevirtual 123, 3) := by decide +kernel
theorem d_Tp_keep_83 : decode b_Tp_keep 83 = .ok (.aload_n 0, 1) := by decide +kernel
theorem d_Tp_keep_84 : decode b_Tp_keep 84 = .ok (.getfield 24, 3) := by decide +kernel
theorem d_Tp_keep_87 : decode b_Tp_keep 87 = .ok (.invokevirtual 57, 3) := by decide +kernel
theorem d_Tp_keep_90 : decode b_Tp_keep 90 = .ok (.ireturn, 1) := by decide +kernel
theorem d_Tp_fail_0 : decode b_Tp_fail 0 = .ok (.aload_n 0, 1) := by decide +kernel
theorem d_Tp_fail_1 : decode b_Tp_fail 1 = .ok (.getfield 38, 3) := by decide +kernel
theorem d_Tp_fail_4 : decode b_Tp_fail 4 = .ok (.ifCond .ne 6, 3) := by decide +kernel
theorem d_Tp_fail_7 : decode b_Tp_fail 7 = .ok (.bipush (-2), 2) := by decide +kernel
theorem d_Tp_fail_9 : decode b_Tp_fail 9 = .ok (.ireturn, 1) := by decide +kernel
theorem d_Tp_fail_10 : decode b_Tp_fail 10 = .ok (.aload_n 0, 1) := by decide +kernel
theorem d_Tp_fail_11 : decode b_Tp_fail 11 = .ok (.invokevirtual 114, 3) := by decide +kernel
theorem d_Tp_fail_14 : decode b_Tp_fail 14 = .ok (.iconst 0, 1) := by decide +kernel
theorem d_Tp_fail_15 : decode b_Tp_fail 15 = .ok (.ireturn, 1) := by decide +kernel
theorem d_Tp_mount_0 : decode b_Tp_mount 0 = .ok (.aload_n 0, 1) := by decide +kernel
theorem d_Tp_mount_1 : decode b_Tp_mount 1 = .ok (.getfield 38, 3) := by decide +kernel
theorem d_Tp_mount_4 : decode b_Tp_mount 4 = .ok (.ifCond .eq 5, 3) := by decide +kernel
theorem d_Tp_mount_7 : decode b_Tp_mount 7 = .ok (.iconst (-1), 1) := by decide +kernel
theorem d_Tp_mount_8 : decode b_Tp_mount 8 = .ok (.ireturn, 1) := by decide +kernel
theorem d_Tp_mount_9 : decode b_Tp_mount 9 = .ok (.aload_n 0, 1) := by decide +kernel
theorem d_Tp_mount_10 : decode b_Tp_mount 10 = .ok (.getfield 12, 3) := by decide +kernel
theorem d_Tp_mount_13 : decode b_Tp_mount 13 = .ok (.aload_n 0, 1) := by decide +kernel
theorem d_Tp_mount_14 : decode b_Tp_mount 14 = .ok (.getfield 16, 3) := by decide +kernel
theorem d_Tp_mount_17 : decode b_Tp_mount 17 = .ok (.invokevirtual 126, 3) := by decide +kernel
theorem d_Tp_mount_20 : decode b_Tp_mount 20 = .ok (.aload_n 0, 1) := by decide +kernel
theorem d_Tp_mount_21 : decode b_Tp_mount 21 = .ok (.aload_n 0, 1) := by decide +kernel
theorem d_Tp_mount_22 : decode b_Tp_mount 22 = .ok (.invokevirtual 129, 3) := by decide +kernel
theorem d_Tp_mount_25 : decode b_Tp_mount 25 = .ok (.invokevirtual 123, 3) := by decide +kernel
theorem d_Tp_mount_28 : decode b_Tp_mount 28 = .ok (.aload_n 0, 1) := by decide +kernel
theorem d_Tp_mount_29 : decode b_Tp_mount 29 = .ok (.iconst 1, 1) := by decide +kernel
theorem d_Tp_mount_30 : decode b_Tp_mount 30 = .ok (.putfield 38, 3) := by decide +kernel
theorem d_Tp_mount_33 : decode b_Tp_mount 33 = .ok (.aload_n 0, 1) := by decide +kernel
theorem d_Tp_mount_34 : decode b_Tp_mount 34 = .ok (.getfield 24, 3) := by decide +kernel
theorem d_Tp_mount_37 : decode b_Tp_mount 37 = .ok (.invokevirtual 57, 3) := by decide +kernel
theorem d_Tp_mount_40 : decode b_Tp_mount 40 = .ok (.ireturn, 1) := by decide +kernel
theorem d_Tp_count_0 : decode b_Tp_count 0 = .ok (.aload_n 0, 1) := by decide +kernel
theorem d_Tp_count_1 : decode b_Tp_count 1 = .ok (.getfield 38, 3) := by decide +kernel
theorem d_Tp_count_4 : decode b_Tp_count 4 = .ok (.ifCond .ne 6, 3) := by decide +kernel
theorem d_Tp_count_7 : decode b_Tp_count 7 = .ok (.bipush (-2), 2) := by decide +kernel
theorem d_Tp_count_9 : decode b_Tp_count 9 = .ok (.ireturn, 1) := by decide +kernel
theorem d_Tp_count_10 : decode b_Tp_count 10 = .ok (.iload_n 1, 1) := by decide +kernel
theorem d_Tp_count_11 : decode b_Tp_count 11 = .ok (.lookupswitch 37 #[(0, 25), (1, 30)], 25) := by decide +kernel
theorem d_Tp_count_36 : decode b_Tp_count 36 = .ok (.aload_n 0, 1) := by decide +kernel
theorem d_Tp_count_37 : decode b_Tp_count 37 = .ok (.invokevirtual 132, 3) := by decide +kernel
theorem d_Tp_count_40 : decode b_Tp_count 40 = .ok (.ireturn, 1) := by decide +kernel
theorem d_Tp_count_41 : decode b_Tp_count 41 = .ok (.aload_n 0, 1) := by decide +kernel
theorem d_Tp_count_42 : decode b_Tp_count 42 = .ok (.invokevirtual 135, 3) := by decide +kernel
theorem d_Tp_count_45 : decode b_Tp_count 45 = .ok (.iconst 1, 1) := by decide +kernel
theorem d_Tp_count_46 : decode b_Tp_count 46 = .ok (.isub, 1) := by decide +kernel
theorem d_Tp_count_47 : decode b_Tp_count 47 = .ok (.ireturn, 1) := by decide +kernel
theorem d_Tp_count_48 : decode b_Tp_count 48 = .ok (.iconst (-1), 1) := by decide +kernel
theorem d_Tp_count_49 : decode b_Tp_count 49 = .ok (.ireturn, 1) := by decide +kernel
theorem d_Tp_check_0 : decode b_Tp_check 0 = .ok (.aload_n 0, 1) := by decide +kernel
theorem d_Tp_check_1 : decode b_Tp_check 1 = .ok (.getfield 38, 3) := by decide +kernel
theorem d_Tp_check_4 : decode b_Tp_check 4 = .ok (.ifCond .ne 6, 3) := by decide +kernel
theorem d_Tp_check_7 : decode b_Tp_check 7 = .ok (.bipush (-2), 2) := by decide +kernel
theorem d_Tp_check_9 : decode b_Tp_check 9 = .ok (.ireturn, 1) := by decide +kernel
theorem d_Tp_check_10 : decode b_Tp_check 10 = .ok (.aload_n 0, 1) := by decide +kernel
theorem d_Tp_check_11 : decode b_Tp_check 11 = .ok (.getfield 31, 3) := by decide +kernel
theorem d_Tp_check_14 : decode b_Tp_check 14 = .ok (.aload_n 0, 1) := by decide +kernel
theorem d_Tp_check_15 : decode b_Tp_check 15 = .ok (.getfield 12, 3) := by decide +kernel
theorem d_Tp_check_18 : decode b_Tp_check 18 = .ok (.aload_n 0, 1) := by decide +kernel
theorem d_Tp_check_19 : decode b_Tp_check 19 = .ok (.getfield 24, 3) := by decide +kernel
theorem d_Tp_check_22 : decode b_Tp_check 22 = .ok (.getfield 98, 3) := by decide +kernel
theorem d_Tp_check_25 : decode b_Tp_check 25 = .ok (.invokevirtual 138, 3) := by decide +kernel
theorem d_Tp_check_28 : decode b_Tp_check 28 = .ok (.istore_n 1, 1) := by decide +kernel
theorem d_Tp_check_29 : decode b_Tp_check 29 = .ok (.iload_n 1, 1) := by decide +kernel
theorem d_Tp_check_30 : decode b_Tp_check 30 = .ok (.ifCond .eq 7, 3) := by decide +kernel
theorem d_Tp_check_33 : decode b_Tp_check 33 = .ok (.iload_n 1, 1) := by decide +kernel
theorem d_Tp_check_34 : decode b_Tp_check 34 = .ok (.goto 29, 3) := by decide +kernel
theorem d_Tp_check_37 : decode b_Tp_check 37 = .ok (.aload_n 0, 1) := by decide +kernel
theorem d_Tp_check_38 : decode b_Tp_check 38 = .ok (.getfield 31, 3) := by decide +kernel
theorem d_Tp_check_41 : decode b_Tp_check 41 = .ok (.aload_n 0, 1) := by decide +kernel
theorem d_Tp_check_42 : decode b_Tp_check 42 = .ok (.getfield 16, 3) := by decide +kernel
theorem d_Tp_check_45 : decode b_Tp_check 45 = .ok (.new 103, 3) := by decide +kernel
theorem d_Tp_check_48 : decode b_Tp_check 48 = .ok (.dup, 1) := by decide +kernel
theorem d_Tp_check_49 : decode b_Tp_check 49 = .ok (.aload_n 0, 1) := by decide +kernel
theorem d_Tp_check_50 : decode b_Tp_check 50 = .ok (.getfield 16, 3) := by decide +kernel
theorem d_Tp_check_53 : decode b_Tp_check 53 = .ok (.aload_n 0, 1) := by decide +kernel
theorem d_Tp_check_54 : decode b_Tp_check 54 = .ok (.getfield 142, 3) := by decide +kernel
theorem d_Tp_check_57 : decode b_Tp_check 57 = .ok (.invokespecial 146, 3) := by decide +kernel
theorem d_Tp_check_60 : decode b_Tp_check 60 = .ok (.invokevirtual 138, 3) := by decide +kernel
theorem d_Tp_check_63 : decode b_Tp_check 63 = .ok (.ireturn, 1) := by decide +kernel
theorem d_Tp_isVolume_0 : decode b_Tp_isVolume 0 = .ok (.iload_n 0, 1) := by decide +kernel
theorem d_Tp_isVolume_1 : decode b_Tp_isVolume 1 = .ok (.ifCond .lt 13, 3) := by decide +kernel
theorem d_Tp_isVolume_4 : decode b_Tp_isVolume 4 = .ok (.iload_n 0, 1) := by decide +kernel
theorem d_Tp_isVolume_5 : decode b_Tp_isVolume 5 = .ok (.bipush 16, 2) := by decide +kernel
theorem d_Tp_isVolume_7 : decode b_Tp_isVolume 7 = .ok (.if_icmp .ge 7, 3) := by decide +kernel
theorem d_Tp_isVolume_10 : decode b_Tp_isVolume 10 = .ok (.iconst 1, 1) := by decide +kernel
theorem d_Tp_isVolume_11 : decode b_Tp_isVolume 11 = .ok (.goto 4, 3) := by decide +kernel
theorem d_Tp_isVolume_14 : decode b_Tp_isVolume 14 = .ok (.iconst 0, 1) := by decide +kernel
theorem d_Tp_isVolume_15 : decode b_Tp_isVolume 15 = .ok (.ireturn, 1) := by decide +kernel
theorem d_Tp_isPiece_0 : decode b_Tp_isPiece 0 = .ok (.iload_n 0, 1) := by decide +kernel
theorem d_Tp_isPiece_1 : decode b_Tp_isPiece 1 = .ok (.ifCond .lt 14, 3) := by decide +kernel
theorem d_Tp_isPiece_4 : decode b_Tp_isPiece 4 = .ok (.iload_n 0, 1) := by decide +kernel
theorem d_Tp_isPiece_5 : decode b_Tp_isPiece 5 = .ok (.sipush 128, 3) := by decide +kernel
theorem d_Tp_isPiece_8 : decode b_Tp_isPiece 8 = .ok (.if_icmp .ge 7, 3) := by decide +kernel
theorem d_Tp_isPiece_11 : decode b_Tp_isPiece 11 = .ok (.iconst 1, 1) := by decide +kernel
theorem d_Tp_isPiece_12 : decode b_Tp_isPiece 12 = .ok (.goto 4, 3) := by decide +kernel
theorem d_Tp_isPiece_15 : decode b_Tp_isPiece 15 = .ok (.iconst 0, 1) := by decide +kernel
theorem d_Tp_isPiece_16 : decode b_Tp_isPiece 16 = .ok (.ireturn, 1) := by decide +kernel
theorem d_Tp_areBytes_0 : decode b_Tp_areBytes 0 = .ok (.iload_n 1, 1) := by decide +kernel
theorem d_Tp_areBytes_1 : decode b_Tp_areBytes 1 = .ok (.iconst 1, 1) := by decide +kernel
theorem d_Tp_areBytes_2 : decode b_Tp_areBytes 2 = .ok (.if_icmp .lt 27, 3) := by decide +kernel
theorem d_Tp_areBytes_5 : decode b_Tp_areBytes 5 = .ok (.iload_n 1, 1) := by decide +kernel
theorem d_Tp_areBytes_6 : decode b_Tp_areBytes 6 = .ok (.sipush 128, 3) := by decide +kernel
theorem d_Tp_areBytes_9 : decode b_Tp_areBytes 9 = .ok (.if_icmp .gt 20, 3) := by decide +kernel
theorem d_Tp_areBytes_12 : decode b_Tp_areBytes 12 = .ok (.iload_n 0, 1) := by decide +kernel
theorem d_Tp_areBytes_13 : decode b_Tp_areBytes 13 = .ok (.ifCond .lt 16, 3) := by decide +kernel
theorem d_Tp_areBytes_16 : decode b_Tp_areBytes 16 = .ok (.iload_n 0, 1) := by decide +kernel
theorem d_Tp_areBytes_17 : decode b_Tp_areBytes 17 = .ok (.sipush 128, 3) := by decide +kernel
theorem d_Tp_areBytes_20 : decode b_Tp_areBytes 20 = .ok (.iload_n 1, 1) := by decide +kernel
theorem d_Tp_areBytes_21 : decode b_Tp_areBytes 21 = .ok (.isub, 1) := by decide +kernel
theorem d_Tp_areBytes_22 : decode b_Tp_areBytes 22 = .ok (.if_icmp .gt 7, 3) := by decide +kernel
theorem d_Tp_areBytes_25 : decode b_Tp_areBytes 25 = .ok (.iconst 1, 1) := by decide +kernel
theorem d_Tp_areBytes_26 : decode b_Tp_areBytes 26 = .ok (.goto 4, 3) := by decide +kernel
theorem d_Tp_areBytes_29 : decode b_Tp_areBytes 29 = .ok (.iconst 0, 1) := by decide +kernel
theorem d_Tp_areBytes_30 : decode b_Tp_areBytes 30 = .ok (.ireturn, 1) := by decide +kernel
theorem d_Tp_isByte_0 : decode b_Tp_isByte 0 = .ok (.iload_n 0, 1) := by decide +kernel
theorem d_Tp_isByte_1 : decode b_Tp_isByte 1 = .ok (.ifCond .lt 14, 3) := by decide +kernel
theorem d_Tp_isByte_4 : decode b_Tp_isByte 4 = .ok (.iload_n 0, 1) := by decide +kernel
theorem d_Tp_isByte_5 : decode b_Tp_isByte 5 = .ok (.sipush 255, 3) := by decide +kernel
theorem d_Tp_isByte_8 : decode b_Tp_isByte 8 = .ok (.if_icmp .gt 7, 3) := by decide +kernel
theorem d_Tp_isByte_11 : decode b_Tp_isByte 11 = .ok (.iconst 1, 1) := by decide +kernel
theorem d_Tp_isByte_12 : decode b_Tp_isByte 12 = .ok (.goto 4, 3) := by decide +kernel
theorem d_Tp_isByte_15 : decode b_Tp_isByte 15 = .ok (.iconst 0, 1) := by decide +kernel
theorem d_Tp_isByte_16 : decode b_Tp_isByte 16 = .ok (.ireturn, 1) := by decide +kernel
theorem d_Tp_isNote_0 : decode b_Tp_isNote 0 = .ok (.iload_n 0, 1) := by decide +kernel
theorem d_Tp_isNote_1 : decode b_Tp_isNote 1 = .ok (.ifCond .lt 13, 3) := by decide +kernel
theorem d_Tp_isNote_4 : decode b_Tp_isNote 4 = .ok (.iload_n 0, 1) := by decide +kernel
theorem d_Tp_isNote_5 : decode b_Tp_isNote 5 = .ok (.bipush 32, 2) := by decide +kernel
theorem d_Tp_isNote_7 : decode b_Tp_isNote 7 = .ok (.if_icmp .ge 7, 3) := by decide +kernel
theorem d_Tp_isNote_10 : decode b_Tp_isNote 10 = .ok (.iconst 1, 1) := by decide +kernel
theorem d_Tp_isNote_11 : decode b_Tp_isNote 11 = .ok (.goto 4, 3) := by decide +kernel
theorem d_Tp_isNote_14 : decode b_Tp_isNote 14 = .ok (.iconst 0, 1) := by decide +kernel
theorem d_Tp_isNote_15 : decode b_Tp_isNote 15 = .ok (.ireturn, 1) := by decide +kernel
theorem d_Tp_isThere_0 : decode b_Tp_isThere 0 = .ok (.iload_n 1, 1) := by decide +kernel
theorem d_Tp_isThere_1 : decode b_Tp_isThere 1 = .ok (.invokestatic 42, 3) := by decide +kernel
theorem d_Tp_isThere_4 : decode b_Tp_isThere 4 = .ok (.ifCond .eq 21, 3) := by decide +kernel
theorem d_Tp_isThere_7 : decode b_Tp_isThere 7 = .ok (.aload_n 0, 1) := by decide +kernel
theorem d_Tp_isThere_8 : decode b_Tp_isThere 8 = .ok (.getfield 24, 3) := by decide +kernel
theorem d_Tp_isThere_11 : decode b_Tp_isThere 11 = .ok (.getfield 98, 3) := by decide +kernel
theorem d_Tp_isThere_14 : decode b_Tp_isThere 14 = .ok (.iload_n 1, 1) := by decide +kernel
theorem d_Tp_isThere_15 : decode b_Tp_isThere 15 = .ok (.invokevirtual 149, 3) := by decide +kernel
theorem d_Tp_isThere_18 : decode b_Tp_isThere 18 = .ok (.ifCond .eq 7, 3) := by decide +kernel
theorem d_Tp_isThere_21 : decode b_Tp_isThere 21 = .ok (.iconst 1, 1) := by decide +kernel
theorem d_Tp_isThere_22 : decode b_Tp_isThere 22 = .ok (.goto 4, 3) := by decide +kernel
theorem d_Tp_isThere_25 : decode b_Tp_isThere 25 = .ok (.iconst 0, 1) := by decide +kernel
theorem d_Tp_isThere_26 : decode b_Tp_isThere 26 = .ok (.ireturn, 1) := by decide +kernel
theorem d_Tp_countVolumes_0 : decode b_Tp_countVolumes 0 = .ok (.iconst 0, 1) := by decide +kernel
theorem d_Tp_countVolumes_1 : decode b_Tp_countVolumes 1 = .ok (.istore_n 1, 1) := by decide +kernel
theorem d_Tp_countVolumes_2 : decode b_Tp_countVolumes 2 = .ok (.iconst 0, 1) := by decide +kernel
theorem d_Tp_countVolumes_3 : decode b_Tp_countVolumes 3 = .ok (.istore_n 2, 1) := by decide +kernel
theorem d_Tp_countVolumes_4 : decode b_Tp_countVolumes 4 = .ok (.iload_n 2, 1) := by decide +kernel
theorem d_Tp_countVolumes_5 : decode b_Tp_countVolumes 5 = .ok (.bipush 16, 2) := by decide +kernel
theorem d_Tp_countVolumes_7 : decode b_Tp_countVolumes 7 = .ok (.if_icmp .ge 20, 3) := by decide +kernel
theorem d_Tp_countVolumes_10 : decode b_Tp_countVolumes 10 = .ok (.aload_n 0, 1) := by decide +kernel
theorem d_Tp_countVolumes_11 : decode b_Tp_countVolumes 11 = .ok (.iload_n 2, 1) := by decide +kernel
theorem d_Tp_countVolumes_12 : decode b_Tp_countVolumes 12 = .ok (.invokevirtual 46, 3) := by decide +kernel
theorem d_Tp_countVolumes_15 : decode b_Tp_countVolumes 15 = .ok (.ifCond .eq 6, 3) := by decide +kernel
theorem d_Tp_countVolumes_18 : decode b_Tp_countVolumes 18 = .ok (.iinc 1 1, 3) := by decide +kernel
theorem d_Tp_countVolumes_21 : decode b_Tp_countVolumes 21 = .ok (.iinc 2 1, 3) := by decide +kernel
theorem d_Tp_countVolumes_24 : decode b_Tp_countVolumes 24 = .ok (.goto (-20), 3) := by decide +kernel
theorem d_Tp_countVolumes_27 : decode b_Tp_countVolumes 27 = .ok (.iload_n 1, 1) := by decide +kernel
theorem d_Tp_countVolumes_28 : decode b_Tp_countVolumes 28 = .ok (.ireturn, 1) := by decide +kernel
theorem d_Tp_layEmpty_0 : decode b_Tp_layEmpty 0 = .ok (.iconst 0, 1) := by decide +kernel
theorem d_Tp_layEmpty_1 : decode b_Tp_layEmpty 1 = .ok (.istore_n 1, 1) := by decide +kernel
theorem d_Tp_layEmpty_2 : decode b_Tp_layEmpty 2 = .ok (.iload_n 1, 1) := by decide +kernel
theorem d_Tp_layEmpty_3 : decode b_Tp_layEmpty 3 = .ok (.bipush 16, 2) := by decide +kernel
theorem d_Tp_layEmpty_5 : decode b_Tp_layEmpty 5 = .ok (.if_icmp .ge 17, 3) := by decide +kernel
theorem d_Tp_layEmpty_8 : decode b_Tp_layEmpty 8 = .ok (.aload_n 0, 1) := by decide +kernel
theorem d_Tp_layEmpty_9 : decode b_Tp_layEmpty 9 = .ok (.getfield 16, 3) := by decide +kernel
theorem d_Tp_layEmpty_12 : decode b_Tp_layEmpty 12 = .ok (.iload_n 1, 1) := by decide +kernel
theorem d_Tp_layEmpty_13 : decode b_Tp_layEmpty 13 = .ok (.invokevirtual 152, 3) := by decide +kernel
theorem d_Tp_layEmpty_16 : decode b_Tp_layEmpty 16 = .ok (.iinc 1 1, 3) := by decide +kernel
theorem d_Tp_layEmpty_19 : decode b_Tp_layEmpty 19 = .ok (.goto (-17), 3) := by decide +kernel
theorem d_Tp_layEmpty_22 : decode b_Tp_layEmpty 22 = .ok (.aload_n 0, 1) := by decide +kernel
theorem d_Tp_layEmpty_23 : decode b_Tp_layEmpty 23 = .ok (.getfield 16, 3) := by decide +kernel
theorem d_Tp_layEmpty_26 : decode b_Tp_layEmpty 26 = .ok (.iconst 0, 1) := by decide +kernel
theorem d_Tp_layEmpty_27 : decode b_Tp_layEmpty 27 = .ok (.iconst 0, 1) := by decide +kernel
theorem d_Tp_layEmpty_28 : decode b_Tp_layEmpty 28 = .ok (.lconst 1, 1) := by decide +kernel
theorem d_Tp_layEmpty_29 : decode b_Tp_layEmpty 29 = .ok (.invokevirtual 155, 3) := by decide +kernel
theorem d_Tp_layEmpty_32 : decode b_Tp_layEmpty 32 = .ok (.aload_n 0, 1) := by decide +kernel
theorem d_Tp_layEmpty_33 : decode b_Tp_layEmpty 33 = .ok (.getfield 12, 3) := by decide +kernel
theorem d_Tp_layEmpty_36 : decode b_Tp_layEmpty 36 = .ok (.aload_n 0, 1) := by decide +kernel
theorem d_Tp_layEmpty_37 : decode b_Tp_layEmpty 37 = .ok (.getfield 16, 3) := by decide +kernel
theorem d_Tp_layEmpty_40 : decode b_Tp_layEmpty 40 = .ok (.invokevirtual 126, 3) := by decide +kernel
theorem d_Tp_layEmpty_43 : decode b_Tp_layEmpty 43 = .ok (.aload_n 0, 1) := by decide +kernel
theorem d_Tp_layEmpty_44 : decode b_Tp_layEmpty 44 = .ok (.iconst 0, 1) := by decide +kernel
theorem d_Tp_layEmpty_45 : decode b_Tp_layEmpty 45 = .ok (.invokevirtual 123, 3) := by decide +kernel
theorem d_Tp_layEmpty_48 : decode b_Tp_layEmpty 48 = .ok (.aload_n 0, 1) := by decide +kernel
theorem d_Tp_layEmpty_49 : decode b_Tp_layEmpty 49 = .ok (.iconst 1, 1) := by decide +kernel
theorem d_Tp_layEmpty_50 : decode b_Tp_layEmpty 50 = .ok (.putfield 38, 3) := by decide +kernel
theorem d_Tp_layEmpty_53 : decode b_Tp_layEmpty 53 = .ok (.return_, 1) := by decide +kernel
theorem d_Tp_losePower_0 : decode b_Tp_losePower 0 = .ok (.aload_n 0, 1) := by decide +kernel
theorem d_Tp_losePower_1 : decode b_Tp_losePower 1 = .ok (.getfield 12, 3) := by decide +kernel
theorem d_Tp_losePower_4 : decode b_Tp_losePower 4 = .ok (.invokevirtual 159, 3) := by decide +kernel
theorem d_Tp_losePower_7 : decode b_Tp_losePower 7 = .ok (.aload_n 0, 1) := by decide +kernel
theorem d_Tp_losePower_8 : decode b_Tp_losePower 8 = .ok (.iconst 0, 1) := by decide +kernel
theorem d_Tp_losePower_9 : decode b_Tp_losePower 9 = .ok (.putfield 38, 3) := by decide +kernel
theorem d_Tp_losePower_12 : decode b_Tp_losePower 12 = .ok (.return_, 1) := by decide +kernel
theorem d_Tp_otherHead_0 : decode b_Tp_otherHead 0 = .ok (.iconst 1, 1) := by decide +kernel
theorem d_Tp_otherHead_1 : decode b_Tp_otherHead 1 = .ok (.aload_n 0, 1) := by decide +kernel
theorem d_Tp_otherHead_2 : decode b_Tp_otherHead 2 = .ok (.getfield 142, 3) := by decide +kernel
theorem d_Tp_otherHead_5 : decode b_Tp_otherHead 5 = .ok (.isub, 1) := by decide +kernel
theorem d_Tp_otherHead_6 : decode b_Tp_otherHead 6 = .ok (.ireturn, 1) := by decide +kernel
theorem d_Tp_newerHead_0 : decode b_Tp_newerHead 0 = .ok (.aload_n 0, 1) := by decide +kernel
theorem d_Tp_newerHead_1 : decode b_Tp_newerHead 1 = .ok (.getfield 16, 3) := by decide +kernel
theorem d_Tp_newerHead_4 : decode b_Tp_newerHead 4 = .ok (.iconst 1, 1) := by decide +kernel
theorem d_Tp_newerHead_5 : decode b_Tp_newerHead 5 = .ok (.iconst 0, 1) := by decide +kernel
theorem d_Tp_newerHead_6 : decode b_Tp_newerHead 6 = .ok (.invokevirtual 162, 3) := by decide +kernel
theorem d_Tp_newerHead_9 : decode b_Tp_newerHead 9 = .ok (.aload_n 0, 1) := by decide +kernel
theorem d_Tp_newerHead_10 : decode b_Tp_newerHead 10 = .ok (.getfield 16, 3) := by decide +kernel
theorem d_Tp_newerHead_13 : decode b_Tp_newerHead 13 = .ok (.iconst 0, 1) := by decide +kernel
theorem d_Tp_newerHead_14 : decode b_Tp_newerHead 14 = .ok (.iconst 0, 1) := by decide +kernel
theorem d_Tp_newerHead_15 : decode b_Tp_newerHead 15 = .ok (.invokevirtual 162, 3) := by decide +kernel
theorem d_Tp_newerHead_18 : decode b_Tp_newerHead 18 = .ok (.lcmp, 1) := by decide +kernel
theorem d_Tp_newerHead_19 : decode b_Tp_newerHead 19 = .ok (.ifCond .le 7, 3) := by decide +kernel
theorem d_Tp_newerHead_22 : decode b_Tp_newerHead 22 = .ok (.iconst 1, 1) := by decide +kernel
theorem d_Tp_newerHead_23 : decode b_Tp_newerHead 23 = .ok (.goto 4, 3) := by decide +kernel
theorem d_Tp_newerHead_26 : decode b_Tp_newerHead 26 = .ok (.iconst 0, 1) := by decide +kernel
theorem d_Tp_newerHead_27 : decode b_Tp_newerHead 27 = .ok (.ireturn, 1) := by decide +kernel
theorem d_Tp_keptNumber_0 : decode b_Tp_keptNumber 0 = .ok (.aload_n 0, 1) := by decide +kernel
theorem d_Tp_keptNumber_1 : decode b_Tp_keptNumber 1 = .ok (.getfield 12, 3) := by decide +kernel
theorem d_Tp_keptNumber_4 : decode b_Tp_keptNumber 4 = .ok (.aload_n 0, 1) := by decide +kernel
theorem d_Tp_keptNumber_5 : decode b_Tp_keptNumber 5 = .ok (.getfield 142, 3) := by decide +kernel
theorem d_Tp_keptNumber_8 : decode b_Tp_keptNumber 8 = .ok (.iconst 0, 1) := by decide +kernel
theorem d_Tp_keptNumber_9 : decode b_Tp_keptNumber 9 = .ok (.invokevirtual 162, 3) := by decide +kernel
theorem d_Tp_keptNumber_12 : decode b_Tp_keptNumber 12 = .ok (.l2i, 1) := by decide +kernel
theorem d_Tp_keptNumber_13 : decode b_Tp_keptNumber 13 = .ok (.ireturn, 1) := by decide +kernel
theorem d_Tp_goOnFrom_0 : decode b_Tp_goOnFrom 0 = .ok (.aload_n 0, 1) := by decide +kernel
theorem d_Tp_goOnFrom_1 : decode b_Tp_goOnFrom 1 = .ok (.iload_n 1, 1) := by decide +kernel
theorem d_Tp_goOnFrom_2 : decode b_Tp_goOnFrom 2 = .ok (.putfield 142, 3) := by decide +kernel
theorem d_Tp_goOnFrom_5 : decode b_Tp_goOnFrom 5 = .ok (.aload_n 0, 1) := by decide +kernel
theorem d_Tp_goOnFrom_6 : decode b_Tp_goOnFrom 6 = .ok (.getfield 24, 3) := by decide +kernel
theorem d_Tp_goOnFrom_9 : decode b_Tp_goOnFrom 9 = .ok (.iload_n 1, 1) := by decide +kernel
theorem d_Tp_goOnFrom_10 : decode b_Tp_goOnFrom 10 = .ok (.invokevirtual 166, 3) := by decide +kernel
theorem d_Tp_goOnFrom_13 : decode b_Tp_goOnFrom 13 = .ok (.return_, 1) := by decide +kernel
theorem d_Tp_writeBlocks_0 : decode b_Tp_writeBlocks 0 = .ok (.iconst 0, 1) := by decide +kernel
theorem d_Tp_writeBlocks_1 : decode b_Tp_writeBlocks 1 = .ok (.istore 4, 2) := by decide +kernel
theorem d_Tp_writeBlocks_3 : decode b_Tp_writeBlocks 3 = .ok (.bipush 16, 2) := by decide +kernel
theorem d_Tp_writeBlocks_5 : decode b_Tp_writeBlocks 5 = .ok (.istore 5, 2) := by decide +kernel
theorem d_Tp_writeBlocks_7 : decode b_Tp_writeBlocks 7 = .ok (.iload 5, 2) := by decide +kernel
theorem d_Tp_writeBlocks_9 : decode b_Tp_writeBlocks 9 = .ok (.sipush 784, 3) := by decide +kernel
theorem d_Tp_writeBlocks_12 : decode b_Tp_writeBlocks 12 = .ok (.if_icmp .ge 44, 3) := by decide +kernel
theorem d_Tp_writeBlocks_15 : decode b_Tp_writeBlocks 15 = .ok (.aload_n 0, 1) := by decide +kernel
theorem d_Tp_writeBlocks_16 : decode b_Tp_writeBlocks 16 = .ok (.getfield 24, 3) := by decide +kernel
theorem d_Tp_writeBlocks_19 : decode b_Tp_writeBlocks 19 = .ok (.iload 5, 2) := by decide +kernel
theorem d_Tp_writeBlocks_21 : decode b_Tp_writeBlocks 21 = .ok (.invokevirtual 167, 3) := by decide +kernel
theorem d_Tp_writeBlocks_24 : decode b_Tp_writeBlocks 24 = .ok (.ifCond .eq 26, 3) := by decide +kernel
theorem d_Tp_writeBlocks_27 : decode b_Tp_writeBlocks 27 = .ok (.aload_n 0, 1) := by decide +kernel
theorem d_Tp_writeBlocks_28 : decode b_Tp_writeBlocks 28 = .ok (.getfield 16, 3) := by decide +kernel
theorem d_Tp_writeBlocks_31 : decode b_Tp_writeBlocks 31 = .ok (.aload_n 0, 1) := by decide +kernel
theorem d_Tp_writeBlocks_32 : decode b_Tp_writeBlocks 32 = .ok (.getfield 12, 3) := by decide +kernel
theorem d_Tp_writeBlocks_35 : decode b_Tp_writeBlocks 35 = .ok (.iload 5, 2) := by decide +kernel
theorem d_Tp_writeBlocks_37 : decode b_Tp_writeBlocks 37 = .ok (.iload_n 1, 1) := by decide +kernel
theorem d_Tp_writeBlocks_38 : decode b_Tp_writeBlocks 38 = .ok (.lload_n 2, 1) := by decide +kernel
theorem d_Tp_writeBlocks_39 : decode b_Tp_writeBlocks 39 = .ok (.iload 4, 2) := by decide +kernel
theorem d_Tp_writeBlocks_41 : decode b_Tp_writeBlocks 41 = .ok (.invokestatic 170, 3) := by decide +kernel
theorem d_Tp_writeBlocks_44 : decode b_Tp_writeBlocks 44 = .ok (.invokevirtual 174, 3) := by decide +kernel
theorem d_Tp_writeBlocks_47 : decode b_Tp_writeBlocks 47 = .ok (.iinc 4 1, 3) := by decide +kernel
theorem d_Tp_writeBlocks_50 : decode b_Tp_writeBlocks 50 = .ok (.iinc 5 1, 3) := by decide +kernel
theorem d_Tp_writeBlocks_53 : decode b_Tp_writeBlocks 53 = .ok (.goto (-46), 3) := by decide +kernel
theorem d_Tp_writeBlocks_56 : decode b_Tp_writeBlocks 56 = .ok (.aload_n 0, 1) := by decide +kernel
theorem d_Tp_writeBlocks_57 : decode b_Tp_writeBlocks 57 = .ok (.invokevirtual 120, 3) := by decide +kernel
theorem d_Tp_writeBlocks_60 : decode b_Tp_writeBlocks 60 = .ok (.invokestatic 178, 3) := by decide +kernel
theorem d_Tp_writeBlocks_63 : decode b_Tp_writeBlocks 63 = .ok (.istore 5, 2) := by decide +kernel
theorem d_Tp_writeBlocks_65 : decode b_Tp_writeBlocks 65 = .ok (.iload 5, 2) := by decide +kernel
theorem d_Tp_writeBlocks_67 : decode b_Tp_writeBlocks 67 = .ok (.istore 6, 2) := by decide +kernel
theorem d_Tp_writeBlocks_69 : decode b_Tp_writeBlocks 69 = .ok (.iload 6, 2) := by decide +kernel
theorem d_Tp_writeBlocks_71 : decode b_Tp_writeBlocks 71 = .ok (.iload 5, 2) := by decide +kernel
theorem d_Tp_writeBlocks_73 : decode b_Tp_writeBlocks 73 = .ok (.bipush 7, 2) := by decide +kernel
theorem d_Tp_writeBlocks_75 : decode b_Tp_writeBlocks 75 = .ok (.iadd, 1) := by decide +kernel
theorem d_Tp_writeBlocks_76 : decode b_Tp_writeBlocks 76 = .ok (.if_icmp .ge 32, 3) := by decide +kernel
theorem d_Tp_writeBlocks_79 : decode b_Tp_writeBlocks 79 = .ok (.aload_n 0, 1) := by decide +kernel
theorem d_Tp_writeBlocks_80 : decode b_Tp_writeBlocks 80 = .ok (.getfield 16, 3) := by decide +kernel
theorem d_Tp_writeBlocks_83 : decode b_Tp_writeBlocks 83 = .ok (.aload_n 0, 1) := by decide +kernel
theorem d_Tp_writeBlocks_84 : decode b_Tp_writeBlocks 84 = .ok (.getfield 12, 3) := by decide +kernel
theorem d_Tp_writeBlocks_87 : decode b_Tp_writeBlocks 87 = .ok (.iload 6, 2) := by decide +kernel
theorem d_Tp_writeBlocks_89 : decode b_Tp_writeBlocks 89 = .ok (.iload_n 1, 1) := by decide +kernel
theorem d_Tp_writeBlocks_90 : decode b_Tp_writeBlocks 90 = .ok (.lload_n 2, 1) := by decide +kernel
theorem d_Tp_writeBlocks_91 : decode b_Tp_writeBlocks 91 = .ok (.iload 4, 2) := by decide +kernel
theorem d_Tp_writeBlocks_93 : decode b_Tp_writeBlocks 93 = .ok (.invokestatic 170, 3) := by decide +kernel
theorem d_Tp_writeBlocks_96 : decode b_Tp_writeBlocks 96 = .ok (.invokevirtual 174, 3) := by decide +kernel
theorem d_Tp_writeBlocks_99 : decode b_Tp_writeBlocks 99 = .ok (.iinc 4 1, 3) := by decide +kernel
theorem d_Tp_writeBlocks_102 : decode b_Tp_writeBlocks 102 = .ok (.iinc 6 1, 3) := by decide +kernel
theorem d_Tp_writeBlocks_105 : decode b_Tp_writeBlocks 105 = .ok (.goto (-36), 3) := by decide +kernel
theorem d_Tp_writeBlocks_108 : decode b_Tp_writeBlocks 108 = .ok (.return_, 1) := by decide +kernel
theorem d_Tp_writeOtherHead_0 : decode b_Tp_writeOtherHead 0 = .ok (.aload_n 0, 1) := by decide +kernel
theorem d_Tp_writeOtherHead_1 : decode b_Tp_writeOtherHead 1 = .ok (.getfield 12, 3) := by decide +kernel
theorem d_Tp_writeOtherHead_4 : decode b_Tp_writeOtherHead 4 = .ok (.aload_n 0, 1) := by decide +kernel
theorem d_Tp_writeOtherHead_5 : decode b_Tp_writeOtherHead 5 = .ok (.invokevirtual 120, 3) := by decide +kernel
theorem d_Tp_writeOtherHead_8 : decode b_Tp_writeOtherHead 8 = .ok (.iconst 0, 1) := by decide +kernel
theorem d_Tp_writeOtherHead_9 : decode b_Tp_writeOtherHead 9 = .ok (.aload_n 0, 1) := by decide +kernel
theorem d_Tp_writeOtherHead_10 : decode b_Tp_writeOtherHead 10 = .ok (.invokevirtual 135, 3) := by decide +kernel
theorem d_Tp_writeOtherHead_13 : decode b_Tp_writeOtherHead 13 = .ok (.i2l, 1) := by decide +kernel
theorem d_Tp_writeOtherHead_14 : decode b_Tp_writeOtherHead 14 = .ok (.lconst 1, 1) := by decide +kernel
theorem d_Tp_writeOtherHead_15 : decode b_Tp_writeOtherHead 15 = .ok (.ladd, 1) := by decide +kernel
theorem d_Tp_writeOtherHead_16 : decode b_Tp_writeOtherHead 16 = .ok (.invokevirtual 155, 3) := by decide +kernel
theorem d_Tp_writeOtherHead_19 : decode b_Tp_writeOtherHead 19 = .ok (.aload_n 0, 1) := by decide +kernel
theorem d_Tp_writeOtherHead_20 : decode b_Tp_writeOtherHead 20 = .ok (.getfield 16, 3) := by decide +kernel
theorem d_Tp_writeOtherHead_23 : decode b_Tp_writeOtherHead 23 = .ok (.aload_n 0, 1) := by decide +kernel
theorem d_Tp_writeOtherHead_24 : decode b_Tp_writeOtherHead 24 = .ok (.getfield 12, 3) := by decide +kernel
theorem d_Tp_writeOtherHead_27 : decode b_Tp_writeOtherHead 27 = .ok (.aload_n 0, 1) := by decide +kernel
theorem d_Tp_writeOtherHead_28 : decode b_Tp_writeOtherHead 28 = .ok (.invokevirtual 120, 3) := by decide +kernel
theorem d_Tp_writeOtherHead_31 : decode b_Tp_writeOtherHead 31 = .ok (.iload_n 1, 1) := by decide +kernel
theorem d_Tp_writeOtherHead_32 : decode b_Tp_writeOtherHead 32 = .ok (.lload_n 2, 1) := by decide +kernel
theorem d_Tp_writeOtherHead_33 : decode b_Tp_writeOtherHead 33 = .ok (.iconst 0, 1) := by decide +kernel
theorem d_Tp_writeOtherHead_34 : decode b_Tp_writeOtherHead 34 = .ok (.invokestatic 170, 3) := by decide +kernel
theorem d_Tp_writeOtherHead_37 : decode b_Tp_writeOtherHead 37 = .ok (.invokevirtual 174, 3) := by decide +kernel
theorem d_Tp_writeOtherHead_40 : decode b_Tp_writeOtherHead 40 = .ok (.return_, 1) := by decide +kernel
theorem d_Tp_partDown_0 : decode b_Tp_partDown 0 = .ok (.iload_n 0, 1) := by decide +kernel
theorem d_Tp_partDown_1 : decode b_Tp_partDown 1 = .ok (.ifCond .ne 5, 3) := by decide +kernel
theorem d_Tp_partDown_4 : decode b_Tp_partDown 4 = .ok (.iconst 1, 1) := by decide +kernel
theorem d_Tp_partDown_5 : decode b_Tp_partDown 5 = .ok (.ireturn, 1) := by decide +kernel
theorem d_Tp_partDown_6 : decode b_Tp_partDown 6 = .ok (.iload_n 3, 1) := by decide +kernel
theorem d_Tp_partDown_7 : decode b_Tp_partDown 7 = .ok (.bipush 32, 2) := by decide +kernel
theorem d_Tp_partDown_9 : decode b_Tp_partDown 9 = .ok (.if_icmp .ge 14, 3) := by decide +kernel
theorem d_Tp_partDown_12 : decode b_Tp_partDown 12 = .ok (.lload_n 1, 1) := by decide +kernel
theorem d_Tp_partDown_13 : decode b_Tp_partDown 13 = .ok (.iconst 2, 1) := by decide +kernel
theorem d_Tp_partDown_14 : decode b_Tp_partDown 14 = .ok (.iload_n 3, 1) := by decide +kernel
theorem d_Tp_partDown_15 : decode b_Tp_partDown 15 = .ok (.imul, 1) := by decide +kernel
theorem d_Tp_partDown_16 : decode b_Tp_partDown 16 = .ok (.lushr, 1) := by decide +kernel
theorem d_Tp_partDown_17 : decode b_Tp_partDown 17 = .ok (.l2i, 1) := by decide +kernel
theorem d_Tp_partDown_18 : decode b_Tp_partDown 18 = .ok (.iconst 3, 1) := by decide +kernel
theorem d_Tp_partDown_19 : decode b_Tp_partDown 19 = .ok (.iand, 1) := by decide +kernel
theorem d_Tp_partDown_20 : decode b_Tp_partDown 20 = .ok (.goto 4, 3) := by decide +kernel
theorem d_Tp_partDown_23 : decode b_Tp_partDown 23 = .ok (.iconst 0, 1) := by decide +kernel
theorem d_Tp_partDown_24 : decode b_Tp_partDown 24 = .ok (.ireturn, 1) := by decide +kernel
end
section
theorem d_Mo_init_0 : decode b_Mo_init 0 = .ok (.aload_n 0, 1) := by decide +kernel
theorem d_Mo_init_1 : decode b_Mo_init 1 = .ok (.invokespecial 1, 3) := by decide +kernel
theorem d_Mo_init_4 : decode b_Mo_init 4 = .ok (.aload_n 0, 1) := by decide +kernel
theorem d_Mo_init_5 : decode b_Mo_init 5 = .ok (.bipush 32, 2) := by decide +kernel
theorem d_Mo_init_7 : decode b_Mo_init 7 = .ok (.newarray .boolean, 2) := by decide +kernel
theorem d_Mo_init_9 : decode b_Mo_init 9 = .ok (.putfield 7, 3) := by decide +kernel
theorem d_Mo_init_12 : decode b_Mo_init 12 = .ok (.aload_n 0, 1) := by decide +kernel
theorem d_Mo_init_13 : decode b_Mo_init 13 = .ok (.sipush 4096, 3) := by decide +kernel
theorem d_Mo_init_16 : decode b_Mo_init 16 = .ok (.newarray .int, 2) := by decide +kernel
theorem d_Mo_init_18 : decode b_Mo_init 18 = .ok (.putfield 13, 3) := by decide +kernel
theorem d_Mo_init_21 : decode b_Mo_init 21 = .ok (.aload_n 0, 1) := by decide +kernel
theorem d_Mo_init_22 : decode b_Mo_init 22 = .ok (.sipush 4096, 3) := by decide +kernel
theorem d_Mo_init_25 : decode b_Mo_init 25 = .ok (.newarray .int, 2) := by decide +kernel
theorem d_Mo_init_27 : decode b_Mo_init 27 = .ok (.putfield 17, 3) := by decide +kernel
theorem d_Mo_init_30 : decode b_Mo_init 30 = .ok (.aload_n 0, 1) := by decide +kernel
theorem d_Mo_init_31 : decode b_Mo_init 31 = .ok (.bipush 64, 2) := by decide +kernel
theorem d_Mo_init_33 : decode b_Mo_init 33 = .ok (.newarray .int, 2) := by decide +kernel
theorem d_Mo_init_35 : decode b_Mo_init 35 = .ok (.putfield 20, 3) := by decide +kernel
theorem d_Mo_init_38 : decode b_Mo_init 38 = .ok (.aload_n 0, 1) := by decide +kernel
theorem d_Mo_init_39 : decode b_Mo_init 39 = .ok (.ldc 23, 2) := by decide +kernel
theorem d_Mo_init_41 : decode b_Mo_init 41 = .ok (.newarray .byte, 2) := by decide +kernel
theorem d_Mo_init_43 : decode b_Mo_init 43 = .ok (.putfield 24, 3) := by decide +kernel
theorem d_Mo_init_46 : decode b_Mo_init 46 = .ok (.aload_n 0, 1) := by decide +kernel
theorem d_Mo_init_47 : decode b_Mo_init 47 = .ok (.sipush 600, 3) := by decide +kernel
theorem d_Mo_init_50 : decode b_Mo_init 50 = .ok (.newarray .boolean, 2) := by decide +kernel
theorem d_Mo_init_52 : decode b_Mo_init 52 = .ok (.putfield 28, 3) := by decide +kernel
theorem d_Mo_init_55 : decode b_Mo_init 55 = .ok (.aload_n 0, 1) := by decide +kernel
theorem d_Mo_init_56 : decode b_Mo_init 56 = .ok (.invokevirtual 31, 3) := by decide +kernel
theorem d_Mo_init_59 : decode b_Mo_init 59 = .ok (.return_, 1) := by decide +kernel
theorem d_Mo_begin_0 : decode b_Mo_begin 0 = .ok (.iconst 0, 1) := by decide +kernel
theorem d_Mo_begin_1 : decode b_Mo_begin 1 = .ok (.istore_n 1, 1) := by decide +kernel
theorem d_Mo_begin_2 : decode b_Mo_begin 2 = .ok (.iload_n 1, 1) := by decide +kernel
theorem d_Mo_begin_3 : decode b_Mo_begin 3 = .ok (.bipush 32, 2) := by decide +kernel
theorem d_Mo_begin_5 : decode b_Mo_begin 5 = .ok (.if_icmp .ge 16, 3) := by decide +kernel
theorem d_Mo_begin_8 : decode b_Mo_begin 8 = .ok (.aload_n 0, 1) := by decide +kernel
theorem d_Mo_begin_9 : decode b_Mo_begin 9 = .ok (.getfield 7, 3) := by decide +kernel
theorem d_Mo_begin_12 : decode b_Mo_begin 12 = .ok (.iload_n 1, 1) := by decide +kernel
theorem d_Mo_begin_13 : decode b_Mo_begin 13 = .ok (.iconst 0, 1) := by decide +kernel
theorem d_Mo_begin_14 : decode b_Mo_begin 14 = .ok (.bastore, 1) := by decide +kernel
theorem d_Mo_begin_15 : decode b_Mo_begin 15 = .ok (.iinc 1 1, 3) := by decide +kernel
theorem d_Mo_begin_18 : decode b_Mo_begin 18 = .ok (.goto (-16), 3) := by decide +kernel
theorem d_Mo_begin_21 : decode b_Mo_begin 21 = .ok (.iconst 0, 1) := by decide +kernel
theorem d_Mo_begin_22 : decode b_Mo_begin 22 = .ok (.istore_n 1, 1) := by decide +kernel
theorem d_Mo_begin_23 : decode b_Mo_begin 23 = .ok (.iload_n 1, 1) := by decide +kernel
theorem d_Mo_begin_24 : decode b_Mo_begin 24 = .ok (.sipush 4096, 3) := by decide +kernel
theorem d_Mo_begin_27 : decode b_Mo_begin 27 = .ok (.if_icmp .ge 16, 3) := by decide +kernel
theorem d_Mo_begin_30 : decode b_Mo_begin 30 = .ok (.aload_n 0, 1) := by decide +kernel
theorem d_Mo_begin_31 : decode b_Mo_begin 31 = .ok (.getfield 13, 3) := by decide +kernel
theorem d_Mo_begin_34 : decode b_Mo_begin 34 = .ok (.iload_n 1, 1) := by decide +kernel
theorem d_Mo_begin_35 : decode b_Mo_begin 35 = .ok (.iconst (-1), 1) := by decide +kernel
theorem d_Mo_begin_36 : decode b_Mo_begin 36 = .ok (.iastore, 1) := by decide +kernel
theorem d_Mo_begin_37 : decode b_Mo_begin 37 = .ok (.iinc 1 1, 3) := by decide +kernel
theorem d_Mo_begin_40 : decode b_Mo_begin 40 = .ok (.goto (-17), 3) := by decide +kernel
theorem d_Mo_begin_43 : decode b_Mo_begin 43 = .ok (.iconst 0, 1) := by decide +kernel
theorem d_Mo_begin_44 : decode b_Mo_begin 44 = .ok (.istore_n 1, 1) := by decide +kernel
theorem d_Mo_begin_45 : decode b_Mo_begin 45 = .ok (.iload_n 1, 1) := by decide +kernel
theorem d_Mo_begin_46 : decode b_Mo_begin 46 = .ok (.bipush 64, 2) := by decide +kernel
theorem d_Mo_begin_48 : decode b_Mo_begin 48 = .ok (.if_icmp .ge 16, 3) := by decide +kernel
theorem d_Mo_begin_51 : decode b_Mo_begin 51 = .ok (.aload_n 0, 1) := by decide +kernel
theorem d_Mo_begin_52 : decode b_Mo_begin 52 = .ok (.getfield 20, 3) := by decide +kernel
theorem d_Mo_begin_55 : decode b_Mo_begin 55 = .ok (.iload_n 1, 1) := by decide +kernel
theorem d_Mo_begin_56 : decode b_Mo_begin 56 = .ok (.iconst 0, 1) := by decide +kernel
theorem d_Mo_begin_57 : decode b_Mo_begin 57 = .ok (.iastore, 1) := by decide +kernel
theorem d_Mo_begin_58 : decode b_Mo_begin 58 = .ok (.iinc 1 1, 3) := by decide +kernel
theorem d_Mo_begin_61 : decode b_Mo_begin 61 = .ok (.goto (-16), 3) := by decide +kernel
theorem d_Mo_begin_64 : decode b_Mo_begin 64 = .ok (.iconst 0, 1) := by decide +kernel
theorem d_Mo_begin_65 : decode b_Mo_begin 65 = .ok (.istore_n 1, 1) := by decide +kernel
theorem d_Mo_begin_66 : decode b_Mo_begin 66 = .ok (.iload_n 1, 1) := by decide +kernel
theorem d_Mo_begin_67 : decode b_Mo_begin 67 = .ok (.sipush 600, 3) := by decide +kernel
theorem d_Mo_begin_70 : decode b_Mo_begin 70 = .ok (.if_icmp .ge 16, 3) := by decide +kernel
theorem d_Mo_begin_73 : decode b_Mo_begin 73 = .ok (.aload_n 0, 1) := by decide +kernel
theorem d_Mo_begin_74 : decode b_Mo_begin 74 = .ok (.getfield 28, 3) := by decide +kernel
theorem d_Mo_begin_77 : decode b_Mo_begin 77 = .ok (.iload_n 1, 1) := by decide +kernel
theorem d_Mo_begin_78 : decode b_Mo_begin 78 = .ok (.iconst 0, 1) := by decide +kernel
theorem d_Mo_begin_79 : decode b_Mo_begin 79 = .ok (.bastore, 1) := by decide +kernel
theorem d_Mo_begin_80 : decode b_Mo_begin 80 = .ok (.iinc 1 1, 3) := by decide +kernel
theorem d_Mo_begin_83 : decode b_Mo_begin 83 = .ok (.goto (-17), 3) := by decide +kernel
theorem d_Mo_begin_86 : decode b_Mo_begin 86 = .ok (.aload_n 0, 1) := by decide +kernel
theorem d_Mo_begin_87 : decode b_Mo_begin 87 = .ok (.iconst 0, 1) := by decide +kernel
theorem d_Mo_begin_88 : decode b_Mo_begin 88 = .ok (.putfield 34, 3) := by decide +kernel
theorem d_Mo_begin_91 : decode b_Mo_begin 91 = .ok (.aload_n 0, 1) := by decide +kernel
theorem d_Mo_begin_92 : decode b_Mo_begin 92 = .ok (.iconst 0, 1) := by decide +kernel
theorem d_Mo_begin_93 : decode b_Mo_begin 93 = .ok (.putfield 38, 3) := by decide +kernel
theorem d_Mo_begin_96 : decode b_Mo_begin 96 = .ok (.return_, 1) := by decide +kernel
theorem d_Mo_lay_0 : decode b_Mo_lay 0 = .ok (.aload_n 0, 1) := by decide +kernel
theorem d_Mo_lay_1 : decode b_Mo_lay 1 = .ok (.invokevirtual 31, 3) := by decide +kernel
theorem d_Mo_lay_4 : decode b_Mo_lay 4 = .ok (.iconst 0, 1) := by decide +kernel
theorem d_Mo_lay_5 : decode b_Mo_lay 5 = .ok (.ireturn, 1) := by decide +kernel
theorem d_Mo_isThere_0 : decode b_Mo_isThere 0 = .ok (.iload_n 1, 1) := by decide +kernel
theorem d_Mo_isThere_1 : decode b_Mo_isThere 1 = .ok (.ifCond .lt 22, 3) := by decide +kernel
theorem d_Mo_isThere_4 : decode b_Mo_isThere 4 = .ok (.iload_n 1, 1) := by decide +kernel
theorem d_Mo_isThere_5 : decode b_Mo_isThere 5 = .ok (.bipush 16, 2) := by decide +kernel
theorem d_Mo_isThere_7 : decode b_Mo_isThere 7 = .ok (.if_icmp .ge 16, 3) := by decide +kernel
theorem d_Mo_isThere_10 : decode b_Mo_isThere 10 = .ok (.aload_n 0, 1) := by decide +kernel
theorem d_Mo_isThere_11 : decode b_Mo_isThere 11 = .ok (.getfield 7, 3) := by decide +kernel
theorem d_Mo_isThere_14 : decode b_Mo_isThere 14 = .ok (.iload_n 1, 1) := by decide +kernel
theorem d_Mo_isThere_15 : decode b_Mo_isThere 15 = .ok (.baload, 1) := by decide +kernel
theorem d_Mo_isThere_16 : decode b_Mo_isThere 16 = .ok (.ifCond .eq 7, 3) := by decide +kernel
theorem d_Mo_isThere_19 : decode b_Mo_isThere 19 = .ok (.iconst 1, 1) := by decide +kernel
theorem d_Mo_isThere_20 : decode b_Mo_isThere 20 = .ok (.goto 4, 3) := by decide +kernel
theorem d_Mo_isThere_23 : decode b_Mo_isThere 23 = .ok (.iconst 0, 1) := by decide +kernel
theorem d_Mo_isThere_24 : decode b_Mo_isThere 24 = .ok (.ireturn, 1) := by decide +kernel
theorem d_Mo_isPiece_0 : decode b_Mo_isPiece 0 = .ok (.iload_n 0, 1) := by decide +kernel
theorem d_Mo_isPiece_1 : decode b_Mo_isPiece 1 = .ok (.ifCond .lt 14, 3) := by decide +kernel
theorem d_Mo_isPiece_4 : decode b_Mo_isPiece 4 = .ok (.iload_n 0, 1) := by decide +kernel
theorem d_Mo_isPiece_5 : decode b_Mo_isPiece 5 = .ok (.sipush 128, 3) := by decide +kernel
theorem d_Mo_isPiece_8 : decode b_Mo_isPiece 8 = .ok (.if_icmp .ge 7, 3) := by decide +kernel
theorem d_Mo_isPiece_11 : decode b_Mo_isPiece 11 = .ok (.iconst 1, 1) := by decide +kernel
theorem d_Mo_isPiece_12 : decode b_Mo_isPiece 12 = .ok (.goto 4, 3) := by decide +kernel
theorem d_Mo_isPiece_15 : decode b_Mo_isPiece 15 = .ok (.iconst 0, 1) := by decide +kernel
theorem d_Mo_isPiece_16 : decode b_Mo_isPiece 16 = .ok (.ireturn, 1) := by decide +kernel
theorem d_Mo_many_0 : decode b_Mo_many 0 = .ok (.iconst 0, 1) := by decide +kernel
theorem d_Mo_many_1 : decode b_Mo_many 1 = .ok (.istore_n 2, 1) := by decide +kernel
theorem d_Mo_many_2 : decode b_Mo_many 2 = .ok (.iconst 0, 1) := by decide +kernel
theorem d_Mo_many_3 : decode b_Mo_many 3 = .ok (.istore_n 3, 1) := by decide +kernel
theorem d_Mo_many_4 : decode b_Mo_many 4 = .ok (.iload_n 3, 1) := by decide +kernel
theorem d_Mo_many_5 : decode b_Mo_many 5 = .ok (.sipush 128, 3) := by decide +kernel
theorem d_Mo_many_8 : decode b_Mo_many 8 = .ok (.if_icmp .ge 32, 3) := by decide +kernel
theorem d_Mo_many_11 : decode b_Mo_many 11 = .ok (.iload_n 2, 1) := by decide +kernel
theorem d_Mo_many_12 : decode b_Mo_many 12 = .ok (.aload_n 0, 1) := by decide +kernel
theorem d_Mo_many_13 : decode b_Mo_many 13 = .ok (.getfield 13, 3) := by decide +kernel
theorem d_Mo_many_16 : decode b_Mo_many 16 = .ok (.sipush 128, 3) := by decide +kernel
theorem d_Mo_many_19 : decode b_Mo_many 19 = .ok (.iload_n 1, 1) := by decide +kernel
theorem d_Mo_many_20 : decode b_Mo_many 20 = .ok (.imul, 1) := by decide +kernel
theorem d_Mo_many_21 : decode b_Mo_many 21 = .ok (.iload_n 3, 1) := by decide +kernel
theorem d_Mo_many_22 : decode b_Mo_many 22 = .ok (.iadd, 1) := by decide +kernel
theorem d_Mo_many_23 : decode b_Mo_many 23 = .ok (.iaload, 1) := by decide +kernel
theorem d_Mo_many_24 : decode b_Mo_many 24 = .ok (.ifCond .lt 7, 3) := by decide +kernel
theorem d_Mo_many_27 : decode b_Mo_many 27 = .ok (.iconst 1, 1) := by decide +kernel
theorem d_Mo_many_28 : decode b_Mo_many 28 = .ok (.goto 4, 3) := by decide +kernel
theorem d_Mo_many_31 : decode b_Mo_many 31 = .ok (.iconst 0, 1) := by decide +kernel
theorem d_Mo_many_32 : decode b_Mo_many 32 = .ok (.iadd, 1) := by decide +kernel
theorem d_Mo_many_33 : decode b_Mo_many 33 = .ok (.istore_n 2, 1) := by decide +kernel
theorem d_Mo_many_34 : decode b_Mo_many 34 = .ok (.iinc 3 1, 3) := by decide +kernel
theorem d_Mo_many_37 : decode b_Mo_many 37 = .ok (.goto (-33), 3) := by decide +kernel
theorem d_Mo_many_40 : decode b_Mo_many 40 = .ok (.iload_n 2, 1) := by decide +kernel
theorem d_Mo_many_41 : decode b_Mo_many 41 = .ok (.ireturn, 1) := by decide +kernel
theorem d_Mo_all_0 : decode b_Mo_all 0 = .ok (.iconst 0, 1) := by decide +kernel
theorem d_Mo_all_1 : decode b_Mo_all 1 = .ok (.istore_n 1, 1) := by decide +kernel
theorem d_Mo_all_2 : decode b_Mo_all 2 = .ok (.iconst 0, 1) := by decide +kernel
theorem d_Mo_all_3 : decode b_Mo_all 3 = .ok (.istore_n 2, 1) := by decide +kernel
theorem d_Mo_all_4 : decode b_Mo_all 4 = .ok (.iload_n 2, 1) := by decide +kernel
theorem d_Mo_all_5 : decode b_Mo_all 5 = .ok (.bipush 16, 2) := by decide +kernel
theorem d_Mo_all_7 : decode b_Mo_all 7 = .ok (.if_icmp .ge 17, 3) := by decide +kernel
theorem d_Mo_all_10 : decode b_Mo_all 10 = .ok (.iload_n 1, 1) := by decide +kernel
theorem d_Mo_all_11 : decode b_Mo_all 11 = .ok (.aload_n 0, 1) := by decide +kernel
theorem d_Mo_all_12 : decode b_Mo_all 12 = .ok (.iload_n 2, 1) := by decide +kernel
theorem d_Mo_all_13 : decode b_Mo_all 13 = .ok (.invokevirtual 42, 3) := by decide +kernel
theorem d_Mo_all_16 : decode b_Mo_all 16 = .ok (.iadd, 1) := by decide +kernel
theorem d_Mo_all_17 : decode b_Mo_all 17 = .ok (.istore_n 1, 1) := by decide +kernel
theorem d_Mo_all_18 : decode b_Mo_all 18 = .ok (.iinc 2 1, 3) := by decide +kernel
theorem d_Mo_all_21 : decode b_Mo_all 21 = .ok (.goto (-17), 3) := by decide +kernel
theorem d_Mo_all_24 : decode b_Mo_all 24 = .ok (.iload_n 1, 1) := by decide +kernel
theorem d_Mo_all_25 : decode b_Mo_all 25 = .ok (.ireturn, 1) := by decide +kernel
theorem d_Mo_fresh_0 : decode b_Mo_fresh 0 = .ok (.iconst 0, 1) := by decide +kernel
theorem d_Mo_fresh_1 : decode b_Mo_fresh 1 = .ok (.istore_n 1, 1) := by decide +kernel
theorem d_Mo_fresh_2 : decode b_Mo_fresh 2 = .ok (.aload_n 0, 1) := by decide +kernel
theorem d_Mo_fresh_3 : decode b_Mo_fresh 3 = .ok (.getfield 28, 3) := by decide +kernel
theorem d_Mo_fresh_6 : decode b_Mo_fresh 6 = .ok (.iload_n 1, 1) := by decide +kernel
theorem d_Mo_fresh_7 : decode b_Mo_fresh 7 = .ok (.baload, 1) := by decide +kernel
theorem d_Mo_fresh_8 : decode b_Mo_fresh 8 = .ok (.ifCond .eq 9, 3) := by decide +kernel
theorem d_Mo_fresh_11 : decode b_Mo_fresh 11 = .ok (.iinc 1 1, 3) := by decide +kernel
theorem d_Mo_fresh_14 : decode b_Mo_fresh 14 = .ok (.goto (-12), 3) := by decide +kernel
theorem d_Mo_fresh_17 : decode b_Mo_fresh 17 = .ok (.aload_n 0, 1) := by decide +kernel
theorem d_Mo_fresh_18 : decode b_Mo_fresh 18 = .ok (.getfield 28, 3) := by decide +kernel
theorem d_Mo_fresh_21 : decode b_Mo_fresh 21 = .ok (.iload_n 1, 1) := by decide +kernel
theorem d_Mo_fresh_22 : decode b_Mo_fresh 22 = .ok (.iconst 1, 1) := by decide +kernel
theorem d_Mo_fresh_23 : decode b_Mo_fresh 23 = .ok (.bastore, 1) := by decide +kernel
theorem d_Mo_fresh_24 : decode b_Mo_fresh 24 = .ok (.iconst 0, 1) := by decide +kernel
theorem d_Mo_fresh_25 : decode b_Mo_fresh 25 = .ok (.istore_n 2, 1) := by decide +kernel
theorem d_Mo_fresh_26 : decode b_Mo_fresh 26 = .ok (.iload_n 2, 1) := by decide +kernel
theorem d_Mo_fresh_27 : decode b_Mo_fresh 27 = .ok (.sipush 128, 3) := by decide +kernel
theorem d_Mo_fresh_30 : decode b_Mo_fresh 30 = .ok (.if_icmp .ge 22, 3) := by decide +kernel
theorem d_Mo_fresh_33 : decode b_Mo_fresh 33 = .ok (.aload_n 0, 1) := by decide +kernel
theorem d_Mo_fresh_34 : decode b_Mo_fresh 34 = .ok (.getfield 24, 3) := by decide +kernel
theorem d_Mo_fresh_37 : decode b_Mo_fresh 37 = .ok (.sipush 128, 3) := by decide +kernel
theorem d_Mo_fresh_40 : decode b_Mo_fresh 40 = .ok (.iload_n 1, 1) := by decide +kernel
theorem d_Mo_fresh_41 : decode b_Mo_fresh 41 = .ok (.imul, 1) := by decide +kernel
theorem d_Mo_fresh_42 : decode b_Mo_fresh 42 = .ok (.iload_n 2, 1) := by decide +kernel
theorem d_Mo_fresh_43 : decode b_Mo_fresh 43 = .ok (.iadd, 1) := by decide +kernel
theorem d_Mo_fresh_44 : decode b_Mo_fresh 44 = .ok (.iconst 0, 1) := by decide +kernel
theorem d_Mo_fresh_45 : decode b_Mo_fresh 45 = .ok (.bastore, 1) := by decide +kernel
theorem d_Mo_fresh_46 : decode b_Mo_fresh 46 = .ok (.iinc 2 1, 3) := by decide +kernel
theorem d_Mo_fresh_49 : decode b_Mo_fresh 49 = .ok (.goto (-23), 3) := by decide +kernel
theorem d_Mo_fresh_52 : decode b_Mo_fresh 52 = .ok (.iload_n 1, 1) := by decide +kernel
theorem d_Mo_fresh_53 : decode b_Mo_fresh 53 = .ok (.ireturn, 1) := by decide +kernel
theorem d_Mo_clear_0 : decode b_Mo_clear 0 = .ok (.aload_n 0, 1) := by decide +kernel
theorem d_Mo_clear_1 : decode b_Mo_clear 1 = .ok (.getfield 13, 3) := by decide +kernel
theorem d_Mo_clear_4 : decode b_Mo_clear 4 = .ok (.iload_n 1, 1) := by decide +kernel
theorem d_Mo_clear_5 : decode b_Mo_clear 5 = .ok (.iaload, 1) := by decide +kernel
theorem d_Mo_clear_6 : decode b_Mo_clear 6 = .ok (.ifCond .lt 15, 3) := by decide +kernel
theorem d_Mo_clear_9 : decode b_Mo_clear 9 = .ok (.aload_n 0, 1) := by decide +kernel
theorem d_Mo_clear_10 : decode b_Mo_clear 10 = .ok (.getfield 28, 3) := by decide +kernel
theorem d_Mo_clear_13 : decode b_Mo_clear 13 = .ok (.aload_n 0, 1) := by decide +kernel
theorem d_Mo_clear_14 : decode b_Mo_clear 14 = .ok (.getfield 13, 3) := by decide +kernel
theorem d_Mo_clear_17 : decode b_Mo_clear 17 = .ok (.iload_n 1, 1) := by decide +kernel
theorem d_Mo_clear_18 : decode b_Mo_clear 18 = .ok (.iaload, 1) := by decide +kernel
theorem d_Mo_clear_19 : decode b_Mo_clear 19 = .ok (.iconst 0, 1) := by decide +kernel
theorem d_Mo_clear_20 : decode b_Mo_clear 20 = .ok (.bastore, 1) := by decide +kernel
theorem d_Mo_clear_21 : decode b_Mo_clear 21 = .ok (.aload_n 0, 1) := by decide +kernel
theorem d_Mo_clear_22 : decode b_Mo_clear 22 = .ok (.getfield 13, 3) := by decide +kernel
theorem d_Mo_clear_25 : decode b_Mo_clear 25 = .ok (.iload_n 1, 1) := by decide +kernel
theorem d_Mo_clear_26 : decode b_Mo_clear 26 = .ok (.iconst (-1), 1) := by decide +kernel
theorem d_Mo_clear_27 : decode b_Mo_clear 27 = .ok (.iastore, 1) := by decide +kernel
theorem d_Mo_clear_28 : decode b_Mo_clear 28 = .ok (.return_, 1) := by decide +kernel
theorem d_Mo_make_0 : decode b_Mo_make 0 = .ok (.aload_n 0, 1) := by decide +kernel
theorem d_Mo_make_1 : decode b_Mo_make 1 = .ok (.getfield 38, 3) := by decide +kernel
theorem d_Mo_make_4 : decode b_Mo_make 4 = .ok (.ifCond .eq 6, 3) := by decide +kernel
theorem d_Mo_make_7 : decode b_Mo_make 7 = .ok (.bipush (-2), 2) := by decide +kernel
theorem d_Mo_make_9 : decode b_Mo_make 9 = .ok (.ireturn, 1) := by decide +kernel
theorem d_Mo_make_10 : decode b_Mo_make 10 = .ok (.iload_n 1, 1) := by decide +kernel
theorem d_Mo_make_11 : decode b_Mo_make 11 = .ok (.ifCond .lt 18, 3) := by decide +kernel
theorem d_Mo_make_14 : decode b_Mo_make 14 = .ok (.iload_n 1, 1) := by decide +kernel
theorem d_Mo_make_15 : decode b_Mo_make 15 = .ok (.bipush 16, 2) := by decide +kernel
theorem d_Mo_make_17 : decode b_Mo_make 17 = .ok (.if_icmp .ge 12, 3) := by decide +kernel
theorem d_Mo_make_20 : decode b_Mo_make 20 = .ok (.aload_n 0, 1) := by decide +kernel
theorem d_Mo_make_21 : decode b_Mo_make 21 = .ok (.getfield 7, 3) := by decide +kernel
theorem d_Mo_make_24 : decode b_Mo_make 24 = .ok (.iload_n 1, 1) := by decide +kernel
theorem d_Mo_make_25 : decode b_Mo_make 25 = .ok (.baload, 1) := by decide +kernel
theorem d_Mo_make_26 : decode b_Mo_make 26 = .ok (.ifCond .eq 5, 3) := by decide +kernel
theorem d_Mo_make_29 : decode b_Mo_make 29 = .ok (.iconst (-1), 1) := by decide +kernel
theorem d_Mo_make_30 : decode b_Mo_make 30 = .ok (.ireturn, 1) := by decide +kernel
theorem d_Mo_make_31 : decode b_Mo_make 31 = .ok (.aload_n 0, 1) := by decide +kernel
theorem d_Mo_make_32 : decode b_Mo_make 32 = .ok (.getfield 7, 3) := by decide +kernel
theorem d_Mo_make_35 : decode b_Mo_make 35 = .ok (.iload_n 1, 1) := by decide +kernel
theorem d_Mo_make_36 : decode b_Mo_make 36 = .ok (.iconst 1, 1) := by decide +kernel
theorem d_Mo_make_37 : decode b_Mo_make 37 = .ok (.bastore, 1) := by decide +kernel
theorem d_Mo_make_38 : decode b_Mo_make 38 = .ok (.iconst 0, 1) := by decide +kernel
theorem d_Mo_make_39 : decode b_Mo_make 39 = .ok (.ireturn, 1) := by decide +kernel
theorem d_Mo_snap_0 : decode b_Mo_snap 0 = .ok (.aload_n 0, 1) := by decide +kernel
theorem d_Mo_snap_1 : decode b_Mo_snap 1 = .ok (.getfield 38, 3) := by decide +kernel
theorem d_Mo_snap_4 : decode b_Mo_snap 4 = .ok (.ifCond .eq 6, 3) := by decide +kernel
theorem d_Mo_snap_7 : decode b_Mo_snap 7 = .ok (.bipush (-2), 2) := by decide +kernel
theorem d_Mo_snap_9 : decode b_Mo_snap 9 = .ok (.ireturn, 1) := by decide +kernel
theorem d_Mo_snap_10 : decode b_Mo_snap 10 = .ok (.iload_n 1, 1) := by decide +kernel
theorem d_Mo_snap_11 : decode b_Mo_snap 11 = .ok (.ifCond .lt 26, 3) := by decide +kernel
theorem d_Mo_snap_14 : decode b_Mo_snap 14 = .ok (.iload_n 1, 1) := by decide +kernel
theorem d_Mo_snap_15 : decode b_Mo_snap 15 = .ok (.bipush 16, 2) := by decide +kernel
theorem d_Mo_snap_17 : decode b_Mo_snap 17 = .ok (.if_icmp .ge 20, 3) := by decide +kernel
theorem d_Mo_snap_20 : decode b_Mo_snap 20 = .ok (.aload_n 0, 1) := by decide +kernel
theorem d_Mo_snap_21 : decode b_Mo_snap 21 = .ok (.getfield 7, 3) := by decide +kernel
theorem d_Mo_snap_24 : decode b_Mo_snap 24 = .ok (.iload_n 1, 1) := by decide +kernel
theorem d_Mo_snap_25 : decode b_Mo_snap 25 = .ok (.baload, 1) := by decide +kernel
theorem d_Mo_snap_26 : decode b_Mo_snap 26 = .ok (.ifCond .ne 11, 3) := by decide +kernel
theorem d_Mo_snap_29 : decode b_Mo_snap 29 = .ok (.aload_n 0, 1) := by decide +kernel
theorem d_Mo_snap_30 : decode b_Mo_snap 30 = .ok (.iload_n 2, 1) := by decide +kernel
theorem d_Mo_snap_31 : decode b_Mo_snap 31 = .ok (.invokevirtual 46, 3) := by decide +kernel
theorem d_Mo_snap_34 : decode b_Mo_snap 34 = .ok (.ifCond .ne 5, 3) := by decide +kernel
theorem d_Mo_snap_37 : decode b_Mo_snap 37 = .ok (.iconst (-1), 1) := by decide +kernel
theorem d_Mo_snap_38 : decode b_Mo_snap 38 = .ok (.ireturn, 1) := by decide +kernel
theorem d_Mo_snap_39 : decode b_Mo_snap 39 = .ok (.aload_n 0, 1) := by decide +kernel
theorem d_Mo_snap_40 : decode b_Mo_snap 40 = .ok (.iload_n 2, 1) := by decide +kernel
theorem d_Mo_snap_41 : decode b_Mo_snap 41 = .ok (.invokevirtual 42, 3) := by decide +kernel
theorem d_Mo_snap_44 : decode b_Mo_snap 44 = .ok (.istore_n 3, 1) := by decide +kernel
theorem d_Mo_snap_45 : decode b_Mo_snap 45 = .ok (.aload_n 0, 1) := by decide +kernel
theorem d_Mo_snap_46 : decode b_Mo_snap 46 = .ok (.invokevirtual 50, 3) := by decide +kernel
theorem d_Mo_snap_49 : decode b_Mo_snap 49 = .ok (.iload_n 3, 1) := by decide +kernel
theorem d_Mo_snap_50 : decode b_Mo_snap 50 = .ok (.iadd, 1) := by decide +kernel
theorem d_Mo_snap_51 : decode b_Mo_snap 51 = .ok (.sipush 300, 3) := by decide +kernel
theorem d_Mo_snap_54 : decode b_Mo_snap 54 = .ok (.if_icmp .le 6, 3) := by decide +kernel
theorem d_Mo_snap_57 : decode b_Mo_snap 57 = .ok (.bipush (-3), 2) := by decide +kernel
theorem d_Mo_snap_59 : decode b_Mo_snap 59 = .ok (.ireturn, 1) := by decide +kernel
theorem d_Mo_snap_60 : decode b_Mo_snap 60 = .ok (.aload_n 0, 1) := by decide +kernel
theorem d_Mo_snap_61 : decode b_Mo_snap 61 = .ok (.getfield 7, 3) := by decide +kernel
theorem d_Mo_snap_64 : decode b_Mo_snap 64 = .ok (.iload_n 1, 1) := by decide +kernel
theorem d_Mo_snap_65 : decode b_Mo_snap 65 = .ok (.iconst 1, 1) := by decide +kernel
theorem d_Mo_snap_66 : decode b_Mo_snap 66 = .ok (.bastore, 1) := by decide +kernel
theorem d_Mo_snap_67 : decode b_Mo_snap 67 = .ok (.iconst 0, 1) := by decide +kernel
theorem d_Mo_snap_68 : decode b_Mo_snap 68 = .ok (.istore 4, 2) := by decide +kernel
theorem d_Mo_snap_70 : decode b_Mo_snap 70 = .ok (.iload 4, 2) := by decide +kernel
theorem d_Mo_snap_72 : decode b_Mo_snap 72 = .ok (.sipush 128, 3) := by decide +kernel
theorem d_Mo_snap_75 : decode b_Mo_snap 75 = .ok (.if_icmp .ge 119, 3) := by decide +kernel
theorem d_Mo_snap_78 : decode b_Mo_snap 78 = .ok (.sipush 128, 3) := by decide +kernel
theorem d_Mo_snap_81 : decode b_Mo_snap 81 = .ok (.iload_n 2, 1) := by decide +kernel
theorem d_Mo_snap_82 : decode b_Mo_snap 82 = .ok (.imul, 1) := by decide +kernel
theorem d_Mo_snap_83 : decode b_Mo_snap 83 = .ok (.iload 4, 2) := by decide +kernel
theorem d_Mo_snap_85 : decode b_Mo_snap 85 = .ok (.iadd, 1) := by decide +kernel
theorem d_Mo_snap_86 : decode b_Mo_snap 86 = .ok (.istore 5, 2) := by decide +kernel
theorem d_Mo_snap_88 : decode b_Mo_snap 88 = .ok (.sipush 128, 3) := by decide +kernel
theorem d_Mo_snap_91 : decode b_Mo_snap 91 = .ok (.iload_n 1, 1) := by decide +kernel
theorem d_Mo_snap_92 : decode b_Mo_snap 92 = .ok (.imul, 1) := by decide +kernel
theorem d_Mo_snap_93 : decode b_Mo_snap 93 = .ok (.iload 4, 2) := by decide +kernel
theorem d_Mo_snap_95 : decode b_Mo_snap 95 = .ok (.iadd, 1) := by decide +kernel
theorem d_Mo_snap_96 : decode b_Mo_snap 96 = .ok (.istore 6, 2) := by decide +kernel
theorem d_Mo_snap_98 : decode b_Mo_snap 98 = .ok (.aload_n 0, 1) := by decide +kernel
theorem d_Mo_snap_99 : decode b_Mo_snap 99 = .ok (.getfield 13, 3) := by decide +kernel
theorem d_Mo_snap_102 : decode b_Mo_snap 102 = .ok (.iload 5, 2) := by decide +kernel
theorem d_Mo_snap_104 : decode b_Mo_snap 104 = .ok (.iaload, 1) := by decide +kernel
theorem d_Mo_snap_105 : decode b_Mo_snap 105 = .ok (.ifCond .lt 83, 3) := by decide +kernel
theorem d_Mo_snap_108 : decode b_Mo_snap 108 = .ok (.aload_n 0, 1) := by decide +kernel
theorem d_Mo_snap_109 : decode b_Mo_snap 109 = .ok (.getfield 13, 3) := by decide +kernel
theorem d_Mo_snap_112 : decode b_Mo_snap 112 = .ok (.iload 6, 2) := by decide +kernel
theorem d_Mo_snap_114 : decode b_Mo_snap 114 = .ok (.aload_n 0, 1) := by decide +kernel
theorem d_Mo_snap_115 : decode b_Mo_snap 115 = .ok (.invokevirtual 54, 3) := by decide +kernel
theorem d_Mo_snap_118 : decode b_Mo_snap 118 = .ok (.iastore, 1) := by decide +kernel
theorem d_Mo_snap_119 : decode b_Mo_snap 119 = .ok (.aload_n 0, 1) := by decide +kernel
theorem d_Mo_snap_120 : decode b_Mo_snap 120 = .ok (.getfield 17, 3) := by decide +kernel
theorem d_Mo_snap_123 : decode b_Mo_snap 123 = .ok (.iload 6, 2) := by decide +kernel
theorem d_Mo_snap_125 : decode b_Mo_snap 125 = .ok (.aload_n 0, 1) := by decide +kernel
theorem d_Mo_snap_126 : decode b_Mo_snap 126 = .ok (.getfield 17, 3) := by decide +kernel
theorem d_Mo_snap_129 : decode b_Mo_snap 129 = .ok (.iload 5, 2) := by decide +kernel
theorem d_Mo_snap_131 : decode b_Mo_snap 131 = .ok (.iaload, 1) := by decide +kernel
theorem d_Mo_snap_132 : decode b_Mo_snap 132 = .ok (.iastore, 1) := by decide +kernel
theorem d_Mo_snap_133 : decode b_Mo_snap 133 = .ok (.iconst 0, 1) := by decide +kernel
theorem d_Mo_snap_134 : decode b_Mo_snap 134 = .ok (.istore 7, 2) := by decide +kernel
theorem d_Mo_snap_136 : decode b_Mo_snap 136 = .ok (.iload 7, 2) := by decide +kernel
theorem d_Mo_snap_138 : decode b_Mo_snap 138 = .ok (.sipush 128, 3) := by decide +kernel
theorem d_Mo_snap_141 : decode b_Mo_snap 141 = .ok (.if_icmp .ge 47, 3) := by decide +kernel
theorem d_Mo_snap_144 : decode b_Mo_snap 144 = .ok (.aload_n 0, 1) := by decide +kernel
theorem d_Mo_snap_145 : decode b_Mo_snap 145 = .ok (.getfield 24, 3) := by decide +kernel
theorem d_Mo_snap_148 : decode b_Mo_snap 148 = .ok (.sipush 128, 3) := by decide +kernel
theorem d_Mo_snap_151 : decode b_Mo_snap 151 = .ok (.aload_n 0, 1) := by decide +kernel
theorem d_Mo_snap_152 : decode b_Mo_snap 152 = .ok (.getfield 13, 3) := by decide +kernel
theorem d_Mo_snap_155 : decode b_Mo_snap 155 = .ok (.iload 6, 2) := by decide +kernel
theorem d_Mo_snap_157 : decode b_Mo_snap 157 = .ok (.iaload, 1) := by decide +kernel
theorem d_Mo_snap_158 : decode b_Mo_snap 158 = .ok (.imul, 1) := by decide +kernel
theorem d_Mo_snap_159 : decode b_Mo_snap 159 = .ok (.iload 7, 2) := by decide +kernel
theorem d_Mo_snap_161 : decode b_Mo_snap 161 = .ok (.iadd, 1) := by decide +kernel
theorem d_Mo_snap_162 : decode b_Mo_snap 162 = .ok (.aload_n 0, 1) := by decide +kernel
theorem d_Mo_snap_163 : decode b_Mo_snap 163 = .ok (.getfield 24, 3) := by decide +kernel
theorem d_Mo_snap_166 : decode b_Mo_snap 166 = .ok (.sipush 128, 3) := by decide +kernel
theorem d_Mo_snap_169 : decode b_Mo_snap 169 = .ok (.aload_n 0, 1) := by decide +kernel
theorem d_Mo_snap_170 : decode b_Mo_snap 170 = .ok (.getfield 13, 3) := by decide +kernel
theorem d_Mo_snap_173 : decode b_Mo_snap 173 = .ok (.iload 5, 2) := by decide +kernel
theorem d_Mo_snap_175 : decode b_Mo_snap 175 = .ok (.iaload, 1) := by decide +kernel
theorem d_Mo_snap_176 : decode b_Mo_snap 176 = .ok (.imul, 1) := by decide +kernel
theorem d_Mo_snap_177 : decode b_Mo_snap 177 = .ok (.iload 7, 2) := by decide +kernel
theorem d_Mo_snap_179 : decode b_Mo_snap 179 = .ok (.iadd, 1) := by decide +kernel
theorem d_Mo_snap_180 : decode b_Mo_snap 180 = .ok (.baload, 1) := by decide +kernel
theorem d_Mo_snap_181 : decode b_Mo_snap 181 = .ok (.bastore, 1) := by decide +kernel
theorem d_Mo_snap_182 : decode b_Mo_snap 182 = .ok (.iinc 7 1, 3) := by decide +kernel
theorem d_Mo_snap_185 : decode b_Mo_snap 185 = .ok (.goto (-49), 3) := by decide +kernel
theorem d_Mo_snap_188 : decode b_Mo_snap 188 = .ok (.iinc 4 1, 3) := by decide +kernel
theorem d_Mo_snap_191 : decode b_Mo_snap 191 = .ok (.goto (-121), 3) := by decide +kernel
theorem d_Mo_snap_194 : decode b_Mo_snap 194 = .ok (.iload_n 3, 1) := by decide +kernel
theorem d_Mo_snap_195 : decode b_Mo_snap 195 = .ok (.ireturn, 1) := by decide +kernel
theorem d_Mo_remove_0 : decode b_Mo_remove 0 = .ok (.aload_n 0, 1) := by decide +kernel
theorem d_Mo_remove_1 : decode b_Mo_remove 1 = .ok (.getfield 38, 3) := by decide +kernel
theorem d_Mo_remove_4 : decode b_Mo_remove 4 = .ok (.ifCond .eq 6, 3) := by decide +kernel
theorem d_Mo_remove_7 : decode b_Mo_remove 7 = .ok (.bipush (-2), 2) := by decide +kernel
theorem d_Mo_remove_9 : decode b_Mo_remove 9 = .ok (.ireturn, 1) := by decide +kernel
theorem d_Mo_remove_10 : decode b_Mo_remove 10 = .ok (.aload_n 0, 1) := by decide +kernel
theorem d_Mo_remove_11 : decode b_Mo_remove 11 = .ok (.iload_n 1, 1) := by decide +kernel
theorem d_Mo_remove_12 : decode b_Mo_remove 12 = .ok (.invokevirtual 46, 3) := by decide +kernel
theorem d_Mo_remove_15 : decode b_Mo_remove 15 = .ok (.ifCond .ne 5, 3) := by decide +kernel
theorem d_Mo_remove_18 : decode b_Mo_remove 18 = .ok (.iconst (-1), 1) := by decide +kernel
theorem d_Mo_remove_19 : decode b_Mo_remove 19 = .ok (.ireturn, 1) := by decide +kernel
theorem d_Mo_remove_20 : decode b_Mo_remove 20 = .ok (.aload_n 0, 1) := by decide +kernel
theorem d_Mo_remove_21 : decode b_Mo_remove 21 = .ok (.iload_n 1, 1) := by decide +kernel
theorem d_Mo_remove_22 : decode b_Mo_remove 22 = .ok (.invokevirtual 42, 3) := by decide +kernel
theorem d_Mo_remove_25 : decode b_Mo_remove 25 = .ok (.istore_n 2, 1) := by decide +kernel
theorem d_Mo_remove_26 : decode b_Mo_remove 26 = .ok (.iconst 0, 1) := by decide +kernel
theorem d_Mo_remove_27 : decode b_Mo_remove 27 = .ok (.istore_n 3, 1) := by decide +kernel
theorem d_Mo_remove_28 : decode b_Mo_remove 28 = .ok (.iload_n 3, 1) := by decide +kernel
theorem d_Mo_remove_29 : decode b_Mo_remove 29 = .ok (.sipush 128, 3) := by decide +kernel
theorem d_Mo_remove_32 : decode b_Mo_remove 32 = .ok (.if_icmp .ge 20, 3) := by decide +kernel
theorem d_Mo_remove_35 : decode b_Mo_remove 35 = .ok (.aload_n 0, 1) := by decide +kernel
theorem d_Mo_remove_36 : decode b_Mo_remove 36 = .ok (.sipush 128, 3) := by decide +kernel
theorem d_Mo_remove_39 : decode b_Mo_remove 39 = .ok (.iload_n 1, 1) := by decide +kernel
theorem d_Mo_remove_40 : decode b_Mo_remove 40 = .ok (.imul, 1) := by decide +kernel
theorem d_Mo_remove_41 : decode b_Mo_remove 41 = .ok (.iload_n 3, 1) := by decide +kernel
theorem d_Mo_remove_42 : decode b_Mo_remove 42 = .ok (.iadd, 1) := by decide +kernel
theorem d_Mo_remove_43 : decode b_Mo_remove 43 = .ok (.invokevirtual 57, 3) := by decide +kernel
theorem d_Mo_remove_46 : decode b_Mo_remove 46 = .ok (.iinc 3 1, 3) := by decide +kernel
theorem d_Mo_remove_49 : decode b_Mo_remove 49 = .ok (.goto (-21), 3) := by decide +kernel
theorem d_Mo_remove_52 : decode b_Mo_remove 52 = .ok (.aload_n 0, 1) := by decide +kernel
theorem d_Mo_remove_53 : decode b_Mo_remove 53 = .ok (.getfield 7, 3) := by decide +kernel
theorem d_Mo_remove_56 : decode b_Mo_remove 56 = .ok (.iload_n 1, 1) := by decide +kernel
theorem d_Mo_remove_57 : decode b_Mo_remove 57 = .ok (.iconst 0, 1) := by decide +kernel
theorem d_Mo_remove_58 : decode b_Mo_remove 58 = .ok (.bastore, 1) := by decide +kernel
theorem d_Mo_remove_59 : decode b_Mo_remove 59 = .ok (.iload_n 2, 1) := by decide +kernel
theorem d_Mo_remove_60 : decode b_Mo_remove 60 = .ok (.ireturn, 1) := by decide +kernel
theorem d_Mo_write_0 : decode b_Mo_write 0 = .ok (.aload_n 0, 1) := by decide +kernel
theorem d_Mo_write_1 : decode b_Mo_write 1 = .ok (.getfield 38, 3) := by decide +kernel
theorem d_Mo_write_4 : decode b_Mo_write 4 = .ok (.ifCond .eq 6, 3) := by decide +kernel
theorem d_Mo_write_7 : decode b_Mo_write 7 = .ok (.bipush (-2), 2) := by decide +kernel
theorem d_Mo_write_9 : decode b_Mo_write 9 = .ok (.ireturn, 1) := by decide +kernel
theorem d_Mo_write_10 : decode b_Mo_write 10 = .ok (.aload_n 0, 1) := by decide +kernel
theorem d_Mo_write_11 : decode b_Mo_write 11 = .ok (.iload_n 1, 1) := by decide +kernel
theorem d_Mo_write_12 : decode b_Mo_write 12 = .ok (.invokevirtual 46, 3) := by decide +kernel
theorem d_Mo_write_15 : decode b_Mo_write 15 = .ok (.ifCond .eq 51, 3) := by decide +kernel
theorem d_Mo_write_18 : decode b_Mo_write 18 = .ok (.iload_n 2, 1) := by decide +kernel
theorem d_Mo_write_19 : decode b_Mo_write 19 = .ok (.invokestatic 61, 3) := by decide +kernel
theorem d_Mo_write_22 : decode b_Mo_write 22 = .ok (.ifCond .eq 44, 3) := by decide +kernel
theorem d_Mo_write_25 : decode b_Mo_write 25 = .ok (.iload 4, 2) := by decide +kernel
theorem d_Mo_write_27 : decode b_Mo_write 27 = .ok (.iconst 1, 1) := by decide +kernel
theorem d_Mo_write_28 : decode b_Mo_write 28 = .ok (.if_icmp .lt 38, 3) := by decide +kernel
theorem d_Mo_write_31 : decode b_Mo_write 31 = .ok (.iload 4, 2) := by decide +kernel
theorem d_Mo_write_33 : decode b_Mo_write 33 = .ok (.sipush 128, 3) := by decide +kernel
theorem d_Mo_write_36 : decode b_Mo_write 36 = .ok (.if_icmp .gt 30, 3) := by decide +kernel
theorem d_Mo_write_39 : decode b_Mo_write 39 = .ok (.iload_n 3, 1) := by decide +kernel
theorem d_Mo_write_40 : decode b_Mo_write 40 = .ok (.ifCond .lt 26, 3) := by decide +kernel
theorem d_Mo_write_43 : decode b_Mo_write 43 = .ok (.iload_n 3, 1) := by decide +kernel
theorem d_Mo_write_44 : decode b_Mo_write 44 = .ok (.sipush 128, 3) := by decide +kernel
theorem d_Mo_write_47 : decode b_Mo_write 47 = .ok (.iload 4, 2) := by decide +kernel
theorem d_Mo_write_49 : decode b_Mo_write 49 = .ok (.isub, 1) := by decide +kernel
theorem d_Mo_write_50 : decode b_Mo_write 50 = .ok (.if_icmp .gt 16, 3) := by decide +kernel
theorem d_Mo_write_53 : decode b_Mo_write 53 = .ok (.iload 5, 2) := by decide +kernel
theorem d_Mo_write_55 : decode b_Mo_write 55 = .ok (.ifCond .lt 11, 3) := by decide +kernel
theorem d_Mo_write_58 : decode b_Mo_write 58 = .ok (.iload 5, 2) := by decide +kernel
theorem d_Mo_write_60 : decode b_Mo_write 60 = .ok (.sipush 255, 3) := by decide +kernel
theorem d_Mo_write_63 : decode b_Mo_write 63 = .ok (.if_icmp .le 5, 3) := by decide +kernel
theorem d_Mo_write_66 : decode b_Mo_write 66 = .ok (.iconst (-1), 1) := by decide +kernel
theorem d_Mo_write_67 : decode b_Mo_write 67 = .ok (.ireturn, 1) := by decide +kernel
theorem d_Mo_write_68 : decode b_Mo_write 68 = .ok (.sipush 128, 3) := by decide +kernel
theorem d_Mo_write_71 : decode b_Mo_write 71 = .ok (.iload_n 1, 1) := by decide +kernel
theorem d_Mo_write_72 : decode b_Mo_write 72 = .ok (.imul, 1) := by decide +kernel
theorem d_Mo_write_73 : decode b_Mo_write 73 = .ok (.iload_n 2, 1) := by decide +kernel
theorem d_Mo_write_74 : decode b_Mo_write 74 = .ok (.iadd, 1) := by decide +kernel
theorem d_Mo_write_75 : decode b_Mo_write 75 = .ok (.istore 6, 2) := by decide +kernel
theorem d_Mo_write_77 : decode b_Mo_write 77 = .ok (.aload_n 0, 1) := by decide +kernel
theorem d_Mo_write_78 : decode b_Mo_write 78 = .ok (.getfield 13, 3) := by decide +kernel
theorem d_Mo_write_81 : decode b_Mo_write 81 = .ok (.iload 6, 2) := by decide +kernel
theorem d_Mo_write_83 : decode b_Mo_write 83 = .ok (.iaload, 1) := by decide +kernel
theorem d_Mo_write_84 : decode b_Mo_write 84 = .ok (.ifCond .ge 16, 3) := by decide +kernel
theorem d_Mo_write_87 : decode b_Mo_write 87 = .ok (.aload_n 0, 1) := by decide +kernel
theorem d_Mo_write_88 : decode b_Mo_write 88 = .ok (.invokevirtual 50, 3) := by decide +kernel
theorem d_Mo_write_91 : decode b_Mo_write 91 = .ok (.sipush 300, 3) := by decide +kernel
theorem d_Mo_write_94 : decode b_Mo_write 94 = .ok (.if_icmp .ne 6, 3) := by decide +kernel
theorem d_Mo_write_97 : decode b_Mo_write 97 = .ok (.bipush (-3), 2) := by decide +kernel
theorem d_Mo_write_99 : decode b_Mo_write 99 = .ok (.ireturn, 1) := by decide +kernel
theorem d_Mo_write_100 : decode b_Mo_write 100 = .ok (.aload_n 0, 1) := by decide +kernel
theorem d_Mo_write_101 : decode b_Mo_write 101 = .ok (.getfield 13, 3) := by decide +kernel
theorem d_Mo_write_104 : decode b_Mo_write 104 = .ok (.iload 6, 2) := by decide +kernel
theorem d_Mo_write_106 : decode b_Mo_write 106 = .ok (.iaload, 1) := by decide +kernel
theorem d_Mo_write_107 : decode b_Mo_write 107 = .ok (.ifCond .ge 14, 3) := by decide +kernel
theorem d_Mo_write_110 : decode b_Mo_write 110 = .ok (.aload_n 0, 1) := by decide +kernel
theorem d_Mo_write_111 : decode b_Mo_write 111 = .ok (.getfield 13, 3) := by decide +kernel
theorem d_Mo_write_114 : decode b_Mo_write 114 = .ok (.iload 6, 2) := by decide +kernel
theorem d_Mo_write_116 : decode b_Mo_write 116 = .ok (.aload_n 0, 1) := by decide +kernel
theorem d_Mo_write_117 : decode b_Mo_write 117 = .ok (.invokevirtual 54, 3) := by decide +kernel
theorem d_Mo_write_120 : decode b_Mo_write 120 = .ok (.iastore, 1) := by decide +kernel
theorem d_Mo_write_121 : decode b_Mo_write 121 = .ok (.aload_n 0, 1) := by decide +kernel
theorem d_Mo_write_122 : decode b_Mo_write 122 = .ok (.dup, 1) := by decide +kernel
theorem d_Mo_write_123 : decode b_Mo_write 123 = .ok (.getfield 64, 3) := by decide +kernel
theorem d_Mo_write_126 : decode b_Mo_write 126 = .ok (.iconst 1, 1) := by decide +kernel
theorem d_Mo_write_127 : decode b_Mo_write 127 = .ok (.iadd, 1) := by decide +kernel
theorem d_Mo_write_128 : decode b_Mo_write 128 = .ok (.putfield 64, 3) := by decide +kernel
theorem d_Mo_write_131 : decode b_Mo_write 131 = .ok (.aload_n 0, 1) := by decide +kernel
theorem d_Mo_write_132 : decode b_Mo_write 132 = .ok (.getfield 17, 3) := by decide +kernel
theorem d_Mo_write_135 : decode b_Mo_write 135 = .ok (.iload 6, 2) := by decide +kernel
theorem d_Mo_write_137 : decode b_Mo_write 137 = .ok (.aload_n 0, 1) := by decide +kernel
theorem d_Mo_write_138 : decode b_Mo_write 138 = .ok (.getfield 64, 3) := by decide +kernel
theorem d_Mo_write_141 : decode b_Mo_write 141 = .ok (.iastore, 1) := by decide +kernel
theorem d_Mo_write_142 : decode b_Mo_write 142 = .ok (.iload_n 3, 1) := by decide +kernel
theorem d_Mo_write_143 : decode b_Mo_write 143 = .ok (.istore 7, 2) := by decide +kernel
theorem d_Mo_write_145 : decode b_Mo_write 145 = .ok (.iload 7, 2) := by decide +kernel
theorem d_Mo_write_147 : decode b_Mo_write 147 = .ok (.iload_n 3, 1) := by decide +kernel
theorem d_Mo_write_148 : decode b_Mo_write 148 = .ok (.iload 4, 2) := by decide +kernel
theorem d_Mo_write_150 : decode b_Mo_write 150 = .ok (.iadd, 1) := by decide +kernel
theorem d_Mo_write_151 : decode b_Mo_write 151 = .ok (.if_icmp .ge 31, 3) := by decide +kernel
theorem d_Mo_write_154 : decode b_Mo_write 154 = .ok (.aload_n 0, 1) := by decide +kernel
theorem d_Mo_write_155 : decode b_Mo_write 155 = .ok (.getfield 24, 3) := by decide +kernel
theorem d_Mo_write_158 : decode b_Mo_write 158 = .ok (.sipush 128, 3) := by decide +kernel
theorem d_Mo_write_161 : decode b_Mo_write 161 = .ok (.aload_n 0, 1) := by decide +kernel
theorem d_Mo_write_162 : decode b_Mo_write 162 = .ok (.getfield 13, 3) := by decide +kernel
theorem d_Mo_write_165 : decode b_Mo_write 165 = .ok (.iload 6, 2) := by decide +kernel
theorem d_Mo_write_167 : decode b_Mo_write 167 = .ok (.iaload, 1) := by decide +kernel
theorem d_Mo_write_168 : decode b_Mo_write 168 = .ok (.imul, 1) := by decide +kernel
theorem d_Mo_write_169 : decode b_Mo_write 169 = .ok (.iload 7, 2) := by decide +kernel
theorem d_Mo_write_171 : decode b_Mo_write 171 = .ok (.iadd, 1) := by decide +kernel
theorem d_Mo_write_172 : decode b_Mo_write 172 = .ok (.iload 5, 2) := by decide +kernel
theorem d_Mo_write_174 : decode b_Mo_write 174 = .ok (.i2b, 1) := by decide +kernel
theorem d_Mo_write_175 : decode b_Mo_write 175 = .ok (.bastore, 1) := by decide +kernel
theorem d_Mo_write_176 : decode b_Mo_write 176 = .ok (.iinc 7 1, 3) := by decide +kernel
theorem d_Mo_write_179 : decode b_Mo_write 179 = .ok (.goto (-34), 3) := by decide +kernel
theorem d_Mo_write_182 : decode b_Mo_write 182 = .ok (.aload_n 0, 1) := by decide +kernel
theorem d_Mo_write_183 : decode b_Mo_write 183 = .ok (.iload_n 1, 1) := by decide +kernel
theorem d_Mo_write_184 : decode b_Mo_write 184 = .ok (.invokevirtual 42, 3) := by decide +kernel
theorem d_Mo_write_187 : decode b_Mo_write 187 = .ok (.ireturn, 1) := by decide +kernel
theorem d_Mo_read_0 : decode b_Mo_read 0 = .ok (.aload_n 0, 1) := by decide +kernel
theorem d_Mo_read_1 : decode b_Mo_read 1 = .ok (.getfield 38, 3) := by decide +kernel
theorem d_Mo_read_4 : decode b_Mo_read 4 = .ok (.ifCond .eq 6, 3) := by decide +kernel
theorem d_Mo_read_7 : decode b_Mo_read 7 = .ok (.bipush (-2), 2) := by decide +kernel
theorem d_Mo_read_9 : decode b_Mo_read 9 = .ok (.ireturn, 1) := by decide +kernel
theorem d_Mo_read_10 : decode b_Mo_read 10 = .ok (.aload_n 0, 1) := by decide +kernel
theorem d_Mo_read_11 : decode b_Mo_read 11 = .ok (.iload_n 1, 1) := by decide +kernel
theorem d_Mo_read_12 : decode b_Mo_read 12 = .ok (.invokevirtual 46, 3) := by decide +kernel
theorem d_Mo_read_15 : decode b_Mo_read 15 = .ok (.ifCond .eq 21, 3) := by decide +kernel
theorem d_Mo_read_18 : decode b_Mo_read 18 = .ok (.iload_n 2, 1) := by decide +kernel
theorem d_Mo_read_19 : decode b_Mo_read 19 = .ok (.invokestatic 61, 3) := by decide +kernel
theorem d_Mo_read_22 : decode b_Mo_read 22 = .ok (.ifCond .eq 14, 3) := by decide +kernel
theorem d_Mo_read_25 : decode b_Mo_read 25 = .ok (.iload_n 3, 1) := by decide +kernel
theorem d_Mo_read_26 : decode b_Mo_read 26 = .ok (.ifCond .lt 10, 3) := by decide +kernel
theorem d_Mo_read_29 : decode b_Mo_read 29 = .ok (.iload_n 3, 1) := by decide +kernel
theorem d_Mo_read_30 : decode b_Mo_read 30 = .ok (.sipush 128, 3) := by decide +kernel
theorem d_Mo_read_33 : decode b_Mo_read 33 = .ok (.if_icmp .lt 5, 3) := by decide +kernel
theorem d_Mo_read_36 : decode b_Mo_read 36 = .ok (.iconst (-1), 1) := by decide +kernel
theorem d_Mo_read_37 : decode b_Mo_read 37 = .ok (.ireturn, 1) := by decide +kernel
theorem d_Mo_read_38 : decode b_Mo_read 38 = .ok (.aload_n 0, 1) := by decide +kernel
theorem d_Mo_read_39 : decode b_Mo_read 39 = .ok (.getfield 13, 3) := by decide +kernel
theorem d_Mo_read_42 : decode b_Mo_read 42 = .ok (.sipush 128, 3) := by decide +kernel
theorem d_Mo_read_45 : decode b_Mo_read 45 = .ok (.iload_n 1, 1) := by decide +kernel
theorem d_Mo_read_46 : decode b_Mo_read 46 = .ok (.imul, 1) := by decide +kernel
theorem d_Mo_read_47 : decode b_Mo_read 47 = .ok (.iload_n 2, 1) := by decide +kernel
theorem d_Mo_read_48 : decode b_Mo_read 48 = .ok (.iadd, 1) := by decide +kernel
theorem d_Mo_read_49 : decode b_Mo_read 49 = .ok (.iaload, 1) := by decide +kernel
theorem d_Mo_read_50 : decode b_Mo_read 50 = .ok (.istore 4, 2) := by decide +kernel
theorem d_Mo_read_52 : decode b_Mo_read 52 = .ok (.iload 4, 2) := by decide +kernel
theorem d_Mo_read_54 : decode b_Mo_read 54 = .ok (.ifCond .ge 7, 3) := by decide +kernel
theorem d_Mo_read_57 : decode b_Mo_read 57 = .ok (.iconst 0, 1) := by decide +kernel
theorem d_Mo_read_58 : decode b_Mo_read 58 = .ok (.goto 20, 3) := by decide +kernel
theorem d_Mo_read_61 : decode b_Mo_read 61 = .ok (.aload_n 0, 1) := by decide +kernel
theorem d_Mo_read_62 : decode b_Mo_read 62 = .ok (.getfield 24, 3) := by decide +kernel
theorem d_Mo_read_65 : decode b_Mo_read 65 = .ok (.sipush 128, 3) := by decide +kernel
theorem d_Mo_read_68 : decode b_Mo_read 68 = .ok (.iload 4, 2) := by decide +kernel
theorem d_Mo_read_70 : decode b_Mo_read 70 = .ok (.imul, 1) := by decide +kernel
theorem d_Mo_read_71 : decode b_Mo_read 71 = .ok (.iload_n 3, 1) := by decide +kernel
theorem d_Mo_read_72 : decode b_Mo_read 72 = .ok (.iadd, 1) := by decide +kernel
theorem d_Mo_read_73 : decode b_Mo_read 73 = .ok (.baload, 1) := by decide +kernel
theorem d_Mo_read_74 : decode b_Mo_read 74 = .ok (.sipush 255, 3) := by decide +kernel
theorem d_Mo_read_77 : decode b_Mo_read 77 = .ok (.iand, 1) := by decide +kernel
theorem d_Mo_read_78 : decode b_Mo_read 78 = .ok (.ireturn, 1) := by decide +kernel
theorem d_Mo_trim_0 : decode b_Mo_trim 0 = .ok (.aload_n 0, 1) := by decide +kernel
theorem d_Mo_trim_1 : decode b_Mo_trim 1 = .ok (.getfield 38, 3) := by decide +kernel
theorem d_Mo_trim_4 : decode b_Mo_trim 4 = .ok (.ifCond .eq 6, 3) := by decide +kernel
theorem d_Mo_trim_7 : decode b_Mo_trim 7 = .ok (.bipush (-2), 2) := by decide +kernel
theorem d_Mo_trim_9 : decode b_Mo_trim 9 = .ok (.ireturn, 1) := by decide +kernel
theorem d_Mo_trim_10 : decode b_Mo_trim 10 = .ok (.aload_n 0, 1) := by decide +kernel
theorem d_Mo_trim_11 : decode b_Mo_trim 11 = .ok (.iload_n 1, 1) := by decide +kernel
theorem d_Mo_trim_12 : decode b_Mo_trim 12 = .ok (.invokevirtual 46, 3) := by decide +kernel
theorem d_Mo_trim_15 : decode b_Mo_trim 15 = .ok (.ifCond .eq 22, 3) := by decide +kernel
theorem d_Mo_trim_18 : decode b_Mo_trim 18 = .ok (.iload_n 2, 1) := by decide +kernel
theorem d_Mo_trim_19 : decode b_Mo_trim 19 = .ok (.invokestatic 61, 3) := by decide +kernel
theorem d_Mo_trim_22 : decode b_Mo_trim 22 = .ok (.ifCond .eq 15, 3) := by decide +kernel
theorem d_Mo_trim_25 : decode b_Mo_trim 25 = .ok (.iload_n 3, 1) := by decide +kernel
theorem d_Mo_trim_26 : decode b_Mo_trim 26 = .ok (.invokestatic 61, 3) := by decide +kernel
theorem d_Mo_trim_29 : decode b_Mo_trim 29 = .ok (.ifCond .eq 8, 3) := by decide +kernel
theorem d_Mo_trim_32 : decode b_Mo_trim 32 = .ok (.iload_n 3, 1) := by decide +kernel
theorem d_Mo_trim_33 : decode b_Mo_trim 33 = .ok (.iload_n 2, 1) := by decide +kernel
theorem d_Mo_trim_34 : decode b_Mo_trim 34 = .ok (.if_icmp .ge 5, 3) := by decide +kernel
theorem d_Mo_trim_37 : decode b_Mo_trim 37 = .ok (.iconst (-1), 1) := by decide +kernel
theorem d_Mo_trim_38 : decode b_Mo_trim 38 = .ok (.ireturn, 1) := by decide +kernel
theorem d_Mo_trim_39 : decode b_Mo_trim 39 = .ok (.aload_n 0, 1) := by decide +kernel
theorem d_Mo_trim_40 : decode b_Mo_trim 40 = .ok (.iload_n 1, 1) := by decide +kernel
theorem d_Mo_trim_41 : decode b_Mo_trim 41 = .ok (.invokevirtual 42, 3) := by decide +kernel
theorem d_Mo_trim_44 : decode b_Mo_trim 44 = .ok (.istore 4, 2) := by decide +kernel
theorem d_Mo_trim_46 : decode b_Mo_trim 46 = .ok (.iload_n 2, 1) := by decide +kernel
theorem d_Mo_trim_47 : decode b_Mo_trim 47 = .ok (.istore 5, 2) := by decide +kernel
theorem d_Mo_trim_49 : decode b_Mo_trim 49 = .ok (.iload 5, 2) := by decide +kernel
theorem d_Mo_trim_51 : decode b_Mo_trim 51 = .ok (.iload_n 3, 1) := by decide +kernel
theorem d_Mo_trim_52 : decode b_Mo_trim 52 = .ok (.if_icmp .gt 21, 3) := by decide +kernel
theorem d_Mo_trim_55 : decode b_Mo_trim 55 = .ok (.aload_n 0, 1) := by decide +kernel
theorem d_Mo_trim_56 : decode b_Mo_trim 56 = .ok (.sipush 128, 3) := by decide +kernel
theorem d_Mo_trim_59 : decode b_Mo_trim 59 = .ok (.iload_n 1, 1) := by decide +kernel
theorem d_Mo_trim_60 : decode b_Mo_trim 60 = .ok (.imul, 1) := by decide +kernel
theorem d_Mo_trim_61 : decode b_Mo_trim 61 = .ok (.iload 5, 2) := by decide +kernel
theorem d_Mo_trim_63 : decode b_Mo_trim 63 = .ok (.iadd, 1) := by decide +kernel
theorem d_Mo_trim_64 : decode b_Mo_trim 64 = .ok (.invokevirtual 57, 3) := by decide +kernel
theorem d_Mo_trim_67 : decode b_Mo_trim 67 = .ok (.iinc 5 1, 3) := by decide +kernel
theorem d_Mo_trim_70 : decode b_Mo_trim 70 = .ok (.goto (-21), 3) := by decide +kernel
theorem d_Mo_trim_73 : decode b_Mo_trim 73 = .ok (.iload 4, 2) := by decide +kernel
theorem d_Mo_trim_75 : decode b_Mo_trim 75 = .ok (.aload_n 0, 1) := by decide +kernel
theorem d_Mo_trim_76 : decode b_Mo_trim 76 = .ok (.iload_n 1, 1) := by decide +kernel
theorem d_Mo_trim_77 : decode b_Mo_trim 77 = .ok (.invokevirtual 42, 3) := by decide +kernel
theorem d_Mo_trim_80 : decode b_Mo_trim 80 = .ok (.isub, 1) := by decide +kernel
theorem d_Mo_trim_81 : decode b_Mo_trim 81 = .ok (.ireturn, 1) := by decide +kernel
theorem d_Mo_pieces_0 : decode b_Mo_pieces 0 = .ok (.aload_n 0, 1) := by decide +kernel
theorem d_Mo_pieces_1 : decode b_Mo_pieces 1 = .ok (.getfield 38, 3) := by decide +kernel
theorem d_Mo_pieces_4 : decode b_Mo_pieces 4 = .ok (.ifCond .eq 6, 3) := by decide +kernel
theorem d_Mo_pieces_7 : decode b_Mo_pieces 7 = .ok (.bipush (-2), 2) := by decide +kernel
theorem d_Mo_pieces_9 : decode b_Mo_pieces 9 = .ok (.ireturn, 1) := by decide +kernel
theorem d_Mo_pieces_10 : decode b_Mo_pieces 10 = .ok (.iload_n 1, 1) := by decide +kernel
theorem d_Mo_pieces_11 : decode b_Mo_pieces 11 = .ok (.iconst (-1), 1) := by decide +kernel
theorem d_Mo_pieces_12 : decode b_Mo_pieces 12 = .ok (.if_icmp .ne 8, 3) := by decide +kernel
theorem d_Mo_pieces_15 : decode b_Mo_pieces 15 = .ok (.aload_n 0, 1) := by decide +kernel
theorem d_Mo_pieces_16 : decode b_Mo_pieces 16 = .ok (.invokevirtual 50, 3) := by decide +kernel
theorem d_Mo_pieces_19 : decode b_Mo_pieces 19 = .ok (.ireturn, 1) := by decide +kernel
theorem d_Mo_pieces_20 : decode b_Mo_pieces 20 = .ok (.aload_n 0, 1) := by decide +kernel
theorem d_Mo_pieces_21 : decode b_Mo_pieces 21 = .ok (.iload_n 1, 1) := by decide +kernel
theorem d_Mo_pieces_22 : decode b_Mo_pieces 22 = .ok (.invokevirtual 46, 3) := by decide +kernel
theorem d_Mo_pieces_25 : decode b_Mo_pieces 25 = .ok (.ifCond .eq 11, 3) := by decide +kernel
theorem d_Mo_pieces_28 : decode b_Mo_pieces 28 = .ok (.aload_n 0, 1) := by decide +kernel
theorem d_Mo_pieces_29 : decode b_Mo_pieces 29 = .ok (.iload_n 1, 1) := by decide +kernel
theorem d_Mo_pieces_30 : decode b_Mo_pieces 30 = .ok (.invokevirtual 42, 3) := by decide +kernel
theorem d_Mo_pieces_33 : decode b_Mo_pieces 33 = .ok (.goto 4, 3) := by decide +kernel
theorem d_Mo_pieces_36 : decode b_Mo_pieces 36 = .ok (.iconst (-1), 1) := by decide +kernel
theorem d_Mo_pieces_37 : decode b_Mo_pieces 37 = .ok (.ireturn, 1) := by decide +kernel
theorem d_Mo_next_0 : decode b_Mo_next 0 = .ok (.aload_n 0, 1) := by decide +kernel
theorem d_Mo_next_1 : decode b_Mo_next 1 = .ok (.getfield 38, 3) := by decide +kernel
theorem d_Mo_next_4 : decode b_Mo_next 4 = .ok (.ifCond .eq 6, 3) := by decide +kernel
theorem d_Mo_next_7 : decode b_Mo_next 7 = .ok (.bipush (-2), 2) := by decide +kernel
theorem d_Mo_next_9 : decode b_Mo_next 9 = .ok (.ireturn, 1) := by decide +kernel
theorem d_Mo_next_10 : decode b_Mo_next 10 = .ok (.aload_n 0, 1) := by decide +kernel
theorem d_Mo_next_11 : decode b_Mo_next 11 = .ok (.iload_n 1, 1) := by decide +kernel
theorem d_Mo_next_12 : decode b_Mo_next 12 = .ok (.invokevirtual 46, 3) := by decide +kernel
theorem d_Mo_next_15 : decode b_Mo_next 15 = .ok (.ifCond .eq 10, 3) := by decide +kernel
theorem d_Mo_next_18 : decode b_Mo_next 18 = .ok (.iload_n 2, 1) := by decide +kernel
theorem d_Mo_next_19 : decode b_Mo_next 19 = .ok (.invokestatic 61, 3) := by decide +kernel
theorem d_Mo_next_22 : decode b_Mo_next 22 = .ok (.ifCond .ne 5, 3) := by decide +kernel
theorem d_Mo_next_25 : decode b_Mo_next 25 = .ok (.iconst (-1), 1) := by decide +kernel
theorem d_Mo_next_26 : decode b_Mo_next 26 = .ok (.ireturn, 1) := by decide +kernel
theorem d_Mo_next_27 : decode b_Mo_next 27 = .ok (.iload_n 2, 1) := by decide +kernel
theorem d_Mo_next_28 : decode b_Mo_next 28 = .ok (.istore_n 3, 1) := by decide +kernel
theorem d_Mo_next_29 : decode b_Mo_next 29 = .ok (.iload_n 3, 1) := by decide +kernel
theorem d_Mo_next_30 : decode b_Mo_next 30 = .ok (.sipush 128, 3) := by decide +kernel
theorem d_Mo_next_33 : decode b_Mo_next 33 = .ok (.if_icmp .ge 24, 3) := by decide +kernel
theorem d_Mo_next_36 : decode b_Mo_next 36 = .ok (.aload_n 0, 1) := by decide +kernel
theorem d_Mo_next_37 : decode b_Mo_next 37 = .ok (.getfield 13, 3) := by decide +kernel
theorem d_Mo_next_40 : decode b_Mo_next 40 = .ok (.sipush 128, 3) := by decide +kernel
theorem d_Mo_next_43 : decode b_Mo_next 43 = .ok (.iload_n 1, 1) := by decide +kernel
theorem d_Mo_next_44 : decode b_Mo_next 44 = .ok (.imul, 1) := by decide +kernel
theorem d_Mo_next_45 : decode b_Mo_next 45 = .ok (.iload_n 3, 1) := by decide +kernel
theorem d_Mo_next_46 : decode b_Mo_next 46 = .ok (.iadd, 1) := by decide +kernel
theorem d_Mo_next_47 : decode b_Mo_next 47 = .ok (.iaload, 1) := by decide +kernel
theorem d_Mo_next_48 : decode b_Mo_next 48 = .ok (.ifCond .ge 9, 3) := by decide +kernel
theorem d_Mo_next_51 : decode b_Mo_next 51 = .ok (.iinc 3 1, 3) := by decide +kernel
theorem d_Mo_next_54 : decode b_Mo_next 54 = .ok (.goto (-25), 3) := by decide +kernel
theorem d_Mo_next_57 : decode b_Mo_next 57 = .ok (.iload_n 3, 1) := by decide +kernel
theorem d_Mo_next_58 : decode b_Mo_next 58 = .ok (.ireturn, 1) := by decide +kernel
theorem d_Mo_shared_0 : decode b_Mo_shared 0 = .ok (.aload_n 0, 1) := by decide +kernel
theorem d_Mo_shared_1 : decode b_Mo_shared 1 = .ok (.getfield 38, 3) := by decide +kernel
theorem d_Mo_shared_4 : decode b_Mo_shared 4 = .ok (.ifCond .eq 6, 3) := by decide +kernel
theorem d_Mo_shared_7 : decode b_Mo_shared 7 = .ok (.bipush (-2), 2) := by decide +kernel
theorem d_Mo_shared_9 : decode b_Mo_shared 9 = .ok (.ireturn, 1) := by decide +kernel
theorem d_Mo_shared_10 : decode b_Mo_shared 10 = .ok (.aload_n 0, 1) := by decide +kernel
theorem d_Mo_shared_11 : decode b_Mo_shared 11 = .ok (.iload_n 1, 1) := by decide +kernel
theorem d_Mo_shared_12 : decode b_Mo_shared 12 = .ok (.invokevirtual 46, 3) := by decide +kernel
theorem d_Mo_shared_15 : decode b_Mo_shared 15 = .ok (.ifCond .eq 10, 3) := by decide +kernel
theorem d_Mo_shared_18 : decode b_Mo_shared 18 = .ok (.iload_n 2, 1) := by decide +kernel
theorem d_Mo_shared_19 : decode b_Mo_shared 19 = .ok (.invokestatic 61, 3) := by decide +kernel
theorem d_Mo_shared_22 : decode b_Mo_shared 22 = .ok (.ifCond .ne 5, 3) := by decide +kernel
theorem d_Mo_shared_25 : decode b_Mo_shared 25 = .ok (.iconst (-1), 1) := by decide +kernel
theorem d_Mo_shared_26 : decode b_Mo_shared 26 = .ok (.ireturn, 1) := by decide +kernel
theorem d_Mo_shared_27 : decode b_Mo_shared 27 = .ok (.sipush 128, 3) := by decide +kernel
theorem d_Mo_shared_30 : decode b_Mo_shared 30 = .ok (.iload_n 1, 1) := by decide +kernel
theorem d_Mo_shared_31 : decode b_Mo_shared 31 = .ok (.imul, 1) := by decide +kernel
theorem d_Mo_shared_32 : decode b_Mo_shared 32 = .ok (.iload_n 2, 1) := by decide +kernel
theorem d_Mo_shared_33 : decode b_Mo_shared 33 = .ok (.iadd, 1) := by decide +kernel
theorem d_Mo_shared_34 : decode b_Mo_shared 34 = .ok (.istore_n 3, 1) := by decide +kernel
theorem d_Mo_shared_35 : decode b_Mo_shared 35 = .ok (.aload_n 0, 1) := by decide +kernel
theorem d_Mo_shared_36 : decode b_Mo_shared 36 = .ok (.getfield 13, 3) := by decide +kernel
theorem d_Mo_shared_39 : decode b_Mo_shared 39 = .ok (.iload_n 3, 1) := by decide +kernel
theorem d_Mo_shared_40 : decode b_Mo_shared 40 = .ok (.iaload, 1) := by decide +kernel
theorem d_Mo_shared_41 : decode b_Mo_shared 41 = .ok (.ifCond .ge 5, 3) := by decide +kernel
theorem d_Mo_shared_44 : decode b_Mo_shared 44 = .ok (.iconst 0, 1) := by decide +kernel
theorem d_Mo_shared_45 : decode b_Mo_shared 45 = .ok (.ireturn, 1) := by decide +kernel
theorem d_Mo_shared_46 : decode b_Mo_shared 46 = .ok (.iconst 0, 1) := by decide +kernel
theorem d_Mo_shared_47 : decode b_Mo_shared 47 = .ok (.istore 4, 2) := by decide +kernel
theorem d_Mo_shared_49 : decode b_Mo_shared 49 = .ok (.iload 4, 2) := by decide +kernel
theorem d_Mo_shared_51 : decode b_Mo_shared 51 = .ok (.bipush 16, 2) := by decide +kernel
theorem d_Mo_shared_53 : decode b_Mo_shared 53 = .ok (.if_icmp .ge 53, 3) := by decide +kernel
theorem d_Mo_shared_56 : decode b_Mo_shared 56 = .ok (.sipush 128, 3) := by decide +kernel
theorem d_Mo_shared_59 : decode b_Mo_shared 59 = .ok (.iload 4, 2) := by decide +kernel
theorem d_Mo_shared_61 : decode b_Mo_shared 61 = .ok (.imul, 1) := by decide +kernel
theorem d_Mo_shared_62 : decode b_Mo_shared 62 = .ok (.iload_n 2, 1) := by decide +kernel
theorem d_Mo_shared_63 : decode b_Mo_shared 63 = .ok (.iadd, 1) := by decide +kernel
theorem d_Mo_shared_64 : decode b_Mo_shared 64 = .ok (.istore 5, 2) := by decide +kernel
theorem d_Mo_shared_66 : decode b_Mo_shared 66 = .ok (.iload 4, 2) := by decide +kernel
theorem d_Mo_shared_68 : decode b_Mo_shared 68 = .ok (.iload_n 1, 1) := by decide +kernel
theorem d_Mo_shared_69 : decode b_Mo_shared 69 = .ok (.if_icmp .eq 31, 3) := by decide +kernel
theorem d_Mo_shared_72 : decode b_Mo_shared 72 = .ok (.aload_n 0, 1) := by decide +kernel
theorem d_Mo_shared_73 : decode b_Mo_shared 73 = .ok (.getfield 13, 3) := by decide +kernel
theorem d_Mo_shared_76 : decode b_Mo_shared 76 = .ok (.iload 5, 2) := by decide +kernel
theorem d_Mo_shared_78 : decode b_Mo_shared 78 = .ok (.iaload, 1) := by decide +kernel
theorem d_Mo_shared_79 : decode b_Mo_shared 79 = .ok (.ifCond .lt 21, 3) := by decide +kernel
theorem d_Mo_shared_82 : decode b_Mo_shared 82 = .ok (.aload_n 0, 1) := by decide +kernel
theorem d_Mo_shared_83 : decode b_Mo_shared 83 = .ok (.getfield 17, 3) := by decide +kernel
theorem d_Mo_shared_86 : decode b_Mo_shared 86 = .ok (.iload 5, 2) := by decide +kernel
theorem d_Mo_shared_88 : decode b_Mo_shared 88 = .ok (.iaload, 1) := by decide +kernel
theorem d_Mo_shared_89 : decode b_Mo_shared 89 = .ok (.aload_n 0, 1) := by decide +kernel
theorem d_Mo_shared_90 : decode b_Mo_shared 90 = .ok (.getfield 17, 3) := by decide +kernel
theorem d_Mo_shared_93 : decode b_Mo_shared 93 = .ok (.iload_n 3, 1) := by decide +kernel
theorem d_Mo_shared_94 : decode b_Mo_shared 94 = .ok (.iaload, 1) := by decide +kernel
theorem d_Mo_shared_95 : decode b_Mo_shared 95 = .ok (.if_icmp .ne 5, 3) := by decide +kernel
theorem d_Mo_shared_98 : decode b_Mo_shared 98 = .ok (.iconst 1, 1) := by decide +kernel
theorem d_Mo_shared_99 : decode b_Mo_shared 99 = .ok (.ireturn, 1) := by decide +kernel
theorem d_Mo_shared_100 : decode b_Mo_shared 100 = .ok (.iinc 4 1, 3) := by decide +kernel
theorem d_Mo_shared_103 : decode b_Mo_shared 103 = .ok (.goto (-54), 3) := by decide +kernel
theorem d_Mo_shared_106 : decode b_Mo_shared 106 = .ok (.iconst 0, 1) := by decide +kernel
theorem d_Mo_shared_107 : decode b_Mo_shared 107 = .ok (.ireturn, 1) := by decide +kernel
theorem d_Mo_tell_0 : decode b_Mo_tell 0 = .ok (.aload_n 0, 1) := by decide +kernel
theorem d_Mo_tell_1 : decode b_Mo_tell 1 = .ok (.getfield 38, 3) := by decide +kernel
theorem d_Mo_tell_4 : decode b_Mo_tell 4 = .ok (.ifCond .eq 6, 3) := by decide +kernel
theorem d_Mo_tell_7 : decode b_Mo_tell 7 = .ok (.bipush (-2), 2) := by decide +kernel
theorem d_Mo_tell_9 : decode b_Mo_tell 9 = .ok (.ireturn, 1) := by decide +kernel
theorem d_Mo_tell_10 : decode b_Mo_tell 10 = .ok (.iload_n 1, 1) := by decide +kernel
theorem d_Mo_tell_11 : decode b_Mo_tell 11 = .ok (.ifCond .lt 20, 3) := by decide +kernel
theorem d_Mo_tell_14 : decode b_Mo_tell 14 = .ok (.iload_n 1, 1) := by decide +kernel
theorem d_Mo_tell_15 : decode b_Mo_tell 15 = .ok (.bipush 31, 2) := by decide +kernel
theorem d_Mo_tell_17 : decode b_Mo_tell 17 = .ok (.if_icmp .gt 14, 3) := by decide +kernel
theorem d_Mo_tell_20 : decode b_Mo_tell 20 = .ok (.iload_n 2, 1) := by decide +kernel
theorem d_Mo_tell_21 : decode b_Mo_tell 21 = .ok (.ifCond .lt 10, 3) := by decide +kernel
theorem d_Mo_tell_24 : decode b_Mo_tell 24 = .ok (.iload_n 2, 1) := by decide +kernel
theorem d_Mo_tell_25 : decode b_Mo_tell 25 = .ok (.sipush 255, 3) := by decide +kernel
theorem d_Mo_tell_28 : decode b_Mo_tell 28 = .ok (.if_icmp .le 5, 3) := by decide +kernel
theorem d_Mo_tell_31 : decode b_Mo_tell 31 = .ok (.iconst (-1), 1) := by decide +kernel
theorem d_Mo_tell_32 : decode b_Mo_tell 32 = .ok (.ireturn, 1) := by decide +kernel
theorem d_Mo_tell_33 : decode b_Mo_tell 33 = .ok (.aload_n 0, 1) := by decide +kernel
theorem d_Mo_tell_34 : decode b_Mo_tell 34 = .ok (.getfield 20, 3) := by decide +kernel
theorem d_Mo_tell_37 : decode b_Mo_tell 37 = .ok (.iload_n 1, 1) := by decide +kernel
theorem d_Mo_tell_38 : decode b_Mo_tell 38 = .ok (.iaload, 1) := by decide +kernel
theorem d_Mo_tell_39 : decode b_Mo_tell 39 = .ok (.istore_n 3, 1) := by decide +kernel
theorem d_Mo_tell_40 : decode b_Mo_tell 40 = .ok (.aload_n 0, 1) := by decide +kernel
theorem d_Mo_tell_41 : decode b_Mo_tell 41 = .ok (.getfield 20, 3) := by decide +kernel
theorem d_Mo_tell_44 : decode b_Mo_tell 44 = .ok (.iload_n 1, 1) := by decide +kernel
theorem d_Mo_tell_45 : decode b_Mo_tell 45 = .ok (.iload_n 2, 1) := by decide +kernel
theorem d_Mo_tell_46 : decode b_Mo_tell 46 = .ok (.iastore, 1) := by decide +kernel
theorem d_Mo_tell_47 : decode b_Mo_tell 47 = .ok (.iload_n 3, 1) := by decide +kernel
theorem d_Mo_tell_48 : decode b_Mo_tell 48 = .ok (.ireturn, 1) := by decide +kernel
theorem d_Mo_told_0 : decode b_Mo_told 0 = .ok (.aload_n 0, 1) := by decide +kernel
theorem d_Mo_told_1 : decode b_Mo_told 1 = .ok (.getfield 38, 3) := by decide +kernel
theorem d_Mo_told_4 : decode b_Mo_told 4 = .ok (.ifCond .eq 6, 3) := by decide +kernel
theorem d_Mo_told_7 : decode b_Mo_told 7 = .ok (.bipush (-2), 2) := by decide +kernel
theorem d_Mo_told_9 : decode b_Mo_told 9 = .ok (.ireturn, 1) := by decide +kernel
theorem d_Mo_told_10 : decode b_Mo_told 10 = .ok (.iload_n 1, 1) := by decide +kernel
theorem d_Mo_told_11 : decode b_Mo_told 11 = .ok (.ifCond .lt 9, 3) := by decide +kernel
theorem d_Mo_told_14 : decode b_Mo_told 14 = .ok (.iload_n 1, 1) := by decide +kernel
theorem d_Mo_told_15 : decode b_Mo_told 15 = .ok (.bipush 31, 2) := by decide +kernel
theorem d_Mo_told_17 : decode b_Mo_told 17 = .ok (.if_icmp .le 7, 3) := by decide +kernel
theorem d_Mo_told_20 : decode b_Mo_told 20 = .ok (.iconst (-1), 1) := by decide +kernel
theorem d_Mo_told_21 : decode b_Mo_told 21 = .ok (.goto 9, 3) := by decide +kernel
theorem d_Mo_told_24 : decode b_Mo_told 24 = .ok (.aload_n 0, 1) := by decide +kernel
theorem d_Mo_told_25 : decode b_Mo_told 25 = .ok (.getfield 20, 3) := by decide +kernel
theorem d_Mo_told_28 : decode b_Mo_told 28 = .ok (.iload_n 1, 1) := by decide +kernel
theorem d_Mo_told_29 : decode b_Mo_told 29 = .ok (.iaload, 1) := by decide +kernel
theorem d_Mo_told_30 : decode b_Mo_told 30 = .ok (.ireturn, 1) := by decide +kernel
theorem d_Mo_copy_0 : decode b_Mo_copy 0 = .ok (.iconst 0, 1) := by decide +kernel
theorem d_Mo_copy_1 : decode b_Mo_copy 1 = .ok (.istore_n 3, 1) := by decide +kernel
theorem d_Mo_copy_2 : decode b_Mo_copy 2 = .ok (.iload_n 3, 1) := by decide +kernel
theorem d_Mo_copy_3 : decode b_Mo_copy 3 = .ok (.bipush 16, 2) := by decide +kernel
theorem d_Mo_copy_5 : decode b_Mo_copy 5 = .ok (.if_icmp .ge 31, 3) := by decide +kernel
theorem d_Mo_copy_8 : decode b_Mo_copy 8 = .ok (.aload_n 0, 1) := by decide +kernel
theorem d_Mo_copy_9 : decode b_Mo_copy 9 = .ok (.getfield 7, 3) := by decide +kernel
theorem d_Mo_copy_12 : decode b_Mo_copy 12 = .ok (.bipush 16, 2) := by decide +kernel
theorem d_Mo_copy_14 : decode b_Mo_copy 14 = .ok (.iload_n 2, 1) := by decide +kernel
theorem d_Mo_copy_15 : decode b_Mo_copy 15 = .ok (.imul, 1) := by decide +kernel
theorem d_Mo_copy_16 : decode b_Mo_copy 16 = .ok (.iload_n 3, 1) := by decide +kernel
theorem d_Mo_copy_17 : decode b_Mo_copy 17 = .ok (.iadd, 1) := by decide +kernel
theorem d_Mo_copy_18 : decode b_Mo_copy 18 = .ok (.aload_n 0, 1) := by decide +kernel
theorem d_Mo_copy_19 : decode b_Mo_copy 19 = .ok (.getfield 7, 3) := by decide +kernel
theorem d_Mo_copy_22 : decode b_Mo_copy 22 = .ok (.bipush 16, 2) := by decide +kernel
theorem d_Mo_copy_24 : decode b_Mo_copy 24 = .ok (.iload_n 1, 1) := by decide +kernel
theorem d_Mo_copy_25 : decode b_Mo_copy 25 = .ok (.imul, 1) := by decide +kernel
theorem d_Mo_copy_26 : decode b_Mo_copy 26 = .ok (.iload_n 3, 1) := by decide +kernel
theorem d_Mo_copy_27 : decode b_Mo_copy 27 = .ok (.iadd, 1) := by decide +kernel
theorem d_Mo_copy_28 : decode b_Mo_copy 28 = .ok (.baload, 1) := by decide +kernel
theorem d_Mo_copy_29 : decode b_Mo_copy 29 = .ok (.bastore, 1) := by decide +kernel
theorem d_Mo_copy_30 : decode b_Mo_copy 30 = .ok (.iinc 3 1, 3) := by decide +kernel
theorem d_Mo_copy_33 : decode b_Mo_copy 33 = .ok (.goto (-31), 3) := by decide +kernel
theorem d_Mo_copy_36 : decode b_Mo_copy 36 = .ok (.iconst 0, 1) := by decide +kernel
theorem d_Mo_copy_37 : decode b_Mo_copy 37 = .ok (.istore_n 3, 1) := by decide +kernel
theorem d_Mo_copy_38 : decode b_Mo_copy 38 = .ok (.iload_n 3, 1) := by decide +kernel
theorem d_Mo_copy_39 : decode b_Mo_copy 39 = .ok (.sipush 2048, 3) := by decide +kernel
theorem d_Mo_copy_42 : decode b_Mo_copy 42 = .ok (.if_icmp .ge 78, 3) := by decide +kernel
theorem d_Mo_copy_45 : decode b_Mo_copy 45 = .ok (.aload_n 0, 1) := by decide +kernel
theorem d_Mo_copy_46 : decode b_Mo_copy 46 = .ok (.getfield 13, 3) := by decide +kernel
theorem d_Mo_copy_49 : decode b_Mo_copy 49 = .ok (.sipush 2048, 3) := by decide +kernel
theorem d_Mo_copy_52 : decode b_Mo_copy 52 = .ok (.iload_n 1, 1) := by decide +kernel
theorem d_Mo_copy_53 : decode b_Mo_copy 53 = .ok (.imul, 1) := by decide +kernel
theorem d_Mo_copy_54 : decode b_Mo_copy 54 = .ok (.iload_n 3, 1) := by decide +kernel
theorem d_Mo_copy_55 : decode b_Mo_copy 55 = .ok (.iadd, 1) := by decide +kernel
theorem d_Mo_copy_56 : decode b_Mo_copy 56 = .ok (.iaload, 1) := by decide +kernel
theorem d_Mo_copy_57 : decode b_Mo_copy 57 = .ok (.istore 4, 2) := by decide +kernel
theorem d_Mo_copy_59 : decode b_Mo_copy 59 = .ok (.aload_n 0, 1) := by decide +kernel
theorem d_Mo_copy_60 : decode b_Mo_copy 60 = .ok (.getfield 13, 3) := by decide +kernel
theorem d_Mo_copy_63 : decode b_Mo_copy 63 = .ok (.sipush 2048, 3) := by decide +kernel
theorem d_Mo_copy_66 : decode b_Mo_copy 66 = .ok (.iload_n 2, 1) := by decide +kernel
theorem d_Mo_copy_67 : decode b_Mo_copy 67 = .ok (.imul, 1) := by decide +kernel
theorem d_Mo_copy_68 : decode b_Mo_copy 68 = .ok (.iload_n 3, 1) := by decide +kernel
theorem d_Mo_copy_69 : decode b_Mo_copy 69 = .ok (.iadd, 1) := by decide +kernel
theorem d_Mo_copy_70 : decode b_Mo_copy 70 = .ok (.iload 4, 2) := by decide +kernel
theorem d_Mo_copy_72 : decode b_Mo_copy 72 = .ok (.ifCond .ge 7, 3) := by decide +kernel
theorem d_Mo_copy_75 : decode b_Mo_copy 75 = .ok (.iconst (-1), 1) := by decide +kernel
theorem d_Mo_copy_76 : decode b_Mo_copy 76 = .ok (.goto 13, 3) := by decide +kernel
theorem d_Mo_copy_79 : decode b_Mo_copy 79 = .ok (.iload 4, 2) := by decide +kernel
theorem d_Mo_copy_81 : decode b_Mo_copy 81 = .ok (.sipush 300, 3) := by decide +kernel
theorem d_Mo_copy_84 : decode b_Mo_copy 84 = .ok (.iload_n 2, 1) := by decide +kernel
theorem d_Mo_copy_85 : decode b_Mo_copy 85 = .ok (.iload_n 1, 1) := by decide +kernel
theorem d_Mo_copy_86 : decode b_Mo_copy 86 = .ok (.isub, 1) := by decide +kernel
theorem d_Mo_copy_87 : decode b_Mo_copy 87 = .ok (.imul, 1) := by decide +kernel
theorem d_Mo_copy_88 : decode b_Mo_copy 88 = .ok (.iadd, 1) := by decide +kernel
theorem d_Mo_copy_89 : decode b_Mo_copy 89 = .ok (.iastore, 1) := by decide +kernel
theorem d_Mo_copy_90 : decode b_Mo_copy 90 = .ok (.aload_n 0, 1) := by decide +kernel
theorem d_Mo_copy_91 : decode b_Mo_copy 91 = .ok (.getfield 17, 3) := by decide +kernel
theorem d_Mo_copy_94 : decode b_Mo_copy 94 = .ok (.sipush 2048, 3) := by decide +kernel
theorem d_Mo_copy_97 : decode b_Mo_copy 97 = .ok (.iload_n 2, 1) := by decide +kernel
theorem d_Mo_copy_98 : decode b_Mo_copy 98 = .ok (.imul, 1) := by decide +kernel
theorem d_Mo_copy_99 : decode b_Mo_copy 99 = .ok (.iload_n 3, 1) := by decide +kernel
theorem d_Mo_copy_100 : decode b_Mo_copy 100 = .ok (.iadd, 1) := by decide +kernel
theorem d_Mo_copy_101 : decode b_Mo_copy 101 = .ok (.aload_n 0, 1) := by decide +kernel
theorem d_Mo_copy_102 : decode b_Mo_copy 102 = .ok (.getfield 17, 3) := by decide +kernel
theorem d_Mo_copy_105 : decode b_Mo_copy 105 = .ok (.sipush 2048, 3) := by decide +kernel
theorem d_Mo_copy_108 : decode b_Mo_copy 108 = .ok (.iload_n 1, 1) := by decide +kernel
theorem d_Mo_copy_109 : decode b_Mo_copy 109 = .ok (.imul, 1) := by decide +kernel
theorem d_Mo_copy_110 : decode b_Mo_copy 110 = .ok (.iload_n 3, 1) := by decide +kernel
theorem d_Mo_copy_111 : decode b_Mo_copy 111 = .ok (.iadd, 1) := by decide +kernel
theorem d_Mo_copy_112 : decode b_Mo_copy 112 = .ok (.iaload, 1) := by decide +kernel
theorem d_Mo_copy_113 : decode b_Mo_copy 113 = .ok (.iastore, 1) := by decide +kernel
theorem d_Mo_copy_114 : decode b_Mo_copy 114 = .ok (.iinc 3 1, 3) := by decide +kernel
theorem d_Mo_copy_117 : decode b_Mo_copy 117 = .ok (.goto (-79), 3) := by decide +kernel
theorem d_Mo_copy_120 : decode b_Mo_copy 120 = .ok (.iconst 0, 1) := by decide +kernel
theorem d_Mo_copy_121 : decode b_Mo_copy 121 = .ok (.istore_n 3, 1) := by decide +kernel
theorem d_Mo_copy_122 : decode b_Mo_copy 122 = .ok (.iload_n 3, 1) := by decide +kernel
theorem d_Mo_copy_123 : decode b_Mo_copy 123 = .ok (.bipush 32, 2) := by decide +kernel
theorem d_Mo_copy_125 : decode b_Mo_copy 125 = .ok (.if_icmp .ge 31, 3) := by decide +kernel
theorem d_Mo_copy_128 : decode b_Mo_copy 128 = .ok (.aload_n 0, 1) := by decide +kernel
theorem d_Mo_copy_129 : decode b_Mo_copy 129 = .ok (.getfield 20, 3) := by decide +kernel
theorem d_Mo_copy_132 : decode b_Mo_copy 132 = .ok (.bipush 32, 2) := by decide +kernel
theorem d_Mo_copy_134 : decode b_Mo_copy 134 = .ok (.iload_n 2, 1) := by decide +kernel
theorem d_Mo_copy_135 : decode b_Mo_copy 135 = .ok (.imul, 1) := by decide +kernel
theorem d_Mo_copy_136 : decode b_Mo_copy 136 = .ok (.iload_n 3, 1) := by decide +kernel
theorem d_Mo_copy_137 : decode b_Mo_copy 137 = .ok (.iadd, 1) := by decide +kernel
theorem d_Mo_copy_138 : decode b_Mo_copy 138 = .ok (.aload_n 0, 1) := by decide +kernel
theorem d_Mo_copy_139 : decode b_Mo_copy 139 = .ok (.getfield 20, 3) := by decide +kernel
theorem d_Mo_copy_142 : decode b_Mo_copy 142 = .ok (.bipush 32, 2) := by decide +kernel
theorem d_Mo_copy_144 : decode b_Mo_copy 144 = .ok (.iload_n 1, 1) := by decide +kernel
theorem d_Mo_copy_145 : decode b_Mo_copy 145 = .ok (.imul, 1) := by decide +kernel
theorem d_Mo_copy_146 : decode b_Mo_copy 146 = .ok (.iload_n 3, 1) := by decide +kernel
theorem d_Mo_copy_147 : decode b_Mo_copy 147 = .ok (.iadd, 1) := by decide +kernel
theorem d_Mo_copy_148 : decode b_Mo_copy 148 = .ok (.iaload, 1) := by decide +kernel
theorem d_Mo_copy_149 : decode b_Mo_copy 149 = .ok (.iastore, 1) := by decide +kernel
theorem d_Mo_copy_150 : decode b_Mo_copy 150 = .ok (.iinc 3 1, 3) := by decide +kernel
theorem d_Mo_copy_153 : decode b_Mo_copy 153 = .ok (.goto (-31), 3) := by decide +kernel
theorem d_Mo_copy_156 : decode b_Mo_copy 156 = .ok (.iconst 0, 1) := by decide +kernel
theorem d_Mo_copy_157 : decode b_Mo_copy 157 = .ok (.istore_n 3, 1) := by decide +kernel
theorem d_Mo_copy_158 : decode b_Mo_copy 158 = .ok (.iload_n 3, 1) := by decide +kernel
theorem d_Mo_copy_159 : decode b_Mo_copy 159 = .ok (.sipush 300, 3) := by decide +kernel
theorem d_Mo_copy_162 : decode b_Mo_copy 162 = .ok (.if_icmp .ge 33, 3) := by decide +kernel
theorem d_Mo_copy_165 : decode b_Mo_copy 165 = .ok (.aload_n 0, 1) := by decide +kernel
theorem d_Mo_copy_166 : decode b_Mo_copy 166 = .ok (.getfield 28, 3) := by decide +kernel
theorem d_Mo_copy_169 : decode b_Mo_copy 169 = .ok (.sipush 300, 3) := by decide +kernel
theorem d_Mo_copy_172 : decode b_Mo_copy 172 = .ok (.iload_n 2, 1) := by decide +kernel
theorem d_Mo_copy_173 : decode b_Mo_copy 173 = .ok (.imul, 1) := by decide +kernel
theorem d_Mo_copy_174 : decode b_Mo_copy 174 = .ok (.iload_n 3, 1) := by decide +kernel
theorem d_Mo_copy_175 : decode b_Mo_copy 175 = .ok (.iadd, 1) := by decide +kernel
theorem d_Mo_copy_176 : decode b_Mo_copy 176 = .ok (.aload_n 0, 1) := by decide +kernel
theorem d_Mo_copy_177 : decode b_Mo_copy 177 = .ok (.getfield 28, 3) := by decide +kernel
theorem d_Mo_copy_180 : decode b_Mo_copy 180 = .ok (.sipush 300, 3) := by decide +kernel
theorem d_Mo_copy_183 : decode b_Mo_copy 183 = .ok (.iload_n 1, 1) := by decide +kernel
theorem d_Mo_copy_184 : decode b_Mo_copy 184 = .ok (.imul, 1) := by decide +kernel
theorem d_Mo_copy_185 : decode b_Mo_copy 185 = .ok (.iload_n 3, 1) := by decide +kernel
theorem d_Mo_copy_186 : decode b_Mo_copy 186 = .ok (.iadd, 1) := by decide +kernel
theorem d_Mo_copy_187 : decode b_Mo_copy 187 = .ok (.baload, 1) := by decide +kernel
theorem d_Mo_copy_188 : decode b_Mo_copy 188 = .ok (.bastore, 1) := by decide +kernel
theorem d_Mo_copy_189 : decode b_Mo_copy 189 = .ok (.iinc 3 1, 3) := by decide +kernel
theorem d_Mo_copy_192 : decode b_Mo_copy 192 = .ok (.goto (-34), 3) := by decide +kernel
theorem d_Mo_copy_195 : decode b_Mo_copy 195 = .ok (.iconst 0, 1) := by decide +kernel
theorem d_Mo_copy_196 : decode b_Mo_copy 196 = .ok (.istore_n 3, 1) := by decide +kernel
theorem d_Mo_copy_197 : decode b_Mo_copy 197 = .ok (.iload_n 3, 1) := by decide +kernel
theorem d_Mo_copy_198 : decode b_Mo_copy 198 = .ok (.ldc 67, 2) := by decide +kernel
theorem d_Mo_copy_200 : decode b_Mo_copy 200 = .ok (.if_icmp .ge 31, 3) := by decide +kernel
theorem d_Mo_copy_203 : decode b_Mo_copy 203 = .ok (.aload_n 0, 1) := by decide +kernel
theorem d_Mo_copy_204 : decode b_Mo_copy 204 = .ok (.getfield 24, 3) := by decide +kernel
theorem d_Mo_copy_207 : decode b_Mo_copy 207 = .ok (.ldc 67, 2) := by decide +kernel
theorem d_Mo_copy_209 : decode b_Mo_copy 209 = .ok (.iload_n 2, 1) := by decide +kernel
theorem d_Mo_copy_210 : decode b_Mo_copy 210 = .ok (.imul, 1) := by decide +kernel
theorem d_Mo_copy_211 : decode b_Mo_copy 211 = .ok (.iload_n 3, 1) := by decide +kernel
theorem d_Mo_copy_212 : decode b_Mo_copy 212 = .ok (.iadd, 1) := by decide +kernel
theorem d_Mo_copy_213 : decode b_Mo_copy 213 = .ok (.aload_n 0, 1) := by decide +kernel
theorem d_Mo_copy_214 : decode b_Mo_copy 214 = .ok (.getfield 24, 3) := by decide +kernel
theorem d_Mo_copy_217 : decode b_Mo_copy 217 = .ok (.ldc 67, 2) := by decide +kernel
theorem d_Mo_copy_219 : decode b_Mo_copy 219 = .ok (.iload_n 1, 1) := by decide +kernel
theorem d_Mo_copy_220 : decode b_Mo_copy 220 = .ok (.imul, 1) := by decide +kernel
theorem d_Mo_copy_221 : decode b_Mo_copy 221 = .ok (.iload_n 3, 1) := by decide +kernel
theorem d_Mo_copy_222 : decode b_Mo_copy 222 = .ok (.iadd, 1) := by decide +kernel
theorem d_Mo_copy_223 : decode b_Mo_copy 223 = .ok (.baload, 1) := by decide +kernel
theorem d_Mo_copy_224 : decode b_Mo_copy 224 = .ok (.bastore, 1) := by decide +kernel
theorem d_Mo_copy_225 : decode b_Mo_copy 225 = .ok (.iinc 3 1, 3) := by decide +kernel
theorem d_Mo_copy_228 : decode b_Mo_copy 228 = .ok (.goto (-31), 3) := by decide +kernel
theorem d_Mo_copy_231 : decode b_Mo_copy 231 = .ok (.return_, 1) := by decide +kernel
theorem d_Mo_keep_0 : decode b_Mo_keep 0 = .ok (.aload_n 0, 1) := by decide +kernel
theorem d_Mo_keep_1 : decode b_Mo_keep 1 = .ok (.getfield 38, 3) := by decide +kernel
theorem d_Mo_keep_4 : decode b_Mo_keep 4 = .ok (.ifCond .eq 6, 3) := by decide +kernel
theorem d_Mo_keep_7 : decode b_Mo_keep 7 = .ok (.bipush (-2), 2) := by decide +kernel
theorem d_Mo_keep_9 : decode b_Mo_keep 9 = .ok (.ireturn, 1) := by decide +kernel
theorem d_Mo_keep_10 : decode b_Mo_keep 10 = .ok (.iload_n 1, 1) := by decide +kernel
theorem d_Mo_keep_11 : decode b_Mo_keep 11 = .ok (.ifCond .lt 8, 3) := by decide +kernel
theorem d_Mo_keep_14 : decode b_Mo_keep 14 = .ok (.iload_n 1, 1) := by decide +kernel
theorem d_Mo_keep_15 : decode b_Mo_keep 15 = .ok (.iconst 2, 1) := by decide +kernel
theorem d_Mo_keep_16 : decode b_Mo_keep 16 = .ok (.if_icmp .le 5, 3) := by decide +kernel
theorem d_Mo_keep_19 : decode b_Mo_keep 19 = .ok (.iconst (-1), 1) := by decide +kernel
theorem d_Mo_keep_20 : decode b_Mo_keep 20 = .ok (.ireturn, 1) := by decide +kernel
theorem d_Mo_keep_21 : decode b_Mo_keep 21 = .ok (.lload_n 2, 1) := by decide +kernel
theorem d_Mo_keep_22 : decode b_Mo_keep 22 = .ok (.ldc2_w 68, 3) := by decide +kernel
theorem d_Mo_keep_25 : decode b_Mo_keep 25 = .ok (.land, 1) := by decide +kernel
theorem d_Mo_keep_26 : decode b_Mo_keep 26 = .ok (.l2i, 1) := by decide +kernel
theorem d_Mo_keep_27 : decode b_Mo_keep 27 = .ok (.istore 4, 2) := by decide +kernel
theorem d_Mo_keep_29 : decode b_Mo_keep 29 = .ok (.iload_n 1, 1) := by decide +kernel
theorem d_Mo_keep_30 : decode b_Mo_keep 30 = .ok (.ifCond .eq 20, 3) := by decide +kernel
theorem d_Mo_keep_33 : decode b_Mo_keep 33 = .ok (.iload_n 1, 1) := by decide +kernel
theorem d_Mo_keep_34 : decode b_Mo_keep 34 = .ok (.iconst 2, 1) := by decide +kernel
theorem d_Mo_keep_35 : decode b_Mo_keep 35 = .ok (.if_icmp .ne 31, 3) := by decide +kernel
theorem d_Mo_keep_38 : decode b_Mo_keep 38 = .ok (.iload 4, 2) := by decide +kernel
theorem d_Mo_keep_40 : decode b_Mo_keep 40 = .ok (.iconst 1, 1) := by decide +kernel
theorem d_Mo_keep_41 : decode b_Mo_keep 41 = .ok (.if_icmp .eq 9, 3) := by decide +kernel
theorem d_Mo_keep_44 : decode b_Mo_keep 44 = .ok (.iload 4, 2) := by decide +kernel
theorem d_Mo_keep_46 : decode b_Mo_keep 46 = .ok (.iconst 2, 1) := by decide +kernel
theorem d_Mo_keep_47 : decode b_Mo_keep 47 = .ok (.if_icmp .ne 19, 3) := by decide +kernel
theorem d_Mo_keep_50 : decode b_Mo_keep 50 = .ok (.aload_n 0, 1) := by decide +kernel
theorem d_Mo_keep_51 : decode b_Mo_keep 51 = .ok (.iconst 0, 1) := by decide +kernel
theorem d_Mo_keep_52 : decode b_Mo_keep 52 = .ok (.iconst 1, 1) := by decide +kernel
theorem d_Mo_keep_53 : decode b_Mo_keep 53 = .ok (.invokevirtual 70, 3) := by decide +kernel
theorem d_Mo_keep_56 : decode b_Mo_keep 56 = .ok (.aload_n 0, 1) := by decide +kernel
theorem d_Mo_keep_57 : decode b_Mo_keep 57 = .ok (.dup, 1) := by decide +kernel
theorem d_Mo_keep_58 : decode b_Mo_keep 58 = .ok (.getfield 34, 3) := by decide +kernel
theorem d_Mo_keep_61 : decode b_Mo_keep 61 = .ok (.iconst 1, 1) := by decide +kernel
theorem d_Mo_keep_62 : decode b_Mo_keep 62 = .ok (.iadd, 1) := by decide +kernel
theorem d_Mo_keep_63 : decode b_Mo_keep 63 = .ok (.putfield 34, 3) := by decide +kernel
theorem d_Mo_keep_66 : decode b_Mo_keep 66 = .ok (.aload_n 0, 1) := by decide +kernel
theorem d_Mo_keep_67 : decode b_Mo_keep 67 = .ok (.iload_n 1, 1) := by decide +kernel
theorem d_Mo_keep_68 : decode b_Mo_keep 68 = .ok (.ifCond .le 7, 3) := by decide +kernel
theorem d_Mo_keep_71 : decode b_Mo_keep 71 = .ok (.iconst 1, 1) := by decide +kernel
theorem d_Mo_keep_72 : decode b_Mo_keep 72 = .ok (.goto 4, 3) := by decide +kernel
theorem d_Mo_keep_75 : decode b_Mo_keep 75 = .ok (.iconst 0, 1) := by decide +kernel
theorem d_Mo_keep_76 : decode b_Mo_keep 76 = .ok (.putfield 38, 3) := by decide +kernel
theorem d_Mo_keep_79 : decode b_Mo_keep 79 = .ok (.aload_n 0, 1) := by decide +kernel
theorem d_Mo_keep_80 : decode b_Mo_keep 80 = .ok (.getfield 38, 3) := by decide +kernel
theorem d_Mo_keep_83 : decode b_Mo_keep 83 = .ok (.ifCond .eq 8, 3) := by decide +kernel
theorem d_Mo_keep_86 : decode b_Mo_keep 86 = .ok (.bipush (-2), 2) := by decide +kernel
theorem d_Mo_keep_88 : decode b_Mo_keep 88 = .ok (.goto 7, 3) := by decide +kernel
theorem d_Mo_keep_91 : decode b_Mo_keep 91 = .ok (.aload_n 0, 1) := by decide +kernel
theorem d_Mo_keep_92 : decode b_Mo_keep 92 = .ok (.invokevirtual 50, 3) := by decide +kernel
theorem d_Mo_keep_95 : decode b_Mo_keep 95 = .ok (.ireturn, 1) := by decide +kernel
theorem d_Mo_fail_0 : decode b_Mo_fail 0 = .ok (.aload_n 0, 1) := by decide +kernel
theorem d_Mo_fail_1 : decode b_Mo_fail 1 = .ok (.getfield 38, 3) := by decide +kernel
theorem d_Mo_fail_4 : decode b_Mo_fail 4 = .ok (.ifCond .eq 6, 3) := by decide +kernel
theorem d_Mo_fail_7 : decode b_Mo_fail 7 = .ok (.bipush (-2), 2) := by decide +kernel
theorem d_Mo_fail_9 : decode b_Mo_fail 9 = .ok (.ireturn, 1) := by decide +kernel
theorem d_Mo_fail_10 : decode b_Mo_fail 10 = .ok (.aload_n 0, 1) := by decide +kernel
theorem d_Mo_fail_11 : decode b_Mo_fail 11 = .ok (.iconst 1, 1) := by decide +kernel
theorem d_Mo_fail_12 : decode b_Mo_fail 12 = .ok (.putfield 38, 3) := by decide +kernel
theorem d_Mo_fail_15 : decode b_Mo_fail 15 = .ok (.iconst 0, 1) := by decide +kernel
theorem d_Mo_fail_16 : decode b_Mo_fail 16 = .ok (.ireturn, 1) := by decide +kernel
theorem d_Mo_mount_0 : decode b_Mo_mount 0 = .ok (.aload_n 0, 1) := by decide +kernel
theorem d_Mo_mount_1 : decode b_Mo_mount 1 = .ok (.getfield 38, 3) := by decide +kernel
theorem d_Mo_mount_4 : decode b_Mo_mount 4 = .ok (.ifCond .ne 5, 3) := by decide +kernel
theorem d_Mo_mount_7 : decode b_Mo_mount 7 = .ok (.iconst (-1), 1) := by decide +kernel
theorem d_Mo_mount_8 : decode b_Mo_mount 8 = .ok (.ireturn, 1) := by decide +kernel
theorem d_Mo_mount_9 : decode b_Mo_mount 9 = .ok (.aload_n 0, 1) := by decide +kernel
theorem d_Mo_mount_10 : decode b_Mo_mount 10 = .ok (.iconst 1, 1) := by decide +kernel
theorem d_Mo_mount_11 : decode b_Mo_mount 11 = .ok (.iconst 0, 1) := by decide +kernel
theorem d_Mo_mount_12 : decode b_Mo_mount 12 = .ok (.invokevirtual 70, 3) := by decide +kernel
theorem d_Mo_mount_15 : decode b_Mo_mount 15 = .ok (.aload_n 0, 1) := by decide +kernel
theorem d_Mo_mount_16 : decode b_Mo_mount 16 = .ok (.iconst 0, 1) := by decide +kernel
theorem d_Mo_mount_17 : decode b_Mo_mount 17 = .ok (.putfield 38, 3) := by decide +kernel
theorem d_Mo_mount_20 : decode b_Mo_mount 20 = .ok (.aload_n 0, 1) := by decide +kernel
theorem d_Mo_mount_21 : decode b_Mo_mount 21 = .ok (.invokevirtual 50, 3) := by decide +kernel
theorem d_Mo_mount_24 : decode b_Mo_mount 24 = .ok (.ireturn, 1) := by decide +kernel
theorem d_Mo_count_0 : decode b_Mo_count 0 = .ok (.aload_n 0, 1) := by decide +kernel
theorem d_Mo_count_1 : decode b_Mo_count 1 = .ok (.getfield 38, 3) := by decide +kernel
theorem d_Mo_count_4 : decode b_Mo_count 4 = .ok (.ifCond .eq 6, 3) := by decide +kernel
theorem d_Mo_count_7 : decode b_Mo_count 7 = .ok (.bipush (-2), 2) := by decide +kernel
theorem d_Mo_count_9 : decode b_Mo_count 9 = .ok (.ireturn, 1) := by decide +kernel
theorem d_Mo_count_10 : decode b_Mo_count 10 = .ok (.iload_n 1, 1) := by decide +kernel
theorem d_Mo_count_11 : decode b_Mo_count 11 = .ok (.iconst 1, 1) := by decide +kernel
theorem d_Mo_count_12 : decode b_Mo_count 12 = .ok (.if_icmp .ne 8, 3) := by decide +kernel
theorem d_Mo_count_15 : decode b_Mo_count 15 = .ok (.aload_n 0, 1) := by decide +kernel
theorem d_Mo_count_16 : decode b_Mo_count 16 = .ok (.getfield 34, 3) := by decide +kernel
theorem d_Mo_count_19 : decode b_Mo_count 19 = .ok (.ireturn, 1) := by decide +kernel
theorem d_Mo_count_20 : decode b_Mo_count 20 = .ok (.iload_n 1, 1) := by decide +kernel
theorem d_Mo_count_21 : decode b_Mo_count 21 = .ok (.ifCond .eq 5, 3) := by decide +kernel
theorem d_Mo_count_24 : decode b_Mo_count 24 = .ok (.iconst (-1), 1) := by decide +kernel
theorem d_Mo_count_25 : decode b_Mo_count 25 = .ok (.ireturn, 1) := by decide +kernel
theorem d_Mo_count_26 : decode b_Mo_count 26 = .ok (.iconst 0, 1) := by decide +kernel
theorem d_Mo_count_27 : decode b_Mo_count 27 = .ok (.istore_n 2, 1) := by decide +kernel
theorem d_Mo_count_28 : decode b_Mo_count 28 = .ok (.iconst 0, 1) := by decide +kernel
theorem d_Mo_count_29 : decode b_Mo_count 29 = .ok (.istore_n 3, 1) := by decide +kernel
theorem d_Mo_count_30 : decode b_Mo_count 30 = .ok (.iload_n 3, 1) := by decide +kernel
theorem d_Mo_count_31 : decode b_Mo_count 31 = .ok (.bipush 16, 2) := by decide +kernel
theorem d_Mo_count_33 : decode b_Mo_count 33 = .ok (.if_icmp .ge 26, 3) := by decide +kernel
theorem d_Mo_count_36 : decode b_Mo_count 36 = .ok (.iload_n 2, 1) := by decide +kernel
theorem d_Mo_count_37 : decode b_Mo_count 37 = .ok (.aload_n 0, 1) := by decide +kernel
theorem d_Mo_count_38 : decode b_Mo_count 38 = .ok (.getfield 7, 3) := by decide +kernel
theorem d_Mo_count_41 : decode b_Mo_count 41 = .ok (.iload_n 3, 1) := by decide +kernel
theorem d_Mo_count_42 : decode b_Mo_count 42 = .ok (.baload, 1) := by decide +kernel
theorem d_Mo_count_43 : decode b_Mo_count 43 = .ok (.ifCond .eq 7, 3) := by decide +kernel
theorem d_Mo_count_46 : decode b_Mo_count 46 = .ok (.iconst 1, 1) := by decide +kernel
theorem d_Mo_count_47 : decode b_Mo_count 47 = .ok (.goto 4, 3) := by decide +kernel
theorem d_Mo_count_50 : decode b_Mo_count 50 = .ok (.iconst 0, 1) := by decide +kernel
theorem d_Mo_count_51 : decode b_Mo_count 51 = .ok (.iadd, 1) := by decide +kernel
theorem d_Mo_count_52 : decode b_Mo_count 52 = .ok (.istore_n 2, 1) := by decide +kernel
theorem d_Mo_count_53 : decode b_Mo_count 53 = .ok (.iinc 3 1, 3) := by decide +kernel
theorem d_Mo_count_56 : decode b_Mo_count 56 = .ok (.goto (-26), 3) := by decide +kernel
theorem d_Mo_count_59 : decode b_Mo_count 59 = .ok (.iload_n 2, 1) := by decide +kernel
theorem d_Mo_count_60 : decode b_Mo_count 60 = .ok (.ireturn, 1) := by decide +kernel
theorem d_Mo_check_0 : decode b_Mo_check 0 = .ok (.aload_n 0, 1) := by decide +kernel
theorem d_Mo_check_1 : decode b_Mo_check 1 = .ok (.getfield 38, 3) := by decide +kernel
theorem d_Mo_check_4 : decode b_Mo_check 4 = .ok (.ifCond .eq 8, 3) := by decide +kernel
theorem d_Mo_check_7 : decode b_Mo_check 7 = .ok (.bipush (-2), 2) := by decide +kernel
theorem d_Mo_check_9 : decode b_Mo_check 9 = .ok (.goto 4, 3) := by decide +kernel
theorem d_Mo_check_12 : decode b_Mo_check 12 = .ok (.iconst 0, 1) := by decide +kernel
theorem d_Mo_check_13 : decode b_Mo_check 13 = .ok (.ireturn, 1) := by decide +kernel
end
section
theorem d_Lw_law_0 : decode code 0 = .ok (.new 7, 3) := by decide +kernel
theorem d_Lw_law_3 : decode code 3 = .ok (.dup, 1) := by decide +kernel
theorem d_Lw_law_4 : decode code 4 = .ok (.invokespecial 9, 3) := by decide +kernel
theorem d_Lw_law_7 : decode code 7 = .ok (.astore_n 1, 1) := by decide +kernel
theorem d_Lw_law_8 : decode code 8 = .ok (.new 10, 3) := by decide +kernel
theorem d_Lw_law_11 : decode code 11 = .ok (.dup, 1) := by decide +kernel
theorem d_Lw_law_12 : decode code 12 = .ok (.invokespecial 12, 3) := by decide +kernel
theorem d_Lw_law_15 : decode code 15 = .ok (.astore_n 2, 1) := by decide +kernel
theorem d_Lw_law_16 : decode code 16 = .ok (.iconst 0, 1) := by decide +kernel
theorem d_Lw_law_17 : decode code 17 = .ok (.istore_n 3, 1) := by decide +kernel
theorem d_Lw_law_18 : decode code 18 = .ok (.iload_n 3, 1) := by decide +kernel
theorem d_Lw_law_19 : decode code 19 = .ok (.aload_n 0, 1) := by decide +kernel
theorem d_Lw_law_20 : decode code 20 = .ok (.arraylength, 1) := by decide +kernel
theorem d_Lw_law_21 : decode code 21 = .ok (.bipush 6, 2) := by decide +kernel
theorem d_Lw_law_23 : decode code 23 = .ok (.isub, 1) := by decide +kernel
theorem d_Lw_law_24 : decode code 24 = .ok (.if_icmp .gt 609, 3) := by decide +kernel
theorem d_Lw_law_27 : decode code 27 = .ok (.aload_n 0, 1) := by decide +kernel
theorem d_Lw_law_28 : decode code 28 = .ok (.iload_n 3, 1) := by decide +kernel
theorem d_Lw_law_29 : decode code 29 = .ok (.iaload, 1) := by decide +kernel
theorem d_Lw_law_30 : decode code 30 = .ok (.bipush 31, 2) := by decide +kernel
theorem d_Lw_law_32 : decode code 32 = .ok (.iand, 1) := by decide +kernel
theorem d_Lw_law_33 : decode code 33 = .ok (.tableswitch 594 0 16 #[83, 96, 119, 152, 175, 238, 281, 324, 347, 380, 413, 446, 469, 532, 545, 558, 581], 83) := by decide +kernel
theorem d_Lw_law_116 : decode code 116 = .ok (.aload_n 1, 1) := by decide +kernel
theorem d_Lw_law_117 : decode code 117 = .ok (.invokevirtual 13, 3) := by decide +kernel
theorem d_Lw_law_120 : decode code 120 = .ok (.aload_n 2, 1) := by decide +kernel
theorem d_Lw_law_121 : decode code 121 = .ok (.invokevirtual 17, 3) := by decide +kernel
theorem d_Lw_law_124 : decode code 124 = .ok (.if_icmp .eq 503, 3) := by decide +kernel
theorem d_Lw_law_127 : decode code 127 = .ok (.iconst 0, 1) := by decide +kernel
theorem d_Lw_law_128 : decode code 128 = .ok (.ireturn, 1) := by decide +kernel
theorem d_Lw_law_129 : decode code 129 = .ok (.aload_n 1, 1) := by decide +kernel
theorem d_Lw_law_130 : decode code 130 = .ok (.aload_n 0, 1) := by decide +kernel
theorem d_Lw_law_131 : decode code 131 = .ok (.iload_n 3, 1) := by decide +kernel
theorem d_Lw_law_132 : decode code 132 = .ok (.iconst 1, 1) := by decide +kernel
theorem d_Lw_law_133 : decode code 133 = .ok (.iadd, 1) := by decide +kernel
theorem d_Lw_law_134 : decode code 134 = .ok (.iaload, 1) := by decide +kernel
theorem d_Lw_law_135 : decode code 135 = .ok (.invokevirtual 18, 3) := by decide +kernel
theorem d_Lw_law_138 : decode code 138 = .ok (.aload_n 2, 1) := by decide +kernel
theorem d_Lw_law_139 : decode code 139 = .ok (.aload_n 0, 1) := by decide +kernel
theorem d_Lw_law_140 : decode code 140 = .ok (.iload_n 3, 1) := by decide +kernel
theorem d_Lw_law_141 : decode code 141 = .ok (.iconst 1, 1) := by decide +kernel
theorem d_Lw_law_142 : decode code 142 = .ok (.iadd, 1) := by decide +kernel
theorem d_Lw_law_143 : decode code 143 = .ok (.iaload, 1) := by decide +kernel
theorem d_Lw_law_144 : decode code 144 = .ok (.invokevirtual 22, 3) := by decide +kernel
theorem d_Lw_law_147 : decode code 147 = .ok (.if_icmp .eq 480, 3) := by decide +kernel
theorem d_Lw_law_150 : decode code 150 = .ok (.iconst 0, 1) := by decide +kernel
theorem d_Lw_law_151 : decode code 151 = .ok (.ireturn, 1) := by decide +kernel
theorem d_Lw_law_152 : decode code 152 = .ok (.aload_n 1, 1) := by decide +kernel
theorem d_Lw_law_153 : decode code 153 = .ok (.aload_n 0, 1) := by decide +kernel
theorem d_Lw_law_154 : decode code 154 = .ok (.iload_n 3, 1) := by decide +kernel
theorem d_Lw_law_155 : decode code 155 = .ok (.iconst 1, 1) := by decide +kernel
theorem d_Lw_law_156 : decode code 156 = .ok (.iadd, 1) := by decide +kernel
theorem d_Lw_law_157 : decode code 157 = .ok (.iaload, 1) := by decide +kernel
theorem d_Lw_law_158 : decode code 158 = .ok (.aload_n 0, 1) := by decide +kernel
theorem d_Lw_law_159 : decode code 159 = .ok (.iload_n 3, 1) := by decide +kernel
theorem d_Lw_law_160 : decode code 160 = .ok (.iconst 2, 1) := by decide +kernel
theorem d_Lw_law_161 : decode code 161 = .ok (.iadd, 1) := by decide +kernel
theorem d_Lw_law_162 : decode code 162 = .ok (.iaload, 1) := by decide +kernel
theorem d_Lw_law_163 : decode code 163 = .ok (.invokevirtual 23, 3) := by decide +kernel
theorem d_Lw_law_166 : decode code 166 = .ok (.aload_n 2, 1) := by decide +kernel
theorem d_Lw_law_167 : decode code 167 = .ok (.aload_n 0, 1) := by decide +kernel
theorem d_Lw_law_168 : decode code 168 = .ok (.iload_n 3, 1) := by decide +kernel
theorem d_Lw_law_169 : decode code 169 = .ok (.iconst 1, 1) := by decide +kernel
theorem d_Lw_law_170 : decode code 170 = .ok (.iadd, 1) := by decide +kernel
theorem d_Lw_law_171 : decode code 171 = .ok (.iaload, 1) := by decide +kernel
theorem d_Lw_law_172 : decode code 172 = .ok (.aload_n 0, 1) := by decide +kernel
theorem d_Lw_law_173 : decode code 173 = .ok (.iload_n 3, 1) := by decide +kernel
theorem d_Lw_law_174 : decode code 174 = .ok (.iconst 2, 1) := by decide +kernel
theorem d_Lw_law_175 : decode code 175 = .ok (.iadd, 1) := by decide +kernel
theorem d_Lw_law_176 : decode code 176 = .ok (.iaload, 1) := by decide +kernel
theorem d_Lw_law_177 : decode code 177 = .ok (.invokevirtual 27, 3) := by decide +kernel
theorem d_Lw_law_180 : decode code 180 = .ok (.if_icmp .eq 447, 3) := by decide +kernel
theorem d_Lw_law_183 : decode code 183 = .ok (.iconst 0, 1) := by decide +kernel
theorem d_Lw_law_184 : decode code 184 = .ok (.ireturn, 1) := by decide +kernel
theorem d_Lw_law_185 : decode code 185 = .ok (.aload_n 1, 1) := by decide +kernel
theorem d_Lw_law_186 : decode code 186 = .ok (.aload_n 0, 1) := by decide +kernel
theorem d_Lw_law_187 : decode code 187 = .ok (.iload_n 3, 1) := by decide +kernel
theorem d_Lw_law_188 : decode code 188 = .ok (.iconst 1, 1) := by decide +kernel
theorem d_Lw_law_189 : decode code 189 = .ok (.iadd, 1) := by decide +kernel
theorem d_Lw_law_190 : decode code 190 = .ok (.iaload, 1) := by decide +kernel
theorem d_Lw_law_191 : decode code 191 = .ok (.invokevirtual 28, 3) := by decide +kernel
theorem d_Lw_law_194 : decode code 194 = .ok (.aload_n 2, 1) := by decide +kernel
theorem d_Lw_law_195 : decode code 195 = .ok (.aload_n 0, 1) := by decide +kernel
theorem d_Lw_law_196 : decode code 196 = .ok (.iload_n 3, 1) := by decide +kernel
theorem d_Lw_law_197 : decode code 197 = .ok (.iconst 1, 1) := by decide +kernel
theorem d_Lw_law_198 : decode code 198 = .ok (.iadd, 1) := by decide +kernel
theorem d_Lw_law_199 : decode code 199 = .ok (.iaload, 1) := by decide +kernel
theorem d_Lw_law_200 : decode code 200 = .ok (.invokevirtual 31, 3) := by decide +kernel
theorem d_Lw_law_203 : decode code 203 = .ok (.if_icmp .eq 424, 3) := by decide +kernel
theorem d_Lw_law_206 : decode code 206 = .ok (.iconst 0, 1) := by decide +kernel
theorem d_Lw_law_207 : decode code 207 = .ok (.ireturn, 1) := by decide +kernel
theorem d_Lw_law_208 : decode code 208 = .ok (.aload_n 1, 1) := by decide +kernel
theorem d_Lw_law_209 : decode code 209 = .ok (.aload_n 0, 1) := by decide +kernel
theorem d_Lw_law_210 : decode code 210 = .ok (.iload_n 3, 1) := by decide +kernel
theorem d_Lw_law_211 : decode code 211 = .ok (.iconst 1, 1) := by decide +kernel
theorem d_Lw_law_212 : decode code 212 = .ok (.iadd, 1) := by decide +kernel
theorem d_Lw_law_213 : decode code 213 = .ok (.iaload, 1) := by decide +kernel
theorem d_Lw_law_214 : decode code 214 = .ok (.aload_n 0, 1) := by decide +kernel
theorem d_Lw_law_215 : decode code 215 = .ok (.iload_n 3, 1) := by decide +kernel
theorem d_Lw_law_216 : decode code 216 = .ok (.iconst 2, 1) := by decide +kernel
theorem d_Lw_law_217 : decode code 217 = .ok (.iadd, 1) := by decide +kernel
theorem d_Lw_law_218 : decode code 218 = .ok (.iaload, 1) := by decide +kernel
theorem d_Lw_law_219 : decode code 219 = .ok (.aload_n 0, 1) := by decide +kernel
theorem d_Lw_law_220 : decode code 220 = .ok (.iload_n 3, 1) := by decide +kernel
theorem d_Lw_law_221 : decode code 221 = .ok (.iconst 3, 1) := by decide +kernel
theorem d_Lw_law_222 : decode code 222 = .ok (.iadd, 1) := by decide +kernel
theorem d_Lw_law_223 : decode code 223 = .ok (.iaload, 1) := by decide +kernel
theorem d_Lw_law_224 : decode code 224 = .ok (.aload_n 0, 1) := by decide +kernel
theorem d_Lw_law_225 : decode code 225 = .ok (.iload_n 3, 1) := by decide +kernel
theorem d_Lw_law_226 : decode code 226 = .ok (.iconst 4, 1) := by decide +kernel
theorem d_Lw_law_227 : decode code 227 = .ok (.iadd, 1) := by decide +kernel
theorem d_Lw_law_228 : decode code 228 = .ok (.iaload, 1) := by decide +kernel
theorem d_Lw_law_229 : decode code 229 = .ok (.aload_n 0, 1) := by decide +kernel
theorem d_Lw_law_230 : decode code 230 = .ok (.iload_n 3, 1) := by decide +kernel
theorem d_Lw_law_231 : decode code 231 = .ok (.iconst 5, 1) := by decide +kernel
theorem d_Lw_law_232 : decode code 232 = .ok (.iadd, 1) := by decide +kernel
theorem d_Lw_law_233 : decode code 233 = .ok (.iaload, 1) := by decide +kernel
theorem d_Lw_law_234 : decode code 234 = .ok (.invokevirtual 32, 3) := by decide +kernel
theorem d_Lw_law_237 : decode code 237 = .ok (.aload_n 2, 1) := by decide +kernel
theorem d_Lw_law_238 : decode code 238 = .ok (.aload_n 0, 1) := by decide +kernel
theorem d_Lw_law_239 : decode code 239 = .ok (.iload_n 3, 1) := by decide +kernel
theorem d_Lw_law_240 : decode code 240 = .ok (.iconst 1, 1) := by decide +kernel
theorem d_Lw_law_241 : decode code 241 = .ok (.iadd, 1) := by decide +kernel
theorem d_Lw_law_242 : decode code 242 = .ok (.iaload, 1) := by decide +kernel
theorem d_Lw_law_243 : decode code 243 = .ok (.aload_n 0, 1) := by decide +kernel
theorem d_Lw_law_244 : decode code 244 = .ok (.iload_n 3, 1) := by decide +kernel
theorem d_Lw_law_245 : decode code 245 = .ok (.iconst 2, 1) := by decide +kernel
theorem d_Lw_law_246 : decode code 246 = .ok (.iadd, 1) := by decide +kernel
theorem d_Lw_law_247 : decode code 247 = .ok (.iaload, 1) := by decide +kernel
theorem d_Lw_law_248 : decode code 248 = .ok (.aload_n 0, 1) := by decide +kernel
theorem d_Lw_law_249 : decode code 249 = .ok (.iload_n 3, 1) := by decide +kernel
theorem d_Lw_law_250 : decode code 250 = .ok (.iconst 3, 1) := by decide +kernel
theorem d_Lw_law_251 : decode code 251 = .ok (.iadd, 1) := by decide +kernel
theorem d_Lw_law_252 : decode code 252 = .ok (.iaload, 1) := by decide +kernel
theorem d_Lw_law_253 : decode code 253 = .ok (.aload_n 0, 1) := by decide +kernel
theorem d_Lw_law_254 : decode code 254 = .ok (.iload_n 3, 1) := by decide +kernel
theorem d_Lw_law_255 : decode code 255 = .ok (.iconst 4, 1) := by decide +kernel
theorem d_Lw_law_256 : decode code 256 = .ok (.iadd, 1) := by decide +kernel
theorem d_Lw_law_257 : decode code 257 = .ok (.iaload, 1) := by decide +kernel
theorem d_Lw_law_258 : decode code 258 = .ok (.aload_n 0, 1) := by decide +kernel
theorem d_Lw_law_259 : decode code 259 = .ok (.iload_n 3, 1) := by decide +kernel
theorem d_Lw_law_260 : decode code 260 = .ok (.iconst 5, 1) := by decide +kernel
theorem d_Lw_law_261 : decode code 261 = .ok (.iadd, 1) := by decide +kernel
theorem d_Lw_law_262 : decode code 262 = .ok (.iaload, 1) := by decide +kernel
theorem d_Lw_law_263 : decode code 263 = .ok (.invokevirtual 36, 3) := by decide +kernel
theorem d_Lw_law_266 : decode code 266 = .ok (.if_icmp .eq 361, 3) := by decide +kernel
theorem d_Lw_law_269 : decode code 269 = .ok (.iconst 0, 1) := by decide +kernel
theorem d_Lw_law_270 : decode code 270 = .ok (.ireturn, 1) := by decide +kernel
theorem d_Lw_law_271 : decode code 271 = .ok (.aload_n 1, 1) := by decide +kernel
theorem d_Lw_law_272 : decode code 272 = .ok (.aload_n 0, 1) := by decide +kernel
theorem d_Lw_law_273 : decode code 273 = .ok (.iload_n 3, 1) := by decide +kernel
theorem d_Lw_law_274 : decode code 274 = .ok (.iconst 1, 1) := by decide +kernel
theorem d_Lw_law_275 : decode code 275 = .ok (.iadd, 1) := by decide +kernel
theorem d_Lw_law_276 : decode code 276 = .ok (.iaload, 1) := by decide +kernel
theorem d_Lw_law_277 : decode code 277 = .ok (.aload_n 0, 1) := by decide +kernel
theorem d_Lw_law_278 : decode code 278 = .ok (.iload_n 3, 1) := by decide +kernel
theorem d_Lw_law_279 : decode code 279 = .ok (.iconst 2, 1) := by decide +kernel
theorem d_Lw_law_280 : decode code 280 = .ok (.iadd, 1) := by decide +kernel
theorem d_Lw_law_281 : decode code 281 = .ok (.iaload, 1) := by decide +kernel
theorem d_Lw_law_282 : decode code 282 = .ok (.aload_n 0, 1) := by decide +kernel
theorem d_Lw_law_283 : decode code 283 = .ok (.iload_n 3, 1) := by decide +kernel
theorem d_Lw_law_284 : decode code 284 = .ok (.iconst 3, 1) := by decide +kernel
theorem d_Lw_law_285 : decode code 285 = .ok (.iadd, 1) := by decide +kernel
theorem d_Lw_law_286 : decode code 286 = .ok (.iaload, 1) := by decide +kernel
theorem d_Lw_law_287 : decode code 287 = .ok (.invokevirtual 37, 3) := by decide +kernel
theorem d_Lw_law_290 : decode code 290 = .ok (.aload_n 2, 1) := by decide +kernel
theorem d_Lw_law_291 : decode code 291 = .ok (.aload_n 0, 1) := by decide +kernel
theorem d_Lw_law_292 : decode code 292 = .ok (.iload_n 3, 1) := by decide +kernel
theorem d_Lw_law_293 : decode code 293 = .ok (.iconst 1, 1) := by decide +kernel
theorem d_Lw_law_294 : decode code 294 = .ok (.iadd, 1) := by decide +kernel
theorem d_Lw_law_295 : decode code 295 = .ok (.iaload, 1) := by decide +kernel
theorem d_Lw_law_296 : decode code 296 = .ok (.aload_n 0, 1) := by decide +kernel
theorem d_Lw_law_297 : decode code 297 = .ok (.iload_n 3, 1) := by decide +kernel
theorem d_Lw_law_298 : decode code 298 = .ok (.iconst 2, 1) := by decide +kernel
theorem d_Lw_law_299 : decode code 299 = .ok (.iadd, 1) := by decide +kernel
theorem d_Lw_law_300 : decode code 300 = .ok (.iaload, 1) := by decide +kernel
theorem d_Lw_law_301 : decode code 301 = .ok (.aload_n 0, 1) := by decide +kernel
theorem d_Lw_law_302 : decode code 302 = .ok (.iload_n 3, 1) := by decide +kernel
theorem d_Lw_law_303 : decode code 303 = .ok (.iconst 3, 1) := by decide +kernel
theorem d_Lw_law_304 : decode code 304 = .ok (.iadd, 1) := by decide +kernel
theorem d_Lw_law_305 : decode code 305 = .ok (.iaload, 1) := by decide +kernel
theorem d_Lw_law_306 : decode code 306 = .ok (.invokevirtual 41, 3) := by decide +kernel
theorem d_Lw_law_309 : decode code 309 = .ok (.if_icmp .eq 318, 3) := by decide +kernel
theorem d_Lw_law_312 : decode code 312 = .ok (.iconst 0, 1) := by decide +kernel
theorem d_Lw_law_313 : decode code 313 = .ok (.ireturn, 1) := by decide +kernel
theorem d_Lw_law_314 : decode code 314 = .ok (.aload_n 1, 1) := by decide +kernel
theorem d_Lw_law_315 : decode code 315 = .ok (.aload_n 0, 1) := by decide +kernel
theorem d_Lw_law_316 : decode code 316 = .ok (.iload_n 3, 1) := by decide +kernel
theorem d_Lw_law_317 : decode code 317 = .ok (.iconst 1, 1) := by decide +kernel
theorem d_Lw_law_318 : decode code 318 = .ok (.iadd, 1) := by decide +kernel
theorem d_Lw_law_319 : decode code 319 = .ok (.iaload, 1) := by decide +kernel
theorem d_Lw_law_320 : decode code 320 = .ok (.aload_n 0, 1) := by decide +kernel
theorem d_Lw_law_321 : decode code 321 = .ok (.iload_n 3, 1) := by decide +kernel
theorem d_Lw_law_322 : decode code 322 = .ok (.iconst 2, 1) := by decide +kernel
theorem d_Lw_law_323 : decode code 323 = .ok (.iadd, 1) := by decide +kernel
theorem d_Lw_law_324 : decode code 324 = .ok (.iaload, 1) := by decide +kernel
theorem d_Lw_law_325 : decode code 325 = .ok (.aload_n 0, 1) := by decide +kernel
theorem d_Lw_law_326 : decode code 326 = .ok (.iload_n 3, 1) := by decide +kernel
theorem d_Lw_law_327 : decode code 327 = .ok (.iconst 3, 1) := by decide +kernel
theorem d_Lw_law_328 : decode code 328 = .ok (.iadd, 1) := by decide +kernel
theorem d_Lw_law_329 : decode code 329 = .ok (.iaload, 1) := by decide +kernel
theorem d_Lw_law_330 : decode code 330 = .ok (.invokevirtual 42, 3) := by decide +kernel
theorem d_Lw_law_333 : decode code 333 = .ok (.aload_n 2, 1) := by decide +kernel
theorem d_Lw_law_334 : decode code 334 = .ok (.aload_n 0, 1) := by decide +kernel
theorem d_Lw_law_335 : decode code 335 = .ok (.iload_n 3, 1) := by decide +kernel
theorem d_Lw_law_336 : decode code 336 = .ok (.iconst 1, 1) := by decide +kernel
theorem d_Lw_law_337 : decode code 337 = .ok (.iadd, 1) := by decide +kernel
theorem d_Lw_law_338 : decode code 338 = .ok (.iaload, 1) := by decide +kernel
theorem d_Lw_law_339 : decode code 339 = .ok (.aload_n 0, 1) := by decide +kernel
theorem d_Lw_law_340 : decode code 340 = .ok (.iload_n 3, 1) := by decide +kernel
theorem d_Lw_law_341 : decode code 341 = .ok (.iconst 2, 1) := by decide +kernel
theorem d_Lw_law_342 : decode code 342 = .ok (.iadd, 1) := by decide +kernel
theorem d_Lw_law_343 : decode code 343 = .ok (.iaload, 1) := by decide +kernel
theorem d_Lw_law_344 : decode code 344 = .ok (.aload_n 0, 1) := by decide +kernel
theorem d_Lw_law_345 : decode code 345 = .ok (.iload_n 3, 1) := by decide +kernel
theorem d_Lw_law_346 : decode code 346 = .ok (.iconst 3, 1) := by decide +kernel
theorem d_Lw_law_347 : decode code 347 = .ok (.iadd, 1) := by decide +kernel
theorem d_Lw_law_348 : decode code 348 = .ok (.iaload, 1) := by decide +kernel
theorem d_Lw_law_349 : decode code 349 = .ok (.invokevirtual 45, 3) := by decide +kernel
theorem d_Lw_law_352 : decode code 352 = .ok (.if_icmp .eq 275, 3) := by decide +kernel
theorem d_Lw_law_355 : decode code 355 = .ok (.iconst 0, 1) := by decide +kernel
theorem d_Lw_law_356 : decode code 356 = .ok (.ireturn, 1) := by decide +kernel
theorem d_Lw_law_357 : decode code 357 = .ok (.aload_n 1, 1) := by decide +kernel
theorem d_Lw_law_358 : decode code 358 = .ok (.aload_n 0, 1) := by decide +kernel
theorem d_Lw_law_359 : decode code 359 = .ok (.iload_n 3, 1) := by decide +kernel
theorem d_Lw_law_360 : decode code 360 = .ok (.iconst 1, 1) := by decide +kernel
theorem d_Lw_law_361 : decode code 361 = .ok (.iadd, 1) := by decide +kernel
theorem d_Lw_law_362 : decode code 362 = .ok (.iaload, 1) := by decide +kernel
theorem d_Lw_law_363 : decode code 363 = .ok (.invokevirtual 46, 3) := by decide +kernel
theorem d_Lw_law_366 : decode code 366 = .ok (.aload_n 2, 1) := by decide +kernel
theorem d_Lw_law_367 : decode code 367 = .ok (.aload_n 0, 1) := by decide +kernel
theorem d_Lw_law_368 : decode code 368 = .ok (.iload_n 3, 1) := by decide +kernel
theorem d_Lw_law_369 : decode code 369 = .ok (.iconst 1, 1) := by decide +kernel
theorem d_Lw_law_370 : decode code 370 = .ok (.iadd, 1) := by decide +kernel
theorem d_Lw_law_371 : decode code 371 = .ok (.iaload, 1) := by decide +kernel
theorem d_Lw_law_372 : decode code 372 = .ok (.invokevirtual 49, 3) := by decide +kernel
theorem d_Lw_law_375 : decode code 375 = .ok (.if_icmp .eq 252, 3) := by decide +kernel
theorem d_Lw_law_378 : decode code 378 = .ok (.iconst 0, 1) := by decide +kernel
theorem d_Lw_law_379 : decode code 379 = .ok (.ireturn, 1) := by decide +kernel
theorem d_Lw_law_380 : decode code 380 = .ok (.aload_n 1, 1) := by decide +kernel
theorem d_Lw_law_381 : decode code 381 = .ok (.aload_n 0, 1) := by decide +kernel
theorem d_Lw_law_382 : decode code 382 = .ok (.iload_n 3, 1) := by decide +kernel
theorem d_Lw_law_383 : decode code 383 = .ok (.iconst 1, 1) := by decide +kernel
theorem d_Lw_law_384 : decode code 384 = .ok (.iadd, 1) := by decide +kernel
theorem d_Lw_law_385 : decode code 385 = .ok (.iaload, 1) := by decide +kernel
theorem d_Lw_law_386 : decode code 386 = .ok (.aload_n 0, 1) := by decide +kernel
theorem d_Lw_law_387 : decode code 387 = .ok (.iload_n 3, 1) := by decide +kernel
theorem d_Lw_law_388 : decode code 388 = .ok (.iconst 2, 1) := by decide +kernel
theorem d_Lw_law_389 : decode code 389 = .ok (.iadd, 1) := by decide +kernel
theorem d_Lw_law_390 : decode code 390 = .ok (.iaload, 1) := by decide +kernel
theorem d_Lw_law_391 : decode code 391 = .ok (.invokevirtual 50, 3) := by decide +kernel
theorem d_Lw_law_394 : decode code 394 = .ok (.aload_n 2, 1) := by decide +kernel
theorem d_Lw_law_395 : decode code 395 = .ok (.aload_n 0, 1) := by decide +kernel
theorem d_Lw_law_396 : decode code 396 = .ok (.iload_n 3, 1) := by decide +kernel
theorem d_Lw_law_397 : decode code 397 = .ok (.iconst 1, 1) := by decide +kernel
theorem d_Lw_law_398 : decode code 398 = .ok (.iadd, 1) := by decide +kernel
theorem d_Lw_law_399 : decode code 399 = .ok (.iaload, 1) := by decide +kernel
theorem d_Lw_law_400 : decode code 400 = .ok (.aload_n 0, 1) := by decide +kernel
theorem d_Lw_law_401 : decode code 401 = .ok (.iload_n 3, 1) := by decide +kernel
theorem d_Lw_law_402 : decode code 402 = .ok (.iconst 2, 1) := by decide +kernel
theorem d_Lw_law_403 : decode code 403 = .ok (.iadd, 1) := by decide +kernel
theorem d_Lw_law_404 : decode code 404 = .ok (.iaload, 1) := by decide +kernel
theorem d_Lw_law_405 : decode code 405 = .ok (.invokevirtual 53, 3) := by decide +kernel
theorem d_Lw_law_408 : decode code 408 = .ok (.if_icmp .eq 219, 3) := by decide +kernel
theorem d_Lw_law_411 : decode code 411 = .ok (.iconst 0, 1) := by decide +kernel
theorem d_Lw_law_412 : decode code 412 = .ok (.ireturn, 1) := by decide +kernel
theorem d_Lw_law_413 : decode code 413 = .ok (.aload_n 1, 1) := by decide +kernel
theorem d_Lw_law_414 : decode code 414 = .ok (.aload_n 0, 1) := by decide +kernel
theorem d_Lw_law_415 : decode code 415 = .ok (.iload_n 3, 1) := by decide +kernel
theorem d_Lw_law_416 : decode code 416 = .ok (.iconst 1, 1) := by decide +kernel
theorem d_Lw_law_417 : decode code 417 = .ok (.iadd, 1) := by decide +kernel
theorem d_Lw_law_418 : decode code 418 = .ok (.iaload, 1) := by decide +kernel
theorem d_Lw_law_419 : decode code 419 = .ok (.aload_n 0, 1) := by decide +kernel
theorem d_Lw_law_420 : decode code 420 = .ok (.iload_n 3, 1) := by decide +kernel
theorem d_Lw_law_421 : decode code 421 = .ok (.iconst 2, 1) := by decide +kernel
theorem d_Lw_law_422 : decode code 422 = .ok (.iadd, 1) := by decide +kernel
theorem d_Lw_law_423 : decode code 423 = .ok (.iaload, 1) := by decide +kernel
theorem d_Lw_law_424 : decode code 424 = .ok (.invokevirtual 54, 3) := by decide +kernel
theorem d_Lw_law_427 : decode code 427 = .ok (.aload_n 2, 1) := by decide +kernel
theorem d_Lw_law_428 : decode code 428 = .ok (.aload_n 0, 1) := by decide +kernel
theorem d_Lw_law_429 : decode code 429 = .ok (.iload_n 3, 1) := by decide +kernel
theorem d_Lw_law_430 : decode code 430 = .ok (.iconst 1, 1) := by decide +kernel
theorem d_Lw_law_431 : decode code 431 = .ok (.iadd, 1) := by decide +kernel
theorem d_Lw_law_432 : decode code 432 = .ok (.iaload, 1) := by decide +kernel
theorem d_Lw_law_433 : decode code 433 = .ok (.aload_n 0, 1) := by decide +kernel
theorem d_Lw_law_434 : decode code 434 = .ok (.iload_n 3, 1) := by decide +kernel
theorem d_Lw_law_435 : decode code 435 = .ok (.iconst 2, 1) := by decide +kernel
theorem d_Lw_law_436 : decode code 436 = .ok (.iadd, 1) := by decide +kernel
theorem d_Lw_law_437 : decode code 437 = .ok (.iaload, 1) := by decide +kernel
theorem d_Lw_law_438 : decode code 438 = .ok (.invokevirtual 57, 3) := by decide +kernel
theorem d_Lw_law_441 : decode code 441 = .ok (.if_icmp .eq 186, 3) := by decide +kernel
theorem d_Lw_law_444 : decode code 444 = .ok (.iconst 0, 1) := by decide +kernel
theorem d_Lw_law_445 : decode code 445 = .ok (.ireturn, 1) := by decide +kernel
theorem d_Lw_law_446 : decode code 446 = .ok (.aload_n 1, 1) := by decide +kernel
theorem d_Lw_law_447 : decode code 447 = .ok (.aload_n 0, 1) := by decide +kernel
theorem d_Lw_law_448 : decode code 448 = .ok (.iload_n 3, 1) := by decide +kernel
theorem d_Lw_law_449 : decode code 449 = .ok (.iconst 1, 1) := by decide +kernel
theorem d_Lw_law_450 : decode code 450 = .ok (.iadd, 1) := by decide +kernel
theorem d_Lw_law_451 : decode code 451 = .ok (.iaload, 1) := by decide +kernel
theorem d_Lw_law_452 : decode code 452 = .ok (.aload_n 0, 1) := by decide +kernel
theorem d_Lw_law_453 : decode code 453 = .ok (.iload_n 3, 1) := by decide +kernel
theorem d_Lw_law_454 : decode code 454 = .ok (.iconst 2, 1) := by decide +kernel
theorem d_Lw_law_455 : decode code 455 = .ok (.iadd, 1) := by decide +kernel
theorem d_Lw_law_456 : decode code 456 = .ok (.iaload, 1) := by decide +kernel
theorem d_Lw_law_457 : decode code 457 = .ok (.invokevirtual 58, 3) := by decide +kernel
theorem d_Lw_law_460 : decode code 460 = .ok (.aload_n 2, 1) := by decide +kernel
theorem d_Lw_law_461 : decode code 461 = .ok (.aload_n 0, 1) := by decide +kernel
theorem d_Lw_law_462 : decode code 462 = .ok (.iload_n 3, 1) := by decide +kernel
theorem d_Lw_law_463 : decode code 463 = .ok (.iconst 1, 1) := by decide +kernel
theorem d_Lw_law_464 : decode code 464 = .ok (.iadd, 1) := by decide +kernel
theorem d_Lw_law_465 : decode code 465 = .ok (.iaload, 1) := by decide +kernel
theorem d_Lw_law_466 : decode code 466 = .ok (.aload_n 0, 1) := by decide +kernel
theorem d_Lw_law_467 : decode code 467 = .ok (.iload_n 3, 1) := by decide +kernel
theorem d_Lw_law_468 : decode code 468 = .ok (.iconst 2, 1) := by decide +kernel
theorem d_Lw_law_469 : decode code 469 = .ok (.iadd, 1) := by decide +kernel
theorem d_Lw_law_470 : decode code 470 = .ok (.iaload, 1) := by decide +kernel
theorem d_Lw_law_471 : decode code 471 = .ok (.invokevirtual 61, 3) := by decide +kernel
theorem d_Lw_law_474 : decode code 474 = .ok (.if_icmp .eq 153, 3) := by decide +kernel
theorem d_Lw_law_477 : decode code 477 = .ok (.iconst 0, 1) := by decide +kernel
theorem d_Lw_law_478 : decode code 478 = .ok (.ireturn, 1) := by decide +kernel
theorem d_Lw_law_479 : decode code 479 = .ok (.aload_n 1, 1) := by decide +kernel
theorem d_Lw_law_480 : decode code 480 = .ok (.aload_n 0, 1) := by decide +kernel
theorem d_Lw_law_481 : decode code 481 = .ok (.iload_n 3, 1) := by decide +kernel
theorem d_Lw_law_482 : decode code 482 = .ok (.iconst 1, 1) := by decide +kernel
theorem d_Lw_law_483 : decode code 483 = .ok (.iadd, 1) := by decide +kernel
theorem d_Lw_law_484 : decode code 484 = .ok (.iaload, 1) := by decide +kernel
theorem d_Lw_law_485 : decode code 485 = .ok (.invokevirtual 62, 3) := by decide +kernel
theorem d_Lw_law_488 : decode code 488 = .ok (.aload_n 2, 1) := by decide +kernel
theorem d_Lw_law_489 : decode code 489 = .ok (.aload_n 0, 1) := by decide +kernel
theorem d_Lw_law_490 : decode code 490 = .ok (.iload_n 3, 1) := by decide +kernel
theorem d_Lw_law_491 : decode code 491 = .ok (.iconst 1, 1) := by decide +kernel
theorem d_Lw_law_492 : decode code 492 = .ok (.iadd, 1) := by decide +kernel
theorem d_Lw_law_493 : decode code 493 = .ok (.iaload, 1) := by decide +kernel
theorem d_Lw_law_494 : decode code 494 = .ok (.invokevirtual 65, 3) := by decide +kernel
theorem d_Lw_law_497 : decode code 497 = .ok (.if_icmp .eq 130, 3) := by decide +kernel
theorem d_Lw_law_500 : decode code 500 = .ok (.iconst 0, 1) := by decide +kernel
theorem d_Lw_law_501 : decode code 501 = .ok (.ireturn, 1) := by decide +kernel
theorem d_Lw_law_502 : decode code 502 = .ok (.aload_n 1, 1) := by decide +kernel
theorem d_Lw_law_503 : decode code 503 = .ok (.aload_n 0, 1) := by decide +kernel
theorem d_Lw_law_504 : decode code 504 = .ok (.iload_n 3, 1) := by decide +kernel
theorem d_Lw_law_505 : decode code 505 = .ok (.iconst 1, 1) := by decide +kernel
theorem d_Lw_law_506 : decode code 506 = .ok (.iadd, 1) := by decide +kernel
theorem d_Lw_law_507 : decode code 507 = .ok (.iaload, 1) := by decide +kernel
theorem d_Lw_law_508 : decode code 508 = .ok (.aload_n 0, 1) := by decide +kernel
theorem d_Lw_law_509 : decode code 509 = .ok (.iload_n 3, 1) := by decide +kernel
theorem d_Lw_law_510 : decode code 510 = .ok (.iconst 2, 1) := by decide +kernel
theorem d_Lw_law_511 : decode code 511 = .ok (.iadd, 1) := by decide +kernel
theorem d_Lw_law_512 : decode code 512 = .ok (.iaload, 1) := by decide +kernel
theorem d_Lw_law_513 : decode code 513 = .ok (.i2l, 1) := by decide +kernel
theorem d_Lw_law_514 : decode code 514 = .ok (.bipush 32, 2) := by decide +kernel
theorem d_Lw_law_516 : decode code 516 = .ok (.lshl, 1) := by decide +kernel
theorem d_Lw_law_517 : decode code 517 = .ok (.aload_n 0, 1) := by decide +kernel
theorem d_Lw_law_518 : decode code 518 = .ok (.iload_n 3, 1) := by decide +kernel
theorem d_Lw_law_519 : decode code 519 = .ok (.iconst 3, 1) := by decide +kernel
theorem d_Lw_law_520 : decode code 520 = .ok (.iadd, 1) := by decide +kernel
theorem d_Lw_law_521 : decode code 521 = .ok (.iaload, 1) := by decide +kernel
theorem d_Lw_law_522 : decode code 522 = .ok (.i2l, 1) := by decide +kernel
theorem d_Lw_law_523 : decode code 523 = .ok (.ldc2_w 66, 3) := by decide +kernel
theorem d_Lw_law_526 : decode code 526 = .ok (.land, 1) := by decide +kernel
theorem d_Lw_law_527 : decode code 527 = .ok (.lor, 1) := by decide +kernel
theorem d_Lw_law_528 : decode code 528 = .ok (.invokevirtual 68, 3) := by decide +kernel
theorem d_Lw_law_531 : decode code 531 = .ok (.aload_n 2, 1) := by decide +kernel
theorem d_Lw_law_532 : decode code 532 = .ok (.aload_n 0, 1) := by decide +kernel
theorem d_Lw_law_533 : decode code 533 = .ok (.iload_n 3, 1) := by decide +kernel
theorem d_Lw_law_534 : decode code 534 = .ok (.iconst 1, 1) := by decide +kernel
theorem d_Lw_law_535 : decode code 535 = .ok (.iadd, 1) := by decide +kernel
theorem d_Lw_law_536 : decode code 536 = .ok (.iaload, 1) := by decide +kernel
theorem d_Lw_law_537 : decode code 537 = .ok (.aload_n 0, 1) := by decide +kernel
theorem d_Lw_law_538 : decode code 538 = .ok (.iload_n 3, 1) := by decide +kernel
theorem d_Lw_law_539 : decode code 539 = .ok (.iconst 2, 1) := by decide +kernel
theorem d_Lw_law_540 : decode code 540 = .ok (.iadd, 1) := by decide +kernel
theorem d_Lw_law_541 : decode code 541 = .ok (.iaload, 1) := by decide +kernel
theorem d_Lw_law_542 : decode code 542 = .ok (.i2l, 1) := by decide +kernel
theorem d_Lw_law_543 : decode code 543 = .ok (.bipush 32, 2) := by decide +kernel
theorem d_Lw_law_545 : decode code 545 = .ok (.lshl, 1) := by decide +kernel
theorem d_Lw_law_546 : decode code 546 = .ok (.aload_n 0, 1) := by decide +kernel
theorem d_Lw_law_547 : decode code 547 = .ok (.iload_n 3, 1) := by decide +kernel
theorem d_Lw_law_548 : decode code 548 = .ok (.iconst 3, 1) := by decide +kernel
theorem d_Lw_law_549 : decode code 549 = .ok (.iadd, 1) := by decide +kernel
theorem d_Lw_law_550 : decode code 550 = .ok (.iaload, 1) := by decide +kernel
theorem d_Lw_law_551 : decode code 551 = .ok (.i2l, 1) := by decide +kernel
theorem d_Lw_law_552 : decode code 552 = .ok (.ldc2_w 66, 3) := by decide +kernel
theorem d_Lw_law_555 : decode code 555 = .ok (.land, 1) := by decide +kernel
theorem d_Lw_law_556 : decode code 556 = .ok (.lor, 1) := by decide +kernel
theorem d_Lw_law_557 : decode code 557 = .ok (.invokevirtual 72, 3) := by decide +kernel
theorem d_Lw_law_560 : decode code 560 = .ok (.if_icmp .eq 67, 3) := by decide +kernel
theorem d_Lw_law_563 : decode code 563 = .ok (.iconst 0, 1) := by decide +kernel
theorem d_Lw_law_564 : decode code 564 = .ok (.ireturn, 1) := by decide +kernel
theorem d_Lw_law_565 : decode code 565 = .ok (.aload_n 1, 1) := by decide +kernel
theorem d_Lw_law_566 : decode code 566 = .ok (.invokevirtual 73, 3) := by decide +kernel
theorem d_Lw_law_569 : decode code 569 = .ok (.aload_n 2, 1) := by decide +kernel
theorem d_Lw_law_570 : decode code 570 = .ok (.invokevirtual 76, 3) := by decide +kernel
theorem d_Lw_law_573 : decode code 573 = .ok (.if_icmp .eq 54, 3) := by decide +kernel
theorem d_Lw_law_576 : decode code 576 = .ok (.iconst 0, 1) := by decide +kernel
theorem d_Lw_law_577 : decode code 577 = .ok (.ireturn, 1) := by decide +kernel
theorem d_Lw_law_578 : decode code 578 = .ok (.aload_n 1, 1) := by decide +kernel
theorem d_Lw_law_579 : decode code 579 = .ok (.invokevirtual 77, 3) := by decide +kernel
theorem d_Lw_law_582 : decode code 582 = .ok (.aload_n 2, 1) := by decide +kernel
theorem d_Lw_law_583 : decode code 583 = .ok (.invokevirtual 80, 3) := by decide +kernel
theorem d_Lw_law_586 : decode code 586 = .ok (.if_icmp .eq 41, 3) := by decide +kernel
theorem d_Lw_law_589 : decode code 589 = .ok (.iconst 0, 1) := by decide +kernel
theorem d_Lw_law_590 : decode code 590 = .ok (.ireturn, 1) := by decide +kernel
theorem d_Lw_law_591 : decode code 591 = .ok (.aload_n 1, 1) := by decide +kernel
theorem d_Lw_law_592 : decode code 592 = .ok (.aload_n 0, 1) := by decide +kernel
theorem d_Lw_law_593 : decode code 593 = .ok (.iload_n 3, 1) := by decide +kernel
theorem d_Lw_law_594 : decode code 594 = .ok (.iconst 1, 1) := by decide +kernel
theorem d_Lw_law_595 : decode code 595 = .ok (.iadd, 1) := by decide +kernel
theorem d_Lw_law_596 : decode code 596 = .ok (.iaload, 1) := by decide +kernel
theorem d_Lw_law_597 : decode code 597 = .ok (.invokevirtual 81, 3) := by decide +kernel
theorem d_Lw_law_600 : decode code 600 = .ok (.aload_n 2, 1) := by decide +kernel
theorem d_Lw_law_601 : decode code 601 = .ok (.aload_n 0, 1) := by decide +kernel
theorem d_Lw_law_602 : decode code 602 = .ok (.iload_n 3, 1) := by decide +kernel
theorem d_Lw_law_603 : decode code 603 = .ok (.iconst 1, 1) := by decide +kernel
theorem d_Lw_law_604 : decode code 604 = .ok (.iadd, 1) := by decide +kernel
theorem d_Lw_law_605 : decode code 605 = .ok (.iaload, 1) := by decide +kernel
theorem d_Lw_law_606 : decode code 606 = .ok (.invokevirtual 84, 3) := by decide +kernel
theorem d_Lw_law_609 : decode code 609 = .ok (.if_icmp .eq 18, 3) := by decide +kernel
theorem d_Lw_law_612 : decode code 612 = .ok (.iconst 0, 1) := by decide +kernel
theorem d_Lw_law_613 : decode code 613 = .ok (.ireturn, 1) := by decide +kernel
theorem d_Lw_law_614 : decode code 614 = .ok (.aload_n 1, 1) := by decide +kernel
theorem d_Lw_law_615 : decode code 615 = .ok (.invokevirtual 85, 3) := by decide +kernel
theorem d_Lw_law_618 : decode code 618 = .ok (.aload_n 2, 1) := by decide +kernel
theorem d_Lw_law_619 : decode code 619 = .ok (.invokevirtual 88, 3) := by decide +kernel
theorem d_Lw_law_622 : decode code 622 = .ok (.if_icmp .eq 5, 3) := by decide +kernel
theorem d_Lw_law_625 : decode code 625 = .ok (.iconst 0, 1) := by decide +kernel
theorem d_Lw_law_626 : decode code 626 = .ok (.ireturn, 1) := by decide +kernel
theorem d_Lw_law_627 : decode code 627 = .ok (.iinc 3 6, 3) := by decide +kernel
theorem d_Lw_law_630 : decode code 630 = .ok (.goto (-612), 3) := by decide +kernel
theorem d_Lw_law_633 : decode code 633 = .ok (.iconst 1, 1) := by decide +kernel
theorem d_Lw_law_634 : decode code 634 = .ok (.ireturn, 1) := by decide +kernel
end
section
/-! ===== lN n to 2^64: shifts, and, or, masks, one bit ===== -/
theorem wb_tb (n : Nat) : (lN n).toBitVec = BitVec.ofNat 64 n := rfl
theorem wb_inj {a b : Int64} (h : a.toBitVec = b.toBitVec) : a = b := Int64.toBitVec_inj.mp h
theorem wb_tn {n : Nat} (h : n < 2 ^ 64) : (lN n).toBitVec.toNat = n := by rw [wb_tb, BitVec.toNat_ofNat, Nat.mod_eq_of_lt h]
theorem wb_of (x : Int64) : ∃ n, n < 2 ^ 64 ∧ x = lN n := ⟨x.toBitVec.toNat, x.toBitVec.isLt, wb_inj (by rw [wb_tb]; simp)⟩
theorem wb_of32 (x : Int32) : ∃ n, n < 2 ^ 32 ∧ x = nI n := ⟨x.toBitVec.toNat, x.toBitVec.isLt, Int32.toBitVec_inj.mp (by show _ = BitVec.ofNat 32 _; simp)⟩
theorem wb_c : ∀ k, k < 64 → ((nI k).toInt64 &&& 63) = lN k := by decide +kernel
theorem wb_cu : ∀ k, k < 64 → ((nI k).toInt64.toUInt64 &&& Int64.toUInt64 63) = UInt64.ofNat k := by decide +kernel
theorem wb_sm : ∀ k, k < 64 → (BitVec.ofNat 64 k).smod 64 = BitVec.ofNat 64 k := by decide +kernel
theorem wb_pw {a b : Nat} (h : a ≤ b) : 2 ^ b = 2 ^ a * 2 ^ (b - a) := by rw [← Nat.pow_add]; congr 1; omega
theorem wb_lt2 {a b : Nat} (h : a < b) : 2 ^ a < 2 ^ b := Nat.pow_lt_pow_right (by decide) h
theorem wb_mod (n : Nat) : lN n = lN (n % 2 ^ 64) := wb_inj (by rw [wb_tb, wb_tb]; apply BitVec.eq_of_toNat_eq; rw [BitVec.toNat_ofNat, BitVec.toNat_ofNat, Nat.mod_mod])
theorem wb_shr {n k : Nat} (hn : n < 2 ^ 64) (hk : k < 64) : ((lN n).toUInt64 >>> ((nI k).toInt64.toUInt64 &&& Int64.toUInt64 63)).toInt64 = lN (n / 2 ^ k) := by
  rw [wb_cu k hk]
  apply wb_inj
  apply BitVec.eq_of_toNat_eq
  show ((lN n).toUInt64 >>> UInt64.ofNat k).toNat = (BitVec.ofNat 64 _).toNat
  have h1 : (UInt64.ofNat k).toNat = k := by
    show (BitVec.ofNat 64 k).toNat = k
    rw [BitVec.toNat_ofNat, Nat.mod_eq_of_lt (by omega)]
  have h2 : (lN n).toUInt64.toNat = n := wb_tn hn
  rw [UInt64.toNat_shiftRight, h1, h2, Nat.mod_eq_of_lt hk, Nat.shiftRight_eq_div_pow, BitVec.toNat_ofNat, Nat.mod_eq_of_lt (Nat.lt_of_le_of_lt (Nat.div_le_self _ _) hn)]
theorem wb_shl (n : Nat) {k : Nat} (hk : k < 64) : lN n <<< ((nI k).toInt64 &&& 63) = lN (n * 2 ^ k) := by
  rw [wb_c k hk]
  apply wb_inj
  rw [Int64.toBitVec_shiftLeft, wb_tb, wb_tb, wb_tb, wb_sm k hk]
  apply BitVec.eq_of_toNat_eq
  rw [BitVec.shiftLeft_eq', BitVec.toNat_shiftLeft, BitVec.toNat_ofNat, BitVec.toNat_ofNat, BitVec.toNat_ofNat, Nat.mod_eq_of_lt (show k < 2 ^ 64 by omega), Nat.shiftLeft_eq, Nat.mul_mod, Nat.mod_mod, ← Nat.mul_mod]
theorem wb_and {a b : Nat} (ha : a < 2 ^ 64) (hb : b < 2 ^ 64) : lN a &&& lN b = lN (a &&& b) := by
  apply wb_inj
  rw [Int64.toBitVec_and, wb_tb, wb_tb, wb_tb]
  apply BitVec.eq_of_toNat_eq
  rw [BitVec.toNat_and, BitVec.toNat_ofNat, BitVec.toNat_ofNat, BitVec.toNat_ofNat, Nat.mod_eq_of_lt ha, Nat.mod_eq_of_lt hb, Nat.mod_eq_of_lt (Nat.and_lt_two_pow _ hb)]
theorem wb_or {a b : Nat} (ha : a < 2 ^ 64) (hb : b < 2 ^ 64) : lN a ||| lN b = lN (a ||| b) := by
  apply wb_inj
  rw [Int64.toBitVec_or, wb_tb, wb_tb, wb_tb]
  apply BitVec.eq_of_toNat_eq
  rw [BitVec.toNat_or, BitVec.toNat_ofNat, BitVec.toNat_ofNat, BitVec.toNat_ofNat, Nat.mod_eq_of_lt ha, Nat.mod_eq_of_lt hb, Nat.mod_eq_of_lt (Nat.or_lt_two_pow ha hb)]
theorem wb_mask {n k : Nat} (hn : n < 2 ^ 64) (hk : k < 64) : lN n &&& lN (2 ^ k - 1) = lN (n % 2 ^ k) := by
  rw [wb_and hn (by have := wb_lt2 hk; omega), Nat.and_two_pow_sub_one_eq_mod]
theorem wb_a1 {n : Nat} (hn : n < 2 ^ 64) : lN n &&& 1 = lN (n % 2) := wb_mask (k := 1) hn (by decide)
theorem wb_bit {n k : Nat} (hn : n < 2 ^ 64) (hk : k < 64) : ((lN n).toUInt64 >>> ((nI k).toInt64.toUInt64 &&& Int64.toUInt64 63)).toInt64 &&& 1 = lN (n / 2 ^ k % 2) := by
  rw [wb_shr hn hk, wb_a1 (Nat.lt_of_le_of_lt (Nat.div_le_self _ _) hn)]
theorem wb_xor {q k : Nat} (hk : k < 63) (h : 2 ^ k ≤ q) (h2 : q < 2 ^ (k + 1)) : lN q ^^^ lN (2 ^ k) = lN (q - 2 ^ k) := by
  obtain ⟨r, rfl⟩ : ∃ r, q = 2 ^ k + r := ⟨q - 2 ^ k, by omega⟩
  have hr : r < 2 ^ k := by rw [Nat.pow_succ] at h2; omega
  have hx : (2 ^ k + r) ^^^ 2 ^ k = r := by
    apply Nat.eq_of_testBit_eq
    intro i
    rw [Nat.testBit_xor, Nat.testBit_two_pow]
    rcases Nat.lt_trichotomy i k with h | h | h
    · rw [Nat.testBit_two_pow_add_gt h]
      simp [show ¬ k = i by omega]
    · subst h
      rw [Nat.testBit_two_pow_add_eq]
      simp
    · have a1 : 2 ^ (k + 1) ≤ 2 ^ i := Nat.pow_le_pow_right (by decide) h
      rw [Nat.testBit_lt_two_pow (show 2 ^ k + r < 2 ^ i by omega), Nat.testBit_lt_two_pow (show r < 2 ^ i by omega)]
      simp [show ¬ k = i by omega]
  have b1 := wb_lt2 (show k + 1 < 64 by omega)
  have b2 := wb_lt2 (show k < 64 by omega)
  apply wb_inj
  rw [Int64.toBitVec_xor, wb_tb, wb_tb, wb_tb]
  apply BitVec.eq_of_toNat_eq
  rw [BitVec.toNat_xor, BitVec.toNat_ofNat, BitVec.toNat_ofNat, BitVec.toNat_ofNat, Nat.mod_eq_of_lt (by omega : 2 ^ k + r < 2 ^ 64), Nat.mod_eq_of_lt b2, hx, Nat.add_sub_cancel_left, Nat.mod_eq_of_lt (by omega)]
theorem lN_bv (n : Nat) : (lN n).toBitVec = BitVec.ofNat 64 n := rfl
theorem lN_nat {n : Nat} (h : n < 2 ^ 64) : (lN n).toBitVec.toNat = n := by rw [lN_bv, BitVec.toNat_ofNat]; exact Nat.mod_eq_of_lt h
theorem lN_xor (a b : Nat) : lN a ^^^ lN b = lN (a ^^^ b) := by
  apply Int64.toBitVec_inj.mp; rw [Int64.toBitVec_xor, lN_bv, lN_bv, lN_bv]; apply BitVec.eq_of_getLsbD_eq; intro i hi; simp [BitVec.getLsbD_ofNat, Nat.testBit_xor, hi]
/-! a word as a number, its fields -/
def qb_n (x : Int64) : Nat := x.toBitVec.toNat
theorem qb_lt (x : Int64) : qb_n x < 2 ^ 64 := x.toBitVec.isLt
theorem qb_e (x : Int64) : lN (qb_n x) = x := wb_inj (by rw [wb_tb]; unfold qb_n; simp)
theorem qb_N {n : Nat} (h : n < 2 ^ 64) : qb_n (lN n) = n := wb_tn h
theorem qb_0 : qb_n 0 = 0 := rfl
theorem qb_dvd {k : Nat} (hk : k ≤ 32) : 2 ^ k ∣ 2 ^ 32 := Nat.pow_dvd_pow 2 hk
theorem qb_tn (n : Nat) : (nI n).toBitVec.toNat = n % 2 ^ 32 := by
  show (BitVec.ofNat 32 n).toNat = _
  rw [BitVec.toNat_ofNat]
theorem qb_get (x : Int64) {p k : Nat} (hp : p < 64) (m : Int32) (hm : m.toBitVec.toNat = 2 ^ k - 1) (hk : k ≤ 32) : (x.toUInt64 >>> ((nI p).toInt64.toUInt64 &&& Int64.toUInt64 63)).toInt64.toInt32 &&& m = nI (qb_n x / 2 ^ p % 2 ^ k) := by
  conv => lhs; rw [← qb_e x]
  rw [wb_shr (qb_lt x) hp, lN_i, pk_and _ k hm, qb_tn, Nat.mod_mod_of_dvd _ (qb_dvd hk)]
/-- a field of s bits at p becomes a -/
def qb_put (W p s a : Nat) : Nat := (W &&& (((2 ^ s - 1) * 2 ^ p) ^^^ (2 ^ 64 - 1))) ||| (a * 2 ^ p)
theorem qb_m1 : (-1 : Int64) = lN (2 ^ 64 - 1) := by decide +kernel
theorem qb_sh {p s a : Nat} (hp : p + s ≤ 64) (ha : a < 2 ^ s) : a * 2 ^ p < 2 ^ 64 := by
  have h1 : a * 2 ^ p < 2 ^ s * 2 ^ p := Nat.mul_lt_mul_of_pos_right ha (Nat.two_pow_pos p)
  rw [← Nat.pow_add] at h1
  exact Nat.lt_of_lt_of_le h1 (Nat.pow_le_pow_right (by decide) (by omega))
theorem qb_put_lt {W p s a : Nat} (hp : p + s ≤ 64) (hW : W < 2 ^ 64) (ha : a < 2 ^ s) : qb_put W p s a < 2 ^ 64 := by
  unfold qb_put
  refine Nat.or_lt_two_pow ?_ (qb_sh hp ha)
  rw [Nat.and_comm]
  exact Nat.and_lt_two_pow _ hW
theorem qb_set (x : Int64) {p s a : Nat} (hp : p + s ≤ 64) (hp2 : p < 64) (ha : a < 2 ^ s) (hs : s < 64) : (x &&& ((lN (2 ^ s - 1) <<< ((nI p).toInt64 &&& 63)) ^^^ (-1))) ||| (lN a <<< ((nI p).toInt64 &&& 63)) = lN (qb_put (qb_n x) p s a) := by
  have h1 : (2 ^ s - 1) * 2 ^ p < 2 ^ 64 := qb_sh hp (by have := Nat.two_pow_pos s; omega)
  have h2 : ((2 ^ s - 1) * 2 ^ p) ^^^ (2 ^ 64 - 1) < 2 ^ 64 := Nat.xor_lt_two_pow h1 (by decide)
  have h3 : qb_n x &&& (((2 ^ s - 1) * 2 ^ p) ^^^ (2 ^ 64 - 1)) < 2 ^ 64 := Nat.and_lt_two_pow _ h2
  conv => lhs; rw [← qb_e x]
  rw [wb_shl _ hp2, wb_shl _ hp2, qb_m1, lN_xor, wb_and (qb_lt x) h2, wb_or h3 (qb_sh hp ha)]
  rfl
/-- what the fields are then -/
theorem qb_dig {W a p s q : Nat} (ha : a < 2 ^ s) (hp : p + s ≤ 64) (hq : q + s ≤ 64) (hd : q = p ∨ q + s ≤ p ∨ p + s ≤ q) : qb_put W p s a / 2 ^ q % 2 ^ s = if q = p then a else W / 2 ^ q % 2 ^ s := by
  apply Nat.eq_of_testBit_eq
  intro i
  unfold qb_put
  rw [Nat.testBit_mod_two_pow, Nat.testBit_div_two_pow, Nat.testBit_or, Nat.testBit_and, Nat.testBit_xor, Nat.testBit_mul_two_pow, Nat.testBit_mul_two_pow, Nat.testBit_two_pow_sub_one, Nat.testBit_two_pow_sub_one]
  by_cases hi : i < s
  · by_cases hqp : q = p
    · subst hqp
      rw [if_pos rfl]
      have e1 : i + q - q = i := by omega
      simp [hi, e1, show i + q < 64 by omega, show q ≤ i + q by omega]
    · rw [if_neg hqp, Nat.testBit_mod_two_pow, Nat.testBit_div_two_pow]
      by_cases hle : p ≤ i + q
      · have h1 : ¬ i + q - p < s := by omega
        have h2 : a.testBit (i + q - p) = false := Nat.testBit_lt_two_pow (Nat.lt_of_lt_of_le ha (Nat.pow_le_pow_right (by decide) (by omega)))
        simp [hi, h1, h2, show i + q < 64 by omega]
      · simp [hi, hle, show i + q < 64 by omega]
  · by_cases hqp : q = p
    · subst hqp
      rw [if_pos rfl]
      have h2 : a.testBit i = false := Nat.testBit_lt_two_pow (Nat.lt_of_lt_of_le ha (Nat.pow_le_pow_right (by decide) (by omega)))
      simp [hi, h2]
    · rw [if_neg hqp, Nat.testBit_mod_two_pow]
      simp [hi]
end
section
/-! sums over 0 .. n-1, and what one change does to them -/
def qs_ (n : Nat) (f : Nat → Nat) : Nat := match n with
  | 0 => 0
  | k + 1 => qs_ k f + f k
theorem qs_0 (f : Nat → Nat) : qs_ 0 f = 0 := rfl
theorem qs_s (n : Nat) (f : Nat → Nat) : qs_ (n + 1) f = qs_ n f + f n := rfl
theorem qs_congr {n : Nat} {f g : Nat → Nat} (h : ∀ i, i < n → f i = g i) : qs_ n f = qs_ n g := by
  induction n with
  | zero => rfl
  | succ n ih =>
    rw [qs_s, qs_s, ih (fun i hi => h i (by omega)), h n (by omega)]
theorem qs_upd {n k : Nat} {f g : Nat → Nat} (hk : k < n) (h : ∀ i, i < n → i ≠ k → f i = g i) : qs_ n g + f k = qs_ n f + g k := by
  induction n with
  | zero => omega
  | succ n ih =>
    rw [qs_s, qs_s]
    by_cases hkn : k = n
    · subst hkn
      rw [qs_congr (f := f) (g := g) (fun i hi => h i (by omega) (by omega))]
      omega
    · have h1 := ih (by omega) (fun i hi hne => h i (by omega) hne)
      have h2 := h n (by omega) (by omega)
      omega
theorem qs_add (n : Nat) (f g : Nat → Nat) : qs_ n (fun i => f i + g i) = qs_ n f + qs_ n g := by
  induction n with
  | zero => rfl
  | succ n ih =>
    rw [qs_s, qs_s, qs_s, ih]
    omega
theorem qs_le {n : Nat} {f g : Nat → Nat} (h : ∀ i, i < n → f i ≤ g i) : qs_ n f ≤ qs_ n g := by
  induction n with
  | zero => exact Nat.le_refl _
  | succ n ih =>
    rw [qs_s, qs_s]
    have h1 := ih (fun i hi => h i (by omega))
    have h2 := h n (by omega)
    omega
theorem qs_ge1 {n k : Nat} {f : Nat → Nat} (hk : k < n) : f k ≤ qs_ n f := by
  induction n with
  | zero => omega
  | succ n ih =>
    rw [qs_s]
    by_cases hkn : k = n
    · subst hkn; omega
    · have := ih (by omega); omega
theorem qs_ge2 {n i j : Nat} {f : Nat → Nat} (hi : i < n) (hj : j < n) (hne : i ≠ j) : f i + f j ≤ qs_ n f := by
  induction n with
  | zero => omega
  | succ n ih =>
    rw [qs_s]
    by_cases h1 : i = n
    · subst h1
      have := qs_ge1 (f := f) (show j < i by omega)
      omega
    · by_cases h2 : j = n
      · subst h2
        have := qs_ge1 (f := f) (show i < j by omega)
        omega
      · have := ih (by omega) (by omega)
        omega
theorem qs_zero {n : Nat} {f : Nat → Nat} (h : ∀ i, i < n → f i = 0) : qs_ n f = 0 := by
  induction n with
  | zero => rfl
  | succ n ih => rw [qs_s, ih (fun i hi => h i (by omega)), h n (by omega)]
theorem qs_all0 {n k : Nat} {f : Nat → Nat} (h : qs_ n f = 0) (hk : k < n) : f k = 0 := by
  have := qs_ge1 (f := f) hk
  omega
theorem qs_ex {n : Nat} {f : Nat → Nat} (h : 0 < qs_ n f) : ∃ k, k < n ∧ 0 < f k := by
  induction n with
  | zero => rw [qs_0] at h; omega
  | succ n ih =>
    rw [qs_s] at h
    by_cases hn : 0 < f n
    · exact ⟨n, by omega, hn⟩
    · obtain ⟨k, h1, h2⟩ := ih (by omega)
      exact ⟨k, by omega, h2⟩
theorem qs_const (n c : Nat) : qs_ n (fun _ => c) = n * c := by
  induction n with
  | zero => rw [qs_0]; omega
  | succ n ih => rw [qs_s, ih, Nat.succ_mul]
theorem qs_swap (n m : Nat) (f : Nat → Nat → Nat) : qs_ n (fun i => qs_ m (fun j => f i j)) = qs_ m (fun j => qs_ n (fun i => f i j)) := by
  induction n with
  | zero => rw [qs_0, qs_zero (fun j _ => qs_0 _)]
  | succ n ih =>
    rw [qs_s, ih, ← qs_add]
    exact qs_congr (fun j _ => (qs_s n _).symm)
theorem qs_one {n k : Nat} {f : Nat → Nat} (hk : k < n) (h : ∀ i, i < n → i ≠ k → f i = 0) : qs_ n f = f k := by
  have h1 := qs_upd (f := f) (g := fun _ => 0) hk (fun i hi hne => h i hi hne)
  rw [qs_const] at h1
  omega
theorem qs_mul (n c : Nat) (f : Nat → Nat) : qs_ n (fun i => f i * c) = qs_ n f * c := by
  induction n with
  | zero => rw [qs_0, qs_0]; omega
  | succ n ih => rw [qs_s, qs_s, ih, Nat.add_mul]
/-- a sum that is less than the number of its places has a place with 0 -/
theorem qs_hole {n : Nat} {f : Nat → Nat} (h : qs_ n f < n) : ∃ k, k < n ∧ f k = 0 := by
  induction n with
  | zero => omega
  | succ n ih =>
    rw [qs_s] at h
    by_cases hn : f n = 0
    · exact ⟨n, by omega, hn⟩
    · obtain ⟨k, h1, h2⟩ := ih (by omega)
      exact ⟨k, by omega, h2⟩
theorem qs_split (a b : Nat) (f : Nat → Nat) : qs_ (a + b) f = qs_ a f + qs_ b (fun i => f (a + i)) := by
  induction b with
  | zero => rw [qs_0]; rfl
  | succ b ih => rw [← Nat.add_assoc, qs_s, ih, qs_s]; omega
/-- an indicator -/
def qi_ (p : Prop) [Decidable p] : Nat := if p then 1 else 0
theorem qi_t {p : Prop} [Decidable p] (h : p) : qi_ p = 1 := if_pos h
theorem qi_f {p : Prop} [Decidable p] (h : ¬ p) : qi_ p = 0 := if_neg h
theorem qi_le (p : Prop) [Decidable p] : qi_ p ≤ 1 := by unfold qi_; split <;> omega
theorem qi_pos {p : Prop} [Decidable p] (h : 0 < qi_ p) : p := by
  unfold qi_ at h
  split at h
  · assumption
  · omega
theorem qi_n {a b : Nat} (h : a ≠ b) : qi_ (a ≠ b) = 1 := qi_t h
end
section
/-! THE FOREST: roots (of 16 volumes), links of blocks, ways (counts), levels and places of blocks, debts (ways that are counted, but not there yet or no more).
rt v: the root of volume v (0: none); lk n i: link i of block n; wy b: the count of block b; lv b: 2 root, 1 leaf, 0 data; ps b: at which place a block stands in the nodes that lead to it; db b: debt -/
theorem qf_us {α : Type} {f : Nat → α} {k : Nat} {v : α} : va_up f k v k = v := va_up_self f k v
theorem qf_un {α : Type} {f : Nat → α} {k j : Nat} {v : α} (h : j ≠ k) : va_up f k v j = f j := va_up_ne f v h
abbrev qf_po (b : Nat) : Prop := 16 ≤ b ∧ b < 784
def qf_nl (k : Nat) : Nat := if k = 2 then 4 else if k = 1 then 32 else 0
theorem qf_nl2 : qf_nl 2 = 4 := rfl
theorem qf_nl1 : qf_nl 1 = 32 := rfl
theorem qf_nl0 : qf_nl 0 = 0 := rfl
def qf_lk (lk : Nat → Nat → Nat) (n i x : Nat) : Nat → Nat → Nat := va_up lk n (va_up (lk n) i x)
theorem qf_lk_s (lk : Nat → Nat → Nat) (n i x : Nat) : qf_lk lk n i x n i = x := by
  unfold qf_lk; rw [qf_us, qf_us]
theorem qf_lk_i (lk : Nat → Nat → Nat) (n i x j : Nat) (h : j ≠ i) : qf_lk lk n i x n j = lk n j := by
  unfold qf_lk; rw [qf_us, qf_un h]
theorem qf_lk_n (lk : Nat → Nat → Nat) (n i x m j : Nat) (h : m ≠ n) : qf_lk lk n i x m j = lk m j := by
  unfold qf_lk; rw [qf_un h]
/-- how many links of the block n lead to b, if it is live -/
def qf_out (lk : Nat → Nat → Nat) (wy lv : Nat → Nat) (n b : Nat) : Nat := if 0 < wy n then qs_ (qf_nl (lv n)) (fun i => qi_ (lk n i = b)) else 0
theorem qf_out_d {lk : Nat → Nat → Nat} {wy lv : Nat → Nat} {n b : Nat} (h : wy n = 0) : qf_out lk wy lv n b = 0 := by
  unfold qf_out; rw [if_neg (by omega)]
theorem qf_out_l {lk : Nat → Nat → Nat} {wy lv : Nat → Nat} {n b : Nat} (h : 0 < wy n) : qf_out lk wy lv n b = qs_ (qf_nl (lv n)) (fun i => qi_ (lk n i = b)) := by
  unfold qf_out; rw [if_pos h]
/-- how many ways lead to b -/
def qf_in (rt : Nat → Nat) (lk : Nat → Nat → Nat) (wy lv : Nat → Nat) (b : Nat) : Nat := qs_ 16 (fun v => qi_ (rt v = b)) + qs_ 784 (fun n => qf_out lk wy lv n b)
/-- a link of a node at place i, that leads somewhere, leads to a block one level below, whose place that is -/
def qf_li (lv ps : Nat → Nat) (k i x : Nat) : Prop := x = 0 ∨ (qf_po x ∧ lv x + 1 = k ∧ ps x = i)
def qf_ro (lv : Nat → Nat) (x : Nat) : Prop := x = 0 ∨ (qf_po x ∧ lv x = 2)
def qf_ok (rt : Nat → Nat) (lk : Nat → Nat → Nat) (wy lv ps db : Nat → Nat) : Prop :=
  (∀ v, v < 16 → qf_ro lv (rt v)) ∧
  (∀ n i, 0 < wy n → i < qf_nl (lv n) → qf_li lv ps (lv n) i (lk n i)) ∧
  (∀ b, qf_po b → wy b = qf_in rt lk wy lv b + db b) ∧
  (∀ b, ¬ qf_po b → wy b = 0)
theorem qf_live {rt : Nat → Nat} {lk : Nat → Nat → Nat} {wy lv ps db : Nat → Nat} (h : qf_ok rt lk wy lv ps db) {b : Nat} (hb : 0 < wy b) : qf_po b := by
  by_cases hp : qf_po b
  · exact hp
  · have := h.2.2.2 b hp; omega
theorem qf_po0 : ¬ qf_po 0 := fun h => by have := h.1; omega
theorem qf_po_lt {b : Nat} (h : qf_po b) : b < 784 := h.2
/-- a root that is there is live -/
theorem qf_live_rt {rt : Nat → Nat} {lk : Nat → Nat → Nat} {wy lv ps db : Nat → Nat} (h : qf_ok rt lk wy lv ps db) {v : Nat} (hv : v < 16) (h0 : rt v ≠ 0) : 0 < wy (rt v) ∧ lv (rt v) = 2 ∧ qf_po (rt v) := by
  rcases h.1 v hv with h1 | ⟨h1, h2⟩
  · exact absurd h1 h0
  · refine ⟨?_, h2, h1⟩
    rw [h.2.2.1 _ h1]
    have : qi_ (rt v = rt v) ≤ qs_ 16 (fun w => qi_ (rt w = rt v)) := qs_ge1 (f := fun w => qi_ (rt w = rt v)) hv
    rw [qi_t rfl] at this
    unfold qf_in
    omega
theorem qf_out_ge {lk : Nat → Nat → Nat} {wy lv : Nat → Nat} {n i : Nat} (hn : 0 < wy n) (hi : i < qf_nl (lv n)) : 1 ≤ qf_out lk wy lv n (lk n i) := by
  rw [qf_out_l hn]
  have : qi_ (lk n i = lk n i) ≤ qs_ (qf_nl (lv n)) (fun j => qi_ (lk n j = lk n i)) := qs_ge1 (f := fun j => qi_ (lk n j = lk n i)) hi
  rw [qi_t rfl] at this
  exact this
theorem qf_live_lk {rt : Nat → Nat} {lk : Nat → Nat → Nat} {wy lv ps db : Nat → Nat} (h : qf_ok rt lk wy lv ps db) {n i : Nat} (hn : 0 < wy n) (hi : i < qf_nl (lv n)) (h0 : lk n i ≠ 0) : 0 < wy (lk n i) ∧ lv (lk n i) + 1 = lv n ∧ qf_po (lk n i) ∧ ps (lk n i) = i := by
  rcases h.2.1 n i hn hi with h1 | ⟨h1, h2, h3⟩
  · exact absurd h1 h0
  · refine ⟨?_, h2, h1, h3⟩
    rw [h.2.2.1 _ h1]
    have h4 := qf_out_ge (lk := lk) hn hi
    have h5 : qf_out lk wy lv n (lk n i) ≤ qs_ 784 (fun m => qf_out lk wy lv m (lk n i)) := qs_ge1 (f := fun m => qf_out lk wy lv m (lk n i)) (qf_live h hn).2
    unfold qf_in
    omega
/-! one change at a time -/
/-- a root is set: the way to the old one becomes a debt, a debt to the new one becomes the way -/
theorem qf_set_rt {rt : Nat → Nat} {lk : Nat → Nat → Nat} {wy lv ps db db' : Nat → Nat} (h : qf_ok rt lk wy lv ps db) {v x : Nat} (hv : v < 16) (hx : qf_ro lv x) (hd : ∀ b, qf_po b → db' b + qi_ (x = b) = db b + qi_ (rt v = b)) : qf_ok (va_up rt v x) lk wy lv ps db' := by
  refine ⟨fun w hw => ?_, h.2.1, fun b hb => ?_, h.2.2.2⟩
  · by_cases hwv : w = v
    · subst hwv; rw [qf_us]; exact hx
    · rw [qf_un hwv]; exact h.1 w hw
  · have h1 := h.2.2.1 b hb
    have h2 := hd b hb
    have h3 := qs_upd (n := 16) (k := v) (f := fun w => qi_ (rt w = b)) (g := fun w => qi_ (va_up rt v x w = b)) hv (fun i _ hne => by show qi_ _ = qi_ _; rw [qf_un hne])
    rw [show qi_ (va_up rt v x v = b) = qi_ (x = b) by rw [qf_us]] at h3
    unfold qf_in at h1 ⊢
    omega
/-- a link of a live node is set -/
theorem qf_set_lk {rt : Nat → Nat} {lk : Nat → Nat → Nat} {wy lv ps db db' : Nat → Nat} (h : qf_ok rt lk wy lv ps db) {n i x : Nat} (hn : 0 < wy n) (hi : i < qf_nl (lv n)) (hx : qf_li lv ps (lv n) i x) (hd : ∀ b, qf_po b → db' b + qi_ (x = b) = db b + qi_ (lk n i = b)) : qf_ok rt (qf_lk lk n i x) wy lv ps db' := by
  have hpn := qf_live h hn
  refine ⟨h.1, fun m j hm hj => ?_, fun b hb => ?_, h.2.2.2⟩
  · by_cases hmn : m = n
    · subst hmn
      by_cases hji : j = i
      · subst hji; rw [qf_lk_s]; exact hx
      · rw [qf_lk_i _ _ _ _ _ hji]; exact h.2.1 m j hm hj
    · rw [qf_lk_n _ _ _ _ _ _ hmn]; exact h.2.1 m j hm hj
  · have h1 := h.2.2.1 b hb
    have h2 := hd b hb
    have h3 := qs_upd (n := qf_nl (lv n)) (k := i) (f := fun j => qi_ (lk n j = b)) (g := fun j => qi_ (qf_lk lk n i x n j = b)) hi (fun j _ hne => by show qi_ _ = qi_ _; rw [qf_lk_i _ _ _ _ _ hne])
    rw [show qi_ (qf_lk lk n i x n i = b) = qi_ (x = b) by rw [qf_lk_s]] at h3
    have h6 := qs_upd (n := 784) (k := n) (f := fun m => qf_out lk wy lv m b) (g := fun m => qf_out (qf_lk lk n i x) wy lv m b) hpn.2 (fun m _ hne => by
      show qf_out _ _ _ _ _ = qf_out _ _ _ _ _
      unfold qf_out
      have : (fun j => qi_ (lk m j = b)) = (fun j => qi_ (qf_lk lk n i x m j = b)) := funext fun j => by rw [qf_lk_n _ _ _ _ _ _ hne]
      rw [this])
    have h7 : qf_out lk wy lv n b = qs_ (qf_nl (lv n)) (fun j => qi_ (lk n j = b)) := qf_out_l hn
    have h8 : qf_out (qf_lk lk n i x) wy lv n b = qs_ (qf_nl (lv n)) (fun j => qi_ (qf_lk lk n i x n j = b)) := qf_out_l hn
    rw [h7, h8] at h6
    unfold qf_in at h1 ⊢
    omega
/-- counts change, but no block comes to life or dies: only debts change -/
theorem qf_set_wy {rt : Nat → Nat} {lk : Nat → Nat → Nat} {wy wy' lv ps db db' : Nat → Nat} (h : qf_ok rt lk wy lv ps db) (hl : ∀ b, 0 < wy' b ↔ 0 < wy b) (hd : ∀ b, qf_po b → wy' b + db b = wy b + db' b) : qf_ok rt lk wy' lv ps db' := by
  have ho : ∀ n b, qf_out lk wy' lv n b = qf_out lk wy lv n b := fun n b => by
    unfold qf_out
    by_cases hn : 0 < wy n
    · rw [if_pos hn, if_pos ((hl n).mpr hn)]
    · rw [if_neg hn, if_neg (fun q => hn ((hl n).mp q))]
  refine ⟨h.1, fun n i hn hi => h.2.1 n i ((hl n).mp hn) hi, fun b hb => ?_, fun b hb => ?_⟩
  · have h1 := h.2.2.1 b hb
    have h2 := hd b hb
    have h3 : qf_in rt lk wy' lv b = qf_in rt lk wy lv b := by
      unfold qf_in
      rw [qs_congr (fun n _ => ho n b)]
    omega
  · have h1 := h.2.2.2 b hb
    by_cases hq : 0 < wy' b
    · have := (hl b).mp hq; omega
    · omega
/-- a block dies: what its links led to becomes debt -/
theorem qf_kill {rt : Nat → Nat} {lk : Nat → Nat → Nat} {wy lv ps db : Nat → Nat} (h : qf_ok rt lk wy lv ps db) {n : Nat} (hn : wy n = 1) (hd : db n = 1) : qf_ok rt lk (va_up wy n 0) lv ps (fun b => if b = n then 0 else db b + qf_out lk wy lv n b) := by
  have hpn : qf_po n := qf_live h (by omega)
  have hin : qf_in rt lk wy lv n = 0 := by have := h.2.2.1 n hpn; omega
  have hself : qf_out lk wy lv n n = 0 := by
    unfold qf_in at hin
    have : qs_ 784 (fun m => qf_out lk wy lv m n) = 0 := by omega
    exact qs_all0 (f := fun m => qf_out lk wy lv m n) this hpn.2
  have hne : ∀ m, m ≠ n → (va_up wy n 0) m = wy m := fun m hm => qf_un hm
  have hin' : ∀ b, qf_in rt lk (va_up wy n 0) lv b + qf_out lk wy lv n b = qf_in rt lk wy lv b := fun b => by
    have h6 := qs_upd (n := 784) (k := n) (f := fun m => qf_out lk wy lv m b) (g := fun m => qf_out lk (va_up wy n 0) lv m b) hpn.2 (fun m _ hm => by
      show qf_out _ _ _ _ _ = qf_out _ _ _ _ _
      unfold qf_out
      rw [hne m hm])
    have h7 : qf_out lk (va_up wy n 0) lv n b = 0 := qf_out_d qf_us
    rw [h7] at h6
    unfold qf_in
    omega
  refine ⟨h.1, fun m i hm hi => ?_, fun b hb => ?_, fun b hb => ?_⟩
  · by_cases hmn : m = n
    · subst hmn; rw [qf_us] at hm; omega
    · rw [hne m hmn] at hm; exact h.2.1 m i hm hi
  · have h1 := hin' b
    by_cases hbn : b = n
    · subst hbn
      try dsimp only
      rw [qf_us, if_pos rfl]
      omega
    · try dsimp only
      rw [hne b hbn, if_neg hbn, h.2.2.1 b hb]
      omega
  · by_cases hbn : b = n
    · subst hbn; rw [qf_us]
    · rw [hne b hbn]; exact h.2.2.2 b hb
/-- a dead block comes to life, as a block of data with one debt -/
theorem qf_birth {rt : Nat → Nat} {lk : Nat → Nat → Nat} {wy lv ps db : Nat → Nat} (h : qf_ok rt lk wy lv ps db) {n : Nat} (hp : qf_po n) (hn : wy n = 0) : qf_ok rt lk (va_up wy n 1) (va_up lv n 0) ps (va_up db n 1) := by
  have hin : qf_in rt lk wy lv n = 0 ∧ db n = 0 := by have := h.2.2.1 n hp; omega
  have hrt : ∀ v, v < 16 → rt v ≠ n := fun v hv e => by
    have h1 : qs_ 16 (fun w => qi_ (rt w = n)) = 0 := by have := hin.1; unfold qf_in at this; omega
    have h2 := qs_all0 (f := fun w => qi_ (rt w = n)) h1 hv
    have h3 : qi_ (rt v = n) = 0 := h2
    rw [qi_t e] at h3
    omega
  have hlk : ∀ m i, 0 < wy m → i < qf_nl (lv m) → lk m i ≠ n := fun m i hm hi e => by
    have h1 : qs_ 784 (fun m => qf_out lk wy lv m n) = 0 := by have := hin.1; unfold qf_in at this; omega
    have h2 : qf_out lk wy lv m n = 0 := qs_all0 (f := fun m => qf_out lk wy lv m n) h1 (qf_live h hm).2
    have h3 := qf_out_ge (lk := lk) hm hi
    rw [e] at h3
    omega
  have hlvn : ∀ x, x ≠ n → va_up lv n 0 x = lv x := fun x hx => qf_un hx
  have ho : ∀ m b, qf_out lk (va_up wy n 1) (va_up lv n 0) m b = qf_out lk wy lv m b := fun m b => by
    by_cases hmn : m = n
    · subst hmn
      rw [qf_out_d hn, qf_out_l (by rw [qf_us]; omega), qf_us, qf_nl0, qs_0]
    · unfold qf_out
      rw [qf_un hmn, qf_un hmn]
  refine ⟨fun v hv => ?_, fun m i hm hi => ?_, fun b hb => ?_, fun b hb => ?_⟩
  · rcases h.1 v hv with h1 | ⟨h1, h2⟩
    · exact Or.inl h1
    · exact Or.inr ⟨h1, by rw [qf_un (hrt v hv)]; exact h2⟩
  · by_cases hmn : m = n
    · subst hmn; rw [qf_us, qf_nl0] at hi; omega
    · rw [qf_un hmn] at hm hi ⊢
      rcases h.2.1 m i hm hi with h1 | ⟨h1, h2, h3⟩
      · exact Or.inl h1
      · exact Or.inr ⟨h1, by rw [qf_un (hlk m i hm hi)]; exact h2, h3⟩
  · have h1 : qf_in rt lk (va_up wy n 1) (va_up lv n 0) b = qf_in rt lk wy lv b := by
      unfold qf_in
      rw [qs_congr (fun m _ => ho m b)]
    rw [h1]
    by_cases hbn : b = n
    · subst hbn; rw [qf_us, qf_us]; omega
    · rw [qf_un hbn, qf_un hbn]; exact h.2.2.1 b hb
  · by_cases hbn : b = n
    · subst hbn; exact absurd hp hb
    · rw [qf_un hbn]; exact h.2.2.2 b hb
/-- a block of data to which no way leads becomes a node of level k at place j: debts to what its links lead to become its ways -/
theorem qf_promote {rt : Nat → Nat} {lk : Nat → Nat → Nat} {wy lv ps db db' : Nat → Nat} (h : qf_ok rt lk wy lv ps db) {n k j : Nat} (hn : 0 < wy n) (h0 : lv n = 0) (hin : qf_in rt lk wy lv n = 0)
    (hlk : ∀ i, i < qf_nl k → lk n i ≠ n ∧ qf_li lv ps k i (lk n i)) (hd : ∀ b, qf_po b → db' b + qs_ (qf_nl k) (fun i => qi_ (lk n i = b)) = db b) : qf_ok rt lk wy (va_up lv n k) (va_up ps n j) db' := by
  have hp := qf_live h hn
  have hrt : ∀ v, v < 16 → rt v ≠ n := fun v hv e => by
    have h1 : qs_ 16 (fun w => qi_ (rt w = n)) = 0 := by unfold qf_in at hin; omega
    have h2 := qs_all0 (f := fun w => qi_ (rt w = n)) h1 hv
    have h3 : qi_ (rt v = n) = 0 := h2
    rw [qi_t e] at h3
    omega
  have hlk2 : ∀ m i, 0 < wy m → i < qf_nl (lv m) → lk m i ≠ n := fun m i hm hi e => by
    have h1 : qs_ 784 (fun m => qf_out lk wy lv m n) = 0 := by unfold qf_in at hin; omega
    have h2 : qf_out lk wy lv m n = 0 := qs_all0 (f := fun m => qf_out lk wy lv m n) h1 (qf_live h hm).2
    have h3 := qf_out_ge (lk := lk) hm hi
    rw [e] at h3
    omega
  have hli : ∀ {q i x : Nat}, x ≠ n → qf_li lv ps q i x → qf_li (va_up lv n k) (va_up ps n j) q i x := fun {q i x} hx hl => by
    rcases hl with h1 | ⟨h1, h2, h3⟩
    · exact Or.inl h1
    · exact Or.inr ⟨h1, by rw [qf_un hx]; exact h2, by rw [qf_un hx]; exact h3⟩
  refine ⟨fun v hv => ?_, fun m i hm hi => ?_, fun b hb => ?_, h.2.2.2⟩
  · rcases h.1 v hv with h1 | ⟨h1, h2⟩
    · exact Or.inl h1
    · exact Or.inr ⟨h1, by rw [qf_un (hrt v hv)]; exact h2⟩
  · by_cases hmn : m = n
    · subst hmn
      rw [qf_us] at hi ⊢
      exact hli (hlk i hi).1 (hlk i hi).2
    · rw [qf_un hmn] at hi ⊢
      exact hli (hlk2 m i hm hi) (h.2.1 m i hm hi)
  · have h1 := h.2.2.1 b hb
    have h2 := hd b hb
    have h6 := qs_upd (n := 784) (k := n) (f := fun m => qf_out lk wy lv m b) (g := fun m => qf_out lk wy (va_up lv n k) m b) hp.2 (fun m _ hm => by
      show qf_out _ _ _ _ _ = qf_out _ _ _ _ _
      unfold qf_out
      rw [qf_un hm])
    have h7 : qf_out lk wy lv n b = 0 := by
      rw [qf_out_l hn, h0, qf_nl0, qs_0]
    have h8 : qf_out lk wy (va_up lv n k) n b = qs_ (qf_nl k) (fun i => qi_ (lk n i = b)) := by
      rw [qf_out_l hn, qf_us]
    rw [h7, h8] at h6
    unfold qf_in at h1 ⊢
    omega
/-- a block of data to which no way leads may hold any links -/
theorem qf_write {rt : Nat → Nat} {lk lk' : Nat → Nat → Nat} {wy lv ps db : Nat → Nat} (h : qf_ok rt lk wy lv ps db) (hs : ∀ m i, 0 < wy m → i < qf_nl (lv m) → lk' m i = lk m i) : qf_ok rt lk' wy lv ps db := by
  have ho : ∀ m b, qf_out lk' wy lv m b = qf_out lk wy lv m b := fun m b => by
    by_cases hm : 0 < wy m
    · rw [qf_out_l hm, qf_out_l hm]
      exact qs_congr (fun i hi => by show qi_ _ = qi_ _; rw [hs m i hm hi])
    · rw [qf_out_d (by omega), qf_out_d (by omega)]
  refine ⟨h.1, fun m i hm hi => by rw [hs m i hm hi]; exact h.2.1 m i hm hi, fun b hb => ?_, h.2.2.2⟩
  have h1 : qf_in rt lk' wy lv b = qf_in rt lk wy lv b := by
    unfold qf_in
    rw [qs_congr (fun m _ => ho m b)]
  rw [h1]
  exact h.2.2.1 b hb
/-! release: one way less; with the last one those from the block go too -/
def qf_dec (wy : Nat → Nat) (b : Nat) : Nat → Nat := va_up wy b (wy b - 1)
/-- what f does for the places 0 .. n-1, one after the other -/
def qf_it (f : (Nat → Nat) → Nat → (Nat → Nat)) (n : Nat) (w : Nat → Nat) : Nat → Nat := match n with
  | 0 => w
  | k + 1 => f (qf_it f k w) k
def qf_rel (lk : Nat → Nat → Nat) (k : Nat) (wy : Nat → Nat) (b : Nat) : Nat → Nat := match k with
  | 0 => if wy b = 0 then wy else qf_dec wy b
  | k + 1 => if wy b = 0 then wy else if 1 < wy b then qf_dec wy b else qf_it (fun w i => qf_rel lk k w (lk b i)) (qf_nl (k + 1)) (qf_dec wy b)
theorem qf_dec_le (wy : Nat → Nat) (b x : Nat) : qf_dec wy b x ≤ wy x := by
  unfold qf_dec
  by_cases hxb : x = b
  · subst hxb; rw [qf_us]; omega
  · rw [qf_un hxb]; exact Nat.le_refl _
theorem qf_nl_le (k : Nat) : qf_nl k ≤ 32 := by
  unfold qf_nl
  by_cases h : k = 2
  · rw [if_pos h]; omega
  · rw [if_neg h]
    by_cases h : k = 1
    · rw [if_pos h]; omega
    · rw [if_neg h]; omega
theorem qf_it_le {f : (Nat → Nat) → Nat → (Nat → Nat)} (hf : ∀ w i x, f w i x ≤ w x) (n : Nat) (w : Nat → Nat) (x : Nat) : qf_it f n w x ≤ w x := by
  induction n with
  | zero => exact Nat.le_refl _
  | succ n ih => exact Nat.le_trans (hf _ _ _) ih
/-- counts only fall -/
theorem qf_rel_le (lk : Nat → Nat → Nat) : ∀ (k : Nat) (wy : Nat → Nat) (b x : Nat), qf_rel lk k wy b x ≤ wy x := by
  intro k
  induction k with
  | zero =>
    intro wy b x
    unfold qf_rel
    by_cases h : wy b = 0
    · rw [if_pos h]; exact Nat.le_refl _
    · rw [if_neg h]; exact qf_dec_le _ _ _
  | succ k ih =>
    intro wy b x
    unfold qf_rel
    by_cases h : wy b = 0
    · rw [if_pos h]; exact Nat.le_refl _
    · rw [if_neg h]
      by_cases h1 : 1 < wy b
      · rw [if_pos h1]; exact qf_dec_le _ _ _
      · rw [if_neg h1]; exact Nat.le_trans (qf_it_le (fun w i x => ih w _ x) _ _ _) (qf_dec_le _ _ _)
/-- only the links of the blocks that are reached matter -/
theorem qf_rel_lk {lk lk' : Nat → Nat → Nat} {wy0 : Nat → Nat} {P : Nat → Nat → Prop} (hl : ∀ k m i, 0 < wy0 m → P (k + 1) m → i < qf_nl (k + 1) → lk m i = lk' m i ∧ P k (lk m i)) : ∀ (k : Nat) (wy : Nat → Nat) (b : Nat), (∀ x, wy x ≤ wy0 x) → P k b → qf_rel lk k wy b = qf_rel lk' k wy b := by
  intro k
  induction k with
  | zero => intro wy b _ _; rfl
  | succ k ih =>
    intro wy b hle hP
    unfold qf_rel
    by_cases h : wy b = 0
    · rw [if_pos h, if_pos h]
    · rw [if_neg h, if_neg h]
      by_cases h1 : 1 < wy b
      · rw [if_pos h1, if_pos h1]
      · rw [if_neg h1, if_neg h1]
        have hb0 : 0 < wy0 b := by have := hle b; omega
        have loop : ∀ n, n ≤ qf_nl (k + 1) → qf_it (fun w i => qf_rel lk k w (lk b i)) n (qf_dec wy b) = qf_it (fun w i => qf_rel lk' k w (lk' b i)) n (qf_dec wy b) := by
          intro n
          induction n with
          | zero => intro _; rfl
          | succ n ihn =>
            intro hn
            show qf_rel lk k (qf_it (fun w i => qf_rel lk k w (lk b i)) n (qf_dec wy b)) (lk b n) = qf_rel lk' k (qf_it (fun w i => qf_rel lk' k w (lk' b i)) n (qf_dec wy b)) (lk' b n)
            obtain ⟨e1, e2⟩ := hl k b n hb0 hP (by omega)
            rw [← ihn (by omega), ← e1]
            refine ih _ _ (fun x => ?_) e2
            have h2 := qf_it_le (f := fun w i => qf_rel lk k w (lk b i)) (fun w i x => qf_rel_le lk k w _ x) n (qf_dec wy b) x
            have h3 := qf_dec_le wy b x
            have h4 := hle x
            omega
        exact loop _ (Nat.le_refl _)
theorem qf_rel_0 {lk : Nat → Nat → Nat} {k : Nat} {wy : Nat → Nat} {b : Nat} (h : wy b = 0) : qf_rel lk k wy b = wy := by
  cases k with
  | zero => unfold qf_rel; rw [if_pos h]
  | succ k => unfold qf_rel; rw [if_pos h]
theorem qf_rel_m {lk : Nat → Nat → Nat} {k : Nat} {wy : Nat → Nat} {b : Nat} (h : 1 < wy b) : qf_rel lk k wy b = qf_dec wy b := by
  cases k with
  | zero => unfold qf_rel; rw [if_neg (by omega)]
  | succ k => unfold qf_rel; rw [if_neg (by omega), if_pos h]
/-- the whole of it: the debt of one goes, counts only fall -/
theorem qf_rel_ok {rt : Nat → Nat} {lk : Nat → Nat → Nat} {lv ps : Nat → Nat} : ∀ (k : Nat) (wy db : Nat → Nat) (b : Nat), k ≤ 2 → qf_ok rt lk wy lv ps db → (b = 0 ∨ (qf_po b ∧ lv b = k ∧ 1 ≤ db b)) →
    qf_ok rt lk (qf_rel lk k wy b) lv ps (fun x => db x - qi_ (x = b)) ∧ ∀ x, qf_rel lk k wy b x ≤ wy x := by
  intro k
  induction k with
  | zero =>
    intro wy db b _ h hb
    rcases hb with rfl | ⟨hp, hl, hd⟩
    · have h0 : wy 0 = 0 := h.2.2.2 0 qf_po0
      rw [qf_rel_0 h0]
      refine ⟨?_, fun x => Nat.le_refl _⟩
      refine qf_set_wy h (fun x => Iff.rfl) (fun x hx => ?_)
      rw [qi_f (fun e => by subst e; exact qf_po0 hx)]
      omega
    · have hw := h.2.2.1 b hp
      by_cases h1 : 1 < wy b
      · rw [qf_rel_m h1]
        refine ⟨qf_set_wy h (fun x => ?_) (fun x hx => ?_), fun x => ?_⟩
        · unfold qf_dec
          by_cases hxb : x = b
          · subst hxb; rw [qf_us]; omega
          · rw [qf_un hxb]
        · unfold qf_dec
          by_cases hxb : x = b
          · subst hxb; rw [qf_us, qi_t rfl]; omega
          · rw [qf_un hxb, qi_f hxb]; omega
        · unfold qf_dec
          by_cases hxb : x = b
          · subst hxb; rw [qf_us]; omega
          · rw [qf_un hxb]; omega
      · have hw1 : wy b = 1 := by omega
        have hd1 : db b = 1 := by omega
        have hk := qf_kill h hw1 hd1
        have he : qf_rel lk 0 wy b = va_up wy b 0 := by
          unfold qf_rel qf_dec
          rw [if_neg (by omega), hw1]
        rw [he]
        refine ⟨?_, fun x => ?_⟩
        · refine qf_set_wy hk (fun x => Iff.rfl) (fun x hx => ?_)
          try dsimp only
          by_cases hxb : x = b
          · subst hxb; rw [if_pos rfl, qi_t rfl]; omega
          · rw [if_neg hxb, qi_f hxb, qf_out_l (by omega), hl, qf_nl0, qs_0]; rfl
        · by_cases hxb : x = b
          · subst hxb; rw [qf_us]; omega
          · rw [qf_un hxb]; omega
  | succ k ih =>
    intro wy db b hk2 h hb
    rcases hb with rfl | ⟨hp, hl, hd⟩
    · have h0 : wy 0 = 0 := h.2.2.2 0 qf_po0
      rw [qf_rel_0 h0]
      refine ⟨?_, fun x => Nat.le_refl _⟩
      refine qf_set_wy h (fun x => Iff.rfl) (fun x hx => ?_)
      rw [qi_f (fun e => by subst e; exact qf_po0 hx)]
      omega
    · have hw := h.2.2.1 b hp
      by_cases h1 : 1 < wy b
      · rw [qf_rel_m h1]
        refine ⟨qf_set_wy h (fun x => ?_) (fun x hx => ?_), fun x => ?_⟩
        · unfold qf_dec
          by_cases hxb : x = b
          · subst hxb; rw [qf_us]; omega
          · rw [qf_un hxb]
        · unfold qf_dec
          by_cases hxb : x = b
          · subst hxb; rw [qf_us, qi_t rfl]; omega
          · rw [qf_un hxb, qi_f hxb]; omega
        · unfold qf_dec
          by_cases hxb : x = b
          · subst hxb; rw [qf_us]; omega
          · rw [qf_un hxb]; omega
      · have hw1 : wy b = 1 := by omega
        have hd1 : db b = 1 := by omega
        have hkl := qf_kill h hw1 hd1
        have he : qf_rel lk (k + 1) wy b = qf_it (fun w i => qf_rel lk k w (lk b i)) (qf_nl (k + 1)) (va_up wy b 0) := by
          conv => lhs; unfold qf_rel
          rw [if_neg (by omega), if_neg h1]
          unfold qf_dec
          rw [hw1]
        rw [he]
        -- after i of the links: the debts of those behind them are left
        have loop : ∀ i, i ≤ qf_nl (k + 1) → qf_ok rt lk (qf_it (fun w i => qf_rel lk k w (lk b i)) i (va_up wy b 0)) lv ps (fun x => if x = b then 0 else db x + qs_ (qf_nl (k + 1) - i) (fun j => qi_ (lk b (i + j) = x))) ∧ ∀ x, qf_it (fun w i => qf_rel lk k w (lk b i)) i (va_up wy b 0) x ≤ va_up wy b 0 x := by
          intro i
          induction i with
          | zero =>
            intro _
            refine ⟨?_, fun x => Nat.le_refl _⟩
            refine qf_set_wy hkl (fun x => Iff.rfl) (fun x hx => ?_)
            try dsimp only
            by_cases hxb : x = b
            · rw [if_pos hxb, if_pos hxb]; rfl
            · rw [if_neg hxb, if_neg hxb, qf_out_l (by omega), hl]
              show _ + (_ + qs_ _ _) = _ + (_ + qs_ _ _)
              rw [qs_congr (f := fun j => qi_ (lk b j = x)) (g := fun j => qi_ (lk b (0 + j) = x)) (fun j _ => by show qi_ _ = qi_ _; rw [Nat.zero_add])]
              rfl
          | succ i ihi =>
            intro hi
            obtain ⟨g1, g2⟩ := ihi (by omega)
            have hlt : i < qf_nl (lv b) := by rw [hl]; omega
            have hsum : ∀ x, qs_ (qf_nl (k + 1) - i) (fun j => qi_ (lk b (i + j) = x)) = qi_ (lk b i = x) + qs_ (qf_nl (k + 1) - (i + 1)) (fun j => qi_ (lk b (i + 1 + j) = x)) := fun x => by
              rw [show qf_nl (k + 1) - i = 1 + (qf_nl (k + 1) - (i + 1)) by omega, qs_split 1]
              rw [show qs_ 1 (fun j => qi_ (lk b (i + j) = x)) = qi_ (lk b i = x) by rw [qs_s, qs_0]; simp]
              congr 1
              exact qs_congr (fun j _ => by show qi_ _ = qi_ _; rw [show i + (1 + j) = i + 1 + j by omega])
            have hne : lk b i ≠ b := by
              rcases h.2.1 b i (by omega) hlt with q | ⟨q1, q2, -⟩
              · rw [q]; intro e; rw [← e] at hp; exact qf_po0 hp
              · intro e; rw [e] at q2; omega
            have hc : lk b i = 0 ∨ (qf_po (lk b i) ∧ lv (lk b i) = k ∧ 1 ≤ (fun x => if x = b then 0 else db x + qs_ (qf_nl (k + 1) - i) (fun j => qi_ (lk b (i + j) = x))) (lk b i)) := by
              rcases h.2.1 b i (by omega) hlt with q | ⟨q1, q2, -⟩
              · exact Or.inl q
              · refine Or.inr ⟨q1, by omega, ?_⟩
                try dsimp only
                rw [if_neg hne, hsum, qi_t rfl]
                omega
            obtain ⟨r1, r2⟩ := ih _ _ (lk b i) (by omega) g1 hc
            refine ⟨?_, fun x => Nat.le_trans (r2 x) (g2 x)⟩
            refine qf_set_wy r1 (fun x => Iff.rfl) (fun x hx => ?_)
            try dsimp only
            by_cases hxb : x = b
            · rw [if_pos hxb, if_pos hxb]; simp [qf_it]
            · rw [if_neg hxb, if_neg hxb, hsum]
              show _ + (_ + (_ + _) - _) = _ + _
              by_cases hxl : x = lk b i
              · rw [qi_t hxl, qi_t hxl.symm]
                show qf_rel _ _ _ _ _ + _ = qf_rel _ _ _ _ _ + _
                omega
              · rw [qi_f hxl, qi_f (fun e => hxl e.symm)]
                show qf_rel _ _ _ _ _ + _ = qf_rel _ _ _ _ _ + _
                omega
        obtain ⟨g1, g2⟩ := loop (qf_nl (k + 1)) (Nat.le_refl _)
        refine ⟨?_, fun x => Nat.le_trans (g2 x) ?_⟩
        · refine qf_set_wy g1 (fun x => Iff.rfl) (fun x hx => ?_)
          try dsimp only
          by_cases hxb : x = b
          · rw [if_pos hxb, qi_t hxb, hxb]; omega
          · rw [if_neg hxb, qi_f hxb, Nat.sub_self, qs_0]; rfl
        · by_cases hxb : x = b
          · subst hxb; rw [qf_us]; omega
          · rw [qf_un hxb]; omega
end
section
/-! who leads to a block, and how many blocks can be live -/
theorem qf_in_ge_rt {rt : Nat → Nat} {lk : Nat → Nat → Nat} {wy lv : Nat → Nat} {v b : Nat} (hv : v < 16) (e : rt v = b) : 1 ≤ qf_in rt lk wy lv b := by
  have : qi_ (rt v = b) ≤ qs_ 16 (fun w => qi_ (rt w = b)) := qs_ge1 (f := fun w => qi_ (rt w = b)) hv
  rw [qi_t e] at this
  unfold qf_in
  omega
theorem qf_in_ge_lk {rt : Nat → Nat} {lk : Nat → Nat → Nat} {wy lv ps db : Nat → Nat} (h : qf_ok rt lk wy lv ps db) {n i b : Nat} (hn : 0 < wy n) (hi : i < qf_nl (lv n)) (e : lk n i = b) : 1 ≤ qf_in rt lk wy lv b := by
  have h4 := qf_out_ge (lk := lk) hn hi
  rw [e] at h4
  have h5 : qf_out lk wy lv n b ≤ qs_ 784 (fun m => qf_out lk wy lv m b) := qs_ge1 (f := fun m => qf_out lk wy lv m b) (qf_live h hn).2
  unfold qf_in
  omega
/-- one way alone, and a root of v has it: nobody else leads there -/
theorem qf_only_rt {rt : Nat → Nat} {lk : Nat → Nat → Nat} {wy lv ps db : Nat → Nat} (h : qf_ok rt lk wy lv ps db) {v b : Nat} (hv : v < 16) (e : rt v = b) (h1 : qf_in rt lk wy lv b ≤ 1) : (∀ w, w < 16 → w ≠ v → rt w ≠ b) ∧ ∀ n i, 0 < wy n → i < qf_nl (lv n) → lk n i ≠ b := by
  refine ⟨fun w hw hne e2 => ?_, fun n i hn hi e2 => ?_⟩
  · have : qi_ (rt w = b) + qi_ (rt v = b) ≤ qs_ 16 (fun w => qi_ (rt w = b)) := qs_ge2 (f := fun w => qi_ (rt w = b)) hw hv hne
    rw [qi_t e, qi_t e2] at this
    unfold qf_in at h1
    omega
  · have h4 := qf_out_ge (lk := lk) hn hi
    rw [e2] at h4
    have h5 : qf_out lk wy lv n b ≤ qs_ 784 (fun m => qf_out lk wy lv m b) := qs_ge1 (f := fun m => qf_out lk wy lv m b) (qf_live h hn).2
    have : qi_ (rt v = b) ≤ qs_ 16 (fun w => qi_ (rt w = b)) := qs_ge1 (f := fun w => qi_ (rt w = b)) hv
    rw [qi_t e] at this
    unfold qf_in at h1
    omega
theorem qf_only_lk {rt : Nat → Nat} {lk : Nat → Nat → Nat} {wy lv ps db : Nat → Nat} (h : qf_ok rt lk wy lv ps db) {n i b : Nat} (hn : 0 < wy n) (hi : i < qf_nl (lv n)) (e : lk n i = b) (h1 : qf_in rt lk wy lv b ≤ 1) : (∀ w, w < 16 → rt w ≠ b) ∧ ∀ m j, 0 < wy m → j < qf_nl (lv m) → lk m j = b → m = n ∧ j = i := by
  have h4 := qf_out_ge (lk := lk) hn hi
  rw [e] at h4
  have h5 : qf_out lk wy lv n b ≤ qs_ 784 (fun m => qf_out lk wy lv m b) := qs_ge1 (f := fun m => qf_out lk wy lv m b) (qf_live h hn).2
  refine ⟨fun w hw e2 => ?_, fun m j hm hj e2 => ?_⟩
  · have : qi_ (rt w = b) ≤ qs_ 16 (fun w => qi_ (rt w = b)) := qs_ge1 (f := fun w => qi_ (rt w = b)) hw
    rw [qi_t e2] at this
    unfold qf_in at h1
    omega
  · have hmn : m = n := by
      by_cases hmn : m = n
      · exact hmn
      · have h6 := qf_out_ge (lk := lk) hm hj
        rw [e2] at h6
        have h7 : qf_out lk wy lv m b + qf_out lk wy lv n b ≤ qs_ 784 (fun m => qf_out lk wy lv m b) := qs_ge2 (f := fun m => qf_out lk wy lv m b) (qf_live h hm).2 (qf_live h hn).2 hmn
        unfold qf_in at h1
        omega
    refine ⟨hmn, ?_⟩
    subst hmn
    by_cases hji : j = i
    · exact hji
    · have h6 : qi_ (lk m j = b) + qi_ (lk m i = b) ≤ qs_ (qf_nl (lv m)) (fun j => qi_ (lk m j = b)) := qs_ge2 (f := fun j => qi_ (lk m j = b)) hj hi hji
      rw [qi_t e, qi_t e2, ← qf_out_l hn] at h6
      unfold qf_in at h1
      omega
/-- a live node leads to a block at most once -/
theorem qf_out_le {rt : Nat → Nat} {lk : Nat → Nat → Nat} {wy lv ps db : Nat → Nat} (h : qf_ok rt lk wy lv ps db) {n b : Nat} (hb : b ≠ 0) : qf_out lk wy lv n b ≤ qi_ (0 < wy n ∧ lv n = lv b + 1) := by
  by_cases hn : 0 < wy n
  · rw [qf_out_l hn]
    by_cases hx : ∃ i, i < qf_nl (lv n) ∧ lk n i = b
    · obtain ⟨i, hi, e⟩ := hx
      have h1 : qs_ (qf_nl (lv n)) (fun j => qi_ (lk n j = b)) = qi_ (lk n i = b) := qs_one (f := fun j => qi_ (lk n j = b)) hi (fun j hj hne => by
        show qi_ (lk n j = b) = 0
        refine qi_f (fun e2 => hne ?_)
        obtain ⟨-, -, -, p1⟩ := qf_live_lk h hn hi (by rw [e]; exact hb)
        obtain ⟨-, -, -, p2⟩ := qf_live_lk h hn hj (by rw [e2]; exact hb)
        rw [e] at p1
        rw [e2] at p2
        omega)
      obtain ⟨-, p1, -, -⟩ := qf_live_lk h hn hi (by rw [e]; exact hb)
      rw [e] at p1
      rw [h1, qi_t e, qi_t ⟨hn, p1.symm⟩]
      exact Nat.le_refl _
    · rw [qs_zero (fun j hj => qi_f (fun e => hx ⟨j, hj, e⟩))]
      exact Nat.zero_le _
  · rw [qf_out_d (by omega)]
    exact Nat.zero_le _
/-- how many blocks of a level are live -/
def qf_cl (wy lv : Nat → Nat) (k : Nat) : Nat := qs_ 784 (fun b => qi_ (0 < wy b ∧ lv b = k))
theorem qf_in_le {rt : Nat → Nat} {lk : Nat → Nat → Nat} {wy lv ps db : Nat → Nat} (h : qf_ok rt lk wy lv ps db) {b : Nat} (hb : b ≠ 0) : qf_in rt lk wy lv b ≤ (if lv b = 2 then 16 else 0) + qf_cl wy lv (lv b + 1) := by
  unfold qf_in qf_cl
  have h1 : qs_ 784 (fun n => qf_out lk wy lv n b) ≤ qs_ 784 (fun n => qi_ (0 < wy n ∧ lv n = lv b + 1)) := qs_le (fun n _ => qf_out_le h hb)
  have h2 : qs_ 16 (fun v => qi_ (rt v = b)) ≤ if lv b = 2 then 16 else 0 := by
    by_cases hl : lv b = 2
    · rw [if_pos hl]
      have := qs_le (n := 16) (f := fun v => qi_ (rt v = b)) (g := fun _ => 1) (fun v _ => qi_le _)
      rw [qs_const] at this
      omega
    · rw [if_neg hl, qs_zero (fun v hv => qi_f (fun e => ?_))]
      · exact Nat.le_refl _
      · rcases h.1 v hv with q | ⟨-, q⟩
        · exact hb (e.symm.trans q)
        · rw [e] at q; exact hl q
  omega
theorem qs_pick (N x : Nat) (g : Nat → Nat) : qs_ N (fun b => qi_ (x = b) * g b) ≤ g x := by
  by_cases hx : x < N
  · have h1 : qs_ N (fun b => qi_ (x = b) * g b) = qi_ (x = x) * g x := qs_one (f := fun b => qi_ (x = b) * g b) hx (fun i _ hne => by show qi_ (x = i) * g i = 0; rw [qi_f (fun e => hne e.symm), Nat.zero_mul])
    rw [h1, qi_t rfl, Nat.one_mul]
    exact Nat.le_refl _
  · rw [qs_zero (fun i hi => by rw [qi_f (fun e => by omega), Nat.zero_mul])]
    exact Nat.zero_le _
/-- double counting: what is live at a level, by weights, is at most what leads there, by weights -/
theorem qf_dc {rt : Nat → Nat} {lk : Nat → Nat → Nat} {wy lv ps db : Nat → Nat} (h : qf_ok rt lk wy lv ps db) (k : Nat) (w : Nat → Nat) :
    qs_ 784 (fun b => qi_ (0 < wy b ∧ lv b = k) * w b) ≤ qs_ 16 (fun v => qi_ (rt v ≠ 0 ∧ k = 2) * w (rt v)) + qs_ 784 (fun n => qi_ (0 < wy n ∧ lv n = k + 1) * qs_ (qf_nl (k + 1)) (fun i => qi_ (lk n i ≠ 0) * w (lk n i))) + qs_ 784 (fun b => qi_ (qf_po b ∧ lv b = k) * (db b * w b)) := by
  -- each live block has a way or a debt
  have h1 : qs_ 784 (fun b => qi_ (0 < wy b ∧ lv b = k) * w b) ≤ qs_ 784 (fun b => (qs_ 16 (fun v => qi_ (rt v = b) * (qi_ (qf_po b ∧ lv b = k) * w b)) + qs_ 784 (fun n => qf_out lk wy lv n b * (qi_ (qf_po b ∧ lv b = k) * w b))) + qi_ (qf_po b ∧ lv b = k) * (db b * w b)) := by
    refine qs_le (fun b _ => ?_)
    rw [qs_mul, qs_mul, ← Nat.add_mul]
    by_cases hb : 0 < wy b ∧ lv b = k
    · have hp := qf_live h hb.1
      have hw := h.2.2.1 b hp
      rw [qi_t hb, qi_t ⟨hp, hb.2⟩, Nat.one_mul, Nat.one_mul, ← Nat.add_mul]
      unfold qf_in at hw
      rw [← hw]
      exact Nat.le_mul_of_pos_left _ hb.1
    · rw [qi_f hb, Nat.zero_mul]
      exact Nat.zero_le _
  rw [qs_add, qs_add] at h1
  refine Nat.le_trans h1 (Nat.add_le_add_right (Nat.add_le_add ?_ ?_) _)
  · rw [qs_swap]
    refine qs_le (fun v hv => ?_)
    refine Nat.le_trans (qs_pick 784 (rt v) (fun b => qi_ (qf_po b ∧ lv b = k) * w b)) ?_
    try dsimp only
    by_cases hq : qf_po (rt v) ∧ lv (rt v) = k
    · rcases h.1 v hv with q | ⟨q1, q2⟩
      · rw [q] at hq; exact absurd hq.1 qf_po0
      · rw [qi_t hq, qi_t ⟨fun e => by rw [e] at q1; exact qf_po0 q1, by omega⟩]
        exact Nat.le_refl _
    · rw [qi_f hq, Nat.zero_mul]
      exact Nat.zero_le _
  · rw [qs_swap]
    refine qs_le (fun n _ => ?_)
    by_cases hn : 0 < wy n
    · have e1 : qs_ 784 (fun b => qf_out lk wy lv n b * (qi_ (qf_po b ∧ lv b = k) * w b)) = qs_ 784 (fun b => qs_ (qf_nl (lv n)) (fun i => qi_ (lk n i = b) * (qi_ (qf_po b ∧ lv b = k) * w b))) := qs_congr (fun b _ => by show _ * _ = _; rw [qf_out_l hn, qs_mul])
      rw [e1, qs_swap]
      by_cases hk : lv n = k + 1
      · rw [qi_t ⟨hn, hk⟩, Nat.one_mul, hk]
        refine qs_le (fun i hi => ?_)
        refine Nat.le_trans (qs_pick 784 (lk n i) (fun b => qi_ (qf_po b ∧ lv b = k) * w b)) ?_
        try dsimp only
        by_cases hq : qf_po (lk n i) ∧ lv (lk n i) = k
        · rw [qi_t hq, qi_n (fun e => by rw [e] at hq; exact qf_po0 hq.1)]
          exact Nat.le_refl _
        · rw [qi_f hq, Nat.zero_mul]
          exact Nat.zero_le _
      · rw [qs_zero (fun i hi => ?_)]
        · exact Nat.zero_le _
        · refine Nat.le_zero.mp (Nat.le_trans (qs_pick 784 (lk n i) (fun b => qi_ (qf_po b ∧ lv b = k) * w b)) ?_)
          try dsimp only
          rw [qi_f (fun q => ?_), Nat.zero_mul]
          · exact Nat.le_refl _
          · rcases h.2.1 n i hn hi with q2 | ⟨-, q2, -⟩
            · rw [q2] at q; exact qf_po0 q.1
            · omega
    · rw [qs_zero (fun b _ => by rw [qf_out_d (by omega), Nat.zero_mul])]
      exact Nat.zero_le _
end
section
/-! AN IMAGE: 784 blocks of 16 words; what is read in it, what is written -/
def qv_for {α : Type} (n : Nat) (step : α → Nat → α) (a : α) : α := match n with
  | 0 => a
  | k + 1 => step (qv_for k step a) k
theorem qv_for0 {α : Type} (step : α → Nat → α) (a : α) : qv_for 0 step a = a := rfl
theorem qv_forS {α : Type} (n : Nat) (step : α → Nat → α) (a : α) : qv_for (n + 1) step a = step (qv_for n step a) n := rfl
def qv_wd (f : Nat → Int64) (w : Nat) : Int64 := if w < 12544 then f w else 0
def qv_up (f : Nat → Int64) (w : Nat) (x : Int64) : Nat → Int64 := if w < 12544 then vp_updL f w x else f
theorem qv_wd_s {f : Nat → Int64} {w : Nat} {x : Int64} (h : w < 12544) : qv_wd (qv_up f w x) w = x := by
  unfold qv_wd qv_up
  rw [if_pos h, if_pos h]
  exact pk_uLs
theorem qv_wd_n {f : Nat → Int64} {w v : Nat} {x : Int64} (h : v ≠ w) : qv_wd (qv_up f w x) v = qv_wd f v := by
  unfold qv_wd qv_up
  by_cases h1 : v < 12544
  · rw [if_pos h1, if_pos h1]
    by_cases h2 : w < 12544
    · rw [if_pos h2]; exact pk_uLn h
    · rw [if_neg h2]
  · rw [if_neg h1, if_neg h1]
def qv_word (f : Nat → Int64) (b i : Nat) : Int64 := qv_wd f (b * 16 + i)
def qv_setW (f : Nat → Int64) (b i : Nat) (x : Int64) : Nat → Int64 := qv_up f (b * 16 + i) x
def qv_by (f : Nat → Int64) (b i : Nat) : Nat := qb_n (qv_word f b (i / 8)) / 2 ^ (8 * (i % 8)) % 2 ^ 8
def qv_setB (f : Nat → Int64) (b i a : Nat) : Nat → Int64 := qv_setW f b (i / 8) (lN (qb_put (qb_n (qv_word f b (i / 8))) (8 * (i % 8)) 8 (a % 2 ^ 8)))
def qv_lk (f : Nat → Int64) (b i : Nat) : Nat := qb_n (qv_word f b (i / 4)) / 2 ^ (16 * (i % 4)) % 2 ^ 16
def qv_setL (f : Nat → Int64) (b i a : Nat) : Nat → Int64 := qv_setW f b (i / 4) (lN (qb_put (qb_n (qv_word f b (i / 4))) (16 * (i % 4)) 16 (a % 2 ^ 16)))
def qv_sz (f : Nat → Int64) (b : Nat) : Int64 := qv_word f b 15
def qv_addS (f : Nat → Int64) (b : Nat) (m : Int64) : Nat → Int64 := qv_setW f b 15 (qv_word f b 15 + m)
def qv_blank (f : Nat → Int64) (b : Nat) : Nat → Int64 := qv_for 16 (fun g i => qv_setW g b i 0) f
def qv_dup (f : Nat → Int64) (a b : Nat) : Nat → Int64 := qv_for 16 (fun g i => qv_setW g b i (qv_word g a i)) f
def qv_recv (f g : Nat → Int64) (b lo hi : Nat) : Nat → Int64 := qv_for (hi - lo) (fun h i => qv_setW h b (lo + i) (qv_word g b (lo + i))) f
def qv_rt (f : Nat → Int64) (T v : Nat) : Nat := qv_lk f T v
def qv_nt (f : Nat → Int64) (T i : Nat) : Nat := qv_by f T (32 + i)
def qv_wy (f : Nat → Int64) (T b : Nat) : Nat := if qf_po b then qv_by f (T + 1 + (b - 16) / 128) ((b - 16) % 128) else 0
def qv_setY (f : Nat → Int64) (T b a : Nat) : Nat → Int64 := if qf_po b then qv_setB f (T + 1 + (b - 16) / 128) ((b - 16) % 128) a else f
def qv_like (f : Nat → Int64) (T M : Nat) : Nat → Int64 := qv_for 7 (fun g i => qv_dup g (M + i) (T + i)) f
/-! two images with the same block -/
def qv_eq (f g : Nat → Int64) (b : Nat) : Prop := ∀ i, i < 16 → qv_word f b i = qv_word g b i
theorem qv_eq.rf {f : Nat → Int64} {b : Nat} : qv_eq f f b := fun _ _ => rfl
theorem qv_eq.sy {f g : Nat → Int64} {b : Nat} (h : qv_eq f g b) : qv_eq g f b := fun i hi => (h i hi).symm
theorem qv_eq.tr {f g k : Nat → Int64} {b : Nat} (h : qv_eq f g b) (h2 : qv_eq g k b) : qv_eq f k b := fun i hi => (h i hi).trans (h2 i hi)
theorem qv_eq.by {f g : Nat → Int64} {b : Nat} (h : qv_eq f g b) {i : Nat} (hi : i < 128) : qv_by f b i = qv_by g b i := by
  unfold qv_by; rw [h (i / 8) (by omega)]
theorem qv_eq.lk {f g : Nat → Int64} {b : Nat} (h : qv_eq f g b) {i : Nat} (hi : i < 64) : qv_lk f b i = qv_lk g b i := by
  unfold qv_lk; rw [h (i / 4) (by omega)]
theorem qv_eq.sz {f g : Nat → Int64} {b : Nat} (h : qv_eq f g b) : qv_sz f b = qv_sz g b := h 15 (by omega)
theorem qv_word_s {f : Nat → Int64} {b i : Nat} {x : Int64} (hb : b < 784) (hi : i < 16) : qv_word (qv_setW f b i x) b i = x := qv_wd_s (by omega)
theorem qv_word_i {f : Nat → Int64} {b i j : Nat} {x : Int64} (h : j ≠ i) : qv_word (qv_setW f b i x) b j = qv_word f b j := qv_wd_n (by omega)
theorem qv_word_n {f : Nat → Int64} {b c i j : Nat} {x : Int64} (h : c ≠ b) (hi : i < 16) (hj : j < 16) : qv_word (qv_setW f b i x) c j = qv_word f c j := qv_wd_n (by omega)
theorem qv_eq_setW {f : Nat → Int64} {b c i : Nat} {x : Int64} (h : c ≠ b) (hi : i < 16) : qv_eq (qv_setW f b i x) f c := fun _ hj => qv_word_n h hi hj
theorem qv_eq_setB {f : Nat → Int64} {b c i a : Nat} (h : c ≠ b) (hi : i < 128) : qv_eq (qv_setB f b i a) f c := qv_eq_setW h (by omega)
theorem qv_eq_setL {f : Nat → Int64} {b c i a : Nat} (h : c ≠ b) (hi : i < 64) : qv_eq (qv_setL f b i a) f c := qv_eq_setW h (by omega)
theorem qv_eq_addS {f : Nat → Int64} {b c : Nat} {m : Int64} (h : c ≠ b) : qv_eq (qv_addS f b m) f c := qv_eq_setW h (by omega)
theorem qv_by_lt (f : Nat → Int64) (b i : Nat) : qv_by f b i < 256 := Nat.mod_lt _ (by decide)
theorem qv_lk_lt (f : Nat → Int64) (b i : Nat) : qv_lk f b i < 65536 := Nat.mod_lt _ (by decide)
theorem qv_wy_lt (f : Nat → Int64) (T b : Nat) : qv_wy f T b < 256 := by
  unfold qv_wy
  split
  · exact qv_by_lt _ _ _
  · decide
theorem qv_by_setB {f : Nat → Int64} {b i j a : Nat} (hb : b < 784) (hi : i < 128) (ha : a < 256) : qv_by (qv_setB f b i a) b j = if j = i then a else qv_by f b j := by
  unfold qv_by qv_setB
  rw [Nat.mod_eq_of_lt (show a < 2 ^ 8 from ha)]
  by_cases hw : j / 8 = i / 8
  · rw [hw, qv_word_s hb (by omega), qb_N (qb_put_lt (by omega) (qb_lt _) ha), qb_dig ha (by omega) (by omega) (by omega)]
    by_cases hji : j = i
    · subst hji; rw [if_pos rfl, if_pos rfl]
    · rw [if_neg hji, if_neg (by omega)]
  · rw [qv_word_i hw, if_neg (by omega)]
theorem qv_lk_setL {f : Nat → Int64} {b i j a : Nat} (hb : b < 784) (hi : i < 64) (ha : a < 65536) : qv_lk (qv_setL f b i a) b j = if j = i then a else qv_lk f b j := by
  unfold qv_lk qv_setL
  rw [Nat.mod_eq_of_lt (show a < 2 ^ 16 from ha)]
  by_cases hw : j / 4 = i / 4
  · rw [hw, qv_word_s hb (by omega), qb_N (qb_put_lt (by omega) (qb_lt _) ha), qb_dig ha (by omega) (by omega) (by omega)]
    by_cases hji : j = i
    · subst hji; rw [if_pos rfl, if_pos rfl]
    · rw [if_neg hji, if_neg (by omega)]
  · rw [qv_word_i hw, if_neg (by omega)]
theorem qv_by_setL {f : Nat → Int64} {b i j a : Nat} (h : j / 8 ≠ i / 4) : qv_by (qv_setL f b i a) b j = qv_by f b j := by
  unfold qv_by qv_setL; rw [qv_word_i h]
theorem qv_lk_setB {f : Nat → Int64} {b i j a : Nat} (h : j / 4 ≠ i / 8) : qv_lk (qv_setB f b i a) b j = qv_lk f b j := by
  unfold qv_lk qv_setB; rw [qv_word_i h]
theorem qv_sz_setL {f : Nat → Int64} {b i a : Nat} (h : i < 60) : qv_sz (qv_setL f b i a) b = qv_sz f b := by
  unfold qv_sz qv_setL; rw [qv_word_i (by omega)]
theorem qv_lk_addS {f : Nat → Int64} {b j : Nat} {m : Int64} (h : j < 60) : qv_lk (qv_addS f b m) b j = qv_lk f b j := by
  unfold qv_lk qv_addS; rw [qv_word_i (by omega)]
theorem qv_sz_addS {f : Nat → Int64} {b : Nat} {m : Int64} (hb : b < 784) : qv_sz (qv_addS f b m) b = qv_sz f b + m := by
  unfold qv_sz qv_addS; rw [qv_word_s hb (by omega)]
/-! blank, duplicate, receive -/
theorem qv_blank_s {f : Nat → Int64} {b : Nat} (hb : b < 784) : ∀ i, i < 16 → qv_word (qv_blank f b) b i = 0 := by
  have h : ∀ n, n ≤ 16 → ∀ i, i < n → qv_word (qv_for n (fun g i => qv_setW g b i 0) f) b i = 0 := by
    intro n
    induction n with
    | zero => intro _ i hi; omega
    | succ n ih =>
      intro hn i hi
      rw [qv_forS]
      by_cases hin : i = n
      · subst hin; exact qv_word_s hb (by omega)
      · rw [qv_word_i hin]; exact ih (by omega) i (by omega)
  exact h 16 (Nat.le_refl _)
theorem qv_blank_n {f : Nat → Int64} {b c : Nat} (h : c ≠ b) : qv_eq (qv_blank f b) f c := by
  have h : ∀ n, n ≤ 16 → qv_eq (qv_for n (fun g i => qv_setW g b i 0) f) f c := by
    intro n
    induction n with
    | zero => intro _; exact qv_eq.rf
    | succ n ih =>
      intro hn
      rw [qv_forS]
      exact (qv_eq_setW h (by omega)).tr (ih (by omega))
  exact h 16 (Nat.le_refl _)
theorem qv_dup_s {f : Nat → Int64} {a b : Nat} (hb : b < 784) (hab : a ≠ b) : ∀ i, i < 16 → qv_word (qv_dup f a b) b i = qv_word f a i := by
  have h : ∀ n, n ≤ 16 → (∀ i, i < n → qv_word (qv_for n (fun g i => qv_setW g b i (qv_word g a i)) f) b i = qv_word f a i) ∧ qv_eq (qv_for n (fun g i => qv_setW g b i (qv_word g a i)) f) f a := by
    intro n
    induction n with
    | zero => intro _; exact ⟨fun i hi => by omega, qv_eq.rf⟩
    | succ n ih =>
      intro hn
      obtain ⟨h1, h2⟩ := ih (by omega)
      rw [qv_forS]
      refine ⟨fun i hi => ?_, (qv_eq_setW hab (by omega)).tr h2⟩
      by_cases hin : i = n
      · subst hin; rw [qv_word_s hb (by omega)]; exact h2 i (by omega)
      · rw [qv_word_i hin]; exact h1 i (by omega)
  exact (h 16 (Nat.le_refl _)).1
theorem qv_dup_n {f : Nat → Int64} {a b c : Nat} (h : c ≠ b) : qv_eq (qv_dup f a b) f c := by
  have h : ∀ n, n ≤ 16 → qv_eq (qv_for n (fun g i => qv_setW g b i (qv_word g a i)) f) f c := by
    intro n
    induction n with
    | zero => intro _; exact qv_eq.rf
    | succ n ih =>
      intro hn
      rw [qv_forS]
      exact (qv_eq_setW h (by omega)).tr (ih (by omega))
  exact h 16 (Nat.le_refl _)
theorem qv_recv_n {f g : Nat → Int64} {b c lo hi : Nat} (h : c ≠ b) (hh : hi ≤ 16) : qv_eq (qv_recv f g b lo hi) f c := by
  have h : ∀ n, n ≤ hi - lo → qv_eq (qv_for n (fun h i => qv_setW h b (lo + i) (qv_word g b (lo + i))) f) f c := by
    intro n
    induction n with
    | zero => intro _; exact qv_eq.rf
    | succ n ih =>
      intro hn
      rw [qv_forS]
      exact (qv_eq_setW h (by omega)).tr (ih (by omega))
  exact h (hi - lo) (Nat.le_refl _)
theorem qv_recv_s {f g : Nat → Int64} {b lo hi : Nat} (hb : b < 784) (hh : hi ≤ 16) : ∀ i, i < 16 → qv_word (qv_recv f g b lo hi) b i = if lo ≤ i ∧ i < hi then qv_word g b i else qv_word f b i := by
  have h : ∀ n, n ≤ hi - lo → ∀ i, i < 16 → qv_word (qv_for n (fun h i => qv_setW h b (lo + i) (qv_word g b (lo + i))) f) b i = if lo ≤ i ∧ i < lo + n then qv_word g b i else qv_word f b i := by
    intro n
    induction n with
    | zero => intro _ i hi; rw [if_neg (by omega), qv_for0]
    | succ n ih =>
      intro hn i hi
      rw [qv_forS]
      by_cases hin : i = lo + n
      · subst hin; rw [qv_word_s hb (by omega), if_pos (by omega)]
      · rw [qv_word_i hin, ih (by omega) i hi]
        by_cases h1 : lo ≤ i ∧ i < lo + n
        · rw [if_pos h1, if_pos (by omega)]
        · rw [if_neg h1, if_neg (by omega)]
  intro i hi2
  have := h (hi - lo) (Nat.le_refl _) i hi2
  unfold qv_recv
  rw [this]
  by_cases h1 : lo ≤ i ∧ i < hi
  · rw [if_pos h1, if_pos (by omega)]
  · rw [if_neg h1, if_neg (by omega)]
theorem qv_recv_all {f g : Nat → Int64} {b : Nat} (hb : b < 784) : qv_eq (qv_recv f g b 0 16) g b := fun i hi => by
  rw [qv_recv_s hb (Nat.le_refl _) i hi, if_pos (by omega)]
/-- the tables of T become like those of M -/
theorem qv_like_n {f : Nat → Int64} {T M c : Nat} (h : c < T ∨ T + 7 ≤ c) : qv_eq (qv_like f T M) f c := by
  have h : ∀ n, n ≤ 7 → qv_eq (qv_for n (fun g i => qv_dup g (M + i) (T + i)) f) f c := by
    intro n
    induction n with
    | zero => intro _; exact qv_eq.rf
    | succ n ih =>
      intro hn
      rw [qv_forS]
      exact (qv_dup_n (by omega)).tr (ih (by omega))
  exact h 7 (Nat.le_refl _)
theorem qv_like_s {f : Nat → Int64} {T M : Nat} (hT : T + 7 ≤ 784) (hd : T + 7 ≤ M ∨ M + 7 ≤ T) : ∀ k, k < 7 → ∀ i, i < 16 → qv_word (qv_like f T M) (T + k) i = qv_word f (M + k) i := by
  have h : ∀ n, n ≤ 7 → (∀ k, k < n → ∀ i, i < 16 → qv_word (qv_for n (fun g i => qv_dup g (M + i) (T + i)) f) (T + k) i = qv_word f (M + k) i) ∧ ∀ k, k < 7 → qv_eq (qv_for n (fun g i => qv_dup g (M + i) (T + i)) f) f (M + k) := by
    intro n
    induction n with
    | zero => intro _; exact ⟨fun k hk => by omega, fun _ _ => qv_eq.rf⟩
    | succ n ih =>
      intro hn
      obtain ⟨h1, h2⟩ := ih (by omega)
      rw [qv_forS]
      refine ⟨fun k hk i hi => ?_, fun k hk => (qv_dup_n (by omega)).tr (h2 k hk)⟩
      by_cases hkn : k = n
      · subst hkn; rw [qv_dup_s (by omega) (by omega) i hi]; exact h2 k (by omega) i hi
      · rw [qv_dup_n (by omega) i hi]; exact h1 k (by omega) i hi
  exact (h 7 (Nat.le_refl _)).1
end
section
/-! WHAT THE METHODS DO, as functions of an image (T: where the tables of now begin, K: those of what is kept) -/
def qt_new (f : Nat → Int64) (T K b : Nat) : Prop := 0 < qv_wy f T b ∧ qv_wy f K b = 0
def qt_size (f : Nat → Int64) (T v : Nat) : Int32 := if qv_rt f T v = 0 then 0 else (qv_sz f (qv_rt f T v)).toInt32
def qt_all (f : Nat → Int64) (T : Nat) : Int32 := qv_for 16 (fun s v => s + qt_size f T v) 0
def qt_leaf (f : Nat → Int64) (T v p : Nat) : Nat := if qv_rt f T v = 0 then 0 else qv_lk f (qv_rt f T v) (p / 32)
def qt_find (f : Nat → Int64) (T v p : Nat) : Nat := if qt_leaf f T v p = 0 then 0 else qv_lk f (qt_leaf f T v p) (p % 32)
def qt_hand (h : Nat) : Nat := if h + 1 < 784 then h + 1 else 16
/-- answers block, image, hand -/
def qt_take (T K : Nat) (n : Nat) (f : Nat → Int64) (h : Nat) : Nat × (Nat → Int64) × Nat := match n with
  | 0 => (0, f, h)
  | k + 1 => if qv_wy f T (qt_hand h) = 0 ∧ qv_wy f K (qt_hand h) = 0 then (qt_hand h, qv_setY f T (qt_hand h) 1, qt_hand h) else qt_take T K k f (qt_hand h)
def qt_addW (T : Nat) (f : Nat → Int64) (b : Nat) : Nat → Int64 := qv_setY f T b (qv_wy f T b + 1)
def qt_rel (T : Nat) (k : Nat) (f : Nat → Int64) (b : Nat) : Nat → Int64 := match k with
  | 0 => if qv_wy f T b = 0 then f else qv_setY f T b (qv_wy f T b - 1)
  | k + 1 => if qv_wy f T b = 0 then f else if 1 < qv_wy f T b then qv_setY f T b (qv_wy f T b - 1) else qv_for (qf_nl (k + 1)) (fun g i => qt_rel T k g (qv_lk g b i)) (qv_setY f T b (qv_wy f T b - 1))
def qt_blank (T K : Nat) (f : Nat → Int64) (h : Nat) : Nat × (Nat → Int64) × Nat := ((qt_take T K 768 f h).1, qv_blank (qt_take T K 768 f h).2.1 (qt_take T K 768 f h).1, (qt_take T K 768 f h).2.2)
/-- a copy's links count once more each -/
def qt_ways (T k c : Nat) (f : Nat → Int64) : Nat → Int64 := qv_for (qf_nl k) (fun g i => qt_addW T g (qv_lk g c i)) f
def qt_own (T K k : Nat) (f : Nat → Int64) (h b : Nat) : Nat × (Nat → Int64) × Nat :=
  if qv_wy f T b = 1 ∧ qv_wy f K b = 0 then (b, f, h) else
  ((qt_take T K 768 f h).1, qt_rel T k (qt_ways T k (qt_take T K 768 f h).1 (qv_dup (qt_take T K 768 f h).2.1 b (qt_take T K 768 f h).1)) b, (qt_take T K 768 f h).2.2)
def qt_ownRoot (T K : Nat) (f : Nat → Int64) (h v : Nat) : Nat × (Nat → Int64) × Nat :=
  ((qt_own T K 2 f h (qv_rt f T v)).1, qv_setL (qt_own T K 2 f h (qv_rt f T v)).2.1 T v (qt_own T K 2 f h (qv_rt f T v)).1, (qt_own T K 2 f h (qv_rt f T v)).2.2)
def qt_ownOr (T K k : Nat) (f : Nat → Int64) (h b : Nat) : Nat × (Nat → Int64) × Nat := if b = 0 then qt_blank T K f h else qt_own T K k f h b
def qt_ownLink (T K k : Nat) (f : Nat → Int64) (h n i : Nat) : Nat × (Nat → Int64) × Nat :=
  ((qt_ownOr T K k f h (qv_lk f n i)).1, qv_setL (qt_ownOr T K k f h (qv_lk f n i)).2.1 n i (qt_ownOr T K k f h (qv_lk f n i)).1, (qt_ownOr T K k f h (qv_lk f n i)).2.2)
def qt_grow (f : Nat → Int64) (r l i : Nat) : Nat → Int64 := if qv_lk f l i = 0 then qv_addS (qv_addS f r 1) l 1 else f
def qt_ownPiece (T K : Nat) (f : Nat → Int64) (h v p : Nat) : Nat × (Nat → Int64) × Nat :=
  match qt_ownRoot T K f h v with
  | (r, f1, h1) => match qt_ownLink T K 1 f1 h1 r (p / 32) with
    | (l, f2, h2) => qt_ownLink T K 0 (qt_grow f2 r l (p % 32)) h2 l (p % 32)
def qt_dropLink (T k : Nat) (f : Nat → Int64) (n i : Nat) : Nat → Int64 := qv_setL (qt_rel T k f (qv_lk f n i)) n i 0
def qt_dropPiece (T K : Nat) (f : Nat → Int64) (h v p : Nat) : (Nat → Int64) × Nat :=
  match qt_ownRoot T K f h v with
  | (r, f1, h1) => match qt_ownLink T K 1 f1 h1 r (p / 32) with
    | (l, f2, h2) => match qt_dropLink T 0 (qv_addS (qv_addS f2 r (-1)) l (-1)) l (p % 32) with
      | f3 => (if (qv_sz f3 l).toInt32 = 0 then qt_dropLink T 1 f3 r (p / 32) else f3, h2)
def qt_addEmpty (T K : Nat) (f : Nat → Int64) (h v : Nat) : (Nat → Int64) × Nat := (qv_setL (qt_blank T K f h).2.1 T v (qt_blank T K f h).1, (qt_blank T K f h).2.2)
def qt_addTwin (T : Nat) (f : Nat → Int64) (v o : Nat) : Nat → Int64 := qt_addW T (qv_setL f T v (qv_rt f T o)) (qv_rt f T o)
def qt_dropVol (T : Nat) (f : Nat → Int64) (v : Nat) : Nat → Int64 := qv_setL (qt_rel T 2 f (qv_rt f T v)) T v 0
end
section
/-! what the writes do to what is read: tables at T (T + 7 ≤ 16), pool blocks 16 .. 783 -/
/-- where the count of b lies -/
theorem qe_inj {b c : Nat} (hb : qf_po b) (hc : qf_po c) (h1 : (b - 16) / 128 = (c - 16) / 128) (h2 : (b - 16) % 128 = (c - 16) % 128) : b = c := by
  have := hb.1; have := hc.1; omega
theorem qe_wy_eq {f g : Nat → Int64} {T : Nat} (h : ∀ k, 1 ≤ k → k < 7 → qv_eq f g (T + k)) (b : Nat) : qv_wy f T b = qv_wy g T b := by
  unfold qv_wy
  by_cases hp : qf_po b
  · rw [if_pos hp, if_pos hp]
    have := hp.1; have := hp.2
    have e := (h (1 + (b - 16) / 128) (by omega) (by omega)).by (i := (b - 16) % 128) (by omega)
    rw [← Nat.add_assoc] at e
    exact e
  · rw [if_neg hp, if_neg hp]
theorem qe_setY {f : Nat → Int64} {T b a : Nat} (hT : T + 7 ≤ 16) (hp : qf_po b) (ha : a < 256) : qv_wy (qv_setY f T b a) T = va_up (qv_wy f T) b a := by
  funext c
  unfold qv_setY
  rw [if_pos hp]
  unfold qv_wy
  have := hp.1; have := hp.2
  by_cases hcb : c = b
  · subst hcb
    rw [if_pos hp, qf_us, qv_by_setB (by omega) (by omega) ha, if_pos rfl]
  · rw [qf_un hcb]
    by_cases hc : qf_po c
    · rw [if_pos hc, if_pos hc]
      have := hc.1; have := hc.2
      by_cases hd : (c - 16) / 128 = (b - 16) / 128
      · rw [hd, qv_by_setB (by omega) (by omega) ha, if_neg (fun e => hcb (qe_inj hc hp hd e))]
      · exact (qv_eq_setB (by omega) (by omega)).by (by omega)
    · rw [if_neg hc, if_neg hc]
theorem qe_setY_n {f : Nat → Int64} {T b a c : Nat} (hc : c < T + 1 ∨ T + 7 ≤ c) : qv_eq (qv_setY f T b a) f c := by
  unfold qv_setY
  by_cases hp : qf_po b
  · rw [if_pos hp]
    have := hp.1; have := hp.2
    exact qv_eq_setB (by omega) (by omega)
  · rw [if_neg hp]; exact qv_eq.rf
theorem qe_setY_np {f : Nat → Int64} {T b a : Nat} (hp : ¬ qf_po b) : qv_setY f T b a = f := by
  unfold qv_setY; rw [if_neg hp]
theorem qe_wy_po {f : Nat → Int64} {T b : Nat} (h : 0 < qv_wy f T b) : qf_po b := by
  by_cases hp : qf_po b
  · exact hp
  · unfold qv_wy at h; rw [if_neg hp] at h; omega
/-- release: the counts as in the forest, all else the same -/
theorem qe_rel {T : Nat} (hT : T + 7 ≤ 16) : ∀ (k : Nat) (f : Nat → Int64) (b : Nat), qv_wy (qt_rel T k f b) T = qf_rel (qv_lk f) k (qv_wy f T) b ∧ ∀ c, (c < T + 1 ∨ T + 7 ≤ c) → qv_eq (qt_rel T k f b) f c := by
  intro k
  induction k with
  | zero =>
    intro f b
    unfold qt_rel qf_rel
    by_cases h0 : qv_wy f T b = 0
    · rw [if_pos h0, if_pos h0]; exact ⟨rfl, fun _ _ => qv_eq.rf⟩
    · rw [if_neg h0, if_neg h0]
      have hlt := qv_wy_lt f T b
      exact ⟨qe_setY hT (qe_wy_po (f := f) (T := T) (by omega)) (by omega), fun c hc => qe_setY_n hc⟩
  | succ k ih =>
    intro f b
    unfold qt_rel qf_rel
    by_cases h0 : qv_wy f T b = 0
    · rw [if_pos h0, if_pos h0]; exact ⟨rfl, fun _ _ => qv_eq.rf⟩
    · rw [if_neg h0, if_neg h0]
      have hlt := qv_wy_lt f T b
      have hp := qe_wy_po (f := f) (T := T) (b := b) (by omega)
      have hs : qv_wy (qv_setY f T b (qv_wy f T b - 1)) T = qf_dec (qv_wy f T) b := qe_setY hT hp (by omega)
      by_cases h1 : 1 < qv_wy f T b
      · rw [if_pos h1, if_pos h1]
        exact ⟨hs, fun c hc => qe_setY_n hc⟩
      · rw [if_neg h1, if_neg h1]
        have loop : ∀ n, n ≤ qf_nl (k + 1) → qv_wy (qv_for n (fun g i => qt_rel T k g (qv_lk g b i)) (qv_setY f T b (qv_wy f T b - 1))) T = qf_it (fun w i => qf_rel (qv_lk f) k w (qv_lk f b i)) n (qf_dec (qv_wy f T) b) ∧ ∀ c, (c < T + 1 ∨ T + 7 ≤ c) → qv_eq (qv_for n (fun g i => qt_rel T k g (qv_lk g b i)) (qv_setY f T b (qv_wy f T b - 1))) f c := by
          intro n
          induction n with
          | zero => intro _; exact ⟨hs, fun c hc => qe_setY_n hc⟩
          | succ n ihn =>
            intro hn
            obtain ⟨g1, g2⟩ := ihn (by omega)
            rw [qv_forS]
            obtain ⟨r1, r2⟩ := ih (qv_for n (fun g i => qt_rel T k g (qv_lk g b i)) (qv_setY f T b (qv_wy f T b - 1))) (qv_lk (qv_for n (fun g i => qt_rel T k g (qv_lk g b i)) (qv_setY f T b (qv_wy f T b - 1))) b n)
            have hn32 := qf_nl_le (k + 1)
            have e1 : qv_lk (qv_for n (fun g i => qt_rel T k g (qv_lk g b i)) (qv_setY f T b (qv_wy f T b - 1))) b n = qv_lk f b n := (g2 b (by have := hp.1; omega)).lk (by omega)
            refine ⟨?_, fun c hc => (r2 c hc).tr (g2 c hc)⟩
            rw [r1, e1, g1]
            show _ = qf_rel _ _ _ _
            -- only live blocks' links matter, and they lie in the pool
            refine qf_rel_lk (wy0 := qv_wy f T) (P := fun _ _ => True) (fun k2 m i hm _ hi => ⟨(g2 m (by have := (qe_wy_po hm).1; omega)).lk (by have := qf_nl_le (k2 + 1); omega), trivial⟩) _ _ _ (fun x => ?_) trivial
            have h2 := qf_it_le (f := fun w i => qf_rel (qv_lk f) k w (qv_lk f b i)) (fun w i x => qf_rel_le _ k w _ x) n (qf_dec (qv_wy f T) b) x
            have h3 := qf_dec_le (qv_wy f T) b x
            omega
        exact loop (qf_nl (k + 1)) (Nat.le_refl _)
end
section
/-! take: a free block is found, if there is one -/
def qk_pos (h j : Nat) : Nat := 16 + (h - 16 + 1 + j) % 768
theorem qk_hand {h : Nat} (h1 : 16 ≤ h) (h2 : h < 784) : qt_hand h = qk_pos h 0 ∧ 16 ≤ qt_hand h ∧ qt_hand h < 784 := by
  unfold qt_hand qk_pos
  by_cases hc : h + 1 < 784
  · rw [if_pos hc]; omega
  · rw [if_neg hc]; omega
theorem qk_next {h : Nat} (h1 : 16 ≤ h) (h2 : h < 784) (j : Nat) : qk_pos (qt_hand h) j = qk_pos h (j + 1) := by
  obtain ⟨e, -, -⟩ := qk_hand h1 h2
  rw [e]
  unfold qk_pos
  omega
theorem qk_take {T K : Nat} {f : Nat → Int64} : ∀ (n h : Nat), 16 ≤ h → h < 784 →
    (qf_po (qt_take T K n f h).1 ∧ qv_wy f T (qt_take T K n f h).1 = 0 ∧ qv_wy f K (qt_take T K n f h).1 = 0 ∧ qt_take T K n f h = ((qt_take T K n f h).1, qv_setY f T (qt_take T K n f h).1 1, (qt_take T K n f h).1)) ∨
    (∀ j, j < n → ¬ (qv_wy f T (qk_pos h j) = 0 ∧ qv_wy f K (qk_pos h j) = 0)) := by
  intro n
  induction n with
  | zero => intro h _ _; exact Or.inr (fun j hj => by omega)
  | succ n ih =>
    intro h h1 h2
    obtain ⟨e, g1, g2⟩ := qk_hand h1 h2
    unfold qt_take
    by_cases hc : qv_wy f T (qt_hand h) = 0 ∧ qv_wy f K (qt_hand h) = 0
    · rw [if_pos hc]
      exact Or.inl ⟨⟨g1, g2⟩, hc.1, hc.2, rfl⟩
    · rw [if_neg hc]
      rcases ih (qt_hand h) g1 g2 with q | q
      · exact Or.inl q
      · refine Or.inr (fun j hj => ?_)
        cases j with
        | zero => rw [← e]; exact hc
        | succ j => rw [← qk_next h1 h2]; exact q j (by omega)
theorem qk_take_ok {T K : Nat} {f : Nat → Int64} {h : Nat} (h1 : 16 ≤ h) (h2 : h < 784) (hx : ∃ c, qf_po c ∧ qv_wy f T c = 0 ∧ qv_wy f K c = 0) : ∃ c, qf_po c ∧ qv_wy f T c = 0 ∧ qv_wy f K c = 0 ∧ qt_take T K 768 f h = (c, qv_setY f T c 1, c) := by
  rcases qk_take (T := T) (K := K) (f := f) 768 h h1 h2 with ⟨q1, q2, q3, q4⟩ | q
  · exact ⟨_, q1, q2, q3, q4⟩
  · obtain ⟨c, ⟨c1, c2⟩, c3, c4⟩ := hx
    exfalso
    refine q ((c + 768 - h - 1) % 768) (Nat.mod_lt _ (by decide)) ?_
    have e : qk_pos h ((c + 768 - h - 1) % 768) = c := by
      unfold qk_pos
      omega
    rw [e]
    exact ⟨c3, c4⟩
/-- adding a way to each of a block's links -/
theorem qk_ways {T : Nat} (hT : T + 7 ≤ 16) {f : Nat → Int64} {c k : Nat} (hc : qf_po c) (hw : ∀ x, qv_wy f T x ≤ 101) (hx : ∀ i, i < qf_nl k → qv_lk f c i = 0 ∨ qf_po (qv_lk f c i)) :
    (∀ x, qv_wy (qt_ways T k c f) T x = qv_wy f T x + (if qf_po x then qs_ (qf_nl k) (fun j => qi_ (qv_lk f c j = x)) else 0)) ∧ ∀ b, (b < T + 1 ∨ T + 7 ≤ b) → qv_eq (qt_ways T k c f) f b := by
  have loop : ∀ n, n ≤ qf_nl k → (∀ x, qv_wy (qv_for n (fun g i => qt_addW T g (qv_lk g c i)) f) T x = qv_wy f T x + (if qf_po x then qs_ n (fun j => qi_ (qv_lk f c j = x)) else 0)) ∧ (∀ b, (b < T + 1 ∨ T + 7 ≤ b) → qv_eq (qv_for n (fun g i => qt_addW T g (qv_lk g c i)) f) f b) ∧ ∀ x, qs_ n (fun j => qi_ (qv_lk f c j = x)) ≤ n := by
    intro n
    induction n with
    | zero =>
      intro _
      refine ⟨fun x => ?_, fun b _ => qv_eq.rf, fun x => by rw [qs_0]; exact Nat.le_refl _⟩
      rw [qv_for0, qs_0]
      split <;> rfl
    | succ n ih =>
      intro hn
      obtain ⟨g1, g2, g3⟩ := ih (by omega)
      have hn32 := qf_nl_le k
      rw [qv_forS]
      generalize qv_for n (fun g i => qt_addW T g (qv_lk g c i)) f = G at g1 g2 ⊢
      have e1 : qv_lk G c n = qv_lk f c n := (g2 c (by have := hc.1; omega)).lk (by omega)
      rw [e1]
      refine ⟨fun x => ?_, fun b hb => ?_, fun x => ?_⟩
      · unfold qt_addW
        rcases hx n (by omega) with h0 | hp
        · rw [qe_setY_np (by rw [h0]; exact qf_po0), g1 x]
          by_cases hpx : qf_po x
          · rw [if_pos hpx, if_pos hpx, qs_s, qi_f (fun e => by rw [h0] at e; rw [← e] at hpx; exact qf_po0 hpx)]
            rfl
          · rw [if_neg hpx, if_neg hpx]
        · have hlt : qv_wy G T (qv_lk f c n) + 1 < 256 := by
            rw [g1]
            have h5 := hw (qv_lk f c n)
            have h6 := g3 (qv_lk f c n)
            split <;> omega
          rw [qe_setY hT hp hlt]
          by_cases hxe : x = qv_lk f c n
          · subst hxe
            rw [qf_us, g1, if_pos hp, if_pos hp, qs_s, qi_t rfl]
            omega
          · rw [qf_un hxe, g1]
            by_cases hpx : qf_po x
            · rw [if_pos hpx, if_pos hpx, qs_s, qi_f (fun e => hxe e.symm)]
              omega
            · rw [if_neg hpx, if_neg hpx]
      · unfold qt_addW
        exact (qe_setY_n hb).tr (g2 b hb)
      · rw [qs_s]
        have := g3 x
        have := qi_le (qv_lk f c n = x)
        omega
  obtain ⟨g1, g2, -⟩ := loop (qf_nl k) (Nat.le_refl _)
  exact ⟨g1, g2⟩
end
section
/-! own: the block itself, or a copy of it that nobody else has -/
/-- what a copy, or the block itself, is: c stands in b's place -/
def qo_post (T K k : Nat) (f f' : Nat → Int64) (b c : Nat) (rt : Nat → Nat) (lk : Nat → Nat → Nat) (lv ps db lv' ps' : Nat → Nat) : Prop :=
  qf_po c ∧ qv_wy f' T c = 1 ∧ qv_wy f' K c = 0 ∧
  qf_ok rt (va_up lk c (qv_lk f b)) (qv_wy f' T) lv' ps' (fun x => db x - qi_ (x = b) + qi_ (x = c)) ∧
  lv' c = k ∧ ps' c = ps b ∧ (∀ x, x ≠ c → lv' x = lv x ∧ ps' x = ps x) ∧
  (∀ i, i < 16 → qv_word f' c i = qv_word f b i) ∧
  (∀ x, x ≠ c → (x < T + 1 ∨ T + 7 ≤ x) → qv_eq f' f x) ∧
  (c = b ∨ (qv_wy f T c = 0 ∧ qv_wy f K c = 0)) ∧
  (∀ x, x ≠ c → 0 < qv_wy f' T x → 0 < qv_wy f T x)
theorem qo_own {T K k : Nat} (hT : T + 7 ≤ 16) (hK : K + 7 ≤ 16) (hTK : T + 7 ≤ K ∨ K + 7 ≤ T) (hk : k ≤ 2) {f : Nat → Int64} {h b : Nat} (h1 : 16 ≤ h) (h2 : h < 784) {rt : Nat → Nat} {lk : Nat → Nat → Nat} {lv ps db : Nat → Nat}
    (ok : qf_ok rt lk (qv_wy f T) lv ps db) (hb : qf_po b) (hlb : lv b = k) (hdb : 1 ≤ db b) (hlk : ∀ m i, 0 < qv_wy f T m → lv m ≤ k → i < qf_nl (lv m) → lk m i = qv_lk f m i) (hw : ∀ x, qv_wy f T x ≤ 100)
    (hx : ∃ c, qf_po c ∧ qv_wy f T c = 0 ∧ qv_wy f K c = 0) :
    ∃ (c : Nat) (f' : Nat → Int64) (h' : Nat) (lv' ps' : Nat → Nat), qt_own T K k f h b = (c, f', h') ∧ 16 ≤ h' ∧ h' < 784 ∧ qo_post T K k f f' b c rt lk lv ps db lv' ps' := by
  have hwb : 0 < qv_wy f T b := by have := ok.2.2.1 b hb; omega
  by_cases hown : qv_wy f T b = 1 ∧ qv_wy f K b = 0
  · refine ⟨b, f, h, lv, ps, by unfold qt_own; rw [if_pos hown], h1, h2, hb, hown.1, hown.2, ?_, hlb, rfl, fun x _ => ⟨rfl, rfl⟩, fun i _ => rfl, fun x _ _ => qv_eq.rf, Or.inl rfl, fun x _ hq => hq⟩
    have o1 : qf_ok rt (va_up lk b (qv_lk f b)) (qv_wy f T) lv ps db := qf_write ok (fun m i hm hi => by
      by_cases hmb : m = b
      · subst hmb; rw [qf_us]; exact (hlk m i hm (by omega) hi).symm
      · rw [qf_un hmb])
    refine qf_set_wy o1 (fun x => Iff.rfl) (fun x _ => ?_)
    try dsimp only
    by_cases hxb : x = b
    · subst hxb; rw [qi_t rfl]; omega
    · rw [qi_f hxb]; omega
  · obtain ⟨c, hc, hc1, hc2, he⟩ := qk_take_ok (T := T) (K := K) (f := f) h1 h2 hx
    have hbc : b ≠ c := fun e => by rw [e] at hwb; omega
    -- the block is taken
    have w1 : qv_wy (qv_setY f T c 1) T = va_up (qv_wy f T) c 1 := qe_setY hT hc (by omega)
    have o1 := qf_birth ok hc hc1
    have hdc : db c = 0 := by have := ok.2.2.1 c hc; omega
    -- it becomes a copy
    have q2 : ∀ x, x ≠ c → qv_eq (qv_dup (qv_setY f T c 1) b c) (qv_setY f T c 1) x := fun x hx => qv_dup_n hx
    have w2 : ∀ x, qv_wy (qv_dup (qv_setY f T c 1) b c) T x = va_up (qv_wy f T) c 1 x := fun x => by
      rw [← w1]
      exact qe_wy_eq (fun j hj1 hj2 => q2 _ (by have := hc.1; omega)) x
    have cw : ∀ i, i < 16 → qv_word (qv_dup (qv_setY f T c 1) b c) c i = qv_word f b i := fun i hi => by
      rw [qv_dup_s hc.2 hbc i hi]
      exact qe_setY_n (by have := hb.1; omega) i hi
    have cl : ∀ i, i < 64 → qv_lk (qv_dup (qv_setY f T c 1) b c) c i = qv_lk f b i := fun i hi => by
      unfold qv_lk
      rw [cw (i / 4) (by omega)]
    -- b's links: live blocks, one level below
    have hbl : ∀ i, i < qf_nl k → lk b i = qv_lk f b i := fun i hi => hlk b i hwb (by omega) (by rw [hlb]; exact hi)
    have hbx : ∀ i, i < qf_nl k → qf_li lv ps k i (qv_lk f b i) := fun i hi => by
      rw [← hbl i hi, ← hlb]
      exact ok.2.1 b i hwb (by rw [hlb]; exact hi)
    have hbc2 : ∀ i, i < qf_nl k → qv_lk f b i ≠ c := fun i hi e => by
      by_cases h0 : qv_lk f b i = 0
      · rw [h0] at e; rw [← e] at hc; exact qf_po0 hc
      · obtain ⟨q, -, -, -⟩ := qf_live_lk ok hwb (i := i) (by rw [hlb]; exact hi) (by rw [hbl i hi]; exact h0)
        rw [hbl i hi, e] at q
        omega
    have hn32 := qf_nl_le k
    obtain ⟨w3, q3⟩ := qk_ways hT (f := qv_dup (qv_setY f T c 1) b c) (c := c) (k := k) hc (fun x => by
        rw [w2]
        have := hw x
        by_cases hxc : x = c
        · subst hxc; rw [qf_us]; omega
        · rw [qf_un hxc]; omega) (fun i hi => by
        rw [cl i (by omega)]
        rcases hbx i hi with q | ⟨q, -, -⟩
        · exact Or.inl q
        · exact Or.inr q)
    have w3' : ∀ x, qv_wy (qt_ways T k c (qv_dup (qv_setY f T c 1) b c)) T x = va_up (qv_wy f T) c 1 x + (if qf_po x then qs_ (qf_nl k) (fun j => qi_ (qv_lk f b j = x)) else 0) := fun x => by
      rw [w3 x, w2 x, qs_congr (f := fun j => qi_ (qv_lk (qv_dup (qv_setY f T c 1) b c) c j = x)) (g := fun j => qi_ (qv_lk f b j = x)) (fun j hj => by show qi_ _ = qi_ _; rw [cl j (by omega)])]
    have hsc : qs_ (qf_nl k) (fun j => qi_ (qv_lk f b j = c)) = 0 := qs_zero (fun j hj => qi_f (hbc2 j hj))
    -- the links of the copy, in the forest
    have o2 : qf_ok rt (va_up lk c (qv_lk f b)) (va_up (qv_wy f T) c 1) (va_up lv c 0) ps (va_up db c 1) := qf_write o1 (fun m i hm hi => by
      by_cases hmc : m = c
      · subst hmc; rw [qf_us, qf_nl0] at hi; omega
      · rw [qf_un hmc])
    have o3 : qf_ok rt (va_up lk c (qv_lk f b)) (qv_wy (qt_ways T k c (qv_dup (qv_setY f T c 1) b c)) T) (va_up lv c 0) ps (fun x => va_up db c 1 x + qs_ (qf_nl k) (fun j => qi_ (qv_lk f b j = x))) := by
      refine qf_set_wy o2 (fun x => ?_) (fun x hp => ?_)
      · rw [w3' x]
        refine ⟨fun q => ?_, fun q => by omega⟩
        by_cases hp : qf_po x
        · rw [if_pos hp] at q
          by_cases hs : 0 < qs_ (qf_nl k) (fun j => qi_ (qv_lk f b j = x))
          · obtain ⟨j, hj, hj2⟩ := qs_ex hs
            have e := qi_pos hj2
            by_cases hxc : x = c
            · subst hxc; rw [qf_us]; omega
            · rw [qf_un hxc]
              obtain ⟨q1, -, -, -⟩ := qf_live_lk ok hwb (i := j) (by rw [hlb]; exact hj) (by rw [hbl j hj, e]; intro e0; rw [e0] at hp; exact qf_po0 hp)
              rw [hbl j hj, e] at q1
              exact q1
          · omega
        · rw [if_neg hp] at q; omega
      · rw [w3' x, if_pos hp]
        try dsimp only
        omega
    have o4 : qf_ok rt (va_up lk c (qv_lk f b)) (qv_wy (qt_ways T k c (qv_dup (qv_setY f T c 1) b c)) T) (va_up (va_up lv c 0) c k) (va_up ps c (ps b)) (va_up db c 1) := by
      have hwc : qv_wy (qt_ways T k c (qv_dup (qv_setY f T c 1) b c)) T c = 1 := by rw [w3' c, qf_us, if_pos hc, hsc]
      refine qf_promote o3 (n := c) (by omega) qf_us ?_ (fun i hi => ?_) (fun x _ => ?_)
      · have := o3.2.2.1 c hc
        try dsimp only at this
        rw [hwc, qf_us, hsc] at this
        omega
      · rw [qf_us]
        refine ⟨hbc2 i hi, ?_⟩
        rcases hbx i hi with q | ⟨p1, p2, p3⟩
        · exact Or.inl q
        · exact Or.inr ⟨p1, by rw [qf_un (hbc2 i hi)]; exact p2, p3⟩
      · rw [qf_us]
    -- the old one is released
    have hlv4 : ∀ x, x ≠ c → va_up (va_up lv c 0) c k x = lv x := fun x hx => by rw [qf_un hx, qf_un hx]
    obtain ⟨o5, l5⟩ := qf_rel_ok k _ _ b hk o4 (Or.inr ⟨hb, by rw [hlv4 b hbc]; exact hlb, by rw [qf_un hbc]; exact hdb⟩)
    obtain ⟨r1, r2⟩ := qe_rel hT k (qt_ways T k c (qv_dup (qv_setY f T c 1) b c)) b
    have w5 : qv_wy (qt_rel T k (qt_ways T k c (qv_dup (qv_setY f T c 1) b c)) b) T = qf_rel (va_up lk c (qv_lk f b)) k (qv_wy (qt_ways T k c (qv_dup (qv_setY f T c 1) b c)) T) b := by
      rw [r1]
      refine (qf_rel_lk (wy0 := qv_wy (qt_ways T k c (qv_dup (qv_setY f T c 1) b c)) T) (P := fun q m => m = 0 ∨ (va_up (va_up lv c 0) c k m = q ∧ q ≤ k)) (fun q m i hm hP hi => ?_) k _ b (fun x => Nat.le_refl _) (Or.inr ⟨by rw [hlv4 b hbc]; exact hlb, Nat.le_refl _⟩)).symm
      rcases hP with rfl | ⟨e1, e2⟩
      · have := o4.2.2.2 0 qf_po0; omega
      · have hpm := qf_live o4 hm
        have e3 : va_up lk c (qv_lk f b) m i = qv_lk (qt_ways T k c (qv_dup (qv_setY f T c 1) b c)) m i := by
          have hi32 := qf_nl_le (q + 1)
          rw [(q3 m (by have := hpm.1; omega)).lk (show i < 64 by omega)]
          by_cases hmc : m = c
          · subst hmc; rw [qf_us, cl i (by omega)]
          · rw [qf_un hmc, (q2 m hmc).lk (show i < 64 by omega), (qe_setY_n (f := f) (T := T) (b := c) (a := 1) (c := m) (by have := hpm.1; omega)).lk (show i < 64 by omega)]
            rw [hlv4 m hmc] at e1
            have hm0 : 0 < qv_wy f T m := by
              have hq := hm
              rw [w3' m, qf_un hmc] at hq
              by_cases hs : 0 < qv_wy f T m
              · exact hs
              · exfalso
                rw [if_pos hpm] at hq
                obtain ⟨j, hj, hj2⟩ := qs_ex (n := qf_nl k) (f := fun j => qi_ (qv_lk f b j = m)) (by omega)
                have e := qi_pos hj2
                obtain ⟨q1, -, -, -⟩ := qf_live_lk ok hwb (i := j) (by rw [hlb]; exact hj) (by rw [hbl j hj, e]; intro e0; rw [e0] at hpm; exact qf_po0 hpm)
                rw [hbl j hj, e] at q1
                exact hs q1
            exact hlk m i hm0 (by omega) (by rw [e1]; exact hi)
        refine ⟨e3, ?_⟩
        rcases o4.2.1 m i hm (by rw [e1]; exact hi) with q0 | ⟨-, p2, -⟩
        · exact Or.inl q0
        · exact Or.inr ⟨by omega, by omega⟩
    have qAll : ∀ x, x ≠ c → (x < T + 1 ∨ T + 7 ≤ x) → qv_eq (qt_rel T k (qt_ways T k c (qv_dup (qv_setY f T c 1) b c)) b) f x := fun x hx hr => (r2 x hr).tr ((q3 x hr).tr ((q2 x hx).tr (qe_setY_n hr)))
    have hwc4 : qv_wy (qt_ways T k c (qv_dup (qv_setY f T c 1) b c)) T c = 1 := by rw [w3' c, qf_us, if_pos hc, hsc]
    have hcb : ¬ c = b := fun e => hbc e.symm
    refine ⟨c, qt_rel T k (qt_ways T k c (qv_dup (qv_setY f T c 1) b c)) b, c, va_up (va_up lv c 0) c k, va_up ps c (ps b), ?_, hc.1, hc.2, hc, ?_, ?_, ?_, qf_us, qf_us, fun x hx => ⟨hlv4 x hx, qf_un hx⟩, ?_, qAll, Or.inr ⟨hc1, hc2⟩, ?_⟩
    · unfold qt_own
      rw [if_neg hown, he]
    · have g1 := l5 c
      have g2 := o5.2.2.1 c hc
      try dsimp only at g2
      rw [qf_us, qi_f hcb] at g2
      rw [w5]
      omega
    · rw [← hc2]
      exact qe_wy_eq (fun j hj1 hj2 => qAll _ (by have := hc.1; omega) (by omega)) c
    · rw [w5]
      refine qf_set_wy o5 (fun x => Iff.rfl) (fun x _ => ?_)
      try dsimp only
      by_cases hxc : x = c
      · subst hxc; rw [qf_us, qi_f hcb, qi_t rfl]; omega
      · rw [qf_un hxc, qi_f hxc]; rfl
    · intro i hi
      rw [r2 c (by have := hc.1; omega) i hi, q3 c (by have := hc.1; omega) i hi, cw i hi]
    · intro x hxc hq
      rw [w5] at hq
      have g1 := l5 x
      by_cases hs : 0 < qv_wy f T x
      · exact hs
      · exfalso
        have hq4 : 0 < qv_wy (qt_ways T k c (qv_dup (qv_setY f T c 1) b c)) T x := by omega
        have hpx := qf_live o4 hq4
        rw [w3' x, qf_un hxc, if_pos hpx] at hq4
        obtain ⟨j, hj, hj2⟩ := qs_ex (n := qf_nl k) (f := fun j => qi_ (qv_lk f b j = x)) (by omega)
        have e := qi_pos hj2
        obtain ⟨q1, -, -, -⟩ := qf_live_lk ok hwb (i := j) (by rw [hlb]; exact hj) (by rw [hbl j hj, e]; intro e0; rw [e0] at hpx; exact qf_po0 hpx)
        rw [hbl j hj, e] at q1
        exact hs q1
end
section
/-! THE FOREST OF AN IMAGE: the tables at T, with all that is true between two calls (e: a leaf that may be empty; 0: none) -/
def qf_cn (lk : Nat → Nat → Nat) (n : Nat) : Nat := qs_ 32 (fun i => qi_ (lk n i ≠ 0))
def qf_S (lk : Nat → Nat → Nat) (m : Nat) : Nat := qs_ 4 (fun i => qi_ (lk m i ≠ 0) * qf_cn lk (lk m i))
def qf_tot (rt : Nat → Nat) (lk : Nat → Nat → Nat) : Nat := qs_ 16 (fun v => qi_ (rt v ≠ 0) * qf_S lk (rt v))
def qz_sz (lk : Nat → Nat → Nat) (wy lv : Nat → Nat) (sz : Nat → Int64) (e : Nat) : Prop :=
  (∀ n, 0 < wy n → lv n = 1 → sz n = lN (qf_cn lk n) ∧ (n ≠ e → 0 < qf_cn lk n)) ∧ (∀ n, 0 < wy n → lv n = 2 → sz n = lN (qf_S lk n))
def qz_st (f : Nat → Int64) (T : Nat) (lv ps : Nat → Nat) : Prop := qf_ok (qv_rt f T) (qv_lk f) (qv_wy f T) lv ps (fun _ => 0) ∧ qf_tot (qv_rt f T) (qv_lk f) ≤ 300 ∧ ∀ b, lv b ≤ 2
def qz_ok (f : Nat → Int64) (T : Nat) (lv ps : Nat → Nat) (e : Nat) : Prop := qz_st f T lv ps ∧ qz_sz (qv_lk f) (qv_wy f T) lv (qv_sz f) e
theorem qf_cn_congr {lk lk' : Nat → Nat → Nat} {n : Nat} (h : ∀ i, i < 32 → lk n i = lk' n i) : qf_cn lk n = qf_cn lk' n := qs_congr (fun i hi => by show qi_ _ = qi_ _; rw [h i hi])
theorem qf_cn_le (lk : Nat → Nat → Nat) (n : Nat) : qf_cn lk n ≤ 32 := by
  have := qs_le (n := 32) (f := fun i => qi_ (lk n i ≠ 0)) (g := fun _ => 1) (fun i _ => qi_le _)
  rw [qs_const] at this
  unfold qf_cn
  omega
theorem qf_S_congr {lk lk' : Nat → Nat → Nat} {m : Nat} (h : ∀ i, i < 4 → lk m i = lk' m i) (h2 : ∀ i, i < 4 → lk m i ≠ 0 → ∀ j, j < 32 → lk (lk m i) j = lk' (lk m i) j) : qf_S lk m = qf_S lk' m := qs_congr (fun i hi => by
  show qi_ _ * _ = qi_ _ * _
  rw [← h i hi]
  by_cases h0 : lk m i = 0
  · rw [qi_f (fun q => q h0), Nat.zero_mul, Nat.zero_mul]
  · rw [qf_cn_congr (h2 i hi h0)])
theorem qf_S_le (lk : Nat → Nat → Nat) (m : Nat) : qf_S lk m ≤ 128 := by
  have := qs_le (n := 4) (f := fun i => qi_ (lk m i ≠ 0) * qf_cn lk (lk m i)) (g := fun _ => 32) (fun i _ => by
    show qi_ _ * _ ≤ 32
    have h1 := qi_le (lk m i ≠ 0)
    have h2 := qf_cn_le lk (lk m i)
    exact Nat.le_trans (Nat.mul_le_mul h1 h2) (by omega))
  rw [qs_const] at this
  unfold qf_S
  omega
/-- what is not reached may change -/
theorem qz_frame {f f' : Nat → Int64} {T : Nat} {lv ps : Nat → Nat} {e : Nat} (h : qz_ok f T lv ps e) (ht : ∀ k, k < 7 → qv_eq f' f (T + k)) (hp : ∀ b, 0 < qv_wy f T b → qv_eq f' f b) : qz_ok f' T lv ps e := by
  obtain ⟨⟨ok, htot, hl2⟩, hs⟩ := h
  have hrt : ∀ v, v < 16 → qv_rt f' T v = qv_rt f T v := fun v hv => (ht 0 (by omega)).lk (by omega)
  have hwy : qv_wy f' T = qv_wy f T := funext fun b => qe_wy_eq (fun k _ hk => ht k hk) b
  have hlk : ∀ n i, 0 < qv_wy f T n → i < 32 → qv_lk f' n i = qv_lk f n i := fun n i hn hi => (hp n hn).lk (by omega)
  have o1 := qf_write (lk' := qv_lk f') ok (fun m i hm hi => hlk m i hm (by have := qf_nl_le (lv m); omega))
  have o2 : qf_ok (qv_rt f' T) (qv_lk f') (qv_wy f' T) lv ps (fun _ => 0) := by
    rw [hwy]
    refine ⟨fun v hv => by rw [hrt v hv]; exact o1.1 v hv, o1.2.1, fun b hb => ?_, o1.2.2.2⟩
    rw [o1.2.2.1 b hb]
    unfold qf_in
    rw [qs_congr (f := fun v => qi_ (qv_rt f T v = b)) (g := fun v => qi_ (qv_rt f' T v = b)) (fun v hv => by show qi_ _ = qi_ _; rw [hrt v hv])]
  have hcn : ∀ n, 0 < qv_wy f T n → qf_cn (qv_lk f') n = qf_cn (qv_lk f) n := fun n hn => qf_cn_congr (fun i hi => hlk n i hn hi)
  have hS : ∀ n, 0 < qv_wy f T n → lv n = 2 → qf_S (qv_lk f') n = qf_S (qv_lk f) n := fun n hn h2 => (qf_S_congr (fun i hi => (hlk n i hn (by omega)).symm) (fun i hi h0 j hj => by
    obtain ⟨q, -, -, -⟩ := qf_live_lk ok hn (i := i) (by rw [h2]; exact hi) h0
    exact (hlk _ j q hj).symm)).symm
  refine ⟨⟨o2, ?_, hl2⟩, ⟨fun n hn h1 => ?_, fun n hn h2 => ?_⟩⟩
  · have e1 : qf_tot (qv_rt f' T) (qv_lk f') = qf_tot (qv_rt f T) (qv_lk f) := qs_congr (fun v hv => by
      show qi_ _ * _ = qi_ _ * _
      rw [hrt v hv]
      by_cases h0 : qv_rt f T v = 0
      · rw [qi_f (fun q => q h0), Nat.zero_mul, Nat.zero_mul]
      · obtain ⟨q1, q2, -⟩ := qf_live_rt ok hv h0
        rw [hS _ q1 q2])
    rw [e1]
    exact htot
  · rw [hwy] at hn
    rw [(hp n hn).sz, hcn n hn]
    exact hs.1 n hn h1
  · rw [hwy] at hn
    rw [(hp n hn).sz, hS n hn h2]
    exact hs.2 n hn h2
/-! how many blocks are live -/
theorem qc_roots {rt : Nat → Nat} {lk : Nat → Nat → Nat} {wy lv ps db : Nat → Nat} (h : qf_ok rt lk wy lv ps db) (D : Nat) (hd : qs_ 784 (fun b => qi_ (qf_po b ∧ lv b = 2) * db b) ≤ D) : qf_cl wy lv 2 ≤ 16 + D := by
  have h1 := qf_dc h 2 (fun _ => 1)
  have h2 : qs_ 16 (fun v => qi_ (rt v ≠ 0 ∧ 2 = 2) * 1) ≤ 16 := by
    have := qs_le (n := 16) (f := fun v => qi_ (rt v ≠ 0 ∧ 2 = 2) * 1) (g := fun _ => 1) (fun v _ => by have := qi_le (rt v ≠ 0 ∧ 2 = 2); omega)
    rw [qs_const] at this
    omega
  have h3 : qs_ 784 (fun n => qi_ (0 < wy n ∧ lv n = 2 + 1) * qs_ (qf_nl (2 + 1)) (fun i => qi_ (lk n i ≠ 0) * 1)) = 0 := qs_zero (fun n _ => by
    rw [show qf_nl (2 + 1) = 0 from rfl, qs_0, Nat.mul_zero])
  have h4 : qs_ 784 (fun b => qi_ (qf_po b ∧ lv b = 2) * (db b * 1)) = qs_ 784 (fun b => qi_ (qf_po b ∧ lv b = 2) * db b) := qs_congr (fun b _ => by show _ * (_ * 1) = _; rw [Nat.mul_one])
  have h5 : qs_ 784 (fun b => qi_ (0 < wy b ∧ lv b = 2) * 1) = qf_cl wy lv 2 := qs_congr (fun b _ => by show _ * 1 = _; rw [Nat.mul_one])
  try dsimp only at h1
  omega
theorem qc_leaves {rt : Nat → Nat} {lk : Nat → Nat → Nat} {wy lv ps db : Nat → Nat} (h : qf_ok rt lk wy lv ps db) (D : Nat) (hd : qs_ 784 (fun b => qi_ (qf_po b ∧ lv b = 1) * db b) ≤ D) : qf_cl wy lv 1 ≤ 4 * qf_cl wy lv 2 + D := by
  have h1 := qf_dc h 1 (fun _ => 1)
  have h2 : qs_ 16 (fun v => qi_ (rt v ≠ 0 ∧ 1 = 2) * 1) = 0 := qs_zero (fun v _ => by rw [qi_f (fun q => by have := q.2; omega), Nat.zero_mul])
  have h3 : qs_ 784 (fun n => qi_ (0 < wy n ∧ lv n = 1 + 1) * qs_ (qf_nl (1 + 1)) (fun i => qi_ (lk n i ≠ 0) * 1)) ≤ qs_ 784 (fun n => qi_ (0 < wy n ∧ lv n = 2) * 4) := qs_le (fun n _ => by
    refine Nat.mul_le_mul_left _ ?_
    have := qs_le (n := 4) (f := fun i => qi_ (lk n i ≠ 0) * 1) (g := fun _ => 1) (fun i _ => by have := qi_le (lk n i ≠ 0); omega)
    rw [qs_const] at this
    exact this)
  rw [qs_mul] at h3
  have h4 : qs_ 784 (fun b => qi_ (qf_po b ∧ lv b = 1) * (db b * 1)) = qs_ 784 (fun b => qi_ (qf_po b ∧ lv b = 1) * db b) := qs_congr (fun b _ => by show _ * (_ * 1) = _; rw [Nat.mul_one])
  have h5 : qs_ 784 (fun b => qi_ (0 < wy b ∧ lv b = 1) * 1) = qf_cl wy lv 1 := qs_congr (fun b _ => by show _ * 1 = _; rw [Nat.mul_one])
  try dsimp only at h1
  unfold qf_cl at *
  omega
/-- the data, by the pieces of the volumes and of what is in debt -/
theorem qc_data {rt : Nat → Nat} {lk : Nat → Nat → Nat} {wy lv ps db : Nat → Nat} (h : qf_ok rt lk wy lv ps db) (D : Nat) (hd : qf_tot rt lk + qs_ 784 (fun b => qi_ (qf_po b ∧ lv b = 2) * (db b * qf_S lk b)) + qs_ 784 (fun b => qi_ (qf_po b ∧ lv b = 1) * (db b * qf_cn lk b)) + qs_ 784 (fun b => qi_ (qf_po b ∧ lv b = 0) * db b) ≤ D) : qf_cl wy lv 0 ≤ D := by
  have a1 := qf_dc h 0 (fun _ => 1)
  have a2 : qs_ 16 (fun v => qi_ (rt v ≠ 0 ∧ 0 = 2) * 1) = 0 := qs_zero (fun v _ => by rw [qi_f (fun q => by have := q.2; omega), Nat.zero_mul])
  have a3 : qs_ 784 (fun n => qi_ (0 < wy n ∧ lv n = 0 + 1) * qs_ (qf_nl (0 + 1)) (fun i => qi_ (lk n i ≠ 0) * 1)) = qs_ 784 (fun n => qi_ (0 < wy n ∧ lv n = 1) * qf_cn lk n) := qs_congr (fun n _ => by
    show _ * _ = _ * _
    congr 1
    exact qs_congr (fun i _ => by show _ * 1 = _; rw [Nat.mul_one]))
  have a4 : qs_ 784 (fun b => qi_ (qf_po b ∧ lv b = 0) * (db b * 1)) = qs_ 784 (fun b => qi_ (qf_po b ∧ lv b = 0) * db b) := qs_congr (fun b _ => by show _ * (_ * 1) = _; rw [Nat.mul_one])
  have a5 : qs_ 784 (fun b => qi_ (0 < wy b ∧ lv b = 0) * 1) = qf_cl wy lv 0 := qs_congr (fun b _ => by show _ * 1 = _; rw [Nat.mul_one])
  have b1 := qf_dc h 1 (qf_cn lk)
  have b2 : qs_ 16 (fun v => qi_ (rt v ≠ 0 ∧ 1 = 2) * qf_cn lk (rt v)) = 0 := qs_zero (fun v _ => by rw [qi_f (fun q => by have := q.2; omega), Nat.zero_mul])
  have c1 := qf_dc h 2 (qf_S lk)
  have c2 : qs_ 16 (fun v => qi_ (rt v ≠ 0 ∧ 2 = 2) * qf_S lk (rt v)) = qf_tot rt lk := qs_congr (fun v _ => by
    show qi_ _ * _ = qi_ _ * _
    congr 1
    by_cases h0 : rt v = 0
    · rw [qi_f (fun q => q.1 h0), qi_f (fun q => q h0)]
    · rw [qi_t ⟨h0, rfl⟩, qi_t h0])
  have c3 : qs_ 784 (fun n => qi_ (0 < wy n ∧ lv n = 2 + 1) * qs_ (qf_nl (2 + 1)) (fun i => qi_ (lk n i ≠ 0) * qf_S lk (lk n i))) = 0 := qs_zero (fun n _ => by
    rw [show qf_nl (2 + 1) = 0 from rfl, qs_0, Nat.mul_zero])
  have b3 : qs_ 784 (fun n => qi_ (0 < wy n ∧ lv n = 1 + 1) * qs_ (qf_nl (1 + 1)) (fun i => qi_ (lk n i ≠ 0) * qf_cn lk (lk n i))) = qs_ 784 (fun n => qi_ (0 < wy n ∧ lv n = 2) * qf_S lk n) := rfl
  try dsimp only at a1
  omega
theorem qc_live {wy lv : Nat → Nat} (hlv : ∀ b, 0 < wy b → lv b ≤ 2) : qs_ 784 (fun b => qi_ (0 < wy b)) = qf_cl wy lv 0 + qf_cl wy lv 1 + qf_cl wy lv 2 := by
  unfold qf_cl
  rw [← qs_add, ← qs_add]
  refine qs_congr (fun b _ => ?_)
  try dsimp only
  by_cases hb : 0 < wy b
  · have := hlv b hb
    rw [qi_t hb]
    rcases (show lv b = 0 ∨ lv b = 1 ∨ lv b = 2 by omega) with q | q | q
    · rw [qi_t ⟨hb, q⟩, qi_f (fun z => by have := z.2; omega), qi_f (fun z => by have := z.2; omega)]
    · rw [qi_f (fun z => by have := z.2; omega), qi_t ⟨hb, q⟩, qi_f (fun z => by have := z.2; omega)]
    · rw [qi_f (fun z => by have := z.2; omega), qi_f (fun z => by have := z.2; omega), qi_t ⟨hb, q⟩]
  · rw [qi_f hb, qi_f (fun z => hb z.1), qi_f (fun z => hb z.1), qi_f (fun z => hb z.1)]
/-- two forests leave a block free, if together they have less than 768 -/
theorem qc_free {w1 w2 : Nat → Nat} (h1 : ∀ b, ¬ qf_po b → w1 b = 0) (h2 : ∀ b, ¬ qf_po b → w2 b = 0) (h : qs_ 784 (fun b => qi_ (0 < w1 b)) + qs_ 784 (fun b => qi_ (0 < w2 b)) < 768) : ∃ c, qf_po c ∧ w1 c = 0 ∧ w2 c = 0 := by
  rw [show 784 = 16 + 768 from rfl, qs_split, qs_split, qs_zero (n := 16) (f := fun b => qi_ (0 < w1 b)) (fun b hb => qi_f (fun q => by have := h1 b (fun z => by have := z.1; omega); omega)), qs_zero (n := 16) (f := fun b => qi_ (0 < w2 b)) (fun b hb => qi_f (fun q => by have := h2 b (fun z => by have := z.1; omega); omega))] at h
  obtain ⟨k, hk, e⟩ := qs_hole (n := 768) (f := fun i => qi_ (0 < w1 (16 + i)) + qi_ (0 < w2 (16 + i))) (by rw [qs_add]; omega)
  try dsimp only at e
  refine ⟨16 + k, ⟨by omega, by omega⟩, ?_, ?_⟩
  · by_cases q : 0 < w1 (16 + k)
    · rw [qi_t q] at e; omega
    · omega
  · by_cases q : 0 < w2 (16 + k)
    · rw [qi_t q] at e; omega
    · omega
/-- a forest between calls has at most 380 live blocks, and no count is large -/
theorem qc_zero (n : Nat) (g : Nat → Nat) : qs_ n (fun b => g b * 0) = 0 := qs_zero (fun b _ => Nat.mul_zero _)
theorem qc_380 {f : Nat → Int64} {T : Nat} {lv ps : Nat → Nat} (h : qz_st f T lv ps) : qs_ 784 (fun b => qi_ (0 < qv_wy f T b)) ≤ 380 ∧ qf_cl (qv_wy f T) lv 2 ≤ 16 ∧ qf_cl (qv_wy f T) lv 1 ≤ 64 := by
  obtain ⟨ok, htot, hl2⟩ := h
  have h2 := qc_roots ok 0 (by rw [qc_zero 784 (fun b => qi_ (qf_po b ∧ lv b = 2))]; exact Nat.le_refl _)
  have h1 := qc_leaves ok 0 (by rw [qc_zero 784 (fun b => qi_ (qf_po b ∧ lv b = 1))]; exact Nat.le_refl _)
  have h0 := qc_data ok 300 (by
    rw [qs_zero (n := 784) (f := fun b => qi_ (qf_po b ∧ lv b = 2) * (0 * qf_S (qv_lk f) b)) (fun b _ => by rw [Nat.zero_mul, Nat.mul_zero]), qs_zero (n := 784) (f := fun b => qi_ (qf_po b ∧ lv b = 1) * (0 * qf_cn (qv_lk f) b)) (fun b _ => by rw [Nat.zero_mul, Nat.mul_zero]), qc_zero 784 (fun b => qi_ (qf_po b ∧ lv b = 0))]
    exact htot)
  rw [qc_live (wy := qv_wy f T) (lv := lv) (fun b _ => hl2 b)]
  omega
/-- no count is large, if debts are at most 1 -/
theorem qc_ways {rt : Nat → Nat} {lk : Nat → Nat → Nat} {wy lv ps db : Nat → Nat} (h : qf_ok rt lk wy lv ps db) (h2 : qf_cl wy lv 2 ≤ 17) (h1 : qf_cl wy lv 1 ≤ 69) (hl2 : ∀ b, lv b ≤ 2) (hd : ∀ b, qf_po b → db b ≤ 1) : ∀ x, wy x ≤ 100 := by
  intro x
  by_cases hp : qf_po x
  · have a1 := h.2.2.1 x hp
    have a2 := qf_in_le h (b := x) (fun e0 => by rw [e0] at hp; exact qf_po0 hp)
    have a3 := hd x hp
    have a4 := hl2 x
    rcases (show lv x = 0 ∨ lv x = 1 ∨ lv x = 2 by omega) with q | q | q
    · rw [q, if_neg (by omega), show 0 + 1 = 1 from rfl] at a2; omega
    · rw [q, if_neg (by omega), show 1 + 1 = 2 from rfl] at a2; omega
    · rw [q, if_pos rfl] at a2
      have : qf_cl wy lv 3 = 0 ∨ True := Or.inr trivial
      have a5 : qf_cl wy lv (2 + 1) = 0 := qs_zero (fun b _ => qi_f (fun z => by have := z.2; have := hl2 b; omega))
      omega
  · have := h.2.2.2 x hp; omega
theorem qf_congr {rt rt' : Nat → Nat} {lk lk' : Nat → Nat → Nat} {wy wy' lv ps db : Nat → Nat} (h : qf_ok rt lk wy lv ps db) (hr : ∀ v, v < 16 → rt' v = rt v) (hl : ∀ m i, 0 < wy m → i < qf_nl (lv m) → lk' m i = lk m i) (hw : ∀ b, wy' b = wy b) : qf_ok rt' lk' wy' lv ps db := by
  have e : wy' = wy := funext hw
  subst e
  have o1 := qf_write (lk' := lk') h hl
  refine ⟨fun v hv => by rw [hr v hv]; exact o1.1 v hv, o1.2.1, fun b hb => ?_, o1.2.2.2⟩
  rw [o1.2.2.1 b hb]
  unfold qf_in
  rw [qs_congr (f := fun v => qi_ (rt v = b)) (g := fun v => qi_ (rt' v = b)) (fun v hv => by show qi_ _ = qi_ _; rw [hr v hv])]
/-- now and kept leave a block free, and no count is large -/
theorem qc_room {f : Nat → Int64} {T K : Nat} {lv ps kl kp : Nat → Nat} (h : qz_st f T lv ps) (hk : qz_st f K kl kp) : (∃ c, qf_po c ∧ qv_wy f T c = 0 ∧ qv_wy f K c = 0) ∧ ∀ x, qv_wy f T x ≤ 100 := by
  obtain ⟨a1, a2, a3⟩ := qc_380 h
  obtain ⟨b1, b2, b3⟩ := qc_380 hk
  exact ⟨qc_free h.1.2.2.2 hk.1.2.2.2 (by omega), qc_ways h.1 (by omega) (by omega) h.2.2 (fun _ _ => by omega)⟩
end
section
/-! ownOr: b, or a copy of it, or (b = 0) a new blank block, c, that nobody else has, of level k and for the place j -/
def qo_got (T K k j : Nat) (f f' : Nat → Int64) (b c : Nat) (rt : Nat → Nat) (lk : Nat → Nat → Nat) (lv ps lv' ps' : Nat → Nat) : Prop :=
  qf_po c ∧ qv_wy f' T c = 1 ∧ qv_wy f' K c = 0 ∧
  qf_ok rt (va_up lk c (fun i => if b = 0 then 0 else qv_lk f b i)) (qv_wy f' T) lv' ps' (fun x => qi_ (x = c)) ∧
  lv' c = k ∧ ps' c = j ∧ (∀ x, x ≠ c → lv' x = lv x ∧ ps' x = ps x) ∧
  (∀ i, i < 16 → qv_word f' c i = if b = 0 then 0 else qv_word f b i) ∧
  (∀ x, x ≠ c → (x < T + 1 ∨ T + 7 ≤ x) → qv_eq f' f x) ∧
  ((b ≠ 0 ∧ c = b) ∨ (qv_wy f T c = 0 ∧ qv_wy f K c = 0)) ∧
  (∀ x, x ≠ c → 0 < qv_wy f' T x → 0 < qv_wy f T x) ∧ qv_wy f K c = 0
theorem qo_ownOr {T K k j : Nat} (hT : T + 7 ≤ 16) (hK : K + 7 ≤ 16) (hTK : T + 7 ≤ K ∨ K + 7 ≤ T) (hk : k ≤ 2) {f : Nat → Int64} {h b : Nat} (h1 : 16 ≤ h) (h2 : h < 784) {rt : Nat → Nat} {lk : Nat → Nat → Nat} {lv ps db : Nat → Nat}
    (ok : qf_ok rt lk (qv_wy f T) lv ps db) (hdb : ∀ x, qf_po x → db x = qi_ (b = x)) (hb : b ≠ 0 → qf_po b ∧ lv b = k ∧ ps b = j) (hlk : ∀ m i, 0 < qv_wy f T m → lv m ≤ k → i < qf_nl (lv m) → lk m i = qv_lk f m i) (hw : ∀ x, qv_wy f T x ≤ 100)
    (hx : ∃ c, qf_po c ∧ qv_wy f T c = 0 ∧ qv_wy f K c = 0) :
    ∃ (c : Nat) (f' : Nat → Int64) (h' : Nat) (lv' ps' : Nat → Nat), qt_ownOr T K k f h b = (c, f', h') ∧ 16 ≤ h' ∧ h' < 784 ∧ qo_got T K k j f f' b c rt lk lv ps lv' ps' := by
  unfold qt_ownOr
  by_cases hb0 : b = 0
  · rw [if_pos hb0]
    obtain ⟨c, hc, hc1, hc2, he⟩ := qk_take_ok (T := T) (K := K) (f := f) h1 h2 hx
    have w1 : qv_wy (qv_setY f T c 1) T = va_up (qv_wy f T) c 1 := qe_setY hT hc (by omega)
    have o1 := qf_birth ok hc hc1
    have q2 : ∀ x, x ≠ c → qv_eq (qv_blank (qv_setY f T c 1) c) (qv_setY f T c 1) x := fun x hx => qv_blank_n hx
    have w2 : ∀ x, qv_wy (qv_blank (qv_setY f T c 1) c) T x = va_up (qv_wy f T) c 1 x := fun x => by
      rw [← w1]
      exact qe_wy_eq (fun j hj1 hj2 => q2 _ (by have := hc.1; omega)) x
    have qAll : ∀ x, x ≠ c → (x < T + 1 ∨ T + 7 ≤ x) → qv_eq (qv_blank (qv_setY f T c 1) c) f x := fun x hx hr => (q2 x hx).tr (qe_setY_n hr)
    have o2 : qf_ok rt (va_up lk c (fun _ => 0)) (va_up (qv_wy f T) c 1) (va_up lv c 0) ps (va_up db c 1) := qf_write o1 (fun m i hm hi => by
      by_cases hmc : m = c
      · subst hmc; rw [qf_us, qf_nl0] at hi; omega
      · rw [qf_un hmc])
    have hin : qf_in rt (va_up lk c (fun _ => 0)) (va_up (qv_wy f T) c 1) (va_up lv c 0) c = 0 := by
      have := o2.2.2.1 c hc
      rw [qf_us, qf_us] at this
      omega
    have o3 : qf_ok rt (va_up lk c (fun _ => 0)) (va_up (qv_wy f T) c 1) (va_up (va_up lv c 0) c k) (va_up ps c j) (va_up db c 1) := by
      refine qf_promote o2 (n := c) (by rw [qf_us]; omega) qf_us hin (fun i hi => ?_) (fun x hp => ?_)
      · rw [qf_us]
        exact ⟨fun e => by rw [← e] at hc; exact qf_po0 hc, Or.inl rfl⟩
      · rw [qf_us]
        try dsimp only
        rw [qs_zero (fun i _ => qi_f (fun e => by rw [← e] at hp; exact qf_po0 hp))]
        omega
    refine ⟨c, qv_blank (qv_setY f T c 1) c, c, va_up (va_up lv c 0) c k, va_up ps c j, by unfold qt_blank; rw [he], hc.1, hc.2, hc, by rw [w2, qf_us], ?_, ?_, qf_us, qf_us, fun x hx => ⟨by rw [qf_un hx, qf_un hx], qf_un hx⟩, fun i hi => ?_, qAll, Or.inr ⟨hc1, hc2⟩, fun x hxc hq => ?_, hc2⟩
    · rw [← hc2]
      exact qe_wy_eq (fun j hj1 hj2 => qAll _ (by have := hc.1; omega) (by omega)) c
    · have e1 : (fun i => if b = 0 then 0 else qv_lk f b i) = fun _ => 0 := funext fun i => if_pos hb0
      rw [e1]
      refine qf_set_wy (qf_congr o3 (fun v _ => rfl) (fun m i _ _ => rfl) w2) (fun x => Iff.rfl) (fun x hp => ?_)
      try dsimp only
      by_cases hxc : x = c
      · subst hxc; rw [qf_us, qi_t rfl]
      · rw [qf_un hxc, qi_f hxc, hdb x hp, qi_f (fun e => by rw [← e, hb0] at hp; exact qf_po0 hp)]
    · rw [if_pos hb0]; exact qv_blank_s hc.2 i hi
    · rw [w2, qf_un hxc] at hq; exact hq
  · rw [if_neg hb0]
    obtain ⟨p1, p2, p3⟩ := hb hb0
    obtain ⟨c, f', h', lv', ps', e, g1, g2, a1, a2, a3, a4, a5, a6, a7, a8, a9, a10, a11⟩ := qo_own hT hK hTK hk h1 h2 ok p1 p2 (by rw [hdb b p1, qi_t rfl]; exact Nat.le_refl _) hlk hw hx
    have hKc : qv_wy f K c = 0 := by
      rcases a10 with q | ⟨-, q⟩
      · rw [← a3]
        exact (qe_wy_eq (fun j hj1 hj2 => a9 _ (by have := a1.1; omega) (by omega)) c).symm
      · exact q
    refine ⟨c, f', h', lv', ps', e, g1, g2, a1, a2, a3, ?_, a5, by rw [a6]; exact p3, a7, fun i hi => by rw [if_neg hb0]; exact a8 i hi, a9, ?_, a11, hKc⟩
    · have e1 : (fun i => if b = 0 then 0 else qv_lk f b i) = qv_lk f b := funext fun i => if_neg hb0
      rw [e1]
      refine qf_set_wy a4 (fun x => Iff.rfl) (fun x hp => ?_)
      try dsimp only
      rw [hdb x hp]
      by_cases hxb : x = b
      · rw [qi_t hxb, qi_t hxb.symm]; omega
      · rw [qi_f hxb, qi_f (fun e => hxb e.symm)]; omega
    · rcases a10 with q | q
      · exact Or.inl ⟨hb0, q⟩
      · exact Or.inr q
end
section
/-! STEPS OF A TREE'S CHANGE: what stays -/
/-- all but the blocks X, that are not kept, and the tables of now, stays; of these the notes -/
def qr_fr (T K : Nat) (f f' : Nat → Int64) (X : Nat → Prop) : Prop := (∀ x, ¬ X x → (x < T ∨ T + 7 ≤ x) → qv_eq f' f x) ∧ (∀ x, X x → qf_po x ∧ qv_wy f K x = 0) ∧ ∀ i, i < 32 → qv_nt f' T i = qv_nt f T i
/-- the pieces stay, but those of E; what volumes are there stays -/
def qr_same (T : Nat) (f f' : Nat → Int64) (E : Nat → Nat → Prop) : Prop := (∀ w p, w < 16 → p < 128 → ¬ E w p → qt_find f' T w p = qt_find f T w p ∧ (qt_find f T w p ≠ 0 → qv_eq f' f (qt_find f T w p))) ∧ ∀ w, w < 16 → (qv_rt f' T w = 0 ↔ qv_rt f T w = 0)
theorem qr_fr.ktab {T K : Nat} {f f' : Nat → Int64} {X : Nat → Prop} (h : qr_fr T K f f' X) (hK : K + 7 ≤ 16) (hTK : T + 7 ≤ K ∨ K + 7 ≤ T) : ∀ k, k < 7 → qv_eq f' f (K + k) := fun k hk => h.1 (K + k) (fun hx => by have := (h.2.1 _ hx).1.1; omega) (by omega)
theorem qr_fr.kwy {T K : Nat} {f f' : Nat → Int64} {X : Nat → Prop} (h : qr_fr T K f f' X) (hK : K + 7 ≤ 16) (hTK : T + 7 ≤ K ∨ K + 7 ≤ T) (b : Nat) : qv_wy f' K b = qv_wy f K b := qe_wy_eq (fun k _ hk => h.ktab hK hTK k hk) b
theorem qr_fr.kept {T K : Nat} {f f' : Nat → Int64} {X : Nat → Prop} (h : qr_fr T K f f' X) (hT : T + 7 ≤ 16) (hK : K + 7 ≤ 16) (hTK : T + 7 ≤ K ∨ K + 7 ≤ T) {kl kp : Nat → Nat} {e : Nat} (hz : qz_ok f K kl kp e) : qz_ok f' K kl kp e := qz_frame hz (h.ktab hK hTK) (fun b hb => h.1 b (fun hx => by have := (h.2.1 _ hx).2; omega) (by have := (qe_wy_po hb).1; omega))
theorem qr_fr.keptB {T K : Nat} {f f' : Nat → Int64} {X : Nat → Prop} (h : qr_fr T K f f' X) (hT : T + 7 ≤ 16) : ∀ b, 0 < qv_wy f K b → qv_eq f' f b := fun b hb => h.1 b (fun hx => by have := (h.2.1 _ hx).2; omega) (by have := (qe_wy_po hb).1; omega)
theorem qr_fr.tr {T K : Nat} {f f' f'' : Nat → Int64} {X Y : Nat → Prop} (hK : K + 7 ≤ 16) (hTK : T + 7 ≤ K ∨ K + 7 ≤ T) (h : qr_fr T K f f' X) (h2 : qr_fr T K f' f'' Y) : qr_fr T K f f'' (fun x => X x ∨ Y x) :=
  ⟨fun x hx hr => (h2.1 x (fun q => hx (Or.inr q)) hr).tr (h.1 x (fun q => hx (Or.inl q)) hr), fun x hx => by
    rcases hx with q | q
    · exact h.2.1 x q
    · refine ⟨(h2.2.1 x q).1, ?_⟩
      rw [← h.kwy hK hTK]
      exact (h2.2.1 x q).2, fun i hi => (h2.2.2 i hi).trans (h.2.2 i hi)⟩
theorem qr_same.tr {T : Nat} {f f' f'' : Nat → Int64} {E : Nat → Nat → Prop} (h : qr_same T f f' E) (h2 : qr_same T f' f'' E) : qr_same T f f'' E :=
  ⟨fun w p hw hp hE => by
    obtain ⟨a1, a2⟩ := h.1 w p hw hp hE
    obtain ⟨b1, b2⟩ := h2.1 w p hw hp hE
    refine ⟨b1.trans a1, fun h0 => ?_⟩
    have := b2 (by rw [a1]; exact h0)
    rw [a1] at this
    exact this.tr (a2 h0), fun w hw => (h2.2 w hw).trans (h.2 w hw)⟩
/-- a found block is live data, below a live leaf, below a live root -/
theorem qr_found {f : Nat → Int64} {T : Nat} {lv ps : Nat → Nat} {db : Nat → Nat} (h : qf_ok (qv_rt f T) (qv_lk f) (qv_wy f T) lv ps db) {v p : Nat} (hv : v < 16) (hp : p < 128) (h0 : qt_find f T v p ≠ 0) :
    qv_rt f T v ≠ 0 ∧ 0 < qv_wy f T (qv_rt f T v) ∧ lv (qv_rt f T v) = 2 ∧ qt_leaf f T v p = qv_lk f (qv_rt f T v) (p / 32) ∧ qt_leaf f T v p ≠ 0 ∧ 0 < qv_wy f T (qt_leaf f T v p) ∧ lv (qt_leaf f T v p) = 1 ∧ qt_find f T v p = qv_lk f (qt_leaf f T v p) (p % 32) ∧ 0 < qv_wy f T (qt_find f T v p) ∧ lv (qt_find f T v p) = 0 ∧ ps (qt_find f T v p) = p % 32 ∧ ps (qt_leaf f T v p) = p / 32 := by
  have hl0 : qt_leaf f T v p ≠ 0 := fun e => h0 (by unfold qt_find; rw [if_pos e])
  have hr0 : qv_rt f T v ≠ 0 := fun e => hl0 (by unfold qt_leaf; rw [if_pos e])
  have e1 : qt_leaf f T v p = qv_lk f (qv_rt f T v) (p / 32) := by unfold qt_leaf; rw [if_neg hr0]
  have e2 : qt_find f T v p = qv_lk f (qt_leaf f T v p) (p % 32) := by
    unfold qt_find
    rw [if_neg hl0]
  obtain ⟨a1, a2, a3⟩ := qf_live_rt h hv hr0
  obtain ⟨b1, b2, b3, b4⟩ := qf_live_lk h a1 (i := p / 32) (by rw [a2, qf_nl2]; omega) (by rw [← e1]; exact hl0)
  rw [← e1] at b1 b2 b3 b4
  have b5 : lv (qt_leaf f T v p) = 1 := by omega
  obtain ⟨c1, c2, c3, c4⟩ := qf_live_lk h b1 (i := p % 32) (by rw [b5, qf_nl1]; omega) (by rw [← e2]; exact h0)
  rw [← e2] at c1 c2 c3 c4
  exact ⟨hr0, a1, a2, e1, hl0, b1, b5, e2, c1, by omega, c4, b4⟩
theorem qr_ownRoot {T K : Nat} (hT : T + 7 ≤ 16) (hK : K + 7 ≤ 16) (hTK : T + 7 ≤ K ∨ K + 7 ≤ T) {f : Nat → Int64} {h v : Nat} (h1 : 16 ≤ h) (h2 : h < 784) (hv : v < 16) {lv ps kl kp : Nat → Nat} (Z : qz_ok f T lv ps 0) (ZK : qz_st f K kl kp) (hr : qv_rt f T v ≠ 0) :
    ∃ (r : Nat) (f' : Nat → Int64) (h' : Nat) (lv' ps' : Nat → Nat), qt_ownRoot T K f h v = (r, f', h') ∧ 16 ≤ h' ∧ h' < 784 ∧ qz_ok f' T lv' ps' 0 ∧ qv_rt f' T v = r ∧ qf_po r ∧ qv_wy f' T r = 1 ∧ lv' r = 2 ∧ qr_fr T K f f' (fun x => x = r) ∧ qr_same T f f' (fun _ _ => False) ∧ (∀ i, i < 16 → qv_word f' r i = qv_word f (qv_rt f T v) i) ∧ qf_tot (qv_rt f' T) (qv_lk f') = qf_tot (qv_rt f T) (qv_lk f) := by
  obtain ⟨⟨ok, htot, hl2⟩, hs⟩ := id Z
  obtain ⟨hx, hw⟩ := qc_room Z.1 ZK
  obtain ⟨b1, b2, b3⟩ := qf_live_rt ok hv hr
  -- the way from the table is taken away
  have o0 : qf_ok (va_up (qv_rt f T) v 0) (qv_lk f) (qv_wy f T) lv ps (fun x => qi_ (qv_rt f T v = x)) := qf_set_rt ok hv (Or.inl rfl) (fun x hp => by
    try dsimp only
    rw [qi_f (p := 0 = x) (fun e => by rw [← e] at hp; exact qf_po0 hp)]
    omega)
  obtain ⟨c, f', h', lv', ps', e, g1, g2, a1, a2, a3, a4, a5, a6, a7, a8, a9, a10, a11, a12⟩ := qo_ownOr (j := ps (qv_rt f T v)) hT hK hTK (k := 2) (by omega) h1 h2 o0 (fun x _ => rfl) (fun _ => ⟨b3, b2, rfl⟩) (fun m i _ _ _ => rfl) hw hx
  have e1 : qt_own T K 2 f h (qv_rt f T v) = (c, f', h') := by rw [← e]; unfold qt_ownOr; rw [if_neg hr]
  have hc16 := a1.1
  have hcT : c < 65536 := by have := a1.2; omega
  -- the table leads to c
  have o1 := qf_set_rt (x := c) (db' := fun _ => 0) a4 hv (Or.inr ⟨a1, a5⟩) (fun x hp => by
    try dsimp only
    rw [qf_us, qi_f (p := 0 = x) (fun e => by rw [← e] at hp; exact qf_po0 hp)]
    by_cases hxc : x = c
    · rw [qi_t hxc, qi_t hxc.symm]
    · rw [qi_f hxc, qi_f (fun e => hxc e.symm)])
  have q1 : ∀ x, x ≠ T → qv_eq (qv_setL f' T v c) f' x := fun x hx => qv_eq_setL hx (by omega)
  have qA : ∀ x, x ≠ c → (x < T ∨ T + 7 ≤ x) → qv_eq (qv_setL f' T v c) f x := fun x hx hr => (q1 x (by omega)).tr (a9 x hx (by omega))
  have qT : qv_eq f' f T := a9 T (by omega) (by omega)
  have rtN : ∀ w, w < 16 → qv_rt (qv_setL f' T v c) T w = va_up (qv_rt f T) v c w := fun w hw2 => by
    unfold qv_rt
    rw [qv_lk_setL (by omega) (by omega) hcT]
    by_cases hwv : w = v
    · subst hwv; rw [if_pos rfl, qf_us]
    · rw [if_neg hwv, qf_un hwv]; exact qT.lk (by omega)
  have wyN : ∀ x, qv_wy (qv_setL f' T v c) T x = qv_wy f' T x := fun x => qe_wy_eq (fun k hk1 hk2 => q1 _ (by omega)) x
  have cW : ∀ i, i < 16 → qv_word (qv_setL f' T v c) c i = qv_word f (qv_rt f T v) i := fun i hi => by
    rw [q1 c (by omega) i hi, a8 i hi, if_neg hr]
  have cL : ∀ i, i < 64 → qv_lk (qv_setL f' T v c) c i = qv_lk f (qv_rt f T v) i := fun i hi => by
    unfold qv_lk; rw [cW (i / 4) (by omega)]
  have lkN : ∀ m i, 0 < qv_wy f' T m → i < 32 → qv_lk (qv_setL f' T v c) m i = va_up (qv_lk f) c (fun i => if qv_rt f T v = 0 then 0 else qv_lk f (qv_rt f T v) i) m i := fun m i hm hi => by
    by_cases hmc : m = c
    · subst hmc; rw [qf_us, if_neg hr]; exact cL i (by omega)
    · rw [qf_un hmc]
      exact (qA m hmc (by have := (qe_wy_po hm).1; omega)).lk (by omega)
  have o2 : qf_ok (qv_rt (qv_setL f' T v c) T) (qv_lk (qv_setL f' T v c)) (qv_wy (qv_setL f' T v c) T) lv' ps' (fun _ => 0) := qf_congr o1 (fun w hw2 => by
      rw [rtN w hw2]
      by_cases hwv : w = v
      · subst hwv; rw [qf_us, qf_us]
      · rw [qf_un hwv, qf_un hwv, qf_un hwv]) (fun m i hm hi => lkN m i hm (by have := qf_nl_le (lv' m); omega)) wyN
  have hl2' : ∀ b, lv' b ≤ 2 := fun b => by
    by_cases hbc : b = c
    · subst hbc; omega
    · rw [(a7 b hbc).1]; exact hl2 b
  -- what is in a live block
  have cnN : ∀ n, 0 < qv_wy f' T n → n ≠ c → qf_cn (qv_lk (qv_setL f' T v c)) n = qf_cn (qv_lk f) n := fun n hn hnc => qf_cn_congr (fun i hi => (qA n hnc (by have := (qe_wy_po hn).1; omega)).lk (by omega))
  have SN : ∀ n, 0 < qv_wy f' T n → n ≠ c → lv' n = 2 → qf_S (qv_lk (qv_setL f' T v c)) n = qf_S (qv_lk f) n := fun n hn hnc hln => qf_S_congr (fun i hi => (qA n hnc (by have := (qe_wy_po hn).1; omega)).lk (by omega)) (fun i hi h0 j hj => by
    obtain ⟨d1, d2, d3, -⟩ := qf_live_lk o2 (n := n) (i := i) (by rw [wyN]; exact hn) (by rw [hln, qf_nl2]; exact hi) h0
    exact (qA _ (fun e => by rw [e] at d2; omega) (by have := d3.1; omega)).lk (by omega))
  have Sc : qf_S (qv_lk (qv_setL f' T v c)) c = qf_S (qv_lk f) (qv_rt f T v) := by
    refine qs_congr (fun i hi => ?_)
    try dsimp only
    rw [cL i (by omega)]
    by_cases h0 : qv_lk f (qv_rt f T v) i = 0
    · rw [qi_f (fun q => q h0), Nat.zero_mul, Nat.zero_mul]
    · congr 1
      obtain ⟨d1, d2, d3, -⟩ := qf_live_lk o2 (n := c) (i := i) (by rw [wyN, a2]; omega) (by rw [a5, qf_nl2]; exact hi) (by rw [cL i (by omega)]; exact h0)
      rw [cL i (by omega)] at d1 d2 d3
      exact qf_cn_congr (fun j hj => (qA _ (fun e => by rw [e] at d2; omega) (by have := d3.1; omega)).lk (by omega))
  have totN : qf_tot (qv_rt (qv_setL f' T v c) T) (qv_lk (qv_setL f' T v c)) = qf_tot (qv_rt f T) (qv_lk f) := by
    refine qs_congr (fun w hw2 => ?_)
    try dsimp only
    rw [rtN w hw2]
    by_cases hwv : w = v
    · subst hwv
      rw [qf_us, Sc, qi_t hr, qi_n (fun e => by rw [e] at a1; exact qf_po0 a1)]
    · rw [qf_un hwv]
      by_cases h0 : qv_rt f T w = 0
      · rw [qi_f (fun q => q h0), Nat.zero_mul, Nat.zero_mul]
      · congr 1
        obtain ⟨d1, d2, d3⟩ := qf_live_rt o2 hw2 (by rw [rtN w hw2, qf_un hwv]; exact h0)
        rw [rtN w hw2, qf_un hwv, wyN] at d1
        rw [rtN w hw2, qf_un hwv] at d2
        by_cases hwc : qv_rt f T w = c
        · rw [hwc, Sc]
          rcases a10 with ⟨-, q⟩ | ⟨q, -⟩
          · rw [q]
          · obtain ⟨z, -, -⟩ := qf_live_rt ok hw2 h0
            rw [hwc] at z
            omega
        · exact SN _ d1 hwc d2
  -- what is found
  have leafN : ∀ w p, w < 16 → p < 128 → qt_leaf (qv_setL f' T v c) T w p = qt_leaf f T w p := fun w p hw2 hp => by
    unfold qt_leaf
    rw [rtN w hw2]
    by_cases hwv : w = v
    · subst hwv
      rw [qf_us, if_neg (fun e => by rw [e] at a1; exact qf_po0 a1), if_neg hr, cL _ (by omega)]
    · rw [qf_un hwv]
      by_cases h0 : qv_rt f T w = 0
      · rw [if_pos h0, if_pos h0]
      · rw [if_neg h0, if_neg h0]
        by_cases hwc : qv_rt f T w = c
        · rw [hwc, cL _ (by omega)]
          rcases a10 with ⟨-, q⟩ | ⟨q, -⟩
          · rw [q]
          · obtain ⟨z, -, -⟩ := qf_live_rt ok hw2 h0
            rw [hwc] at z
            omega
        · obtain ⟨z, -, z3⟩ := qf_live_rt ok hw2 h0
          exact (qA _ hwc (by have := z3.1; omega)).lk (by omega)
  have notRoot : ∀ x, 0 < qv_wy f T x → lv x ≠ 2 → x ≠ c := fun x hx2 hl e => by
    rcases a10 with ⟨-, q⟩ | ⟨q, -⟩
    · rw [e, q] at hl; exact hl b2
    · rw [e] at hx2; omega
  have findN : ∀ w p, w < 16 → p < 128 → qt_find (qv_setL f' T v c) T w p = qt_find f T w p := fun w p hw2 hp => by
    unfold qt_find
    rw [leafN w p hw2 hp]
    by_cases h0 : qt_leaf f T w p = 0
    · rw [if_pos h0, if_pos h0]
    · rw [if_neg h0, if_neg h0]
      have hr0 : qv_rt f T w ≠ 0 := fun e => h0 (by unfold qt_leaf; rw [if_pos e])
      have el : qt_leaf f T w p = qv_lk f (qv_rt f T w) (p / 32) := by unfold qt_leaf; rw [if_neg hr0]
      obtain ⟨z1, z2, -⟩ := qf_live_rt ok hw2 hr0
      obtain ⟨y1, y2, y3, -⟩ := qf_live_lk ok z1 (i := p / 32) (by rw [z2, qf_nl2]; omega) (by rw [← el]; exact h0)
      rw [← el] at y1 y2 y3
      exact (qA _ (notRoot _ y1 (by omega)) (by have := y3.1; omega)).lk (by omega)
  refine ⟨c, qv_setL f' T v c, h', lv', ps', ?_, g1, g2, ⟨⟨o2, by rw [totN]; exact htot, hl2'⟩, ⟨fun n hn hl => ?_, fun n hn hl => ?_⟩⟩, ?_, a1, by rw [wyN]; exact a2, a5, ⟨fun x hx hr => qA x hx hr, fun x hx => by rw [hx]; exact ⟨a1, a12⟩, fun i hi => ?_⟩, ⟨fun w p hw2 hp _ => ⟨findN w p hw2 hp, fun h0 => ?_⟩, fun w hw2 => ?_⟩, cW, totN⟩
  · unfold qt_ownRoot; rw [e1]
  · rw [wyN] at hn
    have hnc : n ≠ c := fun e => by rw [e] at hl; omega
    rw [(qA n hnc (by have := (qe_wy_po hn).1; omega)).sz, cnN n hn hnc]
    exact hs.1 n (a11 n hnc hn) (by rw [← (a7 n hnc).1]; exact hl)
  · rw [wyN] at hn
    by_cases hnc : n = c
    · subst hnc
      rw [Sc]
      have := hs.2 (qv_rt f T v) b1 b2
      rw [← this]
      exact cW 15 (by omega)
    · rw [(qA n hnc (by have := (qe_wy_po hn).1; omega)).sz, SN n hn hnc hl]
      exact hs.2 n (a11 n hnc hn) (by rw [← (a7 n hnc).1]; exact hl)
  · rw [rtN v hv, qf_us]
  · unfold qv_nt
    rw [qv_by_setL (by omega)]
    exact qT.by (by omega)
  · obtain ⟨-, -, -, -, -, -, -, -, d1, d2, -, -⟩ := qr_found ok hw2 hp h0
    exact qA _ (notRoot _ d1 (by omega)) (by have := (qe_wy_po d1).1; omega)
  · rw [rtN w hw2]
    by_cases hwv : w = v
    · subst hwv
      rw [qf_us]
      exact ⟨fun e => by rw [e] at a1; exact absurd a1 qf_po0, fun e => absurd e hr⟩
    · rw [qf_un hwv]
end
section
/-! the leaf of a piece, below a root that only v has -/
theorem qr_ownLeaf {T K : Nat} (hT : T + 7 ≤ 16) (hK : K + 7 ≤ 16) (hTK : T + 7 ≤ K ∨ K + 7 ≤ T) {f : Nat → Int64} {h v r i : Nat} (h1 : 16 ≤ h) (h2 : h < 784) (hv : v < 16) (hi : i < 4) {lv ps kl kp : Nat → Nat} (Z : qz_ok f T lv ps 0) (ZK : qz_st f K kl kp) (hr : qv_rt f T v = r) (hpr : qf_po r) (hwr : qv_wy f T r = 1) (hkr : qv_wy f K r = 0) :
    ∃ (l : Nat) (f' : Nat → Int64) (h' : Nat) (lv' ps' : Nat → Nat), qt_ownLink T K 1 f h r i = (l, f', h') ∧ 16 ≤ h' ∧ h' < 784 ∧ qz_ok f' T lv' ps' l ∧ qv_rt f' T v = r ∧ qv_wy f' T r = 1 ∧ lv' r = 2 ∧ qv_lk f' r i = l ∧ qf_po l ∧ qv_wy f' T l = 1 ∧ lv' l = 1 ∧ ps' l = i ∧ qr_fr T K f f' (fun x => x = l ∨ x = r) ∧ qr_same T f f' (fun _ _ => False) ∧ (∀ j, j < 16 → qv_word f' l j = if qv_lk f r i = 0 then 0 else qv_word f (qv_lk f r i) j) ∧ qf_tot (qv_rt f' T) (qv_lk f') = qf_tot (qv_rt f T) (qv_lk f) ∧ (∀ w, w < 16 → w ≠ v → qv_rt f' T w ≠ r) ∧ l ≠ r := by
  obtain ⟨⟨ok, htot, hl2⟩, hs⟩ := id Z
  obtain ⟨hx, hw⟩ := qc_room Z.1 ZK
  have hr0 : qv_rt f T v ≠ 0 := fun e => by rw [hr] at e; rw [e] at hpr; exact qf_po0 hpr
  obtain ⟨-, hlr, -⟩ := qf_live_rt ok hv hr0
  rw [hr] at hlr
  have hir : i < qf_nl (lv r) := by rw [hlr]; exact hi
  have hin1 : qf_in (qv_rt f T) (qv_lk f) (qv_wy f T) lv r ≤ 1 := by have := ok.2.2.1 r hpr; omega
  obtain ⟨onlyR, noLk⟩ := qf_only_rt ok hv hr hin1
  -- the link is taken away
  have o0 : qf_ok (qv_rt f T) (qf_lk (qv_lk f) r i 0) (qv_wy f T) lv ps (fun x => qi_ (qv_lk f r i = x)) := qf_set_lk ok (by omega) hir (Or.inl rfl) (fun x hp => by
    try dsimp only
    rw [qi_f (p := 0 = x) (fun e => by rw [← e] at hp; exact qf_po0 hp)]
    omega)
  obtain ⟨c, f', h', lv', ps', e, g1, g2, a1, a2, a3, a4, a5, a6, a7, a8, a9, a10, a11, a12⟩ := qo_ownOr (j := i) hT hK hTK (k := 1) (by omega) h1 h2 o0 (fun x _ => rfl) (fun h0 => by
      obtain ⟨z1, z2, z3, z4⟩ := qf_live_lk ok (n := r) (i := i) (by omega) hir h0
      exact ⟨z3, by omega, z4⟩) (fun m j hm hl hj => qf_lk_n _ _ _ _ _ _ (fun e => by rw [e] at hl; omega)) hw hx
  have hc16 := a1.1
  have hcT : c < 65536 := by have := a1.2; omega
  have hcr : c ≠ r := fun e => by
    rcases a10 with ⟨q0, q⟩ | ⟨q, -⟩
    · obtain ⟨z1, z2, z3, z4⟩ := qf_live_lk ok (n := r) (i := i) (by omega) hir q0
      rw [← q, e] at z2
      omega
    · rw [e] at q; omega
  have hrc : r ≠ c := fun e => hcr e.symm
  -- what the root r is behind it
  have hlr' : lv' r = 2 := by rw [(a7 r hrc).1]; exact hlr
  have hwr' : qv_wy f' T r = 1 := by
    have z := a4.2.2.1 r hpr
    try dsimp only at z
    rw [qi_f hrc] at z
    have y1 : 1 ≤ qf_in (qv_rt f T) (va_up (qf_lk (qv_lk f) r i 0) c (fun i_1 => if qv_lk f r i = 0 then 0 else qv_lk f (qv_lk f r i) i_1)) (qv_wy f' T) lv' r := qf_in_ge_rt hv hr
    have y2 : qf_in (qv_rt f T) (va_up (qf_lk (qv_lk f) r i 0) c (fun i_1 => if qv_lk f r i = 0 then 0 else qv_lk f (qv_lk f r i) i_1)) (qv_wy f' T) lv' r ≤ 1 := by
      unfold qf_in
      have s1 : qs_ 16 (fun w => qi_ (qv_rt f T w = r)) = qi_ (qv_rt f T v = r) := qs_one (f := fun w => qi_ (qv_rt f T w = r)) hv (fun w hw2 hne => qi_f (onlyR w hw2 hne))
      have s2 : qs_ 784 (fun n => qf_out (va_up (qf_lk (qv_lk f) r i 0) c (fun i_1 => if qv_lk f r i = 0 then 0 else qv_lk f (qv_lk f r i) i_1)) (qv_wy f' T) lv' n r) = 0 := qs_zero (fun n _ => by
        have y3 := qf_out_le a4 (n := n) (b := r) (fun e => by rw [e] at hpr; exact qf_po0 hpr)
        rw [qi_f (fun q => ?_)] at y3
        · omega
        · have y4 : lv' n = 3 := by have := q.2; omega
          by_cases hnc : n = c
          · rw [hnc] at y4; omega
          · rw [(a7 n hnc).1] at y4
            have := hl2 n
            omega)
      rw [s1, s2]
      have := qi_le (qv_rt f T v = r)
      omega
    omega
  -- the link leads to c
  have lk0 : va_up (qf_lk (qv_lk f) r i 0) c (fun i_1 => if qv_lk f r i = 0 then 0 else qv_lk f (qv_lk f r i) i_1) r i = 0 := by rw [qf_un hrc, qf_lk_s]
  have o1 := qf_set_lk (n := r) (i := i) (x := c) (db' := fun _ => 0) a4 (by omega) (by rw [hlr']; exact hi) (Or.inr ⟨a1, by omega, a6⟩) (fun x hp => by
    try dsimp only
    rw [lk0, qi_f (p := 0 = x) (fun e => by rw [← e] at hp; exact qf_po0 hp)]
    by_cases hxc : x = c
    · rw [qi_t hxc, qi_t hxc.symm]
    · rw [qi_f hxc, qi_f (fun e => hxc e.symm)])
  have q1 : ∀ x, x ≠ r → qv_eq (qv_setL f' r i c) f' x := fun x hx => qv_eq_setL hx (by omega)
  have qA : ∀ x, x ≠ c → x ≠ r → (x < T + 1 ∨ T + 7 ≤ x) → qv_eq (qv_setL f' r i c) f x := fun x hx hxr hr => (q1 x hxr).tr (a9 x hx hr)
  have qT : qv_eq (qv_setL f' r i c) f T := qA T (by omega) (by have := hpr.1; omega) (by omega)
  have rtN : ∀ w, w < 16 → qv_rt (qv_setL f' r i c) T w = qv_rt f T w := fun w hw2 => qT.lk (by omega)
  have wyN : ∀ x, qv_wy (qv_setL f' r i c) T x = qv_wy f' T x := fun x => qe_wy_eq (fun k hk1 hk2 => q1 _ (by have := hpr.1; omega)) x
  have cW : ∀ j, j < 16 → qv_word (qv_setL f' r i c) c j = if qv_lk f r i = 0 then 0 else qv_word f (qv_lk f r i) j := fun j hj => by
    rw [q1 c hcr j hj, a8 j hj]
  have cL : ∀ j, j < 64 → qv_lk (qv_setL f' r i c) c j = if qv_lk f r i = 0 then 0 else qv_lk f (qv_lk f r i) j := fun j hj => by
    have e2 := cW (j / 4) (by omega)
    by_cases h0 : qv_lk f r i = 0
    · rw [if_pos h0] at e2 ⊢
      unfold qv_lk
      rw [e2, qb_0]
      simp
    · rw [if_neg h0] at e2 ⊢
      generalize qv_lk f r i = b at e2 ⊢
      unfold qv_lk
      rw [e2]
  have rL : ∀ j, j < 32 → qv_lk (qv_setL f' r i c) r j = if j = i then c else qv_lk f r j := fun j hj => by
    rw [qv_lk_setL hpr.2 (by omega) hcT]
    by_cases hji : j = i
    · rw [if_pos hji, if_pos hji]
    · rw [if_neg hji, if_neg hji]
      exact (a9 r hrc (by have := hpr.1; omega)).lk (by omega)
  have lkN : ∀ m j, 0 < qv_wy f' T m → j < 32 → qv_lk (qv_setL f' r i c) m j = qf_lk (va_up (qf_lk (qv_lk f) r i 0) c (fun i_1 => if qv_lk f r i = 0 then 0 else qv_lk f (qv_lk f r i) i_1)) r i c m j := fun m j hm hj => by
    by_cases hmr : m = r
    · subst hmr
      rw [rL j hj]
      by_cases hji : j = i
      · subst hji; rw [if_pos rfl, qf_lk_s]
      · rw [if_neg hji, qf_lk_i _ _ _ _ _ hji, qf_un hrc, qf_lk_i _ _ _ _ _ hji]
    · rw [qf_lk_n _ _ _ _ _ _ hmr]
      by_cases hmc : m = c
      · subst hmc; rw [qf_us]; exact cL j (by omega)
      · rw [qf_un hmc, qf_lk_n _ _ _ _ _ _ hmr]
        exact (qA m hmc hmr (by have := (qe_wy_po hm).1; omega)).lk (by omega)
  have o2 : qf_ok (qv_rt (qv_setL f' r i c) T) (qv_lk (qv_setL f' r i c)) (qv_wy (qv_setL f' r i c) T) lv' ps' (fun _ => 0) := qf_congr o1 rtN (fun m j hm hj => lkN m j hm (by have := qf_nl_le (lv' m); omega)) wyN
  have hl2' : ∀ b, lv' b ≤ 2 := fun b => by
    by_cases hbc : b = c
    · subst hbc; omega
    · rw [(a7 b hbc).1]; exact hl2 b
  have hin1' : qf_in (qv_rt (qv_setL f' r i c) T) (qv_lk (qv_setL f' r i c)) (qv_wy (qv_setL f' r i c) T) lv' c ≤ 1 := by
    have := o2.2.2.1 c a1
    rw [wyN, a2] at this
    omega
  obtain ⟨-, onlyC⟩ := qf_only_lk o2 (n := r) (i := i) (by rw [wyN]; omega) (by rw [hlr']; exact hi) (b := c) (by rw [rL i (by omega), if_pos rfl]) hin1'
  -- sizes
  have cnN : ∀ n, 0 < qv_wy f' T n → n ≠ c → n ≠ r → qf_cn (qv_lk (qv_setL f' r i c)) n = qf_cn (qv_lk f) n := fun n hn hnc hnr => qf_cn_congr (fun j hj => (qA n hnc hnr (by have := (qe_wy_po hn).1; omega)).lk (by omega))
  have cnC : qf_cn (qv_lk (qv_setL f' r i c)) c = if qv_lk f r i = 0 then 0 else qf_cn (qv_lk f) (qv_lk f r i) := by
    by_cases h0 : qv_lk f r i = 0
    · rw [if_pos h0]
      refine qs_zero (fun j hj => qi_f (fun q => q ?_))
      rw [cL j (by omega), if_pos h0]
    · rw [if_neg h0]
      refine qs_congr (fun j hj => ?_)
      try dsimp only
      rw [cL j (by omega), if_neg h0]
  have leafOf : ∀ n, 0 < qv_wy f' T n → ∀ j, j < qf_nl (lv' n) → qv_lk (qv_setL f' r i c) n j ≠ 0 → 0 < qv_wy f' T (qv_lk (qv_setL f' r i c) n j) ∧ lv' (qv_lk (qv_setL f' r i c) n j) + 1 = lv' n ∧ qf_po (qv_lk (qv_setL f' r i c) n j) := fun n hn j hj h0 => by
    obtain ⟨d1, d2, d3, -⟩ := qf_live_lk o2 (n := n) (i := j) (by rw [wyN]; exact hn) hj h0
    rw [wyN] at d1
    exact ⟨d1, d2, d3⟩
  have SN : ∀ n, 0 < qv_wy f' T n → lv' n = 2 → n ≠ r → qf_S (qv_lk (qv_setL f' r i c)) n = qf_S (qv_lk f) n := fun n hn hln hnr => by
    have hnc : n ≠ c := fun e => by rw [e] at hln; omega
    refine qf_S_congr (fun j hj => (qA n hnc hnr (by have := (qe_wy_po hn).1; omega)).lk (by omega)) (fun j hj h0 k hk => ?_)
    obtain ⟨d1, d2, d3⟩ := leafOf n hn j (by rw [hln]; exact hj) h0
    refine (qA _ (fun e => ?_) (fun e => by rw [e] at d2; omega) (by have := d3.1; omega)).lk (by omega)
    exact hnr (onlyC n j (by rw [wyN]; exact hn) (by rw [hln]; exact hj) e).1
  have SR : qf_S (qv_lk (qv_setL f' r i c)) r = qf_S (qv_lk f) r := by
    refine qs_congr (fun j hj => ?_)
    try dsimp only
    rw [rL j (by omega)]
    by_cases hji : j = i
    · subst hji
      rw [if_pos rfl, qi_n (fun e => by rw [e] at a1; exact qf_po0 a1), cnC, Nat.one_mul]
      by_cases h0 : qv_lk f r j = 0
      · rw [if_pos h0, qi_f (fun q => q h0), Nat.zero_mul]
      · rw [if_neg h0, qi_t h0, Nat.one_mul]
    · rw [if_neg hji]
      by_cases h0 : qv_lk f r j = 0
      · rw [qi_f (fun q => q h0), Nat.zero_mul, Nat.zero_mul]
      · congr 1
        have e2 : qv_lk (qv_setL f' r i c) r j = qv_lk f r j := by rw [rL j (by omega), if_neg hji]
        obtain ⟨d1, d2, d3⟩ := leafOf r (by omega) j (by rw [hlr']; exact hj) (by rw [e2]; exact h0)
        rw [e2] at d1 d2 d3
        refine cnN _ d1 (fun e => ?_) (fun e => by rw [e] at d2; omega)
        exact hji (onlyC r j (by rw [wyN]; omega) (by rw [hlr']; exact hj) (by rw [e2]; exact e)).2
  have totN : qf_tot (qv_rt (qv_setL f' r i c) T) (qv_lk (qv_setL f' r i c)) = qf_tot (qv_rt f T) (qv_lk f) := by
    refine qs_congr (fun w hw2 => ?_)
    try dsimp only
    rw [rtN w hw2]
    by_cases h0 : qv_rt f T w = 0
    · rw [qi_f (fun q => q h0), Nat.zero_mul, Nat.zero_mul]
    · congr 1
      obtain ⟨d1, d2, d3⟩ := qf_live_rt o2 hw2 (by rw [rtN w hw2]; exact h0)
      rw [rtN w hw2, wyN] at d1
      rw [rtN w hw2] at d2
      by_cases hwr2 : qv_rt f T w = r
      · rw [hwr2]; exact SR
      · exact SN _ d1 d2 hwr2
  -- what is found: a leaf may be another one, with the same links
  have notC : ∀ x, 0 < qv_wy f T x → (lv x ≠ 1 ∨ x ≠ qv_lk f r i) → x ≠ c := fun x hx2 hl e => by
    rcases a10 with ⟨q0, q⟩ | ⟨q, -⟩
    · rcases hl with hl | hl
      · obtain ⟨z1, z2, z3, z4⟩ := qf_live_lk ok (n := r) (i := i) (by omega) hir q0
        rw [e, q] at hl
        omega
      · rw [e] at hl; exact hl q
    · rw [e] at hx2; omega
  have findN : ∀ w p, w < 16 → p < 128 → qt_find (qv_setL f' r i c) T w p = qt_find f T w p := fun w p hw2 hp => by
    unfold qt_find qt_leaf
    rw [rtN w hw2]
    by_cases h0 : qv_rt f T w = 0
    · simp [h0]
    · rw [if_neg h0, if_neg h0]
      obtain ⟨z1, z2, z3⟩ := qf_live_rt ok hw2 h0
      -- a live leaf of f, not the one that is replaced
      have other : ∀ x, 0 < qv_wy f T x → lv x = 1 → x ≠ c → qv_lk (qv_setL f' r i c) x (p % 32) = qv_lk f x (p % 32) := fun x hx2 hl hxc => (qA x hxc (fun e => by rw [e] at hl; omega) (by have := (qe_wy_po hx2).1; omega)).lk (by omega)
      by_cases hwr2 : qv_rt f T w = r
      · rw [hwr2, rL (p / 32) (by omega)]
        by_cases hpi : p / 32 = i
        · rw [if_pos hpi, if_neg (fun e => by rw [e] at a1; exact qf_po0 a1), cL _ (by omega), hpi]
        · rw [if_neg hpi]
          by_cases hl0 : qv_lk f r (p / 32) = 0
          · rw [if_pos hl0, if_pos hl0]
          · rw [if_neg hl0, if_neg hl0]
            obtain ⟨y1, y2, y3, y4⟩ := qf_live_lk ok (n := r) (i := p / 32) (by omega) (by rw [hlr, qf_nl2]; omega) hl0
            refine other _ y1 (by omega) (fun e => ?_)
            have e2 : qv_lk (qv_setL f' r i c) r (p / 32) = c := by rw [rL _ (by omega), if_neg hpi]; exact e
            exact hpi (onlyC r (p / 32) (by rw [wyN]; omega) (by rw [hlr', qf_nl2]; omega) e2).2
      · have hwc : qv_rt f T w ≠ c := notC _ z1 (Or.inl (by omega))
        rw [(qA _ hwc hwr2 (by have := z3.1; omega)).lk (show p / 32 < 64 by omega)]
        by_cases hl0 : qv_lk f (qv_rt f T w) (p / 32) = 0
        · rw [if_pos hl0, if_pos hl0]
        · rw [if_neg hl0, if_neg hl0]
          obtain ⟨y1, y2, y3, y4⟩ := qf_live_lk ok (n := qv_rt f T w) (i := p / 32) z1 (by rw [z2, qf_nl2]; omega) hl0
          refine other _ y1 (by omega) (fun e => ?_)
          obtain ⟨d1, d2, d3⟩ := qf_live_rt o2 hw2 (by rw [rtN w hw2]; exact h0)
          rw [rtN w hw2] at d1 d2
          have e2 : qv_lk (qv_setL f' r i c) (qv_rt f T w) (p / 32) = c := by rw [(qA _ hwc hwr2 (by have := z3.1; omega)).lk (show p / 32 < 64 by omega)]; exact e
          exact hwr2 (onlyC _ (p / 32) d1 (by rw [d2, qf_nl2]; omega) e2).1
  refine ⟨c, qv_setL f' r i c, h', lv', ps', ?_, g1, g2, ⟨⟨o2, by rw [totN]; exact htot, hl2'⟩, ⟨fun n hn hl => ?_, fun n hn hl => ?_⟩⟩, by rw [rtN v hv]; exact hr, by rw [wyN]; exact hwr', hlr', by rw [rL i (by omega), if_pos rfl], a1, by rw [wyN]; exact a2, a5, a6, ⟨fun x hx hrr => qA x (fun e => hx (Or.inl e)) (fun e => hx (Or.inr e)) (by omega), fun x hx => ?_, fun j hj => ?_⟩, ⟨fun w p hw2 hp _ => ⟨findN w p hw2 hp, fun h0 => ?_⟩, fun w hw2 => by rw [rtN w hw2]⟩, cW, totN, fun w hw2 hne => by rw [rtN w hw2]; exact onlyR w hw2 hne, hcr⟩
  · unfold qt_ownLink; rw [e]
  · rw [wyN] at hn
    have hnr : n ≠ r := fun e => by rw [e] at hl; omega
    by_cases hnc : n = c
    · subst hnc
      refine ⟨?_, fun q => absurd rfl q⟩
      rw [cnC]
      have e3 := cW 15 (by omega)
      by_cases h0 : qv_lk f r i = 0
      · rw [if_pos h0] at e3 ⊢; exact e3
      · rw [if_neg h0] at e3 ⊢
        obtain ⟨y1, y2, y3, y4⟩ := qf_live_lk ok (n := r) (i := i) (by omega) hir h0
        rw [← (hs.1 _ y1 (by omega)).1]
        exact e3
    · rw [(qA n hnc hnr (by have := (qe_wy_po hn).1; omega)).sz, cnN n hn hnc hnr]
      obtain ⟨s1, s2⟩ := hs.1 n (a11 n hnc hn) (by rw [← (a7 n hnc).1]; exact hl)
      exact ⟨s1, fun _ => s2 (fun e => by have := (qe_wy_po hn).1; omega)⟩
  · rw [wyN] at hn
    have hnc : n ≠ c := fun e => by rw [e] at hl; omega
    by_cases hnr : n = r
    · subst hnr
      rw [SR, qv_sz_setL (by omega), (a9 n hnc (by have := hpr.1; omega)).sz]
      exact hs.2 n (by omega) hlr
    · rw [(qA n hnc hnr (by have := (qe_wy_po hn).1; omega)).sz, SN n hn hl hnr]
      exact hs.2 n (a11 n hnc hn) (by rw [← (a7 n hnc).1]; exact hl)
  · rcases hx with rfl | rfl
    · exact ⟨a1, a12⟩
    · exact ⟨hpr, hkr⟩
  · exact qT.by (by omega)
  · obtain ⟨-, -, -, -, -, -, -, -, d1, d2, -, -⟩ := qr_found ok hw2 hp h0
    exact qA _ (notC _ d1 (Or.inl (by omega))) (fun e => by rw [e] at d2; omega) (by have := (qe_wy_po d1).1; omega)
end
section
/-! the block of a piece, below a leaf that only the root r has, that only v has -/
theorem qr_grow_w {f : Nat → Int64} {r l j x i : Nat} (hi : i < 15) : qv_word (qt_grow f r l j) x i = qv_word f x i := by
  unfold qt_grow
  by_cases h0 : qv_lk f l j = 0
  · rw [if_pos h0]
    unfold qv_addS
    by_cases h1 : x = l
    · subst h1
      rw [qv_word_i (by omega)]
      by_cases h2 : x = r
      · subst h2; rw [qv_word_i (by omega)]
      · rw [qv_word_n h2 (by omega) (by omega)]
    · rw [qv_word_n h1 (by omega) (by omega)]
      by_cases h2 : x = r
      · subst h2; rw [qv_word_i (by omega)]
      · rw [qv_word_n h2 (by omega) (by omega)]
  · rw [if_neg h0]
theorem qr_grow_n {f : Nat → Int64} {r l j x : Nat} (h1 : x ≠ r) (h2 : x ≠ l) : qv_eq (qt_grow f r l j) f x := by
  unfold qt_grow
  by_cases h0 : qv_lk f l j = 0
  · rw [if_pos h0]; exact (qv_eq_addS h2).tr (qv_eq_addS h1)
  · rw [if_neg h0]; exact qv_eq.rf
theorem qr_grow_lk {f : Nat → Int64} {r l j x i : Nat} (hi : i < 60) : qv_lk (qt_grow f r l j) x i = qv_lk f x i := by
  unfold qv_lk; rw [qr_grow_w (by omega)]
theorem qr_grow_sz {f : Nat → Int64} {r l j : Nat} (hr : r < 784) (hl : l < 784) (hrl : l ≠ r) : qv_sz (qt_grow f r l j) r = qv_sz f r + (if qv_lk f l j = 0 then 1 else 0) ∧ qv_sz (qt_grow f r l j) l = qv_sz f l + (if qv_lk f l j = 0 then 1 else 0) := by
  unfold qt_grow
  by_cases h0 : qv_lk f l j = 0
  · rw [if_pos h0, if_pos h0]
    refine ⟨?_, ?_⟩
    · rw [(qv_eq_addS (fun e => hrl e.symm)).sz, qv_sz_addS hr]
    · rw [qv_sz_addS hl, (qv_eq_addS hrl).sz]
  · rw [if_neg h0, if_neg h0]
    refine ⟨?_, ?_⟩
    · simp
    · simp
theorem qr_ownData {T K : Nat} (hT : T + 7 ≤ 16) (hK : K + 7 ≤ 16) (hTK : T + 7 ≤ K ∨ K + 7 ≤ T) {f : Nat → Int64} {h v r l i j : Nat} (h1 : 16 ≤ h) (h2 : h < 784) (hv : v < 16) (hi : i < 4) (hj : j < 32) {lv ps kl kp : Nat → Nat} (Z : qz_ok f T lv ps l) (ZK : qz_st f K kl kp)
    (hr : qv_rt f T v = r) (hpr : qf_po r) (hwr : qv_wy f T r = 1) (hkr : qv_wy f K r = 0) (hl : qv_lk f r i = l) (hpl : qf_po l) (hwl : qv_wy f T l = 1) (hkl : qv_wy f K l = 0) (hroom : qf_tot (qv_rt f T) (qv_lk f) + (if qv_lk f l j = 0 then 1 else 0) ≤ 300) :
    ∃ (c : Nat) (f' : Nat → Int64) (h' : Nat) (lv' ps' : Nat → Nat), qt_ownLink T K 0 (qt_grow f r l j) h l j = (c, f', h') ∧ 16 ≤ h' ∧ h' < 784 ∧ qz_ok f' T lv' ps' 0 ∧ qf_po c ∧ qv_wy f' T c = 1 ∧ lv' c = 0 ∧ qv_wy f K c = 0 ∧ qt_find f' T v (32 * i + j) = c ∧ qr_fr T K f f' (fun x => x = c ∨ x = l ∨ x = r) ∧ qr_same T f f' (fun w q => w = v ∧ q = 32 * i + j) ∧ (∀ k, k < 16 → qv_word f' c k = if qv_lk f l j = 0 then 0 else qv_word f (qv_lk f l j) k) ∧ qf_tot (qv_rt f' T) (qv_lk f') = qf_tot (qv_rt f T) (qv_lk f) + (if qv_lk f l j = 0 then 1 else 0) ∧ (∀ w q, w < 16 → q < 128 → ¬ (w = v ∧ q = 32 * i + j) → qt_find f' T w q ≠ c) := by
  obtain ⟨⟨ok, htot, hl2⟩, hs⟩ := id Z
  have hr0 : qv_rt f T v ≠ 0 := fun e => by rw [hr] at e; rw [e] at hpr; exact qf_po0 hpr
  obtain ⟨-, hlr, -⟩ := qf_live_rt ok hv hr0
  rw [hr] at hlr
  have hl0 : qv_lk f r i ≠ 0 := fun e => by rw [hl] at e; rw [e] at hpl; exact qf_po0 hpl
  obtain ⟨-, hll, -, -⟩ := qf_live_lk ok (n := r) (i := i) (by omega) (by rw [hlr]; exact hi) hl0
  rw [hl] at hll
  have hll : lv l = 1 := by omega
  have hrl : l ≠ r := fun e => by rw [e] at hll; omega
  have hjl : j < qf_nl (lv l) := by rw [hll]; exact hj
  obtain ⟨onlyR, -⟩ := qf_only_rt ok hv hr (by have := ok.2.2.1 r hpr; omega)
  obtain ⟨-, onlyL⟩ := qf_only_lk ok (n := r) (i := i) (by omega) (by rw [hlr]; exact hi) hl (by have := ok.2.2.1 l hpl; omega)
  -- sizes grow; the forest is the same
  generalize hg : qt_grow f r l j = g
  have gA : ∀ x, x ≠ r → x ≠ l → qv_eq g f x := fun x hx1 hx2 => by rw [← hg]; exact qr_grow_n hx1 hx2
  have gL : ∀ x k, k < 60 → qv_lk g x k = qv_lk f x k := fun x k hk => by rw [← hg]; exact qr_grow_lk hk
  have gT : ∀ k, k < 7 → qv_eq g f (T + k) := fun k hk => gA _ (by have := hpr.1; omega) (by have := hpl.1; omega)
  have gK : ∀ k, k < 7 → qv_eq g f (K + k) := fun k hk => gA _ (by have := hpr.1; omega) (by have := hpl.1; omega)
  have gwT : ∀ x, qv_wy g T x = qv_wy f T x := fun x => qe_wy_eq (fun k _ hk => gT k hk) x
  have gwK : ∀ x, qv_wy g K x = qv_wy f K x := fun x => qe_wy_eq (fun k _ hk => gK k hk) x
  have gR : ∀ w, w < 16 → qv_rt g T w = qv_rt f T w := fun w hw2 => (gT 0 (by omega)).lk (by omega)
  have okg : qf_ok (qv_rt g T) (qv_lk g) (qv_wy g T) lv ps (fun _ => 0) := qf_congr ok gR (fun m k _ hk => gL m k (by have := qf_nl_le (lv m); omega)) gwT
  obtain ⟨hx, hw⟩ : (∃ c, qf_po c ∧ qv_wy g T c = 0 ∧ qv_wy g K c = 0) ∧ ∀ x, qv_wy g T x ≤ 100 := by
    obtain ⟨⟨c, y1, y2, y3⟩, y4⟩ := qc_room Z.1 ZK
    exact ⟨⟨c, y1, by rw [gwT]; exact y2, by rw [gwK]; exact y3⟩, fun x => by rw [gwT]; exact y4 x⟩
  have hb : qv_lk g l j = qv_lk f l j := gL l j (by omega)
  have o0 : qf_ok (qv_rt g T) (qf_lk (qv_lk g) l j 0) (qv_wy g T) lv ps (fun x => qi_ (qv_lk g l j = x)) := qf_set_lk okg (by rw [gwT]; omega) hjl (Or.inl rfl) (fun x hp => by
    try dsimp only
    rw [qi_f (p := 0 = x) (fun e => by rw [← e] at hp; exact qf_po0 hp)]
    omega)
  obtain ⟨c, f', h', lv', ps', e, g1, g2, a1, a2, a3, a4, a5, a6, a7, a8, a9, a10, a11, a12⟩ := qo_ownOr (j := j) hT hK hTK (k := 0) (by omega) h1 h2 o0 (fun x _ => rfl) (fun h0 => by
      obtain ⟨z1, z2, z3, z4⟩ := qf_live_lk okg (n := l) (i := j) (by rw [gwT]; omega) hjl h0
      exact ⟨z3, by omega, z4⟩) (fun m k hm hlm hk => qf_lk_n _ _ _ _ _ _ (fun e => by rw [e] at hlm; omega)) hw hx
  have hc16 := a1.1
  have hcT : c < 65536 := by have := a1.2; omega
  -- c is no node of f
  have notC : ∀ x, 0 < qv_wy f T x → (lv x ≠ 0 ∨ x ≠ qv_lk f l j) → x ≠ c := fun x hx2 hlx e => by
    rcases a10 with ⟨q0, q⟩ | ⟨q, -⟩
    · rcases hlx with hlx | hlx
      · obtain ⟨z1, z2, z3, z4⟩ := qf_live_lk okg (n := l) (i := j) (by rw [gwT]; omega) hjl q0
        rw [e, q] at hlx
        omega
      · rw [e, q] at hlx; exact hlx hb
    · rw [gwT] at q; rw [e] at hx2; omega
  have hlc : l ≠ c := notC l (by omega) (Or.inl (by omega))
  have hrc : r ≠ c := notC r (by omega) (Or.inl (by omega))
  have hll' : lv' l = 1 := by rw [(a7 l hlc).1]; exact hll
  have hlr' : lv' r = 2 := by rw [(a7 r hrc).1]; exact hlr
  have hwl' : 0 < qv_wy f' T l := by
    have z := a4.2.2.1 l hpl
    try dsimp only at z
    have y1 : 1 ≤ qf_in (qv_rt g T) (va_up (qf_lk (qv_lk g) l j 0) c (fun k => if qv_lk g l j = 0 then 0 else qv_lk g (qv_lk g l j) k)) (qv_wy f' T) lv' l := by
      have hwr3 : 0 < qv_wy f' T r := by
        have z3 := a4.2.2.1 r hpr
        have y3 : 1 ≤ qf_in (qv_rt g T) (va_up (qf_lk (qv_lk g) l j 0) c (fun k => if qv_lk g l j = 0 then 0 else qv_lk g (qv_lk g l j) k)) (qv_wy f' T) lv' r := qf_in_ge_rt hv (by rw [gR v hv]; exact hr)
        omega
      refine qf_in_ge_lk a4 (n := r) (i := i) hwr3 (by rw [hlr']; exact hi) ?_
      rw [qf_un hrc, qf_lk_n _ _ _ _ _ _ (fun e => hrl e.symm), gL r i (by omega)]
      exact hl
    omega
  have lk0 : va_up (qf_lk (qv_lk g) l j 0) c (fun k => if qv_lk g l j = 0 then 0 else qv_lk g (qv_lk g l j) k) l j = 0 := by rw [qf_un hlc, qf_lk_s]
  have o1 := qf_set_lk (n := l) (i := j) (x := c) (db' := fun _ => 0) a4 hwl' (by rw [hll']; exact hj) (Or.inr ⟨a1, by omega, a6⟩) (fun x hp => by
    try dsimp only
    rw [lk0, qi_f (p := 0 = x) (fun e => by rw [← e] at hp; exact qf_po0 hp)]
    by_cases hxc : x = c
    · rw [qi_t hxc, qi_t hxc.symm]
    · rw [qi_f hxc, qi_f (fun e => hxc e.symm)])
  have q1 : ∀ x, x ≠ l → qv_eq (qv_setL f' l j c) f' x := fun x hx => qv_eq_setL hx (by omega)
  have qG : ∀ x, x ≠ c → x ≠ l → (x < T + 1 ∨ T + 7 ≤ x) → qv_eq (qv_setL f' l j c) g x := fun x hx hxl hrr => (q1 x hxl).tr (a9 x hx hrr)
  have qA : ∀ x, x ≠ c → x ≠ l → x ≠ r → (x < T + 1 ∨ T + 7 ≤ x) → qv_eq (qv_setL f' l j c) f x := fun x hx hxl hxr hrr => (qG x hx hxl hrr).tr (gA x hxr hxl)
  have qT : qv_eq (qv_setL f' l j c) f T := qA T (by omega) (by have := hpl.1; omega) (by have := hpr.1; omega) (by omega)
  have rtN : ∀ w, w < 16 → qv_rt (qv_setL f' l j c) T w = qv_rt f T w := fun w hw2 => qT.lk (by omega)
  have wyN : ∀ x, qv_wy (qv_setL f' l j c) T x = qv_wy f' T x := fun x => qe_wy_eq (fun k hk1 hk2 => q1 _ (by have := hpl.1; omega)) x
  have lkA : ∀ x k, k < 32 → x ≠ c → x ≠ l → (x < T + 1 ∨ T + 7 ≤ x) → qv_lk (qv_setL f' l j c) x k = qv_lk f x k := fun x k hk hxc hxl hrr => by
    rw [(qG x hxc hxl hrr).lk (by omega)]; exact gL x k (by omega)
  have lL : ∀ k, k < 32 → qv_lk (qv_setL f' l j c) l k = if k = j then c else qv_lk f l k := fun k hk => by
    rw [qv_lk_setL hpl.2 (by omega) hcT]
    by_cases hkj : k = j
    · rw [if_pos hkj, if_pos hkj]
    · rw [if_neg hkj, if_neg hkj, (a9 l hlc (by have := hpl.1; omega)).lk (show k < 64 by omega)]
      exact gL l k (by omega)
  have lkN : ∀ m k, 0 < qv_wy f' T m → k < qf_nl (lv' m) → qv_lk (qv_setL f' l j c) m k = qf_lk (va_up (qf_lk (qv_lk g) l j 0) c (fun k => if qv_lk g l j = 0 then 0 else qv_lk g (qv_lk g l j) k)) l j c m k := fun m k hm hk => by
    have hk32 := qf_nl_le (lv' m)
    by_cases hml : m = l
    · subst hml
      rw [lL k (by omega)]
      by_cases hkj : k = j
      · subst hkj; rw [if_pos rfl, qf_lk_s]
      · rw [if_neg hkj, qf_lk_i _ _ _ _ _ hkj, qf_un hlc, qf_lk_i _ _ _ _ _ hkj, gL m k (by omega)]
    · rw [qf_lk_n _ _ _ _ _ _ hml]
      by_cases hmc : m = c
      · subst hmc; rw [a5, qf_nl0] at hk; omega
      · rw [qf_un hmc, qf_lk_n _ _ _ _ _ _ hml]
        exact (qG m hmc hml (by have := (qe_wy_po hm).1; omega)).lk (by omega)
  have o2 : qf_ok (qv_rt (qv_setL f' l j c) T) (qv_lk (qv_setL f' l j c)) (qv_wy (qv_setL f' l j c) T) lv' ps' (fun _ => 0) := qf_congr o1 (fun w hw2 => by rw [rtN w hw2, gR w hw2]) lkN wyN
  have hl2' : ∀ b, lv' b ≤ 2 := fun b => by
    by_cases hbc : b = c
    · subst hbc; omega
    · rw [(a7 b hbc).1]; exact hl2 b
  obtain ⟨-, onlyC⟩ := qf_only_lk o2 (n := l) (i := j) (by rw [wyN]; exact hwl') (by rw [hll']; exact hj) (b := c) (by rw [lL j hj, if_pos rfl]) (by
    have := o2.2.2.1 c a1
    rw [wyN, a2] at this
    omega)
  -- the leaf l is still r's alone
  have liveF : ∀ n, n ≠ c → 0 < qv_wy f' T n → 0 < qv_wy f T n := fun n hnc hn => by rw [← gwT]; exact a11 n hnc hn
  have lvF : ∀ n, n ≠ c → lv' n = lv n := fun n hnc => (a7 n hnc).1
  have cnN : ∀ n, 0 < qv_wy f' T n → lv' n = 1 → n ≠ l → qf_cn (qv_lk (qv_setL f' l j c)) n = qf_cn (qv_lk f) n := fun n hn hln hnl => qf_cn_congr (fun k hk => lkA n k hk (fun e => by rw [e] at hln; omega) hnl (by have := (qe_wy_po hn).1; omega))
  have cnL : qf_cn (qv_lk (qv_setL f' l j c)) l = qf_cn (qv_lk f) l + (if qv_lk f l j = 0 then 1 else 0) := by
    have z := qs_upd (n := 32) (k := j) (f := fun k => qi_ (qv_lk f l k ≠ 0)) (g := fun k => qi_ (qv_lk (qv_setL f' l j c) l k ≠ 0)) hj (fun k hk hne => by rw [lL k hk, if_neg hne])
    try dsimp only at z
    rw [lL j hj, if_pos rfl, qi_n (a := c) (b := 0) (fun e => by rw [e] at a1; exact qf_po0 a1)] at z
    unfold qf_cn
    by_cases h0 : qv_lk f l j = 0
    · rw [qi_f (p := qv_lk f l j ≠ 0) (fun q => q h0)] at z; rw [if_pos h0]; omega
    · rw [qi_n h0] at z; rw [if_neg h0]; omega
  have leafOf : ∀ n, 0 < qv_wy f' T n → lv' n = 2 → ∀ k, k < 4 → qv_lk f n k ≠ 0 → qv_lk (qv_setL f' l j c) n k = qv_lk f n k ∧ 0 < qv_wy f' T (qv_lk f n k) ∧ lv' (qv_lk f n k) = 1 := fun n hn hln k hk h0 => by
    have e2 : qv_lk (qv_setL f' l j c) n k = qv_lk f n k := lkA n k (by omega) (fun e => by rw [e] at hln; omega) (fun e => by rw [e] at hln; omega) (by have := (qe_wy_po hn).1; omega)
    obtain ⟨d1, d2, d3, -⟩ := qf_live_lk o2 (n := n) (i := k) (by rw [wyN]; exact hn) (by rw [hln]; exact hk) (by rw [e2]; exact h0)
    rw [e2, wyN] at d1
    rw [e2] at d2
    exact ⟨e2, d1, by omega⟩
  have SN : ∀ n, 0 < qv_wy f' T n → lv' n = 2 → n ≠ r → qf_S (qv_lk (qv_setL f' l j c)) n = qf_S (qv_lk f) n := fun n hn hln hnr => by
    have hnc : n ≠ c := fun e => by rw [e] at hln; omega
    refine qs_congr (fun k hk => ?_)
    try dsimp only
    by_cases h0 : qv_lk f n k = 0
    · have e2 : qv_lk (qv_setL f' l j c) n k = qv_lk f n k := lkA n k (by omega) hnc (fun e => by rw [e] at hln; omega) (by have := (qe_wy_po hn).1; omega)
      rw [e2, qi_f (fun q => q h0), Nat.zero_mul, Nat.zero_mul]
    · obtain ⟨e2, d1, d2⟩ := leafOf n hn hln k hk h0
      rw [e2]
      congr 1
      refine cnN _ d1 d2 (fun e => hnr ?_)
      exact (onlyL n k (liveF n hnc hn) (by rw [← lvF n hnc, hln]; exact hk) e).1
  have hwr' : 0 < qv_wy f' T r := by
    have z := o2.2.2.1 r hpr
    have y1 : 1 ≤ qf_in (qv_rt (qv_setL f' l j c) T) (qv_lk (qv_setL f' l j c)) (qv_wy (qv_setL f' l j c) T) lv' r := qf_in_ge_rt hv (by rw [rtN v hv]; exact hr)
    rw [wyN] at z
    omega
  have SR : qf_S (qv_lk (qv_setL f' l j c)) r = qf_S (qv_lk f) r + (if qv_lk f l j = 0 then 1 else 0) := by
    have rK : ∀ k, k < 4 → qv_lk (qv_setL f' l j c) r k = qv_lk f r k := fun k hk => lkA r k (by omega) hrc (fun e => hrl e.symm) (by have := hpr.1; omega)
    have z := qs_upd (n := 4) (k := i) (f := fun k => qi_ (qv_lk f r k ≠ 0) * qf_cn (qv_lk f) (qv_lk f r k)) (g := fun k => qi_ (qv_lk (qv_setL f' l j c) r k ≠ 0) * qf_cn (qv_lk (qv_setL f' l j c)) (qv_lk (qv_setL f' l j c) r k)) hi (fun k hk hne => by
      try dsimp only
      rw [rK k hk]
      by_cases h0 : qv_lk f r k = 0
      · rw [qi_f (fun q => q h0), Nat.zero_mul, Nat.zero_mul]
      · congr 1
        obtain ⟨e2, d1, d2⟩ := leafOf r hwr' hlr' k hk h0
        refine (cnN _ d1 d2 (fun e => hne ?_)).symm
        exact (onlyL r k (by omega) (by rw [hlr]; exact hk) e).2)
    try dsimp only at z
    rw [rK i hi, hl, cnL, qi_n (fun e => by rw [e] at hpl; exact qf_po0 hpl), Nat.one_mul, Nat.one_mul] at z
    unfold qf_S
    omega
  have totN : qf_tot (qv_rt (qv_setL f' l j c) T) (qv_lk (qv_setL f' l j c)) = qf_tot (qv_rt f T) (qv_lk f) + (if qv_lk f l j = 0 then 1 else 0) := by
    have z := qs_upd (n := 16) (k := v) (f := fun w => qi_ (qv_rt f T w ≠ 0) * qf_S (qv_lk f) (qv_rt f T w)) (g := fun w => qi_ (qv_rt (qv_setL f' l j c) T w ≠ 0) * qf_S (qv_lk (qv_setL f' l j c)) (qv_rt (qv_setL f' l j c) T w)) hv (fun w hw2 hne => by
      try dsimp only
      rw [rtN w hw2]
      by_cases h0 : qv_rt f T w = 0
      · rw [qi_f (fun q => q h0), Nat.zero_mul, Nat.zero_mul]
      · congr 1
        obtain ⟨d1, d2, d3⟩ := qf_live_rt o2 hw2 (by rw [rtN w hw2]; exact h0)
        rw [rtN w hw2, wyN] at d1
        rw [rtN w hw2] at d2
        exact (SN _ d1 d2 (onlyR w hw2 hne)).symm)
    try dsimp only at z
    rw [rtN v hv, hr, SR, qi_n (fun e => by rw [e] at hpr; exact qf_po0 hpr), Nat.one_mul, Nat.one_mul] at z
    unfold qf_tot
    omega
  -- what is found
  have leafN : ∀ w q, w < 16 → q < 128 → qt_leaf (qv_setL f' l j c) T w q = qt_leaf f T w q := fun w q hw2 hq => by
    unfold qt_leaf
    rw [rtN w hw2]
    by_cases h0 : qv_rt f T w = 0
    · rw [if_pos h0, if_pos h0]
    · rw [if_neg h0, if_neg h0]
      obtain ⟨z1, z2, z3⟩ := qf_live_rt ok hw2 h0
      exact lkA _ _ (by omega) (notC _ z1 (Or.inl (by omega))) (fun e => by rw [e] at z2; omega) (by have := z3.1; omega)
  have ij : ∀ q, q / 32 = i → q % 32 = j → q = 32 * i + j := fun q e1 e2 => by omega
  have leafL : ∀ w q, w < 16 → q < 128 → qt_leaf f T w q = l → w = v ∧ q / 32 = i := fun w q hw2 hq e2 => by
    have hne : qt_leaf f T w q ≠ 0 := fun e3 => by rw [e2] at e3; rw [e3] at hpl; exact qf_po0 hpl
    have hr1 : qv_rt f T w ≠ 0 := fun e3 => hne (by unfold qt_leaf; rw [if_pos e3])
    have el : qt_leaf f T w q = qv_lk f (qv_rt f T w) (q / 32) := by unfold qt_leaf; rw [if_neg hr1]
    obtain ⟨z1, z2, z3⟩ := qf_live_rt ok hw2 hr1
    obtain ⟨y1, y2⟩ := onlyL (qv_rt f T w) (q / 32) z1 (by rw [z2, qf_nl2]; omega) (by rw [← el]; exact e2)
    refine ⟨?_, y2⟩
    by_cases hwv : w = v
    · exact hwv
    · exact absurd y1 (onlyR w hw2 hwv)
  have findN : ∀ w q, w < 16 → q < 128 → ¬ (w = v ∧ q = 32 * i + j) → qt_find (qv_setL f' l j c) T w q = qt_find f T w q := fun w q hw2 hq hE => by
    unfold qt_find
    rw [leafN w q hw2 hq]
    by_cases h0 : qt_leaf f T w q = 0
    · rw [if_pos h0, if_pos h0]
    · rw [if_neg h0, if_neg h0]
      by_cases hll2 : qt_leaf f T w q = l
      · obtain ⟨y1, y2⟩ := leafL w q hw2 hq hll2
        rw [hll2, lL _ (by omega), if_neg (fun e3 => hE ⟨y1, ij q y2 e3⟩)]
      · have hr1 : qv_rt f T w ≠ 0 := fun e3 => h0 (by unfold qt_leaf; rw [if_pos e3])
        have el : qt_leaf f T w q = qv_lk f (qv_rt f T w) (q / 32) := by unfold qt_leaf; rw [if_neg hr1]
        obtain ⟨z1, z2, z3⟩ := qf_live_rt ok hw2 hr1
        obtain ⟨y1, y2, y3, -⟩ := qf_live_lk ok z1 (i := q / 32) (by rw [z2, qf_nl2]; omega) (by rw [← el]; exact h0)
        rw [← el] at y1 y2 y3
        exact lkA _ _ (by omega) (notC _ y1 (Or.inl (by omega))) hll2 (by have := y3.1; omega)
  have findC : ∀ w q, w < 16 → q < 128 → ¬ (w = v ∧ q = 32 * i + j) → qt_find (qv_setL f' l j c) T w q ≠ c := fun w q hw2 hq hE e2 => by
    obtain ⟨-, -, -, -, -, d1, d2, d3, -, -, -, -⟩ := qr_found o2 hw2 hq (by rw [e2]; intro e3; rw [e3] at a1; exact qf_po0 a1)
    obtain ⟨y1, y2⟩ := onlyC _ (q % 32) d1 (by rw [d2, qf_nl1]; omega) (by rw [← d3]; exact e2)
    rw [leafN w q hw2 hq] at y1
    obtain ⟨x1, x2⟩ := leafL w q hw2 hq y1
    exact hE ⟨x1, ij q x2 y2⟩
  refine ⟨c, qv_setL f' l j c, h', lv', ps', ?_, g1, g2, ⟨⟨o2, by rw [totN]; exact hroom, hl2'⟩, ⟨fun n hn hln => ?_, fun n hn hln => ?_⟩⟩, a1, by rw [wyN]; exact a2, a5, by rw [← gwK]; exact a12, ?_, ⟨fun x hx hrr => qA x (fun e => hx (Or.inl e)) (fun e => hx (Or.inr (Or.inl e))) (fun e => hx (Or.inr (Or.inr e))) (by omega), fun x hx => ?_, fun k hk => qT.by (by omega)⟩, ⟨fun w q hw2 hq hE => ⟨findN w q hw2 hq hE, fun h0 => ?_⟩, fun w hw2 => by rw [rtN w hw2]⟩, fun k hk => ?_, totN, findC⟩
  · unfold qt_ownLink; rw [e]
  · rw [wyN] at hn
    by_cases hnl : n = l
    · subst hnl
      rw [cnL]
      refine ⟨?_, fun _ => ?_⟩
      · have s1 : qv_sz (qv_setL f' n j c) n = qv_sz g n := by
          rw [qv_sz_setL (by omega)]
          exact (a9 n hlc (by have := hpl.1; omega)).sz
        have s2 := (qr_grow_sz (f := f) (j := j) hpr.2 hpl.2 hrl).2
        rw [hg] at s2
        rw [s1, s2, (hs.1 n (by omega) hll).1]
        by_cases h0 : qv_lk f n j = 0
        · rw [if_pos h0, if_pos h0]; exact lN_1 _
        · rw [if_neg h0, if_neg h0]; simp
      · have z : qi_ (qv_lk (qv_setL f' n j c) n j ≠ 0) ≤ qf_cn (qv_lk (qv_setL f' n j c)) n := qs_ge1 (f := fun k => qi_ (qv_lk (qv_setL f' n j c) n k ≠ 0)) hj
        rw [lL j hj, if_pos rfl, qi_n (fun e => by rw [e] at a1; exact qf_po0 a1), cnL] at z
        omega
    · have hnc : n ≠ c := fun e => by rw [e] at hln; omega
      have hnr : n ≠ r := fun e => by rw [e] at hln; omega
      rw [(qA n hnc hnl hnr (by have := (qe_wy_po hn).1; omega)).sz, cnN n hn hln hnl]
      obtain ⟨s1, s2⟩ := hs.1 n (liveF n hnc hn) (by rw [← lvF n hnc]; exact hln)
      exact ⟨s1, fun _ => s2 hnl⟩
  · rw [wyN] at hn
    have hnc : n ≠ c := fun e => by rw [e] at hln; omega
    have hnl : n ≠ l := fun e => by rw [e] at hln; omega
    by_cases hnr : n = r
    · subst hnr
      have s1 : qv_sz (qv_setL f' l j c) n = qv_sz g n := (qG n hnc hnl (by have := hpr.1; omega)).sz
      have s2 := (qr_grow_sz (f := f) (j := j) hpr.2 hpl.2 hrl).1
      rw [hg] at s2
      rw [s1, s2, SR, hs.2 n (by omega) hlr]
      by_cases h0 : qv_lk f l j = 0
      · rw [if_pos h0, if_pos h0]; exact lN_1 _
      · rw [if_neg h0, if_neg h0]; simp
    · rw [(qA n hnc hnl hnr (by have := (qe_wy_po hn).1; omega)).sz, SN n hn hln hnr]
      exact hs.2 n (liveF n hnc hn) (by rw [← lvF n hnc]; exact hln)
  · have e2 : qt_leaf (qv_setL f' l j c) T v (32 * i + j) = l := by
      rw [leafN v _ hv (by omega)]
      unfold qt_leaf
      rw [if_neg hr0, hr, show (32 * i + j) / 32 = i by omega]
      exact hl
    unfold qt_find
    rw [e2, if_neg (fun e => by rw [e] at hpl; exact qf_po0 hpl), show (32 * i + j) % 32 = j by omega, lL j hj, if_pos rfl]
  · rcases hx with rfl | rfl | rfl
    · exact ⟨a1, by rw [← gwK]; exact a12⟩
    · exact ⟨hpl, hkl⟩
    · exact ⟨hpr, hkr⟩
  · obtain ⟨-, -, -, -, -, b1, b2, b3, d1, d2, -, -⟩ := qr_found ok hw2 hq h0
    exact qA _ (fun e => findC w q hw2 hq hE (by rw [findN w q hw2 hq hE]; exact e)) (fun e => by rw [e] at d2; omega) (fun e => by rw [e] at d2; omega) (by have := (qe_wy_po d1).1; omega)
  · rw [q1 c (fun e => hlc e.symm) k hk, a8 k hk, hb]
    by_cases h0 : qv_lk f l j = 0
    · rw [if_pos h0, if_pos h0]
    · rw [if_neg h0, if_neg h0]
      obtain ⟨z1, z2, z3, z4⟩ := qf_live_lk ok (n := l) (i := j) (by omega) hjl h0
      exact gA _ (fun e => by rw [e] at z2; omega) (fun e => by rw [e] at z2; omega) k hk
end
section
/-! a written piece goes, below a leaf that only the root r has, that only v has; the leaf goes with its last piece -/
theorem qr_lN_pred {n : Nat} (h : 0 < n) : lN n + (-1) = lN (n - 1) := by
  obtain ⟨k, rfl⟩ : ∃ k, n = k + 1 := ⟨n - 1, by omega⟩
  rw [← lN_1, Int64.add_assoc, show (1 : Int64) + (-1) = 0 by decide, Int64.add_zero, Nat.add_sub_cancel]
theorem qr_drop1 {T K : Nat} (hT : T + 7 ≤ 16) (hK : K + 7 ≤ 16) (hTK : T + 7 ≤ K ∨ K + 7 ≤ T) {f : Nat → Int64} {v r l i j : Nat} (hv : v < 16) (hi : i < 4) (hj : j < 32) {lv ps : Nat → Nat} (Z : qz_ok f T lv ps l)
    (hr : qv_rt f T v = r) (hpr : qf_po r) (hwr : qv_wy f T r = 1) (hkr : qv_wy f K r = 0) (hl : qv_lk f r i = l) (hpl : qf_po l) (hwl : qv_wy f T l = 1) (hkl : qv_wy f K l = 0) (hb0 : qv_lk f l j ≠ 0) :
    ∃ F, qt_dropLink T 0 (qv_addS (qv_addS f r (-1)) l (-1)) l j = F ∧ qz_ok F T lv ps l ∧ qv_rt F T v = r ∧ qv_wy F T r = 1 ∧ qv_lk F r i = l ∧ qv_wy F T l = 1 ∧ qv_sz F l = lN (qf_cn (qv_lk F) l) ∧ qt_find F T v (32 * i + j) = 0 ∧ qr_fr T K f F (fun x => x = l ∨ x = r) ∧ qr_same T f F (fun w q => w = v ∧ q = 32 * i + j) ∧ qf_tot (qv_rt F T) (qv_lk F) + 1 = qf_tot (qv_rt f T) (qv_lk f) := by
  obtain ⟨⟨ok, htot, hl2⟩, hs⟩ := id Z
  have hr0 : qv_rt f T v ≠ 0 := fun e => by rw [hr] at e; rw [e] at hpr; exact qf_po0 hpr
  obtain ⟨-, hlr, -⟩ := qf_live_rt ok hv hr0
  rw [hr] at hlr
  have hl0 : qv_lk f r i ≠ 0 := fun e => by rw [hl] at e; rw [e] at hpl; exact qf_po0 hpl
  obtain ⟨-, hll, -, hpsl⟩ := qf_live_lk ok (n := r) (i := i) (by omega) (by rw [hlr]; exact hi) hl0
  rw [hl] at hll hpsl
  have hll : lv l = 1 := by omega
  have hrl : l ≠ r := fun e => by rw [e] at hll; omega
  have hjl : j < qf_nl (lv l) := by rw [hll]; exact hj
  obtain ⟨onlyR, -⟩ := qf_only_rt ok hv hr (by have := ok.2.2.1 r hpr; omega)
  obtain ⟨-, onlyL⟩ := qf_only_lk ok (n := r) (i := i) (by omega) (by rw [hlr]; exact hi) hl (by have := ok.2.2.1 l hpl; omega)
  obtain ⟨hbw, hbl, hbp, -⟩ := qf_live_lk ok (n := l) (i := j) (by omega) hjl hb0
  have hbl : lv (qv_lk f l j) = 0 := by omega
  -- 1. sizes; then the data block is released, and its link goes
  generalize hg : qv_addS (qv_addS f r (-1)) l (-1) = g
  have gA : ∀ x, x ≠ r → x ≠ l → qv_eq g f x := fun x hx1 hx2 => by rw [← hg]; exact (qv_eq_addS hx2).tr (qv_eq_addS hx1)
  have gL : ∀ x k, k < 60 → qv_lk g x k = qv_lk f x k := fun x k hk => by
    rw [← hg]
    by_cases h1 : x = l
    · subst h1; rw [qv_lk_addS hk, (qv_eq_addS hrl).lk (by omega)]
    · rw [(qv_eq_addS h1).lk (by omega)]
      by_cases h2 : x = r
      · subst h2; exact qv_lk_addS hk
      · exact (qv_eq_addS h2).lk (by omega)
  have gSr : qv_sz g r = qv_sz f r + (-1) := by rw [← hg, (qv_eq_addS (fun e => hrl e.symm)).sz, qv_sz_addS hpr.2]
  have gSl : qv_sz g l = qv_sz f l + (-1) := by rw [← hg, qv_sz_addS hpl.2, (qv_eq_addS hrl).sz]
  have gT : ∀ k, k < 7 → qv_eq g f (T + k) := fun k hk => gA _ (by have := hpr.1; omega) (by have := hpl.1; omega)
  have gwT : ∀ x, qv_wy g T x = qv_wy f T x := fun x => qe_wy_eq (fun k _ hk => gT k hk) x
  have gR : ∀ w, w < 16 → qv_rt g T w = qv_rt f T w := fun w hw2 => (gT 0 (by omega)).lk (by omega)
  have okg : qf_ok (qv_rt g T) (qv_lk g) (qv_wy g T) lv ps (fun _ => 0) := qf_congr ok gR (fun m k _ hk => gL m k (by have := qf_nl_le (lv m); omega)) gwT
  have hb : qv_lk g l j = qv_lk f l j := gL l j (by omega)
  have o0 : qf_ok (qv_rt g T) (qf_lk (qv_lk g) l j 0) (qv_wy g T) lv ps (fun x => qi_ (qv_lk g l j = x)) := qf_set_lk okg (by rw [gwT]; omega) hjl (Or.inl rfl) (fun x hp => by
    try dsimp only
    rw [qi_f (p := 0 = x) (fun e => by rw [← e] at hp; exact qf_po0 hp)]
    omega)
  obtain ⟨o1, le1⟩ := qf_rel_ok 0 _ _ (qv_lk g l j) (by omega) o0 (Or.inr ⟨by rw [hb]; exact hbp, by rw [hb]; exact hbl, by rw [qi_t rfl]; exact Nat.le_refl _⟩)
  obtain ⟨r1, r2⟩ := qe_rel hT 0 g (qv_lk g l j)
  have w1 : qv_wy (qt_rel T 0 g (qv_lk g l j)) T = qf_rel (qf_lk (qv_lk g) l j 0) 0 (qv_wy g T) (qv_lk g l j) := by rw [r1]; rfl
  generalize hf1 : qt_rel T 0 g (qv_lk g l j) = f1 at r1 r2 w1
  have q1 : ∀ x, x ≠ l → qv_eq (qv_setL f1 l j 0) f1 x := fun x hx => qv_eq_setL hx (by omega)
  have qG : ∀ x, x ≠ l → (x < T + 1 ∨ T + 7 ≤ x) → qv_eq (qv_setL f1 l j 0) g x := fun x hx hrr => (q1 x hx).tr (r2 x hrr)
  have qA : ∀ x, x ≠ l → x ≠ r → (x < T + 1 ∨ T + 7 ≤ x) → qv_eq (qv_setL f1 l j 0) f x := fun x hx hxr hrr => (qG x hx hrr).tr (gA x hxr hx)
  have qT : qv_eq (qv_setL f1 l j 0) f T := qA T (by have := hpl.1; omega) (by have := hpr.1; omega) (by omega)
  have rtN : ∀ w, w < 16 → qv_rt (qv_setL f1 l j 0) T w = qv_rt f T w := fun w hw2 => qT.lk (by omega)
  have wyN : ∀ x, qv_wy (qv_setL f1 l j 0) T x = qv_wy f1 T x := fun x => qe_wy_eq (fun k hk1 hk2 => q1 _ (by have := hpl.1; omega)) x
  have lL : ∀ k, k < 32 → qv_lk (qv_setL f1 l j 0) l k = if k = j then 0 else qv_lk f l k := fun k hk => by
    rw [qv_lk_setL hpl.2 (by omega) (by omega)]
    by_cases hkj : k = j
    · rw [if_pos hkj, if_pos hkj]
    · rw [if_neg hkj, if_neg hkj, (r2 l (by have := hpl.1; omega)).lk (show k < 64 by omega)]
      exact gL l k (by omega)
  have lkA : ∀ x k, k < 32 → x ≠ l → (x < T + 1 ∨ T + 7 ≤ x) → qv_lk (qv_setL f1 l j 0) x k = qv_lk f x k := fun x k hk hxl hrr => by
    rw [(qG x hxl hrr).lk (by omega)]; exact gL x k (by omega)
  have wle : ∀ x, qv_wy (qv_setL f1 l j 0) T x ≤ qv_wy f T x := fun x => by rw [wyN, w1, ← gwT]; exact le1 x
  have o2 : qf_ok (qv_rt (qv_setL f1 l j 0) T) (qv_lk (qv_setL f1 l j 0)) (qv_wy (qv_setL f1 l j 0) T) lv ps (fun _ => 0) := by
    have z : qf_ok (qv_rt g T) (qf_lk (qv_lk g) l j 0) (qv_wy f1 T) lv ps (fun _ => 0) := by
      rw [w1]
      refine qf_set_wy o1 (fun x => Iff.rfl) (fun x hp => ?_)
      try dsimp only
      by_cases hx : x = qv_lk g l j
      · rw [qi_t hx, qi_t hx.symm]
      · rw [qi_f hx, qi_f (fun e => hx e.symm)]
    refine qf_congr z (fun w hw2 => by rw [rtN w hw2, gR w hw2]) (fun m k hm hk => ?_) wyN
    have hk32 := qf_nl_le (lv m)
    by_cases hml : m = l
    · subst hml
      rw [lL k (by omega)]
      by_cases hkj : k = j
      · subst hkj; rw [if_pos rfl, qf_lk_s]
      · rw [if_neg hkj, qf_lk_i _ _ _ _ _ hkj, gL m k (by omega)]
    · rw [qf_lk_n _ _ _ _ _ _ hml]
      exact (qG m hml (by have := (qe_wy_po hm).1; omega)).lk (by omega)
  have hwr2 : 0 < qv_wy (qv_setL f1 l j 0) T r := by
    have z := o2.2.2.1 r hpr
    have y1 : 1 ≤ qf_in (qv_rt (qv_setL f1 l j 0) T) (qv_lk (qv_setL f1 l j 0)) (qv_wy (qv_setL f1 l j 0) T) lv r := qf_in_ge_rt hv (by rw [rtN v hv]; exact hr)
    omega
  have rK : ∀ k, k < 4 → qv_lk (qv_setL f1 l j 0) r k = qv_lk f r k := fun k hk => lkA r k (by omega) (fun e => hrl e.symm) (by have := hpr.1; omega)
  have hwl2 : qv_wy (qv_setL f1 l j 0) T l = 1 := by
    have z := o2.2.2.1 l hpl
    have y1 := qf_in_ge_lk o2 (n := r) (i := i) (b := l) hwr2 (by rw [hlr]; exact hi) (by rw [rK i hi]; exact hl)
    have y2 := wle l
    omega
  -- how many pieces
  have cnN : ∀ n, 0 < qv_wy (qv_setL f1 l j 0) T n → n ≠ l → qf_cn (qv_lk (qv_setL f1 l j 0)) n = qf_cn (qv_lk f) n := fun n hn hnl => qf_cn_congr (fun k hk => lkA n k hk hnl (by have := (qe_wy_po hn).1; omega))
  have cnL : qf_cn (qv_lk (qv_setL f1 l j 0)) l + 1 = qf_cn (qv_lk f) l := by
    have z := qs_upd (n := 32) (k := j) (f := fun k => qi_ (qv_lk f l k ≠ 0)) (g := fun k => qi_ (qv_lk (qv_setL f1 l j 0) l k ≠ 0)) hj (fun k hk hne => by rw [lL k hk, if_neg hne])
    try dsimp only at z
    rw [lL j hj, if_pos rfl, qi_f (p := (0 : Nat) ≠ 0) (fun q => q rfl), qi_n hb0] at z
    unfold qf_cn
    omega
  have leafOf : ∀ n, 0 < qv_wy (qv_setL f1 l j 0) T n → lv n = 2 → ∀ k, k < 4 → qv_lk f n k ≠ 0 → qv_lk (qv_setL f1 l j 0) n k = qv_lk f n k ∧ 0 < qv_wy (qv_setL f1 l j 0) T (qv_lk f n k) ∧ lv (qv_lk f n k) = 1 := fun n hn hln k hk h0 => by
    have e2 : qv_lk (qv_setL f1 l j 0) n k = qv_lk f n k := lkA n k (by omega) (fun e => by rw [e] at hln; omega) (by have := (qe_wy_po hn).1; omega)
    obtain ⟨d1, d2, d3, -⟩ := qf_live_lk o2 (n := n) (i := k) hn (by rw [hln]; exact hk) (by rw [e2]; exact h0)
    rw [e2] at d1 d2
    exact ⟨e2, d1, by omega⟩
  have SN : ∀ n, 0 < qv_wy (qv_setL f1 l j 0) T n → lv n = 2 → n ≠ r → qf_S (qv_lk (qv_setL f1 l j 0)) n = qf_S (qv_lk f) n := fun n hn hln hnr => by
    refine qs_congr (fun k hk => ?_)
    try dsimp only
    by_cases h0 : qv_lk f n k = 0
    · have e2 : qv_lk (qv_setL f1 l j 0) n k = qv_lk f n k := lkA n k (by omega) (fun e => by rw [e] at hln; omega) (by have := (qe_wy_po hn).1; omega)
      rw [e2, qi_f (fun q => q h0), Nat.zero_mul, Nat.zero_mul]
    · obtain ⟨e2, d1, d2⟩ := leafOf n hn hln k hk h0
      rw [e2]
      congr 1
      refine cnN _ d1 (fun e => hnr ?_)
      have := wle n
      exact (onlyL n k (by omega) (by rw [hln]; exact hk) e).1
  have SR : qf_S (qv_lk (qv_setL f1 l j 0)) r + 1 = qf_S (qv_lk f) r := by
    have z := qs_upd (n := 4) (k := i) (f := fun k => qi_ (qv_lk f r k ≠ 0) * qf_cn (qv_lk f) (qv_lk f r k)) (g := fun k => qi_ (qv_lk (qv_setL f1 l j 0) r k ≠ 0) * qf_cn (qv_lk (qv_setL f1 l j 0)) (qv_lk (qv_setL f1 l j 0) r k)) hi (fun k hk hne => by
      try dsimp only
      rw [rK k hk]
      by_cases h0 : qv_lk f r k = 0
      · rw [qi_f (fun q => q h0), Nat.zero_mul, Nat.zero_mul]
      · congr 1
        obtain ⟨e2, d1, d2⟩ := leafOf r hwr2 hlr k hk h0
        refine (cnN _ d1 (fun e => hne ?_)).symm
        exact (onlyL r k (by omega) (by rw [hlr]; exact hk) e).2)
    try dsimp only at z
    rw [rK i hi, hl, qi_n (fun e => by rw [e] at hpl; exact qf_po0 hpl), Nat.one_mul, Nat.one_mul] at z
    unfold qf_S
    omega
  have totN : qf_tot (qv_rt (qv_setL f1 l j 0) T) (qv_lk (qv_setL f1 l j 0)) + 1 = qf_tot (qv_rt f T) (qv_lk f) := by
    have z := qs_upd (n := 16) (k := v) (f := fun w => qi_ (qv_rt f T w ≠ 0) * qf_S (qv_lk f) (qv_rt f T w)) (g := fun w => qi_ (qv_rt (qv_setL f1 l j 0) T w ≠ 0) * qf_S (qv_lk (qv_setL f1 l j 0)) (qv_rt (qv_setL f1 l j 0) T w)) hv (fun w hw2 hne => by
      try dsimp only
      rw [rtN w hw2]
      by_cases h0 : qv_rt f T w = 0
      · rw [qi_f (fun q => q h0), Nat.zero_mul, Nat.zero_mul]
      · congr 1
        obtain ⟨d1, d2, d3⟩ := qf_live_rt o2 hw2 (by rw [rtN w hw2]; exact h0)
        rw [rtN w hw2] at d1 d2
        exact (SN _ d1 d2 (onlyR w hw2 hne)).symm)
    try dsimp only at z
    rw [rtN v hv, hr, qi_n (fun e => by rw [e] at hpr; exact qf_po0 hpr), Nat.one_mul, Nat.one_mul] at z
    unfold qf_tot
    omega
  -- what is found
  have leafN : ∀ w q, w < 16 → q < 128 → qt_leaf (qv_setL f1 l j 0) T w q = qt_leaf f T w q := fun w q hw2 hq => by
    unfold qt_leaf
    rw [rtN w hw2]
    by_cases h0 : qv_rt f T w = 0
    · rw [if_pos h0, if_pos h0]
    · rw [if_neg h0, if_neg h0]
      obtain ⟨z1, z2, z3⟩ := qf_live_rt ok hw2 h0
      exact lkA _ _ (by omega) (fun e => by rw [e] at z2; omega) (by have := z3.1; omega)
  have ij : ∀ q, q / 32 = i → q % 32 = j → q = 32 * i + j := fun q e1 e2 => by omega
  have leafL : ∀ w q, w < 16 → q < 128 → qt_leaf f T w q = l → w = v ∧ q / 32 = i := fun w q hw2 hq e2 => by
    have hne : qt_leaf f T w q ≠ 0 := fun e3 => by rw [e2] at e3; rw [e3] at hpl; exact qf_po0 hpl
    have hr1 : qv_rt f T w ≠ 0 := fun e3 => hne (by unfold qt_leaf; rw [if_pos e3])
    have el : qt_leaf f T w q = qv_lk f (qv_rt f T w) (q / 32) := by unfold qt_leaf; rw [if_neg hr1]
    obtain ⟨z1, z2, z3⟩ := qf_live_rt ok hw2 hr1
    obtain ⟨y1, y2⟩ := onlyL (qv_rt f T w) (q / 32) z1 (by rw [z2, qf_nl2]; omega) (by rw [← el]; exact e2)
    refine ⟨?_, y2⟩
    by_cases hwv : w = v
    · exact hwv
    · exact absurd y1 (onlyR w hw2 hwv)
  have findN : ∀ w q, w < 16 → q < 128 → ¬ (w = v ∧ q = 32 * i + j) → qt_find (qv_setL f1 l j 0) T w q = qt_find f T w q := fun w q hw2 hq hE => by
    unfold qt_find
    rw [leafN w q hw2 hq]
    by_cases h0 : qt_leaf f T w q = 0
    · rw [if_pos h0, if_pos h0]
    · rw [if_neg h0, if_neg h0]
      by_cases hll2 : qt_leaf f T w q = l
      · obtain ⟨y1, y2⟩ := leafL w q hw2 hq hll2
        rw [hll2, lL _ (by omega), if_neg (fun e3 => hE ⟨y1, ij q y2 e3⟩)]
      · have hr1 : qv_rt f T w ≠ 0 := fun e3 => h0 (by unfold qt_leaf; rw [if_pos e3])
        have el : qt_leaf f T w q = qv_lk f (qv_rt f T w) (q / 32) := by unfold qt_leaf; rw [if_neg hr1]
        obtain ⟨z1, z2, z3⟩ := qf_live_rt ok hw2 hr1
        obtain ⟨y1, y2, y3, -⟩ := qf_live_lk ok z1 (i := q / 32) (by rw [z2, qf_nl2]; omega) (by rw [← el]; exact h0)
        rw [← el] at y1 y2 y3
        exact lkA _ _ (by omega) hll2 (by have := y3.1; omega)
  have szL : qv_sz (qv_setL f1 l j 0) l = lN (qf_cn (qv_lk (qv_setL f1 l j 0)) l) := by
    rw [qv_sz_setL (by omega), (r2 l (by have := hpl.1; omega)).sz, gSl, (hs.1 l (by omega) hll).1, qr_lN_pred (by omega)]
    congr 1
    omega
  refine ⟨qv_setL f1 l j 0, ?_, ⟨⟨o2, by omega, hl2⟩, ⟨fun n hn hln => ?_, fun n hn hln => ?_⟩⟩, by rw [rtN v hv]; exact hr, ?_, by rw [rK i hi]; exact hl, hwl2, szL, ?_, ⟨fun x hx hrr => qA x (fun e => hx (Or.inl e)) (fun e => hx (Or.inr e)) (by omega), fun x hx => ?_, fun k hk => qT.by (by omega)⟩, ⟨fun w q hw2 hq hE => ⟨findN w q hw2 hq hE, fun h0 => ?_⟩, fun w hw2 => by rw [rtN w hw2]⟩, totN⟩
  · unfold qt_dropLink; rw [hf1]
  · by_cases hnl : n = l
    · subst hnl; exact ⟨szL, fun q => absurd rfl q⟩
    · have hnr : n ≠ r := fun e => by rw [e] at hln; omega
      have hnf : 0 < qv_wy f T n := by have := wle n; omega
      rw [(qA n hnl hnr (by have := (qe_wy_po hn).1; omega)).sz, cnN n hn hnl]
      obtain ⟨s1, s2⟩ := hs.1 n hnf hln
      exact ⟨s1, fun _ => s2 hnl⟩
  · have hnl : n ≠ l := fun e => by rw [e] at hln; omega
    have hnf : 0 < qv_wy f T n := by have := wle n; omega
    by_cases hnr : n = r
    · subst hnr
      rw [(qG n hnl (by have := hpr.1; omega)).sz, gSr, hs.2 n (by omega) hlr, qr_lN_pred (by omega)]
      congr 1
      omega
    · rw [(qA n hnl hnr (by have := (qe_wy_po hn).1; omega)).sz, SN n hn hln hnr]
      exact hs.2 n hnf hln
  · have := wle r; omega
  · have e2 : qt_leaf (qv_setL f1 l j 0) T v (32 * i + j) = l := by
      rw [leafN v _ hv (by omega)]
      unfold qt_leaf
      rw [if_neg hr0, hr, show (32 * i + j) / 32 = i by omega]
      exact hl
    unfold qt_find
    rw [e2, if_neg (fun e => by rw [e] at hpl; exact qf_po0 hpl), show (32 * i + j) % 32 = j by omega, lL j hj, if_pos rfl]
  · rcases hx with rfl | rfl
    · exact ⟨hpl, hkl⟩
    · exact ⟨hpr, hkr⟩
  · obtain ⟨-, -, -, -, -, b1, b2, b3, d1, d2, -, -⟩ := qr_found ok hw2 hq h0
    exact qA _ (fun e => by rw [e] at d2; omega) (fun e => by rw [e] at d2; omega) (by have := (qe_wy_po d1).1; omega)
/-- an empty leaf goes -/
theorem qr_drop2 {T K : Nat} (hT : T + 7 ≤ 16) (hK : K + 7 ≤ 16) (hTK : T + 7 ≤ K ∨ K + 7 ≤ T) {f : Nat → Int64} {v r l i : Nat} (hv : v < 16) (hi : i < 4) {lv ps : Nat → Nat} (Z : qz_ok f T lv ps l)
    (hr : qv_rt f T v = r) (hpr : qf_po r) (hwr : qv_wy f T r = 1) (hkr : qv_wy f K r = 0) (hl : qv_lk f r i = l) (hpl : qf_po l) (hwl : qv_wy f T l = 1) (hc0 : qf_cn (qv_lk f) l = 0) :
    ∃ F, qt_dropLink T 1 f r i = F ∧ qz_ok F T lv ps 0 ∧ qr_fr T K f F (fun x => x = r) ∧ qr_same T f F (fun _ _ => False) ∧ qf_tot (qv_rt F T) (qv_lk F) = qf_tot (qv_rt f T) (qv_lk f) := by
  obtain ⟨⟨ok, htot, hl2⟩, hs⟩ := id Z
  have hr0 : qv_rt f T v ≠ 0 := fun e => by rw [hr] at e; rw [e] at hpr; exact qf_po0 hpr
  obtain ⟨-, hlr, -⟩ := qf_live_rt ok hv hr0
  rw [hr] at hlr
  have hir : i < qf_nl (lv r) := by rw [hlr]; exact hi
  have hl0 : qv_lk f r i ≠ 0 := fun e => by rw [hl] at e; rw [e] at hpl; exact qf_po0 hpl
  obtain ⟨-, hll, -, -⟩ := qf_live_lk ok (n := r) (i := i) (by omega) hir hl0
  rw [hl] at hll
  have hll : lv l = 1 := by omega
  have hrl : l ≠ r := fun e => by rw [e] at hll; omega
  obtain ⟨onlyR, -⟩ := qf_only_rt ok hv hr (by have := ok.2.2.1 r hpr; omega)
  obtain ⟨-, onlyL⟩ := qf_only_lk ok (n := r) (i := i) (by omega) hir hl (by have := ok.2.2.1 l hpl; omega)
  have lz : ∀ k, k < 32 → qv_lk f l k = 0 := fun k hk => by
    have z : qi_ (qv_lk f l k ≠ 0) = 0 := qs_all0 (f := fun k => qi_ (qv_lk f l k ≠ 0)) hc0 hk
    by_cases h0 : qv_lk f l k = 0
    · exact h0
    · rw [qi_t h0] at z; omega
  have o0 : qf_ok (qv_rt f T) (qf_lk (qv_lk f) r i 0) (qv_wy f T) lv ps (fun x => qi_ (l = x)) := qf_set_lk ok (by omega) hir (Or.inl rfl) (fun x hp => by
    try dsimp only
    rw [hl, qi_f (p := 0 = x) (fun e => by rw [← e] at hp; exact qf_po0 hp)]
    omega)
  obtain ⟨o1, le1⟩ := qf_rel_ok 1 _ _ l (by omega) o0 (Or.inr ⟨hpl, hll, by rw [qi_t rfl]; exact Nat.le_refl _⟩)
  obtain ⟨r1, r2⟩ := qe_rel hT 1 f l
  have w1 : qv_wy (qt_rel T 1 f l) T = qf_rel (qf_lk (qv_lk f) r i 0) 1 (qv_wy f T) l := by
    rw [r1]
    refine (qf_rel_lk (wy0 := qv_wy f T) (P := fun q m => q = 0 ∨ (q = 1 ∧ m = l)) (fun q m k hm hP hk => ?_) 1 _ l (fun x => Nat.le_refl _) (Or.inr ⟨rfl, rfl⟩)).symm
    rcases hP with hq | ⟨hq, rfl⟩
    · omega
    · rw [qf_lk_n _ _ _ _ _ _ hrl]
      exact ⟨rfl, Or.inl (by omega)⟩
  generalize hf1 : qt_rel T 1 f l = f1 at r1 r2 w1
  have q1 : ∀ x, x ≠ r → qv_eq (qv_setL f1 r i 0) f1 x := fun x hx => qv_eq_setL hx (by omega)
  have qA : ∀ x, x ≠ r → (x < T + 1 ∨ T + 7 ≤ x) → qv_eq (qv_setL f1 r i 0) f x := fun x hx hrr => (q1 x hx).tr (r2 x hrr)
  have qT : qv_eq (qv_setL f1 r i 0) f T := qA T (by have := hpr.1; omega) (by omega)
  have rtN : ∀ w, w < 16 → qv_rt (qv_setL f1 r i 0) T w = qv_rt f T w := fun w hw2 => qT.lk (by omega)
  have wyN : ∀ x, qv_wy (qv_setL f1 r i 0) T x = qv_wy f1 T x := fun x => qe_wy_eq (fun k hk1 hk2 => q1 _ (by have := hpr.1; omega)) x
  have rL : ∀ k, k < 32 → qv_lk (qv_setL f1 r i 0) r k = if k = i then 0 else qv_lk f r k := fun k hk => by
    rw [qv_lk_setL hpr.2 (by omega) (by omega)]
    by_cases hki : k = i
    · rw [if_pos hki, if_pos hki]
    · rw [if_neg hki, if_neg hki]
      exact (r2 r (by have := hpr.1; omega)).lk (by omega)
  have wle : ∀ x, qv_wy (qv_setL f1 r i 0) T x ≤ qv_wy f T x := fun x => by rw [wyN, w1]; exact le1 x
  have o2 : qf_ok (qv_rt (qv_setL f1 r i 0) T) (qv_lk (qv_setL f1 r i 0)) (qv_wy (qv_setL f1 r i 0) T) lv ps (fun _ => 0) := by
    have z : qf_ok (qv_rt f T) (qf_lk (qv_lk f) r i 0) (qv_wy f1 T) lv ps (fun _ => 0) := by
      rw [w1]
      refine qf_set_wy o1 (fun x => Iff.rfl) (fun x hp => ?_)
      try dsimp only
      by_cases hx : x = l
      · rw [qi_t hx, qi_t hx.symm]
      · rw [qi_f hx, qi_f (fun e => hx e.symm)]
    refine qf_congr z rtN (fun m k hm hk => ?_) wyN
    have hk32 := qf_nl_le (lv m)
    by_cases hmr : m = r
    · subst hmr
      rw [rL k (by omega)]
      by_cases hki : k = i
      · subst hki; rw [if_pos rfl, qf_lk_s]
      · rw [if_neg hki, qf_lk_i _ _ _ _ _ hki]
    · rw [qf_lk_n _ _ _ _ _ _ hmr]
      exact (qA m hmr (by have := (qe_wy_po hm).1; omega)).lk (by omega)
  -- nothing leads to the leaf
  have noL : ∀ m k, 0 < qv_wy (qv_setL f1 r i 0) T m → k < qf_nl (lv m) → qv_lk (qv_setL f1 r i 0) m k ≠ l := fun m k hm hk e => by
    have hk32 := qf_nl_le (lv m)
    by_cases hmr : m = r
    · subst hmr
      rw [rL k (by omega)] at e
      by_cases hki : k = i
      · rw [if_pos hki] at e; rw [← e] at hpl; exact qf_po0 hpl
      · rw [if_neg hki] at e
        exact hki (onlyL m k (by omega) hk e).2
    · rw [(qA m hmr (by have := (qe_wy_po hm).1; omega)).lk (show k < 64 by omega)] at e
      have := wle m
      exact hmr (onlyL m k (by omega) hk e).1
  have hdead : qv_wy (qv_setL f1 r i 0) T l = 0 := by
    have z1 : qs_ 16 (fun w => qi_ (qv_rt (qv_setL f1 r i 0) T w = l)) = 0 := qs_zero (fun w hw2 => qi_f (fun e => by
      rcases o2.1 w hw2 with q | ⟨-, q⟩
      · rw [q] at e; rw [← e] at hpl; exact qf_po0 hpl
      · rw [e] at q; omega))
    have z2 : qs_ 784 (fun m => qf_out (qv_lk (qv_setL f1 r i 0)) (qv_wy (qv_setL f1 r i 0) T) lv m l) = 0 := qs_zero (fun m _ => by
      by_cases hm : 0 < qv_wy (qv_setL f1 r i 0) T m
      · rw [qf_out_l hm]
        exact qs_zero (fun k hk => qi_f (noL m k hm hk))
      · exact qf_out_d (by omega))
    have z := o2.2.2.1 l hpl
    unfold qf_in at z
    rw [z1, z2] at z
    exact z
  have cnN : ∀ n, n ≠ r → qf_po n → qf_cn (qv_lk (qv_setL f1 r i 0)) n = qf_cn (qv_lk f) n := fun n hnr hp => qf_cn_congr (fun k hk => (qA n hnr (by have := hp.1; omega)).lk (by omega))
  have leafOf : ∀ n, 0 < qv_wy f T n → lv n = 2 → ∀ k, k < 4 → qv_lk f n k ≠ 0 → qv_lk f n k ≠ r ∧ qf_po (qv_lk f n k) := fun n hn hln k hk h0 => by
    obtain ⟨d1, d2, d3, -⟩ := qf_live_lk ok (n := n) (i := k) hn (by rw [hln]; exact hk) h0
    exact ⟨fun e => by rw [e] at d2; omega, d3⟩
  have SN : ∀ n, 0 < qv_wy f T n → lv n = 2 → qf_S (qv_lk (qv_setL f1 r i 0)) n = qf_S (qv_lk f) n := fun n hn hln => by
    refine qs_congr (fun k hk => ?_)
    try dsimp only
    by_cases hnr : n = r
    · subst hnr
      rw [rL k (by omega)]
      by_cases hki : k = i
      · subst hki
        rw [if_pos rfl, qi_f (fun q => q rfl), Nat.zero_mul, hl, hc0, Nat.mul_zero]
      · rw [if_neg hki]
        by_cases h0 : qv_lk f n k = 0
        · rw [qi_f (fun q => q h0), Nat.zero_mul, Nat.zero_mul]
        · congr 1
          exact cnN _ (leafOf n hn hln k hk h0).1 (leafOf n hn hln k hk h0).2
    · rw [(qA n hnr (by have := (qe_wy_po hn).1; omega)).lk (show k < 64 by omega)]
      by_cases h0 : qv_lk f n k = 0
      · rw [qi_f (fun q => q h0), Nat.zero_mul, Nat.zero_mul]
      · congr 1
        exact cnN _ (leafOf n hn hln k hk h0).1 (leafOf n hn hln k hk h0).2
  have totN : qf_tot (qv_rt (qv_setL f1 r i 0) T) (qv_lk (qv_setL f1 r i 0)) = qf_tot (qv_rt f T) (qv_lk f) := by
    refine qs_congr (fun w hw2 => ?_)
    try dsimp only
    rw [rtN w hw2]
    by_cases h0 : qv_rt f T w = 0
    · rw [qi_f (fun q => q h0), Nat.zero_mul, Nat.zero_mul]
    · congr 1
      obtain ⟨d1, d2, d3⟩ := qf_live_rt ok hw2 h0
      exact SN _ d1 d2
  have findN : ∀ w q, w < 16 → q < 128 → qt_find (qv_setL f1 r i 0) T w q = qt_find f T w q := fun w q hw2 hq => by
    unfold qt_find qt_leaf
    rw [rtN w hw2]
    by_cases h0 : qv_rt f T w = 0
    · simp [h0]
    · rw [if_neg h0, if_neg h0]
      obtain ⟨z1, z2, z3⟩ := qf_live_rt ok hw2 h0
      have other : ∀ x, qf_po x → x ≠ r → qv_lk (qv_setL f1 r i 0) x (q % 32) = qv_lk f x (q % 32) := fun x hx hxr => (qA x hxr (by have := hx.1; omega)).lk (by omega)
      by_cases hwr2 : qv_rt f T w = r
      · rw [hwr2, rL (q / 32) (by omega)]
        by_cases hqi : q / 32 = i
        · rw [if_pos hqi, if_pos rfl, hqi, hl, if_neg (fun e => by rw [e] at hpl; exact qf_po0 hpl), lz _ (by omega)]
        · rw [if_neg hqi]
          by_cases hq0 : qv_lk f r (q / 32) = 0
          · rw [if_pos hq0, if_pos hq0]
          · rw [if_neg hq0, if_neg hq0]
            obtain ⟨y1, y2⟩ := leafOf r (by omega) hlr (q / 32) (by omega) hq0
            exact other _ y2 y1
      · rw [(qA _ hwr2 (by have := z3.1; omega)).lk (show q / 32 < 64 by omega)]
        by_cases hq0 : qv_lk f (qv_rt f T w) (q / 32) = 0
        · rw [if_pos hq0, if_pos hq0]
        · rw [if_neg hq0, if_neg hq0]
          obtain ⟨y1, y2⟩ := leafOf _ z1 z2 (q / 32) (by omega) hq0
          exact other _ y2 y1
  refine ⟨qv_setL f1 r i 0, ?_, ⟨⟨o2, by rw [totN]; exact htot, hl2⟩, ⟨fun n hn hln => ?_, fun n hn hln => ?_⟩⟩, ⟨fun x hx hrr => qA x hx (by omega), fun x hx => by rw [hx]; exact ⟨hpr, hkr⟩, fun k hk => qT.by (by omega)⟩, ⟨fun w q hw2 hq _ => ⟨findN w q hw2 hq, fun h0 => ?_⟩, fun w hw2 => by rw [rtN w hw2]⟩, totN⟩
  · unfold qt_dropLink; rw [hl, hf1]
  · have hnr : n ≠ r := fun e => by rw [e] at hln; omega
    have hnl : n ≠ l := fun e => by rw [e] at hn; omega
    have hnf : 0 < qv_wy f T n := by have := wle n; omega
    rw [(qA n hnr (by have := (qe_wy_po hn).1; omega)).sz, cnN n hnr (qe_wy_po hn)]
    obtain ⟨s1, s2⟩ := hs.1 n hnf hln
    exact ⟨s1, fun _ => s2 hnl⟩
  · have hnf : 0 < qv_wy f T n := by have := wle n; omega
    rw [SN n hnf hln]
    by_cases hnr : n = r
    · subst hnr
      rw [qv_sz_setL (by omega), (r2 n (by have := hpr.1; omega)).sz]
      exact hs.2 n hnf hln
    · rw [(qA n hnr (by have := (qe_wy_po hn).1; omega)).sz]
      exact hs.2 n hnf hln
  · obtain ⟨-, -, -, -, -, b1, b2, b3, d1, d2, -, -⟩ := qr_found ok hw2 hq h0
    exact qA _ (fun e => by rw [e] at d2; omega) (by have := (qe_wy_po d1).1; omega)
end
section
/-! volumes come and go -/
theorem qf_cn0 {lk : Nat → Nat → Nat} {n : Nat} (h : ∀ k, k < 32 → lk n k = 0) : qf_cn lk n = 0 := qs_zero (fun k hk => qi_f (fun q => q (h k hk)))
theorem qf_S0 {lk : Nat → Nat → Nat} {n : Nat} (h : ∀ k, k < 4 → lk n k = 0) : qf_S lk n = 0 := qs_zero (fun k hk => by rw [qi_f (fun q => q (h k hk)), Nat.zero_mul])
theorem qr_addEmpty {T K : Nat} (hT : T + 7 ≤ 16) (hK : K + 7 ≤ 16) (hTK : T + 7 ≤ K ∨ K + 7 ≤ T) {f : Nat → Int64} {h v : Nat} (h1 : 16 ≤ h) (h2 : h < 784) (hv : v < 16) {lv ps kl kp : Nat → Nat} (Z : qz_ok f T lv ps 0) (ZK : qz_st f K kl kp) (hr : qv_rt f T v = 0) :
    ∃ (f' : Nat → Int64) (h' : Nat) (lv' ps' : Nat → Nat) (c : Nat), qt_addEmpty T K f h v = (f', h') ∧ 16 ≤ h' ∧ h' < 784 ∧ qz_ok f' T lv' ps' 0 ∧ qv_rt f' T v ≠ 0 ∧ (∀ w, w < 16 → w ≠ v → qv_rt f' T w = qv_rt f T w) ∧ qr_fr T K f f' (fun x => x = c) ∧ (∀ w p, w < 16 → p < 128 → qt_find f' T w p = qt_find f T w p ∧ (qt_find f T w p ≠ 0 → qv_eq f' f (qt_find f T w p))) ∧ qf_tot (qv_rt f' T) (qv_lk f') = qf_tot (qv_rt f T) (qv_lk f) := by
  obtain ⟨⟨ok, htot, hl2⟩, hs⟩ := id Z
  obtain ⟨hx, hw⟩ := qc_room Z.1 ZK
  have o0 : qf_ok (qv_rt f T) (qv_lk f) (qv_wy f T) lv ps (fun x => qi_ (0 = x)) := qf_set_wy ok (fun _ => Iff.rfl) (fun x hp => by
    try dsimp only
    rw [qi_f (p := 0 = x) (fun e => by rw [← e] at hp; exact qf_po0 hp)])
  obtain ⟨c, f', h', lv', ps', e, g1, g2, a1, a2, a3, a4, a5, a6, a7, a8, a9, a10, a11, a12⟩ := qo_ownOr (j := 0) hT hK hTK (k := 2) (by omega) h1 h2 o0 (fun x _ => rfl) (fun q => absurd rfl q) (fun m i _ _ _ => rfl) hw hx
  have e1 : qt_blank T K f h = (c, f', h') := by rw [← e]; unfold qt_ownOr; rw [if_pos rfl]
  have hc16 := a1.1
  have hcT : c < 65536 := by have := a1.2; omega
  have hc0 : c ≠ 0 := by omega
  have hcd : qv_wy f T c = 0 := by
    rcases a10 with ⟨q, -⟩ | ⟨q, -⟩
    · exact absurd rfl q
    · exact q
  have o1 := qf_set_rt (v := v) (x := c) (db' := fun _ => 0) a4 hv (Or.inr ⟨a1, a5⟩) (fun x hp => by
    try dsimp only
    rw [hr, qi_f (p := 0 = x) (fun e => by rw [← e] at hp; exact qf_po0 hp)]
    by_cases hxc : x = c
    · rw [qi_t hxc, qi_t hxc.symm]
    · rw [qi_f hxc, qi_f (fun e => hxc e.symm)])
  have q1 : ∀ x, x ≠ T → qv_eq (qv_setL f' T v c) f' x := fun x hx => qv_eq_setL hx (by omega)
  have qA : ∀ x, x ≠ c → (x < T ∨ T + 7 ≤ x) → qv_eq (qv_setL f' T v c) f x := fun x hx hr => (q1 x (by omega)).tr (a9 x hx (by omega))
  have qT : qv_eq f' f T := a9 T (by omega) (by omega)
  have rtN : ∀ w, w < 16 → qv_rt (qv_setL f' T v c) T w = va_up (qv_rt f T) v c w := fun w hw2 => by
    unfold qv_rt
    rw [qv_lk_setL (by omega) (by omega) hcT]
    by_cases hwv : w = v
    · subst hwv; rw [if_pos rfl, qf_us]
    · rw [if_neg hwv, qf_un hwv]; exact qT.lk (by omega)
  have wyN : ∀ x, qv_wy (qv_setL f' T v c) T x = qv_wy f' T x := fun x => qe_wy_eq (fun k hk1 hk2 => q1 _ (by omega)) x
  have cW : ∀ i, i < 16 → qv_word (qv_setL f' T v c) c i = 0 := fun i hi => by
    rw [q1 c (by omega) i hi, a8 i hi, if_pos rfl]
  have cL : ∀ i, i < 64 → qv_lk (qv_setL f' T v c) c i = 0 := fun i hi => by
    unfold qv_lk; rw [cW (i / 4) (by omega), qb_0]; simp
  have o2 : qf_ok (qv_rt (qv_setL f' T v c) T) (qv_lk (qv_setL f' T v c)) (qv_wy (qv_setL f' T v c) T) lv' ps' (fun _ => 0) := qf_congr o1 rtN (fun m i hm hi => by
      have hi32 := qf_nl_le (lv' m)
      by_cases hmc : m = c
      · subst hmc; rw [qf_us, if_pos rfl]; exact cL i (by omega)
      · rw [qf_un hmc]
        exact (qA m hmc (by have := (qe_wy_po hm).1; omega)).lk (by omega)) wyN
  have hl2' : ∀ b, lv' b ≤ 2 := fun b => by
    by_cases hbc : b = c
    · subst hbc; omega
    · rw [(a7 b hbc).1]; exact hl2 b
  have lkA : ∀ n, 0 < qv_wy f T n → ∀ k, k < 32 → qv_lk (qv_setL f' T v c) n k = qv_lk f n k := fun n hn k hk => (qA n (fun e => by rw [e] at hn; omega) (by have := (qe_wy_po hn).1; omega)).lk (by omega)
  have SN : ∀ n, 0 < qv_wy f T n → lv n = 2 → qf_S (qv_lk (qv_setL f' T v c)) n = qf_S (qv_lk f) n := fun n hn hln => (qf_S_congr (fun i hi => (lkA n hn i (by omega)).symm) (fun i hi h0 j hj => by
    obtain ⟨d1, -, -, -⟩ := qf_live_lk ok hn (i := i) (by rw [hln]; exact hi) h0
    exact (lkA _ d1 j hj).symm)).symm
  have Sc : qf_S (qv_lk (qv_setL f' T v c)) c = 0 := qf_S0 (fun k hk => cL k (by omega))
  have totN : qf_tot (qv_rt (qv_setL f' T v c) T) (qv_lk (qv_setL f' T v c)) = qf_tot (qv_rt f T) (qv_lk f) := by
    refine qs_congr (fun w hw2 => ?_)
    try dsimp only
    rw [rtN w hw2]
    by_cases hwv : w = v
    · subst hwv
      rw [qf_us, Sc, Nat.mul_zero, hr, qi_f (fun q => q rfl), Nat.zero_mul]
    · rw [qf_un hwv]
      by_cases h0 : qv_rt f T w = 0
      · rw [qi_f (fun q => q h0), Nat.zero_mul, Nat.zero_mul]
      · obtain ⟨d1, d2, d3⟩ := qf_live_rt ok hw2 h0
        rw [SN _ d1 d2]
  have findN : ∀ w p, w < 16 → p < 128 → qt_find (qv_setL f' T v c) T w p = qt_find f T w p := fun w p hw2 hp => by
    unfold qt_find qt_leaf
    rw [rtN w hw2]
    by_cases hwv : w = v
    · subst hwv
      rw [qf_us, if_neg hc0, cL _ (by omega), if_pos rfl, hr, if_pos rfl, if_pos rfl]
    · rw [qf_un hwv]
      by_cases h0 : qv_rt f T w = 0
      · simp [h0]
      · rw [if_neg h0, if_neg h0]
        obtain ⟨d1, d2, d3⟩ := qf_live_rt ok hw2 h0
        rw [lkA _ d1 _ (by omega)]
        by_cases hq0 : qv_lk f (qv_rt f T w) (p / 32) = 0
        · rw [if_pos hq0, if_pos hq0]
        · rw [if_neg hq0, if_neg hq0]
          obtain ⟨y1, -, -, -⟩ := qf_live_lk ok d1 (i := p / 32) (by rw [d2, qf_nl2]; omega) hq0
          exact lkA _ y1 _ (by omega)
  refine ⟨qv_setL f' T v c, h', lv', ps', c, by unfold qt_addEmpty; rw [e1], g1, g2, ⟨⟨o2, by rw [totN]; exact htot, hl2'⟩, ⟨fun n hn hl => ?_, fun n hn hl => ?_⟩⟩, by rw [rtN v hv, qf_us]; exact hc0, fun w hw2 hne => by rw [rtN w hw2, qf_un hne], ⟨fun x hx hr => qA x hx hr, fun x hx => by rw [hx]; exact ⟨a1, a12⟩, fun i hi => ?_⟩, fun w p hw2 hp => ⟨findN w p hw2 hp, fun h0 => ?_⟩, totN⟩
  · rw [wyN] at hn
    have hnc : n ≠ c := fun e => by rw [e] at hl; omega
    have hnf := a11 n hnc hn
    rw [(qA n hnc (by have := (qe_wy_po hn).1; omega)).sz, qf_cn_congr (lkA n hnf)]
    exact hs.1 n hnf (by rw [← (a7 n hnc).1]; exact hl)
  · rw [wyN] at hn
    by_cases hnc : n = c
    · subst hnc
      rw [Sc]
      exact cW 15 (by omega)
    · have hnf := a11 n hnc hn
      rw [(qA n hnc (by have := (qe_wy_po hn).1; omega)).sz, SN n hnf (by rw [← (a7 n hnc).1]; exact hl)]
      exact hs.2 n hnf (by rw [← (a7 n hnc).1]; exact hl)
  · unfold qv_nt
    rw [qv_by_setL (by omega)]
    exact qT.by (by omega)
  · obtain ⟨-, -, -, -, -, -, -, -, d1, d2, -, -⟩ := qr_found ok hw2 hp h0
    exact qA _ (fun e => by rw [e] at d1; omega) (by have := (qe_wy_po d1).1; omega)
/-- a volume as another one is -/
theorem qr_addTwin {T K : Nat} (hT : T + 7 ≤ 16) (hK : K + 7 ≤ 16) (hTK : T + 7 ≤ K ∨ K + 7 ≤ T) {f : Nat → Int64} {v o : Nat} (hv : v < 16) (ho : o < 16) {lv ps kl kp : Nat → Nat} (Z : qz_ok f T lv ps 0) (ZK : qz_st f K kl kp) (hr : qv_rt f T v = 0) (hro : qv_rt f T o ≠ 0) (hroom : qf_tot (qv_rt f T) (qv_lk f) + qf_S (qv_lk f) (qv_rt f T o) ≤ 300) :
    ∃ f', qt_addTwin T f v o = f' ∧ qz_ok f' T lv ps 0 ∧ (∀ w, w < 16 → qv_rt f' T w = if w = v then qv_rt f T o else qv_rt f T w) ∧ qr_fr T K f f' (fun _ => False) ∧ (∀ w p, w < 16 → p < 128 → qt_find f' T w p = if w = v then qt_find f T o p else qt_find f T w p) ∧ qf_tot (qv_rt f' T) (qv_lk f') = qf_tot (qv_rt f T) (qv_lk f) + qf_S (qv_lk f) (qv_rt f T o) := by
  obtain ⟨⟨ok, htot, hl2⟩, hs⟩ := id Z
  obtain ⟨-, hw⟩ := qc_room Z.1 ZK
  obtain ⟨d1, d2, d3⟩ := qf_live_rt ok ho hro
  have hrT : qv_rt f T o < 65536 := qv_lk_lt _ _ _
  have q1 : ∀ x, x ≠ T → qv_eq (qv_setL f T v (qv_rt f T o)) f x := fun x hx => qv_eq_setL hx (by omega)
  have w1 : ∀ x, qv_wy (qv_setL f T v (qv_rt f T o)) T x = qv_wy f T x := fun x => qe_wy_eq (fun k hk1 hk2 => q1 _ (by omega)) x
  have w2 : qv_wy (qt_addTwin T f v o) T = va_up (qv_wy f T) (qv_rt f T o) (qv_wy f T (qv_rt f T o) + 1) := by
    unfold qt_addTwin qt_addW
    rw [w1, qe_setY hT d3 (by have := hw (qv_rt f T o); omega), funext w1]
  have qB : ∀ x, (x < T + 1 ∨ T + 7 ≤ x) → qv_eq (qt_addTwin T f v o) (qv_setL f T v (qv_rt f T o)) x := fun x hx => by unfold qt_addTwin qt_addW; exact qe_setY_n hx
  have qA : ∀ x, (x < T ∨ T + 7 ≤ x) → qv_eq (qt_addTwin T f v o) f x := fun x hx => (qB x (by omega)).tr (q1 x (by omega))
  have rtN : ∀ w, w < 16 → qv_rt (qt_addTwin T f v o) T w = va_up (qv_rt f T) v (qv_rt f T o) w := fun w hw2 => by
    unfold qv_rt
    rw [(qB T (by omega)).lk (show w < 64 by omega), qv_lk_setL (by omega) (by omega) (show qv_rt f T o < 65536 from hrT)]
    by_cases hwv : w = v
    · subst hwv; rw [if_pos rfl, qf_us]; rfl
    · rw [if_neg hwv, qf_un hwv]
  have o1 : qf_ok (qv_rt f T) (qv_lk f) (qv_wy (qt_addTwin T f v o) T) lv ps (fun x => qi_ (qv_rt f T o = x)) := by
    rw [w2]
    refine qf_set_wy ok (fun x => ?_) (fun x hp => ?_)
    · by_cases hx : x = qv_rt f T o
      · subst hx; rw [qf_us]; omega
      · rw [qf_un hx]
    · try dsimp only
      by_cases hx : x = qv_rt f T o
      · subst hx; rw [qf_us, qi_t rfl]
      · rw [qf_un hx, qi_f (fun e => hx e.symm)]
  have o2 := qf_set_rt (v := v) (x := qv_rt f T o) (db' := fun _ => 0) o1 hv (Or.inr ⟨d3, d2⟩) (fun x hp => by
    try dsimp only
    rw [hr, qi_f (p := 0 = x) (fun e => by rw [← e] at hp; exact qf_po0 hp)]
    omega)
  have lkA : ∀ n, qf_po n → ∀ k, k < 32 → qv_lk (qt_addTwin T f v o) n k = qv_lk f n k := fun n hn k hk => (qA n (by have := hn.1; omega)).lk (by omega)
  have o3 : qf_ok (qv_rt (qt_addTwin T f v o) T) (qv_lk (qt_addTwin T f v o)) (qv_wy (qt_addTwin T f v o) T) lv ps (fun _ => 0) := qf_congr o2 rtN (fun m i hm hi => lkA m (qe_wy_po hm) i (by have := qf_nl_le (lv m); omega)) (fun _ => rfl)
  have live : ∀ n, 0 < qv_wy (qt_addTwin T f v o) T n → 0 < qv_wy f T n := fun n hn => by
    rw [w2] at hn
    by_cases hx : n = qv_rt f T o
    · subst hx; exact d1
    · rw [qf_un hx] at hn; exact hn
  have SN : ∀ n, 0 < qv_wy f T n → lv n = 2 → qf_S (qv_lk (qt_addTwin T f v o)) n = qf_S (qv_lk f) n := fun n hn hln => (qf_S_congr (fun i hi => (lkA n (qe_wy_po hn) i (by omega)).symm) (fun i hi h0 j hj => by
    obtain ⟨-, -, y3, -⟩ := qf_live_lk ok hn (i := i) (by rw [hln]; exact hi) h0
    exact (lkA _ y3 j hj).symm)).symm
  have findN : ∀ w p, w < 16 → p < 128 → qt_find (qt_addTwin T f v o) T w p = if w = v then qt_find f T o p else qt_find f T w p := fun w p hw2 hp => by
    have base : ∀ z, z < 16 → (if (if qv_rt f T z = 0 then 0 else qv_lk (qt_addTwin T f v o) (qv_rt f T z) (p / 32)) = 0 then 0 else qv_lk (qt_addTwin T f v o) (if qv_rt f T z = 0 then 0 else qv_lk (qt_addTwin T f v o) (qv_rt f T z) (p / 32)) (p % 32)) = qt_find f T z p := fun z hz => by
      unfold qt_find qt_leaf
      by_cases h0 : qv_rt f T z = 0
      · simp [h0]
      · rw [if_neg h0, if_neg h0]
        obtain ⟨z1, z2, z3⟩ := qf_live_rt ok hz h0
        rw [lkA _ z3 _ (by omega)]
        by_cases hq0 : qv_lk f (qv_rt f T z) (p / 32) = 0
        · rw [if_pos hq0, if_pos hq0]
        · rw [if_neg hq0, if_neg hq0]
          obtain ⟨-, -, y3, -⟩ := qf_live_lk ok z1 (i := p / 32) (by rw [z2, qf_nl2]; omega) hq0
          exact lkA _ y3 _ (by omega)
    by_cases hwv : w = v
    · rw [if_pos hwv, ← base o ho]
      unfold qt_find qt_leaf
      rw [rtN w hw2, hwv, qf_us]
    · rw [if_neg hwv, ← base w hw2]
      unfold qt_find qt_leaf
      rw [rtN w hw2, qf_un hwv]
  have totN : qf_tot (qv_rt (qt_addTwin T f v o) T) (qv_lk (qt_addTwin T f v o)) = qf_tot (qv_rt f T) (qv_lk f) + qf_S (qv_lk f) (qv_rt f T o) := by
    have z := qs_upd (n := 16) (k := v) (f := fun w => qi_ (qv_rt f T w ≠ 0) * qf_S (qv_lk f) (qv_rt f T w)) (g := fun w => qi_ (qv_rt (qt_addTwin T f v o) T w ≠ 0) * qf_S (qv_lk (qt_addTwin T f v o)) (qv_rt (qt_addTwin T f v o) T w)) hv (fun w hw2 hne => by
      try dsimp only
      rw [rtN w hw2, qf_un hne]
      by_cases h0 : qv_rt f T w = 0
      · rw [qi_f (fun q => q h0), Nat.zero_mul, Nat.zero_mul]
      · obtain ⟨z1, z2, z3⟩ := qf_live_rt ok hw2 h0
        rw [SN _ z1 z2])
    try dsimp only at z
    rw [rtN v hv, qf_us, hr, qi_f (fun q => q rfl), Nat.zero_mul, qi_t hro, Nat.one_mul, SN _ d1 d2] at z
    unfold qf_tot
    omega
  refine ⟨qt_addTwin T f v o, rfl, ⟨⟨o3, by omega, hl2⟩, ⟨fun n hn hl => ?_, fun n hn hl => ?_⟩⟩, fun w hw2 => ?_, ⟨fun x _ hx => qA x hx, fun x hx => absurd hx id, fun i hi => ?_⟩, findN, totN⟩
  · have hnf := live n hn
    rw [(qA n (by have := (qe_wy_po hn).1; omega)).sz, qf_cn_congr (lkA n (qe_wy_po hn))]
    exact hs.1 n hnf hl
  · have hnf := live n hn
    rw [(qA n (by have := (qe_wy_po hn).1; omega)).sz, SN n hnf hl]
    exact hs.2 n hnf hl
  · rw [rtN w hw2]
    by_cases hwv : w = v
    · subst hwv; rw [qf_us, if_pos rfl]
    · rw [qf_un hwv, if_neg hwv]
  · unfold qv_nt
    rw [(qB T (by omega)).by (show 32 + i < 128 by omega), qv_by_setL (by omega)]
/-- a volume goes -/
theorem qr_dropVol {T K : Nat} (hT : T + 7 ≤ 16) (hK : K + 7 ≤ 16) (hTK : T + 7 ≤ K ∨ K + 7 ≤ T) {f : Nat → Int64} {v : Nat} (hv : v < 16) {lv ps : Nat → Nat} (Z : qz_ok f T lv ps 0) (hr : qv_rt f T v ≠ 0) :
    ∃ f', qt_dropVol T f v = f' ∧ qz_ok f' T lv ps 0 ∧ (∀ w, w < 16 → qv_rt f' T w = if w = v then 0 else qv_rt f T w) ∧ qr_fr T K f f' (fun _ => False) ∧ (∀ w p, w < 16 → p < 128 → qt_find f' T w p = if w = v then 0 else qt_find f T w p) ∧ qf_tot (qv_rt f' T) (qv_lk f') + qf_S (qv_lk f) (qv_rt f T v) = qf_tot (qv_rt f T) (qv_lk f) := by
  obtain ⟨⟨ok, htot, hl2⟩, hs⟩ := id Z
  obtain ⟨d1, d2, d3⟩ := qf_live_rt ok hv hr
  have o0 : qf_ok (va_up (qv_rt f T) v 0) (qv_lk f) (qv_wy f T) lv ps (fun x => qi_ (qv_rt f T v = x)) := qf_set_rt ok hv (Or.inl rfl) (fun x hp => by
    try dsimp only
    rw [qi_f (p := 0 = x) (fun e => by rw [← e] at hp; exact qf_po0 hp)]
    omega)
  obtain ⟨o1, le1⟩ := qf_rel_ok 2 _ _ (qv_rt f T v) (by omega) o0 (Or.inr ⟨d3, d2, by rw [qi_t rfl]; exact Nat.le_refl _⟩)
  obtain ⟨r1, r2⟩ := qe_rel hT 2 f (qv_rt f T v)
  have hf' : qt_dropVol T f v = qv_setL (qt_rel T 2 f (qv_rt f T v)) T v 0 := rfl
  generalize hf1 : qt_rel T 2 f (qv_rt f T v) = f1 at r1 r2 hf'
  have q1 : ∀ x, x ≠ T → qv_eq (qv_setL f1 T v 0) f1 x := fun x hx => qv_eq_setL hx (by omega)
  have qA : ∀ x, (x < T ∨ T + 7 ≤ x) → qv_eq (qv_setL f1 T v 0) f x := fun x hx => (q1 x (by omega)).tr (r2 x (by omega))
  have qT : qv_eq f1 f T := r2 T (by omega)
  have wyN : ∀ x, qv_wy (qv_setL f1 T v 0) T x = qv_wy f1 T x := fun x => qe_wy_eq (fun k hk1 hk2 => q1 _ (by omega)) x
  have rtN : ∀ w, w < 16 → qv_rt (qv_setL f1 T v 0) T w = va_up (qv_rt f T) v 0 w := fun w hw2 => by
    unfold qv_rt
    rw [qv_lk_setL (by omega) (by omega) (by omega)]
    by_cases hwv : w = v
    · subst hwv; rw [if_pos rfl, qf_us]
    · rw [if_neg hwv, qf_un hwv]; exact qT.lk (by omega)
  have lkA : ∀ n, qf_po n → ∀ k, k < 32 → qv_lk (qv_setL f1 T v 0) n k = qv_lk f n k := fun n hn k hk => (qA n (by have := hn.1; omega)).lk (by omega)
  have o2 : qf_ok (qv_rt (qv_setL f1 T v 0) T) (qv_lk (qv_setL f1 T v 0)) (qv_wy (qv_setL f1 T v 0) T) lv ps (fun _ => 0) := by
    have z : qf_ok (va_up (qv_rt f T) v 0) (qv_lk f) (qv_wy f1 T) lv ps (fun _ => 0) := by
      rw [r1]
      refine qf_set_wy o1 (fun x => Iff.rfl) (fun x hp => ?_)
      try dsimp only
      by_cases hx : x = qv_rt f T v
      · rw [qi_t hx, qi_t hx.symm]
      · rw [qi_f hx, qi_f (fun e => hx e.symm)]
    exact qf_congr z rtN (fun m i hm hi => lkA m (qe_wy_po hm) i (by have := qf_nl_le (lv m); omega)) wyN
  have live : ∀ n, 0 < qv_wy (qv_setL f1 T v 0) T n → 0 < qv_wy f T n := fun n hn => by
    rw [wyN, r1] at hn
    have := le1 n
    omega
  have SN : ∀ n, 0 < qv_wy f T n → lv n = 2 → qf_S (qv_lk (qv_setL f1 T v 0)) n = qf_S (qv_lk f) n := fun n hn hln => (qf_S_congr (fun i hi => (lkA n (qe_wy_po hn) i (by omega)).symm) (fun i hi h0 j hj => by
    obtain ⟨-, -, y3, -⟩ := qf_live_lk ok hn (i := i) (by rw [hln]; exact hi) h0
    exact (lkA _ y3 j hj).symm)).symm
  have findN : ∀ w p, w < 16 → p < 128 → qt_find (qv_setL f1 T v 0) T w p = if w = v then 0 else qt_find f T w p := fun w p hw2 hp => by
    unfold qt_find qt_leaf
    rw [rtN w hw2]
    by_cases hwv : w = v
    · subst hwv; rw [qf_us, if_pos rfl, if_pos rfl, if_pos rfl]
    · rw [qf_un hwv, if_neg hwv]
      by_cases h0 : qv_rt f T w = 0
      · simp [h0]
      · rw [if_neg h0, if_neg h0]
        obtain ⟨z1, z2, z3⟩ := qf_live_rt ok hw2 h0
        rw [lkA _ z3 _ (by omega)]
        by_cases hq0 : qv_lk f (qv_rt f T w) (p / 32) = 0
        · rw [if_pos hq0, if_pos hq0]
        · rw [if_neg hq0, if_neg hq0]
          obtain ⟨-, -, y3, -⟩ := qf_live_lk ok z1 (i := p / 32) (by rw [z2, qf_nl2]; omega) hq0
          exact lkA _ y3 _ (by omega)
  have totN : qf_tot (qv_rt (qv_setL f1 T v 0) T) (qv_lk (qv_setL f1 T v 0)) + qf_S (qv_lk f) (qv_rt f T v) = qf_tot (qv_rt f T) (qv_lk f) := by
    have z := qs_upd (n := 16) (k := v) (f := fun w => qi_ (qv_rt f T w ≠ 0) * qf_S (qv_lk f) (qv_rt f T w)) (g := fun w => qi_ (qv_rt (qv_setL f1 T v 0) T w ≠ 0) * qf_S (qv_lk (qv_setL f1 T v 0)) (qv_rt (qv_setL f1 T v 0) T w)) hv (fun w hw2 hne => by
      try dsimp only
      rw [rtN w hw2, qf_un hne]
      by_cases h0 : qv_rt f T w = 0
      · rw [qi_f (fun q => q h0), Nat.zero_mul, Nat.zero_mul]
      · obtain ⟨z1, z2, z3⟩ := qf_live_rt ok hw2 h0
        rw [SN _ z1 z2])
    try dsimp only at z
    rw [rtN v hv, qf_us, qi_f (p := (0 : Nat) ≠ 0) (fun q => q rfl), Nat.zero_mul, qi_n hr, Nat.one_mul] at z
    unfold qf_tot
    omega
  refine ⟨_, hf', ⟨⟨o2, by omega, hl2⟩, ⟨fun n hn hl => ?_, fun n hn hl => ?_⟩⟩, fun w hw2 => ?_, ⟨fun x _ hx => qA x hx, fun x hx => absurd hx id, fun i hi => ?_⟩, findN, totN⟩
  · have hnf := live n hn
    rw [(qA n (by have := (qe_wy_po hn).1; omega)).sz, qf_cn_congr (lkA n (qe_wy_po hn))]
    exact hs.1 n hnf hl
  · have hnf := live n hn
    rw [(qA n (by have := (qe_wy_po hn).1; omega)).sz, SN n hnf hl]
    exact hs.2 n hnf hl
  · rw [rtN w hw2]
    by_cases hwv : w = v
    · subst hwv; rw [qf_us, if_pos rfl]
    · rw [qf_un hwv, if_neg hwv]
  · unfold qv_nt
    rw [qv_by_setL (by omega)]
    exact qT.by (by omega)
end
section
/-! CONTRACTS OF ONE FORM: the world's cells before, the answer and the cells behind; and how such a method is called -/
theorem tw_G : GoodIn lw_gd lw_gd := fun w hw => ⟨hw, good_of_word (List.mem_filter.mp hw).2⟩
/-- the words on nest mates: a caller hands them on by itself -/
def qN (U : State) : Prop := va_Nw (Cond.methodLinkNest R_Tp 11 y_Im_init "ThinPool") U ∧ va_Nw (Cond.methodLinkNest R_Tp 30 y_Au_init "ThinPool") U ∧ va_Nw (Cond.fieldLinkNest R_Tp 98 "ThinPool$Trees" "now" "LThinPool$Tables;" "ThinPool") U
theorem qN.warm {s U : State} (hW : s.WarmedH U.vm) (h : qN s) : qN U := ⟨h.1.warmM hW, h.2.1.warmM hW, h.2.2.warmF hW⟩
theorem qN.same {u U : State} (h : u.vm = U.vm) (hZ : qN u) : qN U := ⟨hZ.1.same rfl h, hZ.2.1.same rfl h, hZ.2.2.same rfl h⟩
theorem tw_C {y : MethodName} {b : ByteArray} {n : Nat} {ret : Option FieldType} (h5 : Cond.code y b n ret ∈ lw_gd) : GoodIn lw_gd (Cond.code y b n ret :: lw_gd) := fun w hw => by
  rcases List.mem_cons.mp hw with e | h
  · rw [e]; exact tw_G _ h5
  · exact tw_G _ h
theorem tw_V {own C : String} {idx : Nat} {y : MethodName} {b : ByteArray} {n : Nat} {ret : Option FieldType} (h1 : Cond.methodLink own idx y ∈ lw_gd) (h2 : Cond.instanceMethod y ∈ lw_gd) (h3 : Cond.selects C y y ∈ lw_gd) (h4 : Cond.initialized C ∈ lw_gd) (h5 : Cond.code y b n ret ∈ lw_gd) : GoodIn lw_gd (wsV own idx C y (Cond.code y b n ret :: lw_gd)) := fun w hw => by
  unfold wsV at hw
  rcases List.mem_append.mp hw with h | h
  · rcases List.mem_cons.mp h with e | h
    · rw [e]; exact tw_G _ h1
    · rcases List.mem_cons.mp h with e | h
      · rw [e]; exact tw_G _ h2
      · rcases List.mem_cons.mp h with e | h
        · rw [e]; exact tw_G _ h3
        · rcases List.mem_cons.mp h with e | h
          · rw [e]; exact tw_G _ h4
          · cases h
  · exact tw_C h5 w h
theorem tw_S {own : String} {idx : Nat} {y : MethodName} {b : ByteArray} {n : Nat} {ret : Option FieldType} (h1 : Cond.methodLink own idx y ∈ lw_gd) (h2 : Cond.static y ∈ lw_gd) (h4 : Cond.initialized y.cls ∈ lw_gd) (h5 : Cond.code y b n ret ∈ lw_gd) : GoodIn lw_gd (va_wsS own idx y (Cond.code y b n ret :: lw_gd)) := fun w hw => by
  unfold va_wsS at hw
  rcases List.mem_append.mp hw with h | h
  · rcases List.mem_cons.mp h with e | h
    · rw [e]; exact tw_G _ h1
    · rcases List.mem_cons.mp h with e | h
      · rw [e]; exact tw_G _ h2
      · rcases List.mem_cons.mp h with e | h
        · rw [e]; exact tw_G _ h4
        · cases h
  · exact tw_C h5 w h
def qZi (D : va_G) (tys : List (ClassId × FieldType)) (ws' : va_W) (r : Int32) (A : Nat → Prop) : Array Value → State → Outcome → State → Prop := va_Qi (fun x (_ : Unit) => x = r) (fun _ t => va_P D cls ws' t.heap ∧ va_K D cls tys t ∧ va_D A ws') A
def qZl (D : va_G) (tys : List (ClassId × FieldType)) (ws' : va_W) (r : Int64) (A : Nat → Prop) : Array Value → State → Outcome → State → Prop := va_Ql (fun x (_ : Unit) => x = r) (fun _ t => va_P D cls ws' t.heap ∧ va_K D cls tys t ∧ va_D A ws') A
def qZv (D : va_G) (tys : List (ClassId × FieldType)) (ws' : va_W) (A : Nat → Prop) : Array Value → State → Outcome → State → Prop := va_Qv (fun (_ : Unit) => True) (fun _ t => va_P D cls ws' t.heap ∧ va_K D cls tys t ∧ va_D A ws') A
def qPc (D : va_G) (tys : List (ClassId × FieldType)) (ws : va_W) (sz : Nat) (U : State) : Prop := U.heap.size = sz ∧ va_P D cls ws U.heap ∧ va_K D cls tys U ∧ va_D (fun _ => True) ws ∧ qN U
/-- contracts: answers an int, a long, nothing -/
def qMi (l : Launch) (y : MethodName) (b : ByteArray) (n : Nat) (ret : Option FieldType) (rm : Room) (D : va_G) (tys : List (ClassId × FieldType)) (av : List Value) (ws ws' : va_W) (r : Int32) : Prop := ∀ sz, Met l y (Cond.code y b n ret :: lw_gd) rm (va_Pc av (qPc D tys ws sz)) (qZi D tys ws' r (va_A ws sz)) rm.cells rm.slots (va_A ws sz)
def qMl (l : Launch) (y : MethodName) (b : ByteArray) (n : Nat) (ret : Option FieldType) (rm : Room) (D : va_G) (tys : List (ClassId × FieldType)) (av : List Value) (ws ws' : va_W) (r : Int64) : Prop := ∀ sz, Met l y (Cond.code y b n ret :: lw_gd) rm (va_Pc av (qPc D tys ws sz)) (qZl D tys ws' r (va_A ws sz)) rm.cells rm.slots (va_A ws sz)
def qMv (l : Launch) (y : MethodName) (b : ByteArray) (n : Nat) (ret : Option FieldType) (rm : Room) (D : va_G) (tys : List (ClassId × FieldType)) (av : List Value) (ws ws' : va_W) : Prop := ∀ sz, Met l y (Cond.code y b n ret :: lw_gd) rm (va_Pc av (qPc D tys ws sz)) (qZv D tys ws' (va_A ws sz)) rm.cells rm.slots (va_A ws sz)
abbrev rmL (k : Nat) : Room := { frames := k, cells := 0, slots := 0, locals := 40 * k }
theorem q_blind {D : va_G} {tys : List (ClassId × FieldType)} {av : List Value} {ws : va_W} {sz : Nat} : FrameBlind (va_Pc av (qPc D tys ws sz)) := fun a U g mk q => by
  obtain ⟨q0, q1, qP, qK, qD, qn⟩ := q
  exact ⟨q0, q1, qP, va_K.moved (u := U) (U := U.calling g mk a) (Vm.Alike.refl U.vm) qK, qD, qN.same (u := U) (U := U.calling g mk a) rfl qn⟩
/-- the start of a method -/
theorem q_start {l : Launch} {y : MethodName} {b : ByteArray} {n : Nat} {ret : Option FieldType} {rm : Room} {D : va_G} {tys : List (ClassId × FieldType)} {av : List Value} {ws : va_W} {mc ms : Nat} {Qc : (Nat → Prop) → Array Value → State → Outcome → State → Prop} (hy : plainName y.cls = true) (hlen : (lg_sl av).length ≤ n)
    (body : ∀ (p : Program) (e : Env) (s : State) (m : MethodId) (below : List Frame) (meth : Method) (c : Code) (A : Nat → Prop), p.tables.exec = Jvm.exec → c.code = b → meth.sig.returnType = ret → meth.locks = false → c.maxLocals = n → s.vm.findClass y.cls = some m.cls → (∀ w ∈ lw_gd, w.before av.toArray s = true) → va_K D cls tys s → va_P D cls ws s.heap → va_D A ws → va_S A s.heap s.heap [] → (∀ q : Nat, s.heap.size ≤ q → A q) → qN s → ∀ ls : Array Slot, lv_has ls n (lv_args 0 av) → W p l e rm s m av.toArray below meth c s.heap [] 0 0 (MQ below (Qc A) av.toArray s mc ms A) (F0 m 0 ls [])) :
    ∀ sz, Met l y (Cond.code y b n ret :: lw_gd) rm (va_Pc av (qPc D tys ws sz)) (Qc (va_A ws sz)) mc ms (va_A ws sz) := by
  intro sz
  refine Met.ofW (cc := b) (maxL := n) (ret := ret) hy rfl ?_
  intro p e s m args below meth c s₁ B hml hv
  obtain ⟨rfl, hsz, hP, hK, hD0, hN⟩ := hv
  have hts := atoms_spec (ws := Cond.code y b n ret :: lw_gd) B.pre
  subst hsz
  have hl := lv_entry av (n := n) hlen
  rw [lg_entry_eq]
  exact body p e s m below meth c (va_A ws s.heap.size) B.exec B.bytes B.returns B.notSynchronized hml (findClass_of_methodNamed B.named) (fun w h => hts w (List.mem_cons_of_mem _ h)) hK hP hD0.self va_S.rf (fun q h => Or.inr h) hN _ hl
section QW
variable {p : Program} {l : Launch} {e : Env} {R : Room} {s : State} {m : MethodId} {args : Array Value} {below : List Frame} {meth : Method} {c : Code} {H : Heap} {locs : List Loc} {cells slots : Nat} {Q : State → Prop} {A : Nat → Prop} {D : va_G} {tys tysC : List (ClassId × FieldType)} {ws ws1 ws' wsC wsR wsC' wsN : va_W} {cc b : ByteArray} {pc n nL : Nat} {ls : Array Slot} {rest As st : List Value}
/-- the ends of a method -/
theorem q_iret {v r : Int32} (hx : p.tables.exec = Jvm.exec) (hb : c.code = cc) (hr : meth.sig.returnType = some .int) (hlk : meth.locks = false) (hK : va_K D cls tys s) (hP : va_P D cls ws1 H) (hD : va_D A ws1) (hS : va_S A s.heap H locs) (hdg : decode cc pc = .ok (.ireturn, 1)) (hv : v = r) (hw : ws1 = ws') :
    W p l e R s m args below meth c H locs cells slots (MQ below (qZi D tys ws' r A) args s cells slots A) (F0 m pc ls [.int v]) := by
  subst hw
  exact W.iret hx hb hr (fun t ht hW => ⟨⟨v, (), rfl, hv, by rw [ht]; exact hP, va_K.moved hW.alike hK, hD⟩, hS.F ht⟩) hS.2.2 hdg
theorem q_zret {v r : Int32} {ty : FieldType} (hx : p.tables.exec = Jvm.exec) (hb : c.code = cc) (hr : meth.sig.returnType = some ty) (hnr : narrow ty (.int v) = .int v) (hlk : meth.locks = false) (hK : va_K D cls tys s) (hP : va_P D cls ws1 H) (hD : va_D A ws1) (hS : va_S A s.heap H locs) (hdg : decode cc pc = .ok (.ireturn, 1)) (hv : v = r) (hw : ws1 = ws') :
    W p l e R s m args below meth c H locs cells slots (MQ below (qZi D tys ws' r A) args s cells slots A) (F0 m pc ls [.int v]) := by
  subst hw
  exact W.zret hx hb hr hnr (fun t ht hW => ⟨⟨v, (), rfl, hv, by rw [ht]; exact hP, va_K.moved hW.alike hK, hD⟩, hS.F ht⟩) hS.2.2 hdg
theorem q_lret {v r : Int64} (hx : p.tables.exec = Jvm.exec) (hb : c.code = cc) (hr : meth.sig.returnType = some .long) (hlk : meth.locks = false) (hK : va_K D cls tys s) (hP : va_P D cls ws1 H) (hD : va_D A ws1) (hS : va_S A s.heap H locs) (hdg : decode cc pc = .ok (.lreturn, 1)) (hv : v = r) (hw : ws1 = ws') :
    W p l e R s m args below meth c H locs cells slots (MQ below (qZl D tys ws' r A) args s cells slots A) (F0 m pc ls [.long v]) := by
  subst hw
  exact W.lret hx hb hr (fun t ht hW => ⟨⟨v, (), rfl, hv, by rw [ht]; exact hP, va_K.moved hW.alike hK, hD⟩, hS.F ht⟩) hS.2.2 hdg
theorem q_vret (hx : p.tables.exec = Jvm.exec) (hb : c.code = cc) (hr : meth.sig.returnType = none) (hlk : meth.locks = false) (hK : va_K D cls tys s) (hP : va_P D cls ws1 H) (hD : va_D A ws1) (hS : va_S A s.heap H locs) (hdg : decode cc pc = .ok (.return_, 1)) (hw : ws1 = ws') :
    W p l e R s m args below meth c H locs cells slots (MQ below (qZv D tys ws' A) args s cells slots A) (F0 m pc ls []) := by
  subst hw
  exact W.vret hx hb hr (fun t ht hW => ⟨⟨(), rfl, trivial, by rw [ht]; exact hP, va_K.moved hW.alike hK, hD⟩, hS.F ht⟩) hS.2.2 hdg
theorem q_fm {α β : Type} {g : α → Option β} : ∀ {is : List α} {w : List β}, is.map g = w.map some → is.filterMap g = w := by
  intro is
  induction is with
  | nil => intro w h; cases w with
    | nil => rfl
    | cons x w => simp at h
  | cons i is ih => intro w h; cases w with
    | nil => simp at h
    | cons x w =>
      simp only [List.map_cons, List.cons.injEq] at h
      rw [List.filterMap_cons, h.1]
      simp only [List.cons.injEq, true_and]
      exact ih h.2
/-- the words of a call, in short -/
def qCall (R : Room) (y : MethodName) (n k : Nat) (rm : Room) : Prop := (y.cls ≠ "java/lang/invoke/MethodHandle" ∧ y.cls ≠ "java/lang/invoke/VarHandle" ∧ (parseMethodDescriptor y.desc).map (fun d => d.parameters.length) = some k) ∧ rm.frames + 1 ≤ R.frames ∧ 8 + (n + 11) + rm.locals ≤ R.locals
/-- the cells of a call: those of the callee (isC), the others (isR), and how they stand behind it (isN) -/
def qCut (ws wsC wsR wsC' wsN : va_W) (isC isR isN : List Nat) : Prop := isC.map (fun i => ws[i]?) = wsC.map some ∧ isR.map (fun i => ws[i]?) = wsR.map some ∧ isN.map (fun i => (wsR ++ wsC')[i]?) = wsN.map some ∧ va_nd isC = true ∧ va_nd isR = true ∧ va_nd isN = true ∧ ∀ i ∈ isR, i ∉ isC
theorem q_back {H1 : Heap} {isC isR isN : List Nat} (hP : va_P D cls ws H) (hD : va_D A ws) (hS0 : va_S A s.heap H locs) (hA : ∀ q : Nat, s.heap.size ≤ q → A q) (hc : qCut ws wsC wsR wsC' wsN isC isR isN) (hk : ∀ q : Nat, q < H.size → ¬ va_A wsC H.size q → H1[q]? = H[q]?) (hP1 : va_P D cls wsC' H1) (hD1 : va_D (va_A wsC H.size) wsC') : va_P D cls wsN H1 ∧ va_D A wsN := by
  obtain ⟨h1, h2, h3, h4, h5, h6, h7⟩ := hc
  obtain ⟨g1, g2⟩ := va_join hP hD isC isR h1 h2 h5 h7 hk (va_free hD hS0 hA isC h1) hP1 hD1
  exact ⟨g1.sub isN (q_fm h3), g2.sub isN h6 h3⟩
theorem q_callVi {own C : String} {idx k : Nat} {y : MethodName} {ret : Option FieldType} {rm : Room} {a ci : Nat} {q : vw_C} {fs : List Value} {r : Int32} {isT isC isR isN : List Nat} (S : CallFix p m c cc nL s args lw_gd own) (hM : qMi l y b n ret rm D tysC (.ref a :: As) wsC wsC' r) (hG : GoodIn lw_gd (wsV own idx C y (Cond.code y b n ret :: lw_gd))) (hy : y.cls = C) (hq : qCall R y n k rm) (hc : cells + rm.cells ≤ R.cells ∧ slots + rm.slots ≤ R.slots)
    (hK : va_K D cls tys s) (hP : va_P D cls ws H) (hD : va_D A ws) (hS : va_S A s.heap H locs) (hA : ∀ q : Nat, s.heap.size ≤ q → A q) (hN : qN s) (hT : isT.filterMap (fun i => tys[i]?) = tysC) (cut : qCut ws wsC wsR wsC' wsN isC isR isN) (he : wsC[0]? = some (a, .inr (ci, fs))) (hci : cls[ci]? = some q) (hqC : q.1 = C)
    (hl : ls.size = nL) (hlen : As.length = k) (hst : st = As.reverse ++ .ref a :: rest) (hroom : (rest.map fun v => v.category).sum ≤ 8) (hdg : decode cc pc = .ok (.invokevirtual idx, 3))
    (kk : ∀ (H1 : Heap) (locs1 : List Loc), va_P D cls wsN H1 → va_D A wsN → va_S A s.heap H1 locs1 → W p l e R s m args below meth c H1 locs1 (cells + rm.cells) (slots + rm.slots) Q (F0 m (pc + 3) ls (.int r :: rest))) : W p l e R s m args below meth c H locs cells slots Q (F0 m pc ls st) := by
  subst hst
  have hPc := hP.sub isC (q_fm cut.1)
  have hDc := hD.sub isC cut.2.2.2.1 cut.1
  have hKc := hK.sub isT hT
  have hFc := va_free hD hS hA isC cut.1
  refine va_calli (va_runV (As := As) (rest := rest) S (hM H.size) (cwV k S.2.2.2.2 hG rfl rfl rfl ⟨hy, hq.1⟩ hq.2) ⟨q_blind, by rw [← hqC]; exact va_recv hKc hPc hci he, fun U hU hW => ⟨rfl, by rw [hU], by rw [hU]; exact hPc, va_K.moved hW.alike hKc, hDc.weaken (fun _ _ _ _ => trivial), hN.warm hW⟩⟩ rfl hlen hl rfl (lv_room hroom) hdg hc) hS (fun q _ h => hFc q h) hFc (fun r2 u t H1 locs1 ht hvm hw hB hz1 hk1 hS1 => ?_)
  obtain ⟨hP1, hK1, hD1⟩ := hB
  rw [ht] at hP1
  obtain ⟨g1, g2⟩ := q_back hP hD hS hA cut hk1 hP1 hD1
  have hw : r2 = r := hw
  subst hw
  exact kk H1 locs1 g1 g2 hS1
theorem q_callVl {own C : String} {idx k : Nat} {y : MethodName} {ret : Option FieldType} {rm : Room} {a ci : Nat} {q : vw_C} {fs : List Value} {r : Int64} {isT isC isR isN : List Nat} (S : CallFix p m c cc nL s args lw_gd own) (hM : qMl l y b n ret rm D tysC (.ref a :: As) wsC wsC' r) (hG : GoodIn lw_gd (wsV own idx C y (Cond.code y b n ret :: lw_gd))) (hy : y.cls = C) (hq : qCall R y n k rm) (hc : cells + rm.cells ≤ R.cells ∧ slots + rm.slots ≤ R.slots)
    (hK : va_K D cls tys s) (hP : va_P D cls ws H) (hD : va_D A ws) (hS : va_S A s.heap H locs) (hA : ∀ q : Nat, s.heap.size ≤ q → A q) (hN : qN s) (hT : isT.filterMap (fun i => tys[i]?) = tysC) (cut : qCut ws wsC wsR wsC' wsN isC isR isN) (he : wsC[0]? = some (a, .inr (ci, fs))) (hci : cls[ci]? = some q) (hqC : q.1 = C)
    (hl : ls.size = nL) (hlen : As.length = k) (hst : st = As.reverse ++ .ref a :: rest) (hroom : (rest.map fun v => v.category).sum ≤ 8) (hdg : decode cc pc = .ok (.invokevirtual idx, 3))
    (kk : ∀ (H1 : Heap) (locs1 : List Loc), va_P D cls wsN H1 → va_D A wsN → va_S A s.heap H1 locs1 → W p l e R s m args below meth c H1 locs1 (cells + rm.cells) (slots + rm.slots) Q (F0 m (pc + 3) ls (.long r :: rest))) : W p l e R s m args below meth c H locs cells slots Q (F0 m pc ls st) := by
  subst hst
  have hPc := hP.sub isC (q_fm cut.1)
  have hDc := hD.sub isC cut.2.2.2.1 cut.1
  have hKc := hK.sub isT hT
  have hFc := va_free hD hS hA isC cut.1
  refine va_calll (va_runV (As := As) (rest := rest) S (hM H.size) (cwV k S.2.2.2.2 hG rfl rfl rfl ⟨hy, hq.1⟩ hq.2) ⟨q_blind, by rw [← hqC]; exact va_recv hKc hPc hci he, fun U hU hW => ⟨rfl, by rw [hU], by rw [hU]; exact hPc, va_K.moved hW.alike hKc, hDc.weaken (fun _ _ _ _ => trivial), hN.warm hW⟩⟩ rfl hlen hl rfl (lv_room hroom) hdg hc) hS (fun q _ h => hFc q h) hFc (fun r2 u t H1 locs1 ht hvm hw hB hz1 hk1 hS1 => ?_)
  obtain ⟨hP1, hK1, hD1⟩ := hB
  rw [ht] at hP1
  obtain ⟨g1, g2⟩ := q_back hP hD hS hA cut hk1 hP1 hD1
  have hw : r2 = r := hw
  subst hw
  exact kk H1 locs1 g1 g2 hS1
theorem q_callVv {own C : String} {idx k : Nat} {y : MethodName} {ret : Option FieldType} {rm : Room} {a ci : Nat} {q : vw_C} {fs : List Value} {isT isC isR isN : List Nat} (S : CallFix p m c cc nL s args lw_gd own) (hM : qMv l y b n ret rm D tysC (.ref a :: As) wsC wsC') (hG : GoodIn lw_gd (wsV own idx C y (Cond.code y b n ret :: lw_gd))) (hy : y.cls = C) (hq : qCall R y n k rm) (hc : cells + rm.cells ≤ R.cells ∧ slots + rm.slots ≤ R.slots)
    (hK : va_K D cls tys s) (hP : va_P D cls ws H) (hD : va_D A ws) (hS : va_S A s.heap H locs) (hA : ∀ q : Nat, s.heap.size ≤ q → A q) (hN : qN s) (hT : isT.filterMap (fun i => tys[i]?) = tysC) (cut : qCut ws wsC wsR wsC' wsN isC isR isN) (he : wsC[0]? = some (a, .inr (ci, fs))) (hci : cls[ci]? = some q) (hqC : q.1 = C)
    (hl : ls.size = nL) (hlen : As.length = k) (hst : st = As.reverse ++ .ref a :: rest) (hroom : (rest.map fun v => v.category).sum ≤ 8) (hdg : decode cc pc = .ok (.invokevirtual idx, 3))
    (kk : ∀ (H1 : Heap) (locs1 : List Loc), va_P D cls wsN H1 → va_D A wsN → va_S A s.heap H1 locs1 → W p l e R s m args below meth c H1 locs1 (cells + rm.cells) (slots + rm.slots) Q (F0 m (pc + 3) ls rest)) : W p l e R s m args below meth c H locs cells slots Q (F0 m pc ls st) := by
  subst hst
  have hPc := hP.sub isC (q_fm cut.1)
  have hDc := hD.sub isC cut.2.2.2.1 cut.1
  have hKc := hK.sub isT hT
  have hFc := va_free hD hS hA isC cut.1
  refine va_callv (va_runV (As := As) (rest := rest) S (hM H.size) (cwV k S.2.2.2.2 hG rfl rfl rfl ⟨hy, hq.1⟩ hq.2) ⟨q_blind, by rw [← hqC]; exact va_recv hKc hPc hci he, fun U hU hW => ⟨rfl, by rw [hU], by rw [hU]; exact hPc, va_K.moved hW.alike hKc, hDc.weaken (fun _ _ _ _ => trivial), hN.warm hW⟩⟩ rfl hlen hl rfl (lv_room hroom) hdg hc) hS (fun q _ h => hFc q h) hFc (fun u t H1 locs1 ht hvm hw hB hz1 hk1 hS1 => ?_)
  obtain ⟨hP1, hK1, hD1⟩ := hB
  rw [ht] at hP1
  obtain ⟨g1, g2⟩ := q_back hP hD hS hA cut hk1 hP1 hD1
  exact kk H1 locs1 g1 g2 hS1
theorem q_callSi {own : String} {idx k : Nat} {y : MethodName} {ret : Option FieldType} {rm : Room} {r : Int32} {isT isC isR isN : List Nat} (S : CallFix p m c cc nL s args lw_gd own) (hM : qMi l y b n ret rm D tysC As wsC wsC' r) (hG : GoodIn lw_gd (va_wsS own idx y (Cond.code y b n ret :: lw_gd))) (hq : qCall R y n k rm) (hc : cells + rm.cells ≤ R.cells ∧ slots + rm.slots ≤ R.slots)
    (hK : va_K D cls tys s) (hP : va_P D cls ws H) (hD : va_D A ws) (hS : va_S A s.heap H locs) (hA : ∀ q : Nat, s.heap.size ≤ q → A q) (hN : qN s) (hT : isT.filterMap (fun i => tys[i]?) = tysC) (cut : qCut ws wsC wsR wsC' wsN isC isR isN)
    (hl : ls.size = nL) (hlen : As.length = k) (hst : st = As.reverse ++ rest) (hroom : (rest.map fun v => v.category).sum ≤ 8) (hdg : decode cc pc = .ok (.invokestatic idx, 3))
    (kk : ∀ (H1 : Heap) (locs1 : List Loc), va_P D cls wsN H1 → va_D A wsN → va_S A s.heap H1 locs1 → W p l e R s m args below meth c H1 locs1 (cells + rm.cells) (slots + rm.slots) Q (F0 m (pc + 3) ls (.int r :: rest))) : W p l e R s m args below meth c H locs cells slots Q (F0 m pc ls st) := by
  subst hst
  have hPc := hP.sub isC (q_fm cut.1)
  have hDc := hD.sub isC cut.2.2.2.1 cut.1
  have hKc := hK.sub isT hT
  have hFc := va_free hD hS hA isC cut.1
  refine va_calli (va_runS (As := As) (rest := rest) S (hM H.size) (va_cwS k S.2.2.2.2 hG rfl rfl rfl hq.1 hq.2) ⟨q_blind, fun U hU hW => ⟨rfl, by rw [hU], by rw [hU]; exact hPc, va_K.moved hW.alike hKc, hDc.weaken (fun _ _ _ _ => trivial), hN.warm hW⟩⟩ rfl hlen hl rfl (lv_room hroom) hdg hc) hS (fun q _ h => hFc q h) hFc (fun r2 u t H1 locs1 ht hvm hw hB hz1 hk1 hS1 => ?_)
  obtain ⟨hP1, hK1, hD1⟩ := hB
  rw [ht] at hP1
  obtain ⟨g1, g2⟩ := q_back hP hD hS hA cut hk1 hP1 hD1
  have hw : r2 = r := hw
  subst hw
  exact kk H1 locs1 g1 g2 hS1
theorem q_callSv {own : String} {idx k : Nat} {y : MethodName} {ret : Option FieldType} {rm : Room} {isT isC isR isN : List Nat} (S : CallFix p m c cc nL s args lw_gd own) (hM : qMv l y b n ret rm D tysC As wsC wsC') (hG : GoodIn lw_gd (va_wsS own idx y (Cond.code y b n ret :: lw_gd))) (hq : qCall R y n k rm) (hc : cells + rm.cells ≤ R.cells ∧ slots + rm.slots ≤ R.slots)
    (hK : va_K D cls tys s) (hP : va_P D cls ws H) (hD : va_D A ws) (hS : va_S A s.heap H locs) (hA : ∀ q : Nat, s.heap.size ≤ q → A q) (hN : qN s) (hT : isT.filterMap (fun i => tys[i]?) = tysC) (cut : qCut ws wsC wsR wsC' wsN isC isR isN)
    (hl : ls.size = nL) (hlen : As.length = k) (hst : st = As.reverse ++ rest) (hroom : (rest.map fun v => v.category).sum ≤ 8) (hdg : decode cc pc = .ok (.invokestatic idx, 3))
    (kk : ∀ (H1 : Heap) (locs1 : List Loc), va_P D cls wsN H1 → va_D A wsN → va_S A s.heap H1 locs1 → W p l e R s m args below meth c H1 locs1 (cells + rm.cells) (slots + rm.slots) Q (F0 m (pc + 3) ls rest)) : W p l e R s m args below meth c H locs cells slots Q (F0 m pc ls st) := by
  subst hst
  have hPc := hP.sub isC (q_fm cut.1)
  have hDc := hD.sub isC cut.2.2.2.1 cut.1
  have hKc := hK.sub isT hT
  have hFc := va_free hD hS hA isC cut.1
  refine va_callv (va_runS (As := As) (rest := rest) S (hM H.size) (va_cwS k S.2.2.2.2 hG rfl rfl rfl hq.1 hq.2) ⟨q_blind, fun U hU hW => ⟨rfl, by rw [hU], by rw [hU]; exact hPc, va_K.moved hW.alike hKc, hDc.weaken (fun _ _ _ _ => trivial), hN.warm hW⟩⟩ rfl hlen hl rfl (lv_room hroom) hdg hc) hS (fun q _ h => hFc q h) hFc (fun u t H1 locs1 ht hvm hw hB hz1 hk1 hS1 => ?_)
  obtain ⟨hP1, hK1, hD1⟩ := hB
  rw [ht] at hP1
  obtain ⟨g1, g2⟩ := q_back hP hD hS hA cut hk1 hP1 hD1
  exact kk H1 locs1 g1 g2 hS1
/-- a loop that counts i up to e1 -/
theorem q_loop {σ : Type} (I : Nat → σ → Heap → List Loc → Array Slot → Prop) (e1 : Nat)
    (hx : ∀ (x : σ) (H : Heap) (locs : List Loc) (ls : Array Slot), I e1 x H locs ls → W p l e R s m args below meth c H locs cells slots Q (F0 m pc ls []))
    (hs : ∀ (i : Nat) (x : σ) (H : Heap) (locs : List Loc) (ls : Array Slot), i < e1 → I i x H locs ls → (∀ (x' : σ) (H' : Heap) (locs' : List Loc) (ls' : Array Slot), I (i + 1) x' H' locs' ls' → W p l e R s m args below meth c H' locs' cells slots Q (F0 m pc ls' [])) → W p l e R s m args below meth c H locs cells slots Q (F0 m pc ls [])) :
    ∀ (i : Nat) (x : σ) (H : Heap) (locs : List Loc) (ls : Array Slot), i ≤ e1 → I i x H locs ls → W p l e R s m args below meth c H locs cells slots Q (F0 m pc ls []) := by
  have key : ∀ (d i : Nat) (x : σ) (H : Heap) (locs : List Loc) (ls : Array Slot), i ≤ e1 → e1 - i = d → I i x H locs ls → W p l e R s m args below meth c H locs cells slots Q (F0 m pc ls []) := by
    intro d
    induction d with
    | zero =>
      intro i x H locs ls h1 h2 h3
      have e2 : i = e1 := by omega
      subst e2
      exact hx x H locs ls h3
    | succ d ih =>
      intro i x H locs ls h1 h2 h3
      exact hs i x H locs ls (by omega) h3 (fun x' H' locs' ls' h4 => ih (i + 1) x' H' locs' ls' (by omega) (by omega) h4)
  intro i x H locs ls h1 h2
  exact key (e1 - i) i x H locs ls h1 rfl h2
end QW
section QT
variable {p : Program} {l : Launch} {e : Env} {R : Room} {s : State} {m : MethodId} {args : Array Value} {below : List Frame} {meth : Method} {c : Code} {H : Heap} {locs : List Loc} {cells slots pc : Nat} {Q : State → Prop} {ls : Array Slot} {rest : List Value}
theorem q_ti {x y : Int32} (h : x = y) (k : W p l e R s m args below meth c H locs cells slots Q (F0 m pc ls (.int y :: rest))) : W p l e R s m args below meth c H locs cells slots Q (F0 m pc ls (.int x :: rest)) := h ▸ k
theorem q_tl {x y : Int64} (h : x = y) (k : W p l e R s m args below meth c H locs cells slots Q (F0 m pc ls (.long y :: rest))) : W p l e R s m args below meth c H locs cells slots Q (F0 m pc ls (.long x :: rest)) := h ▸ k
end QT
theorem q_z_eq {a : Nat} (h : a < 2 ^ 31) : nI a = 0 ↔ a = 0 := by rw [← nI_0]; exact nI_eq h (by decide)
theorem q_z_lt {a : Nat} (h : a < 2 ^ 31) : nI a < 0 ↔ a < 0 := by rw [← nI_0]; exact nI_ltI h (by decide)
theorem q_z_le {a : Nat} (h : a < 2 ^ 31) : nI a ≤ 0 ↔ a ≤ 0 := by rw [← nI_0]; exact nI_leI h (by decide)
theorem q_z_gt {a : Nat} (h : a < 2 ^ 31) : 0 < nI a ↔ 0 < a := by rw [← nI_0]; exact nI_ltI (by decide) h
theorem q_z_ge {a : Nat} (h : a < 2 ^ 31) : 0 ≤ nI a ↔ 0 ≤ a := by rw [← nI_0]; exact nI_leI (by decide) h
end
section
/-! the words of Image: what the shifts and masks of setByte and setLink make -/
theorem qb_set8 (x : Int64) {p v : Nat} (hp : p + 8 ≤ 64) (hv : v < 65536) : (x &&& ((255 <<< ((nI p).toInt64 &&& 63)) ^^^ (-1))) ||| (((nI v).toInt64 &&& 255) <<< ((nI p).toInt64 &&& 63)) = lN (qb_put (qb_n x) p 8 (v % 2 ^ 8)) := by
  rw [← qb_set x (p := p) (s := 8) (a := v % 2 ^ 8) hp (by omega) (Nat.mod_lt _ (by decide)) (by decide), nI_l (n := v) (by omega), show (255 : Int64) = lN (2 ^ 8 - 1) by decide, wb_mask (by omega) (by decide)]
theorem qb_set16 (x : Int64) {p v : Nat} (hp : p + 16 ≤ 64) (hv : v < 65536) : (x &&& ((65535 <<< ((nI p).toInt64 &&& 63)) ^^^ (-1))) ||| (((nI v).toInt64 &&& 65535) <<< ((nI p).toInt64 &&& 63)) = lN (qb_put (qb_n x) p 16 (v % 2 ^ 16)) := by
  rw [← qb_set x (p := p) (s := 16) (a := v % 2 ^ 16) hp (by omega) (Nat.mod_lt _ (by decide)) (by decide), nI_l (n := v) (by omega), show (65535 : Int64) = lN (2 ^ 16 - 1) by decide, wb_mask (by omega) (by decide)]
def qv_fill (f : Nat → Int64) (x : Int64) : Nat → Int64 := qv_for 12544 (fun g i => vp_updL g i x) f
def qv_fillI (f : Nat → Int32) (x : Int32) : Nat → Int32 := qv_for 768 (fun g i => upd g i x) f
def qv_copy (g f : Nat → Int64) : Nat → Int64 := va_cpy g f 0 0 12544
def qv_lo (k : Nat) : Nat := if k = 1 ∨ k = 2 then 0 else 8
def qv_hi (k : Nat) : Nat := if k = 1 ∨ k = 3 then 16 else 8
def qv_recvP (f g : Nat → Int64) (b k : Nat) : Nat → Int64 := qv_recv f g b (qv_lo k) (qv_hi k)
set_option maxHeartbeats 4000000 in
set_option maxRecDepth 100000 in
theorem c_Im_wordAt (l : Launch) (D : va_G) (cJ : ClassId) (h : Nat) (a : Nat) (f : Nat → Int64) (b : Nat) (i : Nat) (kb : b < 65536) (ki : i < 65536) : qMl l y_Im_wordAt b_Im_wordAt 4 (some .long) (rmL 1) D [(cJ, .long)] [.ref h, .int (nI b), .int (nI i)] [(h, .inr (1, [.ref a])), (a, .inl (cJ, 12544, .inr (.inl (f))))] [(h, .inr (1, [.ref a])), (a, .inl (cJ, 12544, .inr (.inl (f))))] (qv_word f b i) := by
  refine q_start (Qc := qZl D _ _ _) (by decide +kernel) (Nat.le_of_ble_eq_true rfl) ?_
  intro p e s m below meth c A hx hb hr hlk hml hown hts hK hP hD hS hA hN ls hl
  have hl : lv_has ls 4 [(0, .ref h), (1, .int (nI b)), (2, .int (nI i))] := hl
  have hP : va_P D cls [(h, .inr (1, [.ref a])), (a, .inl (cJ, 12544, .inr (.inl (f))))] s.heap := hP
  have hD : va_D A [(h, .inr (1, [.ref a])), (a, .inl (cJ, 12544, .inr (.inl (f))))] := hD
  refine lv_iload_n hx hb d_Im_wordAt_0 rfl (lv_at hl 1 rfl) ?_
  refine lv_bipush (v := nI 16) hx hb d_Im_wordAt_1 (by decide) ?_
  refine lv_imul hx hb d_Im_wordAt_3 ?_
  refine q_ti (y := nI (b * 16)) (pk_mul _ _) ?_
  refine lv_iload_n hx hb d_Im_wordAt_4 rfl (lv_at hl 2 rfl) ?_
  refine lv_iadd hx hb d_Im_wordAt_5 ?_
  refine q_ti (y := nI (b * 16 + i)) (nI_add _ _) ?_
  refine lv_istore_n (lv' := [(3, .int (nI (b * 16 + i))), (0, .ref h), (1, .int (nI b)), (2, .int (nI i))]) hx hb d_Im_wordAt_6 rfl hl (by decide) rfl (fun ls hl => ?_)
  refine lv_iload_n hx hb d_Im_wordAt_7 rfl (lv_at hl 0 rfl) ?_
  refine lv_if_lt (tgt := 29) hx hb d_Im_wordAt_8 (by decide) (fun c8 => ?_) (fun c8 => ?_)
  · exact absurd c8 (nI_pos (by omega))
  · refine lv_iload_n hx hb d_Im_wordAt_11 rfl (lv_at hl 0 rfl) ?_
    refine lv_aload_n hx hb d_Im_wordAt_12 rfl (lv_at hl 1 rfl) ?_
    refine va_get (D := D) (ci := 1) (v := .ref a) (C := R_Im) (T := F_Im) (N := 1) hx hb hts i_Im hown hK hP 0 rfl rfl 0 (by decide) (hts _ fl_Im_9) (fun _ h9 => h9) rfl d_Im_wordAt_13 ?_
    refine va_alen (v := nI 12544) hx hb hK hP 1 0 rfl rfl rfl d_Im_wordAt_16 ?_
    refine lv_icmp_ge (tgt := 29) hx hb d_Im_wordAt_17 (by decide) (fun c17 => ?_) (fun c17 => ?_)
    · have c17 : 12544 ≤ (b * 16 + i) := (nI_leI (by omega) (by omega)).mp c17
      refine lv_lconst (v := 0) hx hb d_Im_wordAt_29 (by decide) ?_
      exact q_lret hx hb hr hlk hK hP hD hS d_Im_wordAt_30 (by unfold qv_word qv_wd; first | rw [if_pos (by omega)] | rw [if_neg (by omega)]) (rfl)
    · have c17 : ¬ 12544 ≤ (b * 16 + i) := fun h9 => c17 ((nI_leI (by omega) (by omega)).mpr h9)
      refine lv_aload_n hx hb d_Im_wordAt_20 rfl (lv_at hl 1 rfl) ?_
      refine va_get (D := D) (ci := 1) (v := .ref a) (C := R_Im) (T := F_Im) (N := 1) hx hb hts i_Im hown hK hP 0 rfl rfl 0 (by decide) (hts _ fl_Im_9) (fun _ h9 => h9) rfl d_Im_wordAt_21 ?_
      refine lv_iload_n hx hb d_Im_wordAt_24 rfl (lv_at hl 0 rfl) ?_
      refine va_lald hx hb hK hP 1 0 rfl rfl (vp_in_nI (by omega) (by decide)) d_Im_wordAt_25 ?_
      refine q_tl (y := f (b * 16 + i)) (by rw [nI_clamp (by omega)]) ?_
      refine lv_goto (tgt := 30) hx hb d_Im_wordAt_26 (by decide) ?_
      exact q_lret hx hb hr hlk hK hP hD hS d_Im_wordAt_30 (by unfold qv_word qv_wd; first | rw [if_pos (by omega)] | rw [if_neg (by omega)]) (rfl)
set_option maxHeartbeats 4000000 in
set_option maxRecDepth 100000 in
theorem c_Im_setWord (l : Launch) (D : va_G) (cJ : ClassId) (h : Nat) (a : Nat) (f : Nat → Int64) (b : Nat) (i : Nat) (x : Int64) (kb : b < 65536) (ki : i < 65536) : qMv l y_Im_setWord b_Im_setWord 6 none (rmL 1) D [(cJ, .long)] [.ref h, .int (nI b), .int (nI i), .long (x)] [(h, .inr (1, [.ref a])), (a, .inl (cJ, 12544, .inr (.inl (f))))] [(h, .inr (1, [.ref a])), (a, .inl (cJ, 12544, .inr (.inl (qv_setW f b i x))))] := by
  refine q_start (Qc := qZv D _ _) (by decide +kernel) (Nat.le_of_ble_eq_true rfl) ?_
  intro p e s m below meth c A hx hb hr hlk hml hown hts hK hP hD hS hA hN ls hl
  have hl : lv_has ls 6 [(0, .ref h), (1, .int (nI b)), (2, .int (nI i)), (3, .long (x))] := hl
  have hP : va_P D cls [(h, .inr (1, [.ref a])), (a, .inl (cJ, 12544, .inr (.inl (f))))] s.heap := hP
  have hD : va_D A [(h, .inr (1, [.ref a])), (a, .inl (cJ, 12544, .inr (.inl (f))))] := hD
  refine lv_iload_n hx hb d_Im_setWord_0 rfl (lv_at hl 1 rfl) ?_
  refine lv_bipush (v := nI 16) hx hb d_Im_setWord_1 (by decide) ?_
  refine lv_imul hx hb d_Im_setWord_3 ?_
  refine q_ti (y := nI (b * 16)) (pk_mul _ _) ?_
  refine lv_iload_n hx hb d_Im_setWord_4 rfl (lv_at hl 2 rfl) ?_
  refine lv_iadd hx hb d_Im_setWord_5 ?_
  refine q_ti (y := nI (b * 16 + i)) (nI_add _ _) ?_
  refine lv_istore (lv' := [(5, .int (nI (b * 16 + i))), (0, .ref h), (1, .int (nI b)), (2, .int (nI i)), (3, .long (x))]) hx hb d_Im_setWord_6 hl (by decide) rfl (fun ls hl => ?_)
  refine lv_iload hx hb d_Im_setWord_8 (lv_at hl 0 rfl) ?_
  refine lv_if_lt (tgt := 31) hx hb d_Im_setWord_10 (by decide) (fun c10 => ?_) (fun c10 => ?_)
  · exact absurd c10 (nI_pos (by omega))
  · refine lv_iload hx hb d_Im_setWord_13 (lv_at hl 0 rfl) ?_
    refine lv_aload_n hx hb d_Im_setWord_15 rfl (lv_at hl 1 rfl) ?_
    refine va_get (D := D) (ci := 1) (v := .ref a) (C := R_Im) (T := F_Im) (N := 1) hx hb hts i_Im hown hK hP 0 rfl rfl 0 (by decide) (hts _ fl_Im_9) (fun _ h9 => h9) rfl d_Im_setWord_16 ?_
    refine va_alen (v := nI 12544) hx hb hK hP 1 0 rfl rfl rfl d_Im_setWord_19 ?_
    refine lv_icmp_ge (tgt := 31) hx hb d_Im_setWord_20 (by decide) (fun c20 => ?_) (fun c20 => ?_)
    · have c20 : 12544 ≤ (b * 16 + i) := (nI_leI (by omega) (by omega)).mp c20
      exact q_vret hx hb hr hlk hK hP hD hS d_Im_setWord_31 (by unfold qv_setW qv_up; first | rw [if_pos (by omega)] | rw [if_neg (by omega)])
    · have c20 : ¬ 12544 ≤ (b * 16 + i) := fun h9 => c20 ((nI_leI (by omega) (by omega)).mpr h9)
      refine lv_aload_n hx hb d_Im_setWord_23 rfl (lv_at hl 1 rfl) ?_
      refine va_get (D := D) (ci := 1) (v := .ref a) (C := R_Im) (T := F_Im) (N := 1) hx hb hts i_Im hown hK hP 0 rfl rfl 0 (by decide) (hts _ fl_Im_9) (fun _ h9 => h9) rfl d_Im_setWord_24 ?_
      refine lv_iload hx hb d_Im_setWord_27 (lv_at hl 0 rfl) ?_
      refine lv_lload_n hx hb d_Im_setWord_29 rfl (lv_at hl 4 rfl) ?_
      refine va_last hx hb hK hP hD hS 1 0 rfl rfl (vp_in_nI (by omega) (by decide)) d_Im_setWord_30 (fun H locs hP hD hS => ?_)
      rw [nI_clamp (by omega)] at hP hD
      have hP : va_P D cls [(h, .inr (1, [.ref a])), (a, .inl (cJ, 12544, .inr (.inl (vp_updL f (b * 16 + i) (x)))))] H := hP
      have hD : va_D A [(h, .inr (1, [.ref a])), (a, .inl (cJ, 12544, .inr (.inl (vp_updL f (b * 16 + i) (x)))))] := hD
      exact q_vret hx hb hr hlk hK hP hD hS d_Im_setWord_31 (by unfold qv_setW qv_up; first | rw [if_pos (by omega)] | rw [if_neg (by omega)])
set_option maxHeartbeats 4000000 in
set_option maxRecDepth 100000 in
theorem c_Im_byteAt (l : Launch) (D : va_G) (cJ : ClassId) (h : Nat) (a : Nat) (f : Nat → Int64) (b : Nat) (i : Nat) (kb : b < 65536) (ki : i < 65536) : qMi l y_Im_byteAt b_Im_byteAt 4 (some .int) (rmL 1) D [(cJ, .long)] [.ref h, .int (nI b), .int (nI i)] [(h, .inr (1, [.ref a])), (a, .inl (cJ, 12544, .inr (.inl (f))))] [(h, .inr (1, [.ref a])), (a, .inl (cJ, 12544, .inr (.inl (f))))] (nI (qv_by f b i)) := by
  refine q_start (Qc := qZi D _ _ _) (by decide +kernel) (Nat.le_of_ble_eq_true rfl) ?_
  intro p e s m below meth c A hx hb hr hlk hml hown hts hK hP hD hS hA hN ls hl
  have hl : lv_has ls 4 [(0, .ref h), (1, .int (nI b)), (2, .int (nI i))] := hl
  have hP : va_P D cls [(h, .inr (1, [.ref a])), (a, .inl (cJ, 12544, .inr (.inl (f))))] s.heap := hP
  have hD : va_D A [(h, .inr (1, [.ref a])), (a, .inl (cJ, 12544, .inr (.inl (f))))] := hD
  refine lv_iload_n hx hb d_Im_byteAt_0 rfl (lv_at hl 1 rfl) ?_
  refine lv_bipush (v := nI 16) hx hb d_Im_byteAt_1 (by decide) ?_
  refine lv_imul hx hb d_Im_byteAt_3 ?_
  refine q_ti (y := nI (b * 16)) (pk_mul _ _) ?_
  refine lv_iload_n hx hb d_Im_byteAt_4 rfl (lv_at hl 2 rfl) ?_
  refine lv_iconst (v := nI 3) hx hb d_Im_byteAt_5 (by decide) ?_
  refine lv_ishr hx hb d_Im_byteAt_6 ?_
  refine q_ti (y := nI (i / 8)) (pk_shrN (by omega) _ 3 (by decide)) ?_
  refine lv_iadd hx hb d_Im_byteAt_7 ?_
  refine q_ti (y := nI (b * 16 + (i / 8))) (nI_add _ _) ?_
  refine lv_istore_n (lv' := [(3, .int (nI (b * 16 + (i / 8)))), (0, .ref h), (1, .int (nI b)), (2, .int (nI i))]) hx hb d_Im_byteAt_8 rfl hl (by decide) rfl (fun ls hl => ?_)
  refine lv_iload_n hx hb d_Im_byteAt_9 rfl (lv_at hl 0 rfl) ?_
  refine lv_if_lt (tgt := 43) hx hb d_Im_byteAt_10 (by decide) (fun c10 => ?_) (fun c10 => ?_)
  · exact absurd c10 (nI_pos (by omega))
  · refine lv_iload_n hx hb d_Im_byteAt_13 rfl (lv_at hl 0 rfl) ?_
    refine lv_aload_n hx hb d_Im_byteAt_14 rfl (lv_at hl 1 rfl) ?_
    refine va_get (D := D) (ci := 1) (v := .ref a) (C := R_Im) (T := F_Im) (N := 1) hx hb hts i_Im hown hK hP 0 rfl rfl 0 (by decide) (hts _ fl_Im_9) (fun _ h9 => h9) rfl d_Im_byteAt_15 ?_
    refine va_alen (v := nI 12544) hx hb hK hP 1 0 rfl rfl rfl d_Im_byteAt_18 ?_
    refine lv_icmp_ge (tgt := 43) hx hb d_Im_byteAt_19 (by decide) (fun c19 => ?_) (fun c19 => ?_)
    · have c19 : 12544 ≤ (b * 16 + (i / 8)) := (nI_leI (by omega) (by omega)).mp c19
      refine lv_iconst (v := nI 0) hx hb d_Im_byteAt_43 (by decide) ?_
      exact q_iret hx hb hr hlk hK hP hD hS d_Im_byteAt_44 (by unfold qv_by qv_word qv_wd; rw [if_neg (by omega), qb_0, Nat.zero_div, Nat.zero_mod]) (rfl)
    · have c19 : ¬ 12544 ≤ (b * 16 + (i / 8)) := fun h9 => c19 ((nI_leI (by omega) (by omega)).mpr h9)
      refine lv_aload_n hx hb d_Im_byteAt_22 rfl (lv_at hl 1 rfl) ?_
      refine va_get (D := D) (ci := 1) (v := .ref a) (C := R_Im) (T := F_Im) (N := 1) hx hb hts i_Im hown hK hP 0 rfl rfl 0 (by decide) (hts _ fl_Im_9) (fun _ h9 => h9) rfl d_Im_byteAt_23 ?_
      refine lv_iload_n hx hb d_Im_byteAt_26 rfl (lv_at hl 0 rfl) ?_
      refine va_lald hx hb hK hP 1 0 rfl rfl (vp_in_nI (by omega) (by decide)) d_Im_byteAt_27 ?_
      refine q_tl (y := f (b * 16 + (i / 8))) (by rw [nI_clamp (by omega)]) ?_
      refine lv_iload_n hx hb d_Im_byteAt_28 rfl (lv_at hl 3 rfl) ?_
      refine lv_bipush (v := nI 7) hx hb d_Im_byteAt_29 (by decide) ?_
      refine lv_iand hx hb d_Im_byteAt_31 ?_
      refine q_ti (y := nI (i % 8)) (pk_andN (by omega) 3 (by decide)) ?_
      refine lv_iconst (v := nI 3) hx hb d_Im_byteAt_32 (by decide) ?_
      refine lv_ishl hx hb d_Im_byteAt_33 ?_
      refine q_ti (y := nI ((i % 8) * 8)) (pk_shlN _ 3 (by decide) (by omega)) ?_
      refine lv_lushr (v := ((f (b * 16 + (i / 8))).toUInt64 >>> ((nI ((i % 8) * 8)).toInt64.toUInt64 &&& Int64.toUInt64 63)).toInt64) hx hb d_Im_byteAt_34 rfl ?_
      refine lv_l2i (v := (((f (b * 16 + (i / 8))).toUInt64 >>> ((nI ((i % 8) * 8)).toInt64.toUInt64 &&& Int64.toUInt64 63)).toInt64).toInt32) hx hb d_Im_byteAt_35 rfl ?_
      refine lv_sipush (v := nI 255) hx hb d_Im_byteAt_36 (by decide) ?_
      refine lv_iand hx hb d_Im_byteAt_39 ?_
      refine q_ti (y := nI (qv_by f b i)) (by rw [qb_get _ (show i % 8 * 8 < 64 by omega) (nI 255) (k := 8) (by decide) (by decide)]; unfold qv_by qv_word qv_wd; rw [if_pos (by omega), Nat.mul_comm (i % 8) 8]) ?_
      refine lv_goto (tgt := 44) hx hb d_Im_byteAt_40 (by decide) ?_
      exact q_iret hx hb hr hlk hK hP hD hS d_Im_byteAt_44 (rfl) (rfl)
set_option maxHeartbeats 4000000 in
set_option maxRecDepth 100000 in
theorem c_Im_setByte (l : Launch) (D : va_G) (cJ : ClassId) (h : Nat) (a : Nat) (f : Nat → Int64) (b : Nat) (i : Nat) (v : Nat) (kb : b < 65536) (ki : i < 65536) (kv : v < 65536) : qMv l y_Im_setByte b_Im_setByte 6 none (rmL 1) D [(cJ, .long)] [.ref h, .int (nI b), .int (nI i), .int (nI v)] [(h, .inr (1, [.ref a])), (a, .inl (cJ, 12544, .inr (.inl (f))))] [(h, .inr (1, [.ref a])), (a, .inl (cJ, 12544, .inr (.inl (qv_setB f b i v))))] := by
  refine q_start (Qc := qZv D _ _) (by decide +kernel) (Nat.le_of_ble_eq_true rfl) ?_
  intro p e s m below meth c A hx hb hr hlk hml hown hts hK hP hD hS hA hN ls hl
  have hl : lv_has ls 6 [(0, .ref h), (1, .int (nI b)), (2, .int (nI i)), (3, .int (nI v))] := hl
  have hP : va_P D cls [(h, .inr (1, [.ref a])), (a, .inl (cJ, 12544, .inr (.inl (f))))] s.heap := hP
  have hD : va_D A [(h, .inr (1, [.ref a])), (a, .inl (cJ, 12544, .inr (.inl (f))))] := hD
  refine lv_iload_n hx hb d_Im_setByte_0 rfl (lv_at hl 1 rfl) ?_
  refine lv_bipush (v := nI 16) hx hb d_Im_setByte_1 (by decide) ?_
  refine lv_imul hx hb d_Im_setByte_3 ?_
  refine q_ti (y := nI (b * 16)) (pk_mul _ _) ?_
  refine lv_iload_n hx hb d_Im_setByte_4 rfl (lv_at hl 2 rfl) ?_
  refine lv_iconst (v := nI 3) hx hb d_Im_setByte_5 (by decide) ?_
  refine lv_ishr hx hb d_Im_setByte_6 ?_
  refine q_ti (y := nI (i / 8)) (pk_shrN (by omega) _ 3 (by decide)) ?_
  refine lv_iadd hx hb d_Im_setByte_7 ?_
  refine q_ti (y := nI (b * 16 + (i / 8))) (nI_add _ _) ?_
  refine lv_istore (lv' := [(4, .int (nI (b * 16 + (i / 8)))), (0, .ref h), (1, .int (nI b)), (2, .int (nI i)), (3, .int (nI v))]) hx hb d_Im_setByte_8 hl (by decide) rfl (fun ls hl => ?_)
  refine lv_iload_n hx hb d_Im_setByte_10 rfl (lv_at hl 3 rfl) ?_
  refine lv_bipush (v := nI 7) hx hb d_Im_setByte_11 (by decide) ?_
  refine lv_iand hx hb d_Im_setByte_13 ?_
  refine q_ti (y := nI (i % 8)) (pk_andN (by omega) 3 (by decide)) ?_
  refine lv_iconst (v := nI 3) hx hb d_Im_setByte_14 (by decide) ?_
  refine lv_ishl hx hb d_Im_setByte_15 ?_
  refine q_ti (y := nI ((i % 8) * 8)) (pk_shlN _ 3 (by decide) (by omega)) ?_
  refine lv_istore (lv' := [(5, .int (nI ((i % 8) * 8))), (4, .int (nI (b * 16 + (i / 8)))), (0, .ref h), (1, .int (nI b)), (2, .int (nI i)), (3, .int (nI v))]) hx hb d_Im_setByte_16 hl (by decide) rfl (fun ls hl => ?_)
  refine lv_iload hx hb d_Im_setByte_18 (lv_at hl 1 rfl) ?_
  refine lv_if_lt (tgt := 68) hx hb d_Im_setByte_20 (by decide) (fun c20 => ?_) (fun c20 => ?_)
  · exact absurd c20 (nI_pos (by omega))
  · refine lv_iload hx hb d_Im_setByte_23 (lv_at hl 1 rfl) ?_
    refine lv_aload_n hx hb d_Im_setByte_25 rfl (lv_at hl 2 rfl) ?_
    refine va_get (D := D) (ci := 1) (v := .ref a) (C := R_Im) (T := F_Im) (N := 1) hx hb hts i_Im hown hK hP 0 rfl rfl 0 (by decide) (hts _ fl_Im_9) (fun _ h9 => h9) rfl d_Im_setByte_26 ?_
    refine va_alen (v := nI 12544) hx hb hK hP 1 0 rfl rfl rfl d_Im_setByte_29 ?_
    refine lv_icmp_ge (tgt := 68) hx hb d_Im_setByte_30 (by decide) (fun c30 => ?_) (fun c30 => ?_)
    · have c30 : 12544 ≤ (b * 16 + (i / 8)) := (nI_leI (by omega) (by omega)).mp c30
      exact q_vret hx hb hr hlk hK hP hD hS d_Im_setByte_68 (by unfold qv_setB qv_setW qv_up qv_word qv_wd; first | rw [if_pos (by omega), if_pos (by omega), Nat.mul_comm (i % 8) 8] | rw [if_neg (by omega)])
    · have c30 : ¬ 12544 ≤ (b * 16 + (i / 8)) := fun h9 => c30 ((nI_leI (by omega) (by omega)).mpr h9)
      refine lv_aload_n hx hb d_Im_setByte_33 rfl (lv_at hl 2 rfl) ?_
      refine va_get (D := D) (ci := 1) (v := .ref a) (C := R_Im) (T := F_Im) (N := 1) hx hb hts i_Im hown hK hP 0 rfl rfl 0 (by decide) (hts _ fl_Im_9) (fun _ h9 => h9) rfl d_Im_setByte_34 ?_
      refine lv_iload hx hb d_Im_setByte_37 (lv_at hl 1 rfl) ?_
      refine lv_aload_n hx hb d_Im_setByte_39 rfl (lv_at hl 2 rfl) ?_
      refine va_get (D := D) (ci := 1) (v := .ref a) (C := R_Im) (T := F_Im) (N := 1) hx hb hts i_Im hown hK hP 0 rfl rfl 0 (by decide) (hts _ fl_Im_9) (fun _ h9 => h9) rfl d_Im_setByte_40 ?_
      refine lv_iload hx hb d_Im_setByte_43 (lv_at hl 1 rfl) ?_
      refine va_lald hx hb hK hP 1 0 rfl rfl (vp_in_nI (by omega) (by decide)) d_Im_setByte_45 ?_
      refine q_tl (y := f (b * 16 + (i / 8))) (by rw [nI_clamp (by omega)]) ?_
      refine lv_ldc2 hx hb hown (hts _ kl_Im_15) d_Im_setByte_46 ?_
      refine lv_iload hx hb d_Im_setByte_49 (lv_at hl 0 rfl) ?_
      refine lv_lshl (v := 255 <<< ((nI ((i % 8) * 8)).toInt64 &&& 63)) hx hb d_Im_setByte_51 rfl ?_
      refine lv_ldc2 hx hb hown (hts _ kl_Im_17) d_Im_setByte_52 ?_
      refine lv_lxor hx hb d_Im_setByte_55 ?_
      refine lv_land hx hb d_Im_setByte_56 ?_
      refine lv_iload_n hx hb d_Im_setByte_57 rfl (lv_at hl 5 rfl) ?_
      refine lv_i2l (v := (nI v).toInt64) hx hb d_Im_setByte_58 rfl ?_
      refine lv_ldc2 hx hb hown (hts _ kl_Im_15) d_Im_setByte_59 ?_
      refine lv_land hx hb d_Im_setByte_62 ?_
      refine lv_iload hx hb d_Im_setByte_63 (lv_at hl 0 rfl) ?_
      refine lv_lshl (v := (((nI v).toInt64) &&& 255) <<< ((nI ((i % 8) * 8)).toInt64 &&& 63)) hx hb d_Im_setByte_65 rfl ?_
      refine lv_lor hx hb d_Im_setByte_66 ?_
      refine q_tl (y := lN (qb_put (qb_n (f (b * 16 + i / 8))) (i % 8 * 8) 8 (v % 2 ^ 8))) (qb_set8 _ (by omega) (by omega)) ?_
      refine va_last hx hb hK hP hD hS 1 0 rfl rfl (vp_in_nI (by omega) (by decide)) d_Im_setByte_67 (fun H locs hP hD hS => ?_)
      rw [nI_clamp (by omega)] at hP hD
      have hP : va_P D cls [(h, .inr (1, [.ref a])), (a, .inl (cJ, 12544, .inr (.inl (vp_updL f (b * 16 + (i / 8)) (lN (qb_put (qb_n (f (b * 16 + i / 8))) (i % 8 * 8) 8 (v % 2 ^ 8)))))))] H := hP
      have hD : va_D A [(h, .inr (1, [.ref a])), (a, .inl (cJ, 12544, .inr (.inl (vp_updL f (b * 16 + (i / 8)) (lN (qb_put (qb_n (f (b * 16 + i / 8))) (i % 8 * 8) 8 (v % 2 ^ 8)))))))] := hD
      exact q_vret hx hb hr hlk hK hP hD hS d_Im_setByte_68 (by unfold qv_setB qv_setW qv_up qv_word qv_wd; first | rw [if_pos (by omega), if_pos (by omega), Nat.mul_comm (i % 8) 8] | rw [if_neg (by omega)])
set_option maxHeartbeats 4000000 in
set_option maxRecDepth 100000 in
theorem c_Im_linkAt (l : Launch) (D : va_G) (cJ : ClassId) (h : Nat) (a : Nat) (f : Nat → Int64) (b : Nat) (i : Nat) (kb : b < 65536) (ki : i < 65536) : qMi l y_Im_linkAt b_Im_linkAt 3 (some .int) (rmL 2) D [(cJ, .long)] [.ref h, .int (nI b), .int (nI i)] [(h, .inr (1, [.ref a])), (a, .inl (cJ, 12544, .inr (.inl (f))))] [(h, .inr (1, [.ref a])), (a, .inl (cJ, 12544, .inr (.inl (f))))] (nI (qv_lk f b i)) := by
  refine q_start (Qc := qZi D _ _ _) (by decide +kernel) (Nat.le_of_ble_eq_true rfl) ?_
  intro p e s m below meth c A hx hb hr hlk hml hown hts hK hP hD hS hA hN ls hl
  have hl : lv_has ls 3 [(0, .ref h), (1, .int (nI b)), (2, .int (nI i))] := hl
  have hP : va_P D cls [(h, .inr (1, [.ref a])), (a, .inl (cJ, 12544, .inr (.inl (f))))] s.heap := hP
  have hD : va_D A [(h, .inr (1, [.ref a])), (a, .inl (cJ, 12544, .inr (.inl (f))))] := hD
  refine lv_aload_n hx hb d_Im_linkAt_0 rfl (lv_at hl 0 rfl) ?_
  refine lv_iload_n hx hb d_Im_linkAt_1 rfl (lv_at hl 1 rfl) ?_
  refine lv_iload_n hx hb d_Im_linkAt_2 rfl (lv_at hl 2 rfl) ?_
  refine lv_iconst (v := nI 2) hx hb d_Im_linkAt_3 (by decide) ?_
  refine lv_ishr hx hb d_Im_linkAt_4 ?_
  refine q_ti (y := nI (i / 4)) (pk_shrN (by omega) _ 2 (by decide)) ?_
  refine q_callVl (As := [.int (nI b), .int (nI (i / 4))]) (rest := []) (wsC := [(h, .inr (1, [.ref a])), (a, .inl (cJ, 12544, .inr (.inl (f))))]) (wsR := []) (wsC' := [(h, .inr (1, [.ref a])), (a, .inl (cJ, 12544, .inr (.inl (f))))]) (wsN := [(h, .inr (1, [.ref a])), (a, .inl (cJ, 12544, .inr (.inl (f))))]) (isT := [0]) (isC := [0, 1]) (isR := []) (isN := [0, 1]) (k := 2) (ci := 1) (C := R_Im) ⟨hx, hb, hml, hown, hts⟩ (c_Im_wordAt l D cJ h a f b (i / 4) (by omega) (by omega)) (tw_V ml_Im_19 im_Im_wordAt se_Im_wordAt in_Im cd_Im_wordAt) rfl ⟨by decide +kernel, Nat.le_of_ble_eq_true rfl, Nat.le_of_ble_eq_true rfl⟩ ⟨Nat.le_of_ble_eq_true rfl, Nat.le_of_ble_eq_true rfl⟩ hK hP hD hS hA hN rfl ⟨rfl, rfl, rfl, by decide, by decide, by decide, by decide⟩ rfl rfl rfl hl.1 rfl rfl (Nat.le_of_ble_eq_true rfl) d_Im_linkAt_5 (fun H locs hP hD hS => ?_)
  refine lv_iload_n hx hb d_Im_linkAt_8 rfl (lv_at hl 2 rfl) ?_
  refine lv_iconst (v := nI 3) hx hb d_Im_linkAt_9 (by decide) ?_
  refine lv_iand hx hb d_Im_linkAt_10 ?_
  refine q_ti (y := nI (i % 4)) (pk_andN (by omega) 2 (by decide)) ?_
  refine lv_iconst (v := nI 4) hx hb d_Im_linkAt_11 (by decide) ?_
  refine lv_ishl hx hb d_Im_linkAt_12 ?_
  refine q_ti (y := nI ((i % 4) * 16)) (pk_shlN _ 4 (by decide) (by omega)) ?_
  refine lv_lushr (v := ((qv_word f b (i / 4)).toUInt64 >>> ((nI ((i % 4) * 16)).toInt64.toUInt64 &&& Int64.toUInt64 63)).toInt64) hx hb d_Im_linkAt_13 rfl ?_
  refine lv_l2i (v := (((qv_word f b (i / 4)).toUInt64 >>> ((nI ((i % 4) * 16)).toInt64.toUInt64 &&& Int64.toUInt64 63)).toInt64).toInt32) hx hb d_Im_linkAt_14 rfl ?_
  refine lv_ldc hx hb hown (hts _ kc_Im_23) d_Im_linkAt_15 ?_
  refine q_ti (y := nI 65535) (by decide) ?_
  refine lv_iand hx hb d_Im_linkAt_17 ?_
  refine q_ti (y := nI (qv_lk f b i)) (by rw [qb_get _ (show i % 4 * 16 < 64 by omega) (nI 65535) (k := 16) (by decide) (by decide)]; unfold qv_lk; rw [Nat.mul_comm (i % 4) 16]) ?_
  exact q_iret hx hb hr hlk hK hP hD hS d_Im_linkAt_18 (rfl) (rfl)
set_option maxHeartbeats 4000000 in
set_option maxRecDepth 100000 in
theorem c_Im_setLink (l : Launch) (D : va_G) (cJ : ClassId) (h : Nat) (a : Nat) (f : Nat → Int64) (b : Nat) (i : Nat) (v : Nat) (kb : b < 65536) (ki : i < 65536) (kv : v < 65536) : qMv l y_Im_setLink b_Im_setLink 7 none (rmL 2) D [(cJ, .long)] [.ref h, .int (nI b), .int (nI i), .int (nI v)] [(h, .inr (1, [.ref a])), (a, .inl (cJ, 12544, .inr (.inl (f))))] [(h, .inr (1, [.ref a])), (a, .inl (cJ, 12544, .inr (.inl (qv_setL f b i v))))] := by
  refine q_start (Qc := qZv D _ _) (by decide +kernel) (Nat.le_of_ble_eq_true rfl) ?_
  intro p e s m below meth c A hx hb hr hlk hml hown hts hK hP hD hS hA hN ls hl
  have hl : lv_has ls 7 [(0, .ref h), (1, .int (nI b)), (2, .int (nI i)), (3, .int (nI v))] := hl
  have hP : va_P D cls [(h, .inr (1, [.ref a])), (a, .inl (cJ, 12544, .inr (.inl (f))))] s.heap := hP
  have hD : va_D A [(h, .inr (1, [.ref a])), (a, .inl (cJ, 12544, .inr (.inl (f))))] := hD
  refine lv_iload_n hx hb d_Im_setLink_0 rfl (lv_at hl 2 rfl) ?_
  refine lv_iconst (v := nI 3) hx hb d_Im_setLink_1 (by decide) ?_
  refine lv_iand hx hb d_Im_setLink_2 ?_
  refine q_ti (y := nI (i % 4)) (pk_andN (by omega) 2 (by decide)) ?_
  refine lv_iconst (v := nI 4) hx hb d_Im_setLink_3 (by decide) ?_
  refine lv_ishl hx hb d_Im_setLink_4 ?_
  refine q_ti (y := nI ((i % 4) * 16)) (pk_shlN _ 4 (by decide) (by omega)) ?_
  refine lv_istore (lv' := [(4, .int (nI ((i % 4) * 16))), (0, .ref h), (1, .int (nI b)), (2, .int (nI i)), (3, .int (nI v))]) hx hb d_Im_setLink_5 hl (by decide) rfl (fun ls hl => ?_)
  refine lv_aload_n hx hb d_Im_setLink_7 rfl (lv_at hl 1 rfl) ?_
  refine lv_iload_n hx hb d_Im_setLink_8 rfl (lv_at hl 2 rfl) ?_
  refine lv_iload_n hx hb d_Im_setLink_9 rfl (lv_at hl 3 rfl) ?_
  refine lv_iconst (v := nI 2) hx hb d_Im_setLink_10 (by decide) ?_
  refine lv_ishr hx hb d_Im_setLink_11 ?_
  refine q_ti (y := nI (i / 4)) (pk_shrN (by omega) _ 2 (by decide)) ?_
  refine q_callVl (As := [.int (nI b), .int (nI (i / 4))]) (rest := []) (wsC := [(h, .inr (1, [.ref a])), (a, .inl (cJ, 12544, .inr (.inl (f))))]) (wsR := []) (wsC' := [(h, .inr (1, [.ref a])), (a, .inl (cJ, 12544, .inr (.inl (f))))]) (wsN := [(h, .inr (1, [.ref a])), (a, .inl (cJ, 12544, .inr (.inl (f))))]) (isT := [0]) (isC := [0, 1]) (isR := []) (isN := [0, 1]) (k := 2) (ci := 1) (C := R_Im) ⟨hx, hb, hml, hown, hts⟩ (c_Im_wordAt l D cJ h a f b (i / 4) (by omega) (by omega)) (tw_V ml_Im_19 im_Im_wordAt se_Im_wordAt in_Im cd_Im_wordAt) rfl ⟨by decide +kernel, Nat.le_of_ble_eq_true rfl, Nat.le_of_ble_eq_true rfl⟩ ⟨Nat.le_of_ble_eq_true rfl, Nat.le_of_ble_eq_true rfl⟩ hK hP hD hS hA hN rfl ⟨rfl, rfl, rfl, by decide, by decide, by decide, by decide⟩ rfl rfl rfl hl.1 rfl rfl (Nat.le_of_ble_eq_true rfl) d_Im_setLink_12 (fun H locs hP hD hS => ?_)
  refine lv_ldc2 hx hb hown (hts _ kl_Im_24) d_Im_setLink_15 ?_
  refine lv_iload hx hb d_Im_setLink_18 (lv_at hl 0 rfl) ?_
  refine lv_lshl (v := 65535 <<< ((nI ((i % 4) * 16)).toInt64 &&& 63)) hx hb d_Im_setLink_20 rfl ?_
  refine lv_ldc2 hx hb hown (hts _ kl_Im_17) d_Im_setLink_21 ?_
  refine lv_lxor hx hb d_Im_setLink_24 ?_
  refine lv_land hx hb d_Im_setLink_25 ?_
  refine lv_lstore (lv' := [(5, .long ((qv_word f b (i / 4)) &&& ((65535 <<< ((nI ((i % 4) * 16)).toInt64 &&& 63)) ^^^ (-1)))), (4, .int (nI ((i % 4) * 16))), (0, .ref h), (1, .int (nI b)), (2, .int (nI i)), (3, .int (nI v))]) hx hb d_Im_setLink_26 hl (by decide) rfl (fun ls hl => ?_)
  refine lv_aload_n hx hb d_Im_setLink_28 rfl (lv_at hl 2 rfl) ?_
  refine lv_iload_n hx hb d_Im_setLink_29 rfl (lv_at hl 3 rfl) ?_
  refine lv_iload_n hx hb d_Im_setLink_30 rfl (lv_at hl 4 rfl) ?_
  refine lv_iconst (v := nI 2) hx hb d_Im_setLink_31 (by decide) ?_
  refine lv_ishr hx hb d_Im_setLink_32 ?_
  refine q_ti (y := nI (i / 4)) (pk_shrN (by omega) _ 2 (by decide)) ?_
  refine lv_lload hx hb d_Im_setLink_33 (lv_at hl 0 rfl) ?_
  refine lv_iload_n hx hb d_Im_setLink_35 rfl (lv_at hl 5 rfl) ?_
  refine lv_i2l (v := (nI v).toInt64) hx hb d_Im_setLink_36 rfl ?_
  refine lv_ldc2 hx hb hown (hts _ kl_Im_24) d_Im_setLink_37 ?_
  refine lv_land hx hb d_Im_setLink_40 ?_
  refine lv_iload hx hb d_Im_setLink_41 (lv_at hl 1 rfl) ?_
  refine lv_lshl (v := (((nI v).toInt64) &&& 65535) <<< ((nI ((i % 4) * 16)).toInt64 &&& 63)) hx hb d_Im_setLink_43 rfl ?_
  refine lv_lor hx hb d_Im_setLink_44 ?_
  refine q_tl (y := lN (qb_put (qb_n (qv_word f b (i / 4))) (i % 4 * 16) 16 (v % 2 ^ 16))) (qb_set16 _ (by omega) (by omega)) ?_
  refine q_callVv (As := [.int (nI b), .int (nI (i / 4)), .long (lN (qb_put (qb_n (qv_word f b (i / 4))) (i % 4 * 16) 16 (v % 2 ^ 16)))]) (rest := []) (wsC := [(h, .inr (1, [.ref a])), (a, .inl (cJ, 12544, .inr (.inl (f))))]) (wsR := []) (wsC' := [(h, .inr (1, [.ref a])), (a, .inl (cJ, 12544, .inr (.inl (qv_setW f b (i / 4) (lN (qb_put (qb_n (qv_word f b (i / 4))) (i % 4 * 16) 16 (v % 2 ^ 16)))))))]) (wsN := [(h, .inr (1, [.ref a])), (a, .inl (cJ, 12544, .inr (.inl (qv_setW f b (i / 4) (lN (qb_put (qb_n (qv_word f b (i / 4))) (i % 4 * 16) 16 (v % 2 ^ 16)))))))]) (isT := [0]) (isC := [0, 1]) (isR := []) (isN := [0, 1]) (k := 3) (ci := 1) (C := R_Im) ⟨hx, hb, hml, hown, hts⟩ (c_Im_setWord l D cJ h a f b (i / 4) (lN (qb_put (qb_n (qv_word f b (i / 4))) (i % 4 * 16) 16 (v % 2 ^ 16))) (by omega) (by omega)) (tw_V ml_Im_26 im_Im_setWord se_Im_setWord in_Im cd_Im_setWord) rfl ⟨by decide +kernel, Nat.le_of_ble_eq_true rfl, Nat.le_of_ble_eq_true rfl⟩ ⟨Nat.le_of_ble_eq_true rfl, Nat.le_of_ble_eq_true rfl⟩ hK hP hD hS hA hN rfl ⟨rfl, rfl, rfl, by decide, by decide, by decide, by decide⟩ rfl rfl rfl hl.1 rfl rfl (Nat.le_of_ble_eq_true rfl) d_Im_setLink_45 (fun H locs hP hD hS => ?_)
  exact q_vret hx hb hr hlk hK hP hD hS d_Im_setLink_48 (by unfold qv_setL; rw [Nat.mul_comm (i % 4) 16])
set_option maxHeartbeats 4000000 in
set_option maxRecDepth 100000 in
theorem c_Im_sizeAt (l : Launch) (D : va_G) (cJ : ClassId) (h : Nat) (a : Nat) (f : Nat → Int64) (b : Nat) (kb : b < 65536) : qMi l y_Im_sizeAt b_Im_sizeAt 2 (some .int) (rmL 2) D [(cJ, .long)] [.ref h, .int (nI b)] [(h, .inr (1, [.ref a])), (a, .inl (cJ, 12544, .inr (.inl (f))))] [(h, .inr (1, [.ref a])), (a, .inl (cJ, 12544, .inr (.inl (f))))] ((qv_sz f b).toInt32) := by
  refine q_start (Qc := qZi D _ _ _) (by decide +kernel) (Nat.le_of_ble_eq_true rfl) ?_
  intro p e s m below meth c A hx hb hr hlk hml hown hts hK hP hD hS hA hN ls hl
  have hl : lv_has ls 2 [(0, .ref h), (1, .int (nI b))] := hl
  have hP : va_P D cls [(h, .inr (1, [.ref a])), (a, .inl (cJ, 12544, .inr (.inl (f))))] s.heap := hP
  have hD : va_D A [(h, .inr (1, [.ref a])), (a, .inl (cJ, 12544, .inr (.inl (f))))] := hD
  refine lv_aload_n hx hb d_Im_sizeAt_0 rfl (lv_at hl 0 rfl) ?_
  refine lv_iload_n hx hb d_Im_sizeAt_1 rfl (lv_at hl 1 rfl) ?_
  refine lv_bipush (v := nI 15) hx hb d_Im_sizeAt_2 (by decide) ?_
  refine q_callVl (As := [.int (nI b), .int (nI 15)]) (rest := []) (wsC := [(h, .inr (1, [.ref a])), (a, .inl (cJ, 12544, .inr (.inl (f))))]) (wsR := []) (wsC' := [(h, .inr (1, [.ref a])), (a, .inl (cJ, 12544, .inr (.inl (f))))]) (wsN := [(h, .inr (1, [.ref a])), (a, .inl (cJ, 12544, .inr (.inl (f))))]) (isT := [0]) (isC := [0, 1]) (isR := []) (isN := [0, 1]) (k := 2) (ci := 1) (C := R_Im) ⟨hx, hb, hml, hown, hts⟩ (c_Im_wordAt l D cJ h a f b 15 (by omega) (by omega)) (tw_V ml_Im_19 im_Im_wordAt se_Im_wordAt in_Im cd_Im_wordAt) rfl ⟨by decide +kernel, Nat.le_of_ble_eq_true rfl, Nat.le_of_ble_eq_true rfl⟩ ⟨Nat.le_of_ble_eq_true rfl, Nat.le_of_ble_eq_true rfl⟩ hK hP hD hS hA hN rfl ⟨rfl, rfl, rfl, by decide, by decide, by decide, by decide⟩ rfl rfl rfl hl.1 rfl rfl (Nat.le_of_ble_eq_true rfl) d_Im_sizeAt_4 (fun H locs hP hD hS => ?_)
  refine lv_l2i (v := (qv_word f b 15).toInt32) hx hb d_Im_sizeAt_7 rfl ?_
  exact q_iret hx hb hr hlk hK hP hD hS d_Im_sizeAt_8 (rfl) (rfl)
set_option maxHeartbeats 4000000 in
set_option maxRecDepth 100000 in
theorem c_Im_addSize (l : Launch) (D : va_G) (cJ : ClassId) (h : Nat) (a : Nat) (f : Nat → Int64) (b : Nat) (x : Int32) (kb : b < 65536) : qMv l y_Im_addSize b_Im_addSize 3 none (rmL 2) D [(cJ, .long)] [.ref h, .int (nI b), .int (x)] [(h, .inr (1, [.ref a])), (a, .inl (cJ, 12544, .inr (.inl (f))))] [(h, .inr (1, [.ref a])), (a, .inl (cJ, 12544, .inr (.inl (qv_addS f b x.toInt64))))] := by
  refine q_start (Qc := qZv D _ _) (by decide +kernel) (Nat.le_of_ble_eq_true rfl) ?_
  intro p e s m below meth c A hx hb hr hlk hml hown hts hK hP hD hS hA hN ls hl
  have hl : lv_has ls 3 [(0, .ref h), (1, .int (nI b)), (2, .int (x))] := hl
  have hP : va_P D cls [(h, .inr (1, [.ref a])), (a, .inl (cJ, 12544, .inr (.inl (f))))] s.heap := hP
  have hD : va_D A [(h, .inr (1, [.ref a])), (a, .inl (cJ, 12544, .inr (.inl (f))))] := hD
  refine lv_aload_n hx hb d_Im_addSize_0 rfl (lv_at hl 0 rfl) ?_
  refine lv_iload_n hx hb d_Im_addSize_1 rfl (lv_at hl 1 rfl) ?_
  refine lv_bipush (v := nI 15) hx hb d_Im_addSize_2 (by decide) ?_
  refine lv_aload_n hx hb d_Im_addSize_4 rfl (lv_at hl 0 rfl) ?_
  refine lv_iload_n hx hb d_Im_addSize_5 rfl (lv_at hl 1 rfl) ?_
  refine lv_bipush (v := nI 15) hx hb d_Im_addSize_6 (by decide) ?_
  refine q_callVl (As := [.int (nI b), .int (nI 15)]) (rest := [.int (nI 15), .int (nI b), .ref h]) (wsC := [(h, .inr (1, [.ref a])), (a, .inl (cJ, 12544, .inr (.inl (f))))]) (wsR := []) (wsC' := [(h, .inr (1, [.ref a])), (a, .inl (cJ, 12544, .inr (.inl (f))))]) (wsN := [(h, .inr (1, [.ref a])), (a, .inl (cJ, 12544, .inr (.inl (f))))]) (isT := [0]) (isC := [0, 1]) (isR := []) (isN := [0, 1]) (k := 2) (ci := 1) (C := R_Im) ⟨hx, hb, hml, hown, hts⟩ (c_Im_wordAt l D cJ h a f b 15 (by omega) (by omega)) (tw_V ml_Im_19 im_Im_wordAt se_Im_wordAt in_Im cd_Im_wordAt) rfl ⟨by decide +kernel, Nat.le_of_ble_eq_true rfl, Nat.le_of_ble_eq_true rfl⟩ ⟨Nat.le_of_ble_eq_true rfl, Nat.le_of_ble_eq_true rfl⟩ hK hP hD hS hA hN rfl ⟨rfl, rfl, rfl, by decide, by decide, by decide, by decide⟩ rfl rfl rfl hl.1 rfl rfl (Nat.le_of_ble_eq_true rfl) d_Im_addSize_8 (fun H locs hP hD hS => ?_)
  refine lv_iload_n hx hb d_Im_addSize_11 rfl (lv_at hl 2 rfl) ?_
  refine lv_i2l (v := x.toInt64) hx hb d_Im_addSize_12 rfl ?_
  refine lv_ladd hx hb d_Im_addSize_13 ?_
  refine q_callVv (As := [.int (nI b), .int (nI 15), .long ((qv_word f b 15) + x.toInt64)]) (rest := []) (wsC := [(h, .inr (1, [.ref a])), (a, .inl (cJ, 12544, .inr (.inl (f))))]) (wsR := []) (wsC' := [(h, .inr (1, [.ref a])), (a, .inl (cJ, 12544, .inr (.inl (qv_setW f b 15 ((qv_word f b 15) + x.toInt64)))))]) (wsN := [(h, .inr (1, [.ref a])), (a, .inl (cJ, 12544, .inr (.inl (qv_setW f b 15 ((qv_word f b 15) + x.toInt64)))))]) (isT := [0]) (isC := [0, 1]) (isR := []) (isN := [0, 1]) (k := 3) (ci := 1) (C := R_Im) ⟨hx, hb, hml, hown, hts⟩ (c_Im_setWord l D cJ h a f b 15 ((qv_word f b 15) + x.toInt64) (by omega) (by omega)) (tw_V ml_Im_26 im_Im_setWord se_Im_setWord in_Im cd_Im_setWord) rfl ⟨by decide +kernel, Nat.le_of_ble_eq_true rfl, Nat.le_of_ble_eq_true rfl⟩ ⟨Nat.le_of_ble_eq_true rfl, Nat.le_of_ble_eq_true rfl⟩ hK hP hD hS hA hN rfl ⟨rfl, rfl, rfl, by decide, by decide, by decide, by decide⟩ rfl rfl rfl hl.1 rfl rfl (Nat.le_of_ble_eq_true rfl) d_Im_addSize_14 (fun H locs hP hD hS => ?_)
  exact q_vret hx hb hr hlk hK hP hD hS d_Im_addSize_17 (rfl)
set_option maxHeartbeats 4000000 in
set_option maxRecDepth 100000 in
theorem c_Im_blank (l : Launch) (D : va_G) (cJ : ClassId) (h : Nat) (a : Nat) (f : Nat → Int64) (b : Nat) (kb : b < 65536) : qMv l y_Im_blank b_Im_blank 3 none (rmL 2) D [(cJ, .long)] [.ref h, .int (nI b)] [(h, .inr (1, [.ref a])), (a, .inl (cJ, 12544, .inr (.inl (f))))] [(h, .inr (1, [.ref a])), (a, .inl (cJ, 12544, .inr (.inl (qv_blank f b))))] := by
  refine q_start (Qc := qZv D _ _) (by decide +kernel) (Nat.le_of_ble_eq_true rfl) ?_
  intro p e s m below meth c A hx hb hr hlk hml hown hts hK hP hD hS hA hN ls hl
  have hl : lv_has ls 3 [(0, .ref h), (1, .int (nI b))] := hl
  have hP : va_P D cls [(h, .inr (1, [.ref a])), (a, .inl (cJ, 12544, .inr (.inl (f))))] s.heap := hP
  have hD : va_D A [(h, .inr (1, [.ref a])), (a, .inl (cJ, 12544, .inr (.inl (f))))] := hD
  refine lv_iconst (v := nI 0) hx hb d_Im_blank_0 (by decide) ?_
  refine lv_istore_n (lv' := [(2, .int (nI 0)), (0, .ref h), (1, .int (nI b))]) hx hb d_Im_blank_1 rfl hl (by decide) rfl (fun ls hl => ?_)
  refine q_loop (pc := 2) (σ := Unit) (I := fun i x H locs ls => va_P D cls [(h, .inr (1, [.ref a])), (a, .inl (cJ, 12544, .inr (.inl (qv_for i (fun g i => qv_setW g b i 0) f))))] H ∧ va_D A [(h, .inr (1, [.ref a])), (a, .inl (cJ, 12544, .inr (.inl (qv_for i (fun g i => qv_setW g b i 0) f))))] ∧ va_S A s.heap H locs ∧ lv_has ls 3 [(0, .ref h), (1, .int (nI b)), (2, .int (nI i))]) (16) ?_ ?_ (0) (()) _ _ _ (by omega) ⟨hP, hD, hS, lv_sub hl [1, 2, 0] rfl⟩
  · intro x H locs ls hI
    obtain ⟨hP, hD, hS, hl⟩ := hI
    refine lv_iload_n hx hb d_Im_blank_2 rfl (lv_at hl 2 rfl) ?_
    refine lv_bipush (v := nI 16) hx hb d_Im_blank_3 (by decide) ?_
    refine lv_icmp_ge (tgt := 21) hx hb d_Im_blank_5 (by decide) (fun c5 => ?_) (fun c5 => ?_)
    · have c5 : 16 ≤ 16 := (nI_leI (by omega) (by omega)).mp c5
      exact q_vret hx hb hr hlk hK hP hD hS d_Im_blank_21 (rfl)
    · have c5 : ¬ 16 ≤ 16 := fun h9 => c5 ((nI_leI (by omega) (by omega)).mpr h9)
      exfalso; omega
  · intro i x H locs ls hi hI ih
    obtain ⟨hP, hD, hS, hl⟩ := hI
    refine lv_iload_n hx hb d_Im_blank_2 rfl (lv_at hl 2 rfl) ?_
    refine lv_bipush (v := nI 16) hx hb d_Im_blank_3 (by decide) ?_
    refine lv_icmp_ge (tgt := 21) hx hb d_Im_blank_5 (by decide) (fun c5 => ?_) (fun c5 => ?_)
    · have c5 : 16 ≤ i := (nI_leI (by omega) (by omega)).mp c5
      exfalso; omega
    · have c5 : ¬ 16 ≤ i := fun h9 => c5 ((nI_leI (by omega) (by omega)).mpr h9)
      refine lv_aload_n hx hb d_Im_blank_8 rfl (lv_at hl 0 rfl) ?_
      refine lv_iload_n hx hb d_Im_blank_9 rfl (lv_at hl 1 rfl) ?_
      refine lv_iload_n hx hb d_Im_blank_10 rfl (lv_at hl 2 rfl) ?_
      refine lv_lconst (v := 0) hx hb d_Im_blank_11 (by decide) ?_
      refine q_callVv (As := [.int (nI b), .int (nI i), .long (0)]) (rest := []) (wsC := [(h, .inr (1, [.ref a])), (a, .inl (cJ, 12544, .inr (.inl (qv_for i (fun g i => qv_setW g b i 0) f))))]) (wsR := []) (wsC' := [(h, .inr (1, [.ref a])), (a, .inl (cJ, 12544, .inr (.inl (qv_setW (qv_for i (fun g i => qv_setW g b i 0) f) b i 0))))]) (wsN := [(h, .inr (1, [.ref a])), (a, .inl (cJ, 12544, .inr (.inl (qv_setW (qv_for i (fun g i => qv_setW g b i 0) f) b i 0))))]) (isT := [0]) (isC := [0, 1]) (isR := []) (isN := [0, 1]) (k := 3) (ci := 1) (C := R_Im) ⟨hx, hb, hml, hown, hts⟩ (c_Im_setWord l D cJ h a (qv_for i (fun g i => qv_setW g b i 0) f) b i 0 (by omega) (by omega)) (tw_V ml_Im_26 im_Im_setWord se_Im_setWord in_Im cd_Im_setWord) rfl ⟨by decide +kernel, Nat.le_of_ble_eq_true rfl, Nat.le_of_ble_eq_true rfl⟩ ⟨Nat.le_of_ble_eq_true rfl, Nat.le_of_ble_eq_true rfl⟩ hK hP hD hS hA hN rfl ⟨rfl, rfl, rfl, by decide, by decide, by decide, by decide⟩ rfl rfl rfl hl.1 rfl rfl (Nat.le_of_ble_eq_true rfl) d_Im_blank_12 (fun H locs hP hD hS => ?_)
      refine lv_iinc (v := nI (i + 1)) (lv' := [(2, .int (nI (i + 1))), (0, .ref h), (1, .int (nI b))]) hx hb d_Im_blank_15 hl (k := 2) rfl (nI_1 _) (by decide) rfl (fun ls hl => ?_)
      refine lv_goto (tgt := 2) hx hb d_Im_blank_18 (by decide) ?_
      exact ih (()) _ _ _ ⟨hP, hD, hS, lv_sub hl [1, 2, 0] rfl⟩
set_option maxHeartbeats 4000000 in
set_option maxRecDepth 100000 in
theorem c_Im_duplicate (l : Launch) (D : va_G) (cJ : ClassId) (h : Nat) (a : Nat) (f : Nat → Int64) (u : Nat) (b : Nat) (ku : u < 65536) (kb : b < 65536) : qMv l y_Im_duplicate b_Im_duplicate 4 none (rmL 2) D [(cJ, .long)] [.ref h, .int (nI u), .int (nI b)] [(h, .inr (1, [.ref a])), (a, .inl (cJ, 12544, .inr (.inl (f))))] [(h, .inr (1, [.ref a])), (a, .inl (cJ, 12544, .inr (.inl (qv_dup f u b))))] := by
  refine q_start (Qc := qZv D _ _) (by decide +kernel) (Nat.le_of_ble_eq_true rfl) ?_
  intro p e s m below meth c A hx hb hr hlk hml hown hts hK hP hD hS hA hN ls hl
  have hl : lv_has ls 4 [(0, .ref h), (1, .int (nI u)), (2, .int (nI b))] := hl
  have hP : va_P D cls [(h, .inr (1, [.ref a])), (a, .inl (cJ, 12544, .inr (.inl (f))))] s.heap := hP
  have hD : va_D A [(h, .inr (1, [.ref a])), (a, .inl (cJ, 12544, .inr (.inl (f))))] := hD
  refine lv_iconst (v := nI 0) hx hb d_Im_duplicate_0 (by decide) ?_
  refine lv_istore_n (lv' := [(3, .int (nI 0)), (0, .ref h), (1, .int (nI u)), (2, .int (nI b))]) hx hb d_Im_duplicate_1 rfl hl (by decide) rfl (fun ls hl => ?_)
  refine q_loop (pc := 2) (σ := Unit) (I := fun i x H locs ls => va_P D cls [(h, .inr (1, [.ref a])), (a, .inl (cJ, 12544, .inr (.inl (qv_for i (fun g i => qv_setW g b i (qv_word g u i)) f))))] H ∧ va_D A [(h, .inr (1, [.ref a])), (a, .inl (cJ, 12544, .inr (.inl (qv_for i (fun g i => qv_setW g b i (qv_word g u i)) f))))] ∧ va_S A s.heap H locs ∧ lv_has ls 4 [(0, .ref h), (1, .int (nI u)), (2, .int (nI b)), (3, .int (nI i))]) (16) ?_ ?_ (0) (()) _ _ _ (by omega) ⟨hP, hD, hS, lv_sub hl [1, 2, 3, 0] rfl⟩
  · intro x H locs ls hI
    obtain ⟨hP, hD, hS, hl⟩ := hI
    refine lv_iload_n hx hb d_Im_duplicate_2 rfl (lv_at hl 3 rfl) ?_
    refine lv_bipush (v := nI 16) hx hb d_Im_duplicate_3 (by decide) ?_
    refine lv_icmp_ge (tgt := 26) hx hb d_Im_duplicate_5 (by decide) (fun c5 => ?_) (fun c5 => ?_)
    · have c5 : 16 ≤ 16 := (nI_leI (by omega) (by omega)).mp c5
      exact q_vret hx hb hr hlk hK hP hD hS d_Im_duplicate_26 (rfl)
    · have c5 : ¬ 16 ≤ 16 := fun h9 => c5 ((nI_leI (by omega) (by omega)).mpr h9)
      exfalso; omega
  · intro i x H locs ls hi hI ih
    obtain ⟨hP, hD, hS, hl⟩ := hI
    refine lv_iload_n hx hb d_Im_duplicate_2 rfl (lv_at hl 3 rfl) ?_
    refine lv_bipush (v := nI 16) hx hb d_Im_duplicate_3 (by decide) ?_
    refine lv_icmp_ge (tgt := 26) hx hb d_Im_duplicate_5 (by decide) (fun c5 => ?_) (fun c5 => ?_)
    · have c5 : 16 ≤ i := (nI_leI (by omega) (by omega)).mp c5
      exfalso; omega
    · have c5 : ¬ 16 ≤ i := fun h9 => c5 ((nI_leI (by omega) (by omega)).mpr h9)
      refine lv_aload_n hx hb d_Im_duplicate_8 rfl (lv_at hl 0 rfl) ?_
      refine lv_iload_n hx hb d_Im_duplicate_9 rfl (lv_at hl 2 rfl) ?_
      refine lv_iload_n hx hb d_Im_duplicate_10 rfl (lv_at hl 3 rfl) ?_
      refine lv_aload_n hx hb d_Im_duplicate_11 rfl (lv_at hl 0 rfl) ?_
      refine lv_iload_n hx hb d_Im_duplicate_12 rfl (lv_at hl 1 rfl) ?_
      refine lv_iload_n hx hb d_Im_duplicate_13 rfl (lv_at hl 3 rfl) ?_
      refine q_callVl (As := [.int (nI u), .int (nI i)]) (rest := [.int (nI i), .int (nI b), .ref h]) (wsC := [(h, .inr (1, [.ref a])), (a, .inl (cJ, 12544, .inr (.inl (qv_for i (fun g i => qv_setW g b i (qv_word g u i)) f))))]) (wsR := []) (wsC' := [(h, .inr (1, [.ref a])), (a, .inl (cJ, 12544, .inr (.inl ((qv_for i (fun g i => qv_setW g b i (qv_word g u i)) f)))))]) (wsN := [(h, .inr (1, [.ref a])), (a, .inl (cJ, 12544, .inr (.inl ((qv_for i (fun g i => qv_setW g b i (qv_word g u i)) f)))))]) (isT := [0]) (isC := [0, 1]) (isR := []) (isN := [0, 1]) (k := 2) (ci := 1) (C := R_Im) ⟨hx, hb, hml, hown, hts⟩ (c_Im_wordAt l D cJ h a (qv_for i (fun g i => qv_setW g b i (qv_word g u i)) f) u i (by omega) (by omega)) (tw_V ml_Im_19 im_Im_wordAt se_Im_wordAt in_Im cd_Im_wordAt) rfl ⟨by decide +kernel, Nat.le_of_ble_eq_true rfl, Nat.le_of_ble_eq_true rfl⟩ ⟨Nat.le_of_ble_eq_true rfl, Nat.le_of_ble_eq_true rfl⟩ hK hP hD hS hA hN rfl ⟨rfl, rfl, rfl, by decide, by decide, by decide, by decide⟩ rfl rfl rfl hl.1 rfl rfl (Nat.le_of_ble_eq_true rfl) d_Im_duplicate_14 (fun H locs hP hD hS => ?_)
      refine q_callVv (As := [.int (nI b), .int (nI i), .long (qv_word (qv_for i (fun g i => qv_setW g b i (qv_word g u i)) f) u i)]) (rest := []) (wsC := [(h, .inr (1, [.ref a])), (a, .inl (cJ, 12544, .inr (.inl ((qv_for i (fun g i => qv_setW g b i (qv_word g u i)) f)))))]) (wsR := []) (wsC' := [(h, .inr (1, [.ref a])), (a, .inl (cJ, 12544, .inr (.inl (qv_setW ((qv_for i (fun g i => qv_setW g b i (qv_word g u i)) f)) b i (qv_word (qv_for i (fun g i => qv_setW g b i (qv_word g u i)) f) u i)))))]) (wsN := [(h, .inr (1, [.ref a])), (a, .inl (cJ, 12544, .inr (.inl (qv_setW ((qv_for i (fun g i => qv_setW g b i (qv_word g u i)) f)) b i (qv_word (qv_for i (fun g i => qv_setW g b i (qv_word g u i)) f) u i)))))]) (isT := [0]) (isC := [0, 1]) (isR := []) (isN := [0, 1]) (k := 3) (ci := 1) (C := R_Im) ⟨hx, hb, hml, hown, hts⟩ (c_Im_setWord l D cJ h a (qv_for i (fun g i => qv_setW g b i (qv_word g u i)) f) b i (qv_word (qv_for i (fun g i => qv_setW g b i (qv_word g u i)) f) u i) (by omega) (by omega)) (tw_V ml_Im_26 im_Im_setWord se_Im_setWord in_Im cd_Im_setWord) rfl ⟨by decide +kernel, Nat.le_of_ble_eq_true rfl, Nat.le_of_ble_eq_true rfl⟩ ⟨Nat.le_of_ble_eq_true rfl, Nat.le_of_ble_eq_true rfl⟩ hK hP hD hS hA hN rfl ⟨rfl, rfl, rfl, by decide, by decide, by decide, by decide⟩ rfl rfl rfl hl.1 rfl rfl (Nat.le_of_ble_eq_true rfl) d_Im_duplicate_17 (fun H locs hP hD hS => ?_)
      refine lv_iinc (v := nI (i + 1)) (lv' := [(3, .int (nI (i + 1))), (0, .ref h), (1, .int (nI u)), (2, .int (nI b))]) hx hb d_Im_duplicate_20 hl (k := 3) rfl (nI_1 _) (by decide) rfl (fun ls hl => ?_)
      refine lv_goto (tgt := 2) hx hb d_Im_duplicate_23 (by decide) ?_
      exact ih (()) _ _ _ ⟨hP, hD, hS, lv_sub hl [1, 2, 3, 0] rfl⟩
set_option maxHeartbeats 4000000 in
set_option maxRecDepth 100000 in
theorem c_Im_receive0 (l : Launch) (D : va_G) (cJ : ClassId) (h : Nat) (a : Nat) (f : Nat → Int64) (h2 : Nat) (a2 : Nat) (g : Nat → Int64) (b : Nat) (kb : b < 65536) : qMv l y_Im_receive b_Im_receive 7 none (rmL 2) D [(cJ, .long)] [.ref h, .ref h2, .int (nI b), .int (nI 0)] [(h, .inr (1, [.ref a])), (a, .inl (cJ, 12544, .inr (.inl (f)))), (h2, .inr (1, [.ref a2])), (a2, .inl (cJ, 12544, .inr (.inl (g))))] [(h, .inr (1, [.ref a])), (a, .inl (cJ, 12544, .inr (.inl (qv_recv f g b 8 8)))), (h2, .inr (1, [.ref a2])), (a2, .inl (cJ, 12544, .inr (.inl (g))))] := by
  refine q_start (Qc := qZv D _ _) (by decide +kernel) (Nat.le_of_ble_eq_true rfl) ?_
  intro p e s m below meth c A hx hb hr hlk hml hown hts hK hP hD hS hA hN ls hl
  have hl : lv_has ls 7 [(0, .ref h), (1, .ref h2), (2, .int (nI b)), (3, .int (nI 0))] := hl
  have hP : va_P D cls [(h, .inr (1, [.ref a])), (a, .inl (cJ, 12544, .inr (.inl (f)))), (h2, .inr (1, [.ref a2])), (a2, .inl (cJ, 12544, .inr (.inl (g))))] s.heap := hP
  have hD : va_D A [(h, .inr (1, [.ref a])), (a, .inl (cJ, 12544, .inr (.inl (f)))), (h2, .inr (1, [.ref a2])), (a2, .inl (cJ, 12544, .inr (.inl (g))))] := hD
  refine lv_iload_n hx hb d_Im_receive_0 rfl (lv_at hl 3 rfl) ?_
  refine lv_iconst (v := nI 1) hx hb d_Im_receive_1 (by decide) ?_
  refine lv_icmp_eq (tgt := 10) hx hb d_Im_receive_2 (by decide) (fun c2 => ?_) (fun c2 => ?_)
  · have c2 : 0 = 1 := (nI_eq (by omega) (by omega)).mp c2
    exfalso; omega
  · have c2 : ¬ 0 = 1 := fun h9 => c2 ((nI_eq (by omega) (by omega)).mpr h9)
    refine lv_iload_n hx hb d_Im_receive_5 rfl (lv_at hl 3 rfl) ?_
    refine lv_iconst (v := nI 2) hx hb d_Im_receive_6 (by decide) ?_
    refine lv_icmp_ne (tgt := 14) hx hb d_Im_receive_7 (by decide) (fun c7 => ?_) (fun c7 => ?_)
    · have c7 : ¬ 0 = 2 := fun h9 => c7 ((nI_eq (by omega) (by omega)).mpr h9)
      refine lv_iconst (v := nI 0) hx hb d_Im_receive_14 (by decide) ?_
      refine lv_istore (lv' := [(4, .int (nI 0)), (0, .ref h), (1, .ref h2), (2, .int (nI b)), (3, .int (nI 0))]) hx hb d_Im_receive_15 hl (by decide) rfl (fun ls hl => ?_)
      refine lv_iload_n hx hb d_Im_receive_17 rfl (lv_at hl 4 rfl) ?_
      refine lv_iconst (v := nI 1) hx hb d_Im_receive_18 (by decide) ?_
      refine lv_icmp_eq (tgt := 27) hx hb d_Im_receive_19 (by decide) (fun c19 => ?_) (fun c19 => ?_)
      · have c19 : 0 = 1 := (nI_eq (by omega) (by omega)).mp c19
        exfalso; omega
      · have c19 : ¬ 0 = 1 := fun h9 => c19 ((nI_eq (by omega) (by omega)).mpr h9)
        refine lv_iload_n hx hb d_Im_receive_22 rfl (lv_at hl 4 rfl) ?_
        refine lv_iconst (v := nI 3) hx hb d_Im_receive_23 (by decide) ?_
        refine lv_icmp_ne (tgt := 31) hx hb d_Im_receive_24 (by decide) (fun c24 => ?_) (fun c24 => ?_)
        · have c24 : ¬ 0 = 3 := fun h9 => c24 ((nI_eq (by omega) (by omega)).mpr h9)
          refine lv_iconst (v := nI 0) hx hb d_Im_receive_31 (by decide) ?_
          refine lv_istore (lv' := [(5, .int (nI 0)), (4, .int (nI 0)), (0, .ref h), (1, .ref h2), (2, .int (nI b)), (3, .int (nI 0))]) hx hb d_Im_receive_32 hl (by decide) rfl (fun ls hl => ?_)
          refine lv_iload hx hb d_Im_receive_34 (lv_at hl 1 rfl) ?_
          refine lv_if_eq (tgt := 43) hx hb d_Im_receive_36 (by decide) (fun c36 => ?_) (fun c36 => ?_)
          · have c36 : 0 = 0 := (q_z_eq (by omega)).mp c36
            refine lv_bipush (v := nI 8) hx hb d_Im_receive_43 (by decide) ?_
            refine lv_istore (lv' := [(6, .int (nI 8)), (5, .int (nI 0)), (4, .int (nI 0)), (0, .ref h), (1, .ref h2), (2, .int (nI b)), (3, .int (nI 0))]) hx hb d_Im_receive_45 hl (by decide) rfl (fun ls hl => ?_)
            refine q_loop (pc := 47) (σ := Unit) (I := fun i x H locs ls => va_P D cls [(h, .inr (1, [.ref a])), (a, .inl (cJ, 12544, .inr (.inl (qv_for i (fun h9 i => qv_setW h9 b (8 + i) (qv_word g b (8 + i))) f)))), (h2, .inr (1, [.ref a2])), (a2, .inl (cJ, 12544, .inr (.inl (g))))] H ∧ va_D A [(h, .inr (1, [.ref a])), (a, .inl (cJ, 12544, .inr (.inl (qv_for i (fun h9 i => qv_setW h9 b (8 + i) (qv_word g b (8 + i))) f)))), (h2, .inr (1, [.ref a2])), (a2, .inl (cJ, 12544, .inr (.inl (g))))] ∧ va_S A s.heap H locs ∧ lv_has ls 7 [(0, .ref h), (1, .ref h2), (2, .int (nI b)), (4, .int (nI 0)), (5, .int (nI 0)), (6, .int (nI (8 + i)))]) (0) ?_ ?_ (0) (()) _ _ _ (by omega) ⟨hP, hD, hS, lv_sub hl [3, 4, 5, 2, 1, 0] rfl⟩
            · intro x H locs ls hI
              obtain ⟨hP, hD, hS, hl⟩ := hI
              refine lv_iload hx hb d_Im_receive_47 (lv_at hl 5 rfl) ?_
              refine lv_iload hx hb d_Im_receive_49 (lv_at hl 4 rfl) ?_
              refine lv_if_eq (tgt := 59) hx hb d_Im_receive_51 (by decide) (fun c51 => ?_) (fun c51 => ?_)
              · have c51 : 0 = 0 := (q_z_eq (by omega)).mp c51
                refine lv_bipush (v := nI 8) hx hb d_Im_receive_59 (by decide) ?_
                refine lv_icmp_ge (tgt := 84) hx hb d_Im_receive_61 (by decide) (fun c61 => ?_) (fun c61 => ?_)
                · have c61 : 8 ≤ (8 + 0) := (nI_leI (by omega) (by omega)).mp c61
                  exact q_vret hx hb hr hlk hK hP hD hS d_Im_receive_84 (rfl)
                · have c61 : ¬ 8 ≤ (8 + 0) := fun h9 => c61 ((nI_leI (by omega) (by omega)).mpr h9)
                  exfalso; omega
              · have c51 : ¬ 0 = 0 := fun h9 => c51 ((q_z_eq (by omega)).mpr h9)
                exfalso; omega
            · intro i x H locs ls hi hI ih
              obtain ⟨hP, hD, hS, hl⟩ := hI
              refine lv_iload hx hb d_Im_receive_47 (lv_at hl 5 rfl) ?_
              refine lv_iload hx hb d_Im_receive_49 (lv_at hl 4 rfl) ?_
              refine lv_if_eq (tgt := 59) hx hb d_Im_receive_51 (by decide) (fun c51 => ?_) (fun c51 => ?_)
              · have c51 : 0 = 0 := (q_z_eq (by omega)).mp c51
                refine lv_bipush (v := nI 8) hx hb d_Im_receive_59 (by decide) ?_
                refine lv_icmp_ge (tgt := 84) hx hb d_Im_receive_61 (by decide) (fun c61 => ?_) (fun c61 => ?_)
                · have c61 : 8 ≤ (8 + i) := (nI_leI (by omega) (by omega)).mp c61
                  exfalso; omega
                · have c61 : ¬ 8 ≤ (8 + i) := fun h9 => c61 ((nI_leI (by omega) (by omega)).mpr h9)
                  refine lv_aload_n hx hb d_Im_receive_64 rfl (lv_at hl 0 rfl) ?_
                  refine lv_iload_n hx hb d_Im_receive_65 rfl (lv_at hl 2 rfl) ?_
                  refine lv_iload hx hb d_Im_receive_66 (lv_at hl 5 rfl) ?_
                  refine lv_aload_n hx hb d_Im_receive_68 rfl (lv_at hl 1 rfl) ?_
                  refine lv_iload_n hx hb d_Im_receive_69 rfl (lv_at hl 2 rfl) ?_
                  refine lv_iload hx hb d_Im_receive_70 (lv_at hl 5 rfl) ?_
                  refine q_callVl (As := [.int (nI b), .int (nI (8 + i))]) (rest := [.int (nI (8 + i)), .int (nI b), .ref h]) (wsC := [(h2, .inr (1, [.ref a2])), (a2, .inl (cJ, 12544, .inr (.inl (g))))]) (wsR := [(h, .inr (1, [.ref a])), (a, .inl (cJ, 12544, .inr (.inl (qv_for i (fun h9 i => qv_setW h9 b (8 + i) (qv_word g b (8 + i))) f))))]) (wsC' := [(h2, .inr (1, [.ref a2])), (a2, .inl (cJ, 12544, .inr (.inl (g))))]) (wsN := [(h, .inr (1, [.ref a])), (a, .inl (cJ, 12544, .inr (.inl (qv_for i (fun h9 i => qv_setW h9 b (8 + i) (qv_word g b (8 + i))) f)))), (h2, .inr (1, [.ref a2])), (a2, .inl (cJ, 12544, .inr (.inl (g))))]) (isT := [0]) (isC := [2, 3]) (isR := [0, 1]) (isN := [0, 1, 2, 3]) (k := 2) (ci := 1) (C := R_Im) ⟨hx, hb, hml, hown, hts⟩ (c_Im_wordAt l D cJ h2 a2 g b (8 + i) (by omega) (by omega)) (tw_V ml_Im_19 im_Im_wordAt se_Im_wordAt in_Im cd_Im_wordAt) rfl ⟨by decide +kernel, Nat.le_of_ble_eq_true rfl, Nat.le_of_ble_eq_true rfl⟩ ⟨Nat.le_of_ble_eq_true rfl, Nat.le_of_ble_eq_true rfl⟩ hK hP hD hS hA hN rfl ⟨rfl, rfl, rfl, by decide, by decide, by decide, by decide⟩ rfl rfl rfl hl.1 rfl rfl (Nat.le_of_ble_eq_true rfl) d_Im_receive_72 (fun H locs hP hD hS => ?_)
                  refine q_callVv (As := [.int (nI b), .int (nI (8 + i)), .long (qv_word g b (8 + i))]) (rest := []) (wsC := [(h, .inr (1, [.ref a])), (a, .inl (cJ, 12544, .inr (.inl (qv_for i (fun h9 i => qv_setW h9 b (8 + i) (qv_word g b (8 + i))) f))))]) (wsR := [(h2, .inr (1, [.ref a2])), (a2, .inl (cJ, 12544, .inr (.inl (g))))]) (wsC' := [(h, .inr (1, [.ref a])), (a, .inl (cJ, 12544, .inr (.inl (qv_setW (qv_for i (fun h9 i => qv_setW h9 b (8 + i) (qv_word g b (8 + i))) f) b (8 + i) (qv_word g b (8 + i))))))]) (wsN := [(h, .inr (1, [.ref a])), (a, .inl (cJ, 12544, .inr (.inl (qv_setW (qv_for i (fun h9 i => qv_setW h9 b (8 + i) (qv_word g b (8 + i))) f) b (8 + i) (qv_word g b (8 + i)))))), (h2, .inr (1, [.ref a2])), (a2, .inl (cJ, 12544, .inr (.inl (g))))]) (isT := [0]) (isC := [0, 1]) (isR := [2, 3]) (isN := [2, 3, 0, 1]) (k := 3) (ci := 1) (C := R_Im) ⟨hx, hb, hml, hown, hts⟩ (c_Im_setWord l D cJ h a (qv_for i (fun h9 i => qv_setW h9 b (8 + i) (qv_word g b (8 + i))) f) b (8 + i) (qv_word g b (8 + i)) (by omega) (by omega)) (tw_V ml_Im_26 im_Im_setWord se_Im_setWord in_Im cd_Im_setWord) rfl ⟨by decide +kernel, Nat.le_of_ble_eq_true rfl, Nat.le_of_ble_eq_true rfl⟩ ⟨Nat.le_of_ble_eq_true rfl, Nat.le_of_ble_eq_true rfl⟩ hK hP hD hS hA hN rfl ⟨rfl, rfl, rfl, by decide, by decide, by decide, by decide⟩ rfl rfl rfl hl.1 rfl rfl (Nat.le_of_ble_eq_true rfl) d_Im_receive_75 (fun H locs hP hD hS => ?_)
                  refine lv_iinc (v := nI (8 + i + 1)) (lv' := [(6, .int (nI (8 + i + 1))), (0, .ref h), (1, .ref h2), (2, .int (nI b)), (4, .int (nI 0)), (5, .int (nI 0))]) hx hb d_Im_receive_78 hl (k := 5) rfl (nI_1 _) (by decide) rfl (fun ls hl => ?_)
                  refine lv_goto (tgt := 47) hx hb d_Im_receive_81 (by decide) ?_
                  exact ih (()) _ _ _ ⟨hP, hD, hS, lv_sub hl [1, 2, 3, 4, 5, 0] rfl⟩
              · have c51 : ¬ 0 = 0 := fun h9 => c51 ((q_z_eq (by omega)).mpr h9)
                exfalso; omega
          · have c36 : ¬ 0 = 0 := fun h9 => c36 ((q_z_eq (by omega)).mpr h9)
            exfalso; omega
        · have c24 : 0 = 3 := (nI_eq (by omega) (by omega)).mp c24
          exfalso; omega
    · have c7 : 0 = 2 := (nI_eq (by omega) (by omega)).mp c7
      exfalso; omega
set_option maxHeartbeats 4000000 in
set_option maxRecDepth 100000 in
theorem c_Im_receive1 (l : Launch) (D : va_G) (cJ : ClassId) (h : Nat) (a : Nat) (f : Nat → Int64) (h2 : Nat) (a2 : Nat) (g : Nat → Int64) (b : Nat) (kb : b < 65536) : qMv l y_Im_receive b_Im_receive 7 none (rmL 2) D [(cJ, .long)] [.ref h, .ref h2, .int (nI b), .int (nI 1)] [(h, .inr (1, [.ref a])), (a, .inl (cJ, 12544, .inr (.inl (f)))), (h2, .inr (1, [.ref a2])), (a2, .inl (cJ, 12544, .inr (.inl (g))))] [(h, .inr (1, [.ref a])), (a, .inl (cJ, 12544, .inr (.inl (qv_recv f g b 0 16)))), (h2, .inr (1, [.ref a2])), (a2, .inl (cJ, 12544, .inr (.inl (g))))] := by
  refine q_start (Qc := qZv D _ _) (by decide +kernel) (Nat.le_of_ble_eq_true rfl) ?_
  intro p e s m below meth c A hx hb hr hlk hml hown hts hK hP hD hS hA hN ls hl
  have hl : lv_has ls 7 [(0, .ref h), (1, .ref h2), (2, .int (nI b)), (3, .int (nI 1))] := hl
  have hP : va_P D cls [(h, .inr (1, [.ref a])), (a, .inl (cJ, 12544, .inr (.inl (f)))), (h2, .inr (1, [.ref a2])), (a2, .inl (cJ, 12544, .inr (.inl (g))))] s.heap := hP
  have hD : va_D A [(h, .inr (1, [.ref a])), (a, .inl (cJ, 12544, .inr (.inl (f)))), (h2, .inr (1, [.ref a2])), (a2, .inl (cJ, 12544, .inr (.inl (g))))] := hD
  refine lv_iload_n hx hb d_Im_receive_0 rfl (lv_at hl 3 rfl) ?_
  refine lv_iconst (v := nI 1) hx hb d_Im_receive_1 (by decide) ?_
  refine lv_icmp_eq (tgt := 10) hx hb d_Im_receive_2 (by decide) (fun c2 => ?_) (fun c2 => ?_)
  · have c2 : 1 = 1 := (nI_eq (by omega) (by omega)).mp c2
    refine lv_iconst (v := nI 1) hx hb d_Im_receive_10 (by decide) ?_
    refine lv_goto (tgt := 15) hx hb d_Im_receive_11 (by decide) ?_
    refine lv_istore (lv' := [(4, .int (nI 1)), (0, .ref h), (1, .ref h2), (2, .int (nI b)), (3, .int (nI 1))]) hx hb d_Im_receive_15 hl (by decide) rfl (fun ls hl => ?_)
    refine lv_iload_n hx hb d_Im_receive_17 rfl (lv_at hl 4 rfl) ?_
    refine lv_iconst (v := nI 1) hx hb d_Im_receive_18 (by decide) ?_
    refine lv_icmp_eq (tgt := 27) hx hb d_Im_receive_19 (by decide) (fun c19 => ?_) (fun c19 => ?_)
    · have c19 : 1 = 1 := (nI_eq (by omega) (by omega)).mp c19
      refine lv_iconst (v := nI 1) hx hb d_Im_receive_27 (by decide) ?_
      refine lv_goto (tgt := 32) hx hb d_Im_receive_28 (by decide) ?_
      refine lv_istore (lv' := [(5, .int (nI 1)), (4, .int (nI 1)), (0, .ref h), (1, .ref h2), (2, .int (nI b)), (3, .int (nI 1))]) hx hb d_Im_receive_32 hl (by decide) rfl (fun ls hl => ?_)
      refine lv_iload hx hb d_Im_receive_34 (lv_at hl 1 rfl) ?_
      refine lv_if_eq (tgt := 43) hx hb d_Im_receive_36 (by decide) (fun c36 => ?_) (fun c36 => ?_)
      · have c36 : 1 = 0 := (q_z_eq (by omega)).mp c36
        exfalso; omega
      · have c36 : ¬ 1 = 0 := fun h9 => c36 ((q_z_eq (by omega)).mpr h9)
        refine lv_iconst (v := nI 0) hx hb d_Im_receive_39 (by decide) ?_
        refine lv_goto (tgt := 45) hx hb d_Im_receive_40 (by decide) ?_
        refine lv_istore (lv' := [(6, .int (nI 0)), (5, .int (nI 1)), (4, .int (nI 1)), (0, .ref h), (1, .ref h2), (2, .int (nI b)), (3, .int (nI 1))]) hx hb d_Im_receive_45 hl (by decide) rfl (fun ls hl => ?_)
        refine q_loop (pc := 47) (σ := Unit) (I := fun i x H locs ls => va_P D cls [(h, .inr (1, [.ref a])), (a, .inl (cJ, 12544, .inr (.inl (qv_for i (fun h9 i => qv_setW h9 b (0 + i) (qv_word g b (0 + i))) f)))), (h2, .inr (1, [.ref a2])), (a2, .inl (cJ, 12544, .inr (.inl (g))))] H ∧ va_D A [(h, .inr (1, [.ref a])), (a, .inl (cJ, 12544, .inr (.inl (qv_for i (fun h9 i => qv_setW h9 b (0 + i) (qv_word g b (0 + i))) f)))), (h2, .inr (1, [.ref a2])), (a2, .inl (cJ, 12544, .inr (.inl (g))))] ∧ va_S A s.heap H locs ∧ lv_has ls 7 [(0, .ref h), (1, .ref h2), (2, .int (nI b)), (4, .int (nI 1)), (5, .int (nI 1)), (6, .int (nI (0 + i)))]) (16) ?_ ?_ (0) (()) _ _ _ (by omega) ⟨hP, hD, hS, lv_sub hl [3, 4, 5, 2, 1, 0] rfl⟩
        · intro x H locs ls hI
          obtain ⟨hP, hD, hS, hl⟩ := hI
          refine lv_iload hx hb d_Im_receive_47 (lv_at hl 5 rfl) ?_
          refine lv_iload hx hb d_Im_receive_49 (lv_at hl 4 rfl) ?_
          refine lv_if_eq (tgt := 59) hx hb d_Im_receive_51 (by decide) (fun c51 => ?_) (fun c51 => ?_)
          · have c51 : 1 = 0 := (q_z_eq (by omega)).mp c51
            exfalso; omega
          · have c51 : ¬ 1 = 0 := fun h9 => c51 ((q_z_eq (by omega)).mpr h9)
            refine lv_bipush (v := nI 16) hx hb d_Im_receive_54 (by decide) ?_
            refine lv_goto (tgt := 61) hx hb d_Im_receive_56 (by decide) ?_
            refine lv_icmp_ge (tgt := 84) hx hb d_Im_receive_61 (by decide) (fun c61 => ?_) (fun c61 => ?_)
            · have c61 : 16 ≤ (0 + 16) := (nI_leI (by omega) (by omega)).mp c61
              exact q_vret hx hb hr hlk hK hP hD hS d_Im_receive_84 (rfl)
            · have c61 : ¬ 16 ≤ (0 + 16) := fun h9 => c61 ((nI_leI (by omega) (by omega)).mpr h9)
              exfalso; omega
        · intro i x H locs ls hi hI ih
          obtain ⟨hP, hD, hS, hl⟩ := hI
          refine lv_iload hx hb d_Im_receive_47 (lv_at hl 5 rfl) ?_
          refine lv_iload hx hb d_Im_receive_49 (lv_at hl 4 rfl) ?_
          refine lv_if_eq (tgt := 59) hx hb d_Im_receive_51 (by decide) (fun c51 => ?_) (fun c51 => ?_)
          · have c51 : 1 = 0 := (q_z_eq (by omega)).mp c51
            exfalso; omega
          · have c51 : ¬ 1 = 0 := fun h9 => c51 ((q_z_eq (by omega)).mpr h9)
            refine lv_bipush (v := nI 16) hx hb d_Im_receive_54 (by decide) ?_
            refine lv_goto (tgt := 61) hx hb d_Im_receive_56 (by decide) ?_
            refine lv_icmp_ge (tgt := 84) hx hb d_Im_receive_61 (by decide) (fun c61 => ?_) (fun c61 => ?_)
            · have c61 : 16 ≤ (0 + i) := (nI_leI (by omega) (by omega)).mp c61
              exfalso; omega
            · have c61 : ¬ 16 ≤ (0 + i) := fun h9 => c61 ((nI_leI (by omega) (by omega)).mpr h9)
              refine lv_aload_n hx hb d_Im_receive_64 rfl (lv_at hl 0 rfl) ?_
              refine lv_iload_n hx hb d_Im_receive_65 rfl (lv_at hl 2 rfl) ?_
              refine lv_iload hx hb d_Im_receive_66 (lv_at hl 5 rfl) ?_
              refine lv_aload_n hx hb d_Im_receive_68 rfl (lv_at hl 1 rfl) ?_
              refine lv_iload_n hx hb d_Im_receive_69 rfl (lv_at hl 2 rfl) ?_
              refine lv_iload hx hb d_Im_receive_70 (lv_at hl 5 rfl) ?_
              refine q_callVl (As := [.int (nI b), .int (nI (0 + i))]) (rest := [.int (nI (0 + i)), .int (nI b), .ref h]) (wsC := [(h2, .inr (1, [.ref a2])), (a2, .inl (cJ, 12544, .inr (.inl (g))))]) (wsR := [(h, .inr (1, [.ref a])), (a, .inl (cJ, 12544, .inr (.inl (qv_for i (fun h9 i => qv_setW h9 b (0 + i) (qv_word g b (0 + i))) f))))]) (wsC' := [(h2, .inr (1, [.ref a2])), (a2, .inl (cJ, 12544, .inr (.inl (g))))]) (wsN := [(h, .inr (1, [.ref a])), (a, .inl (cJ, 12544, .inr (.inl (qv_for i (fun h9 i => qv_setW h9 b (0 + i) (qv_word g b (0 + i))) f)))), (h2, .inr (1, [.ref a2])), (a2, .inl (cJ, 12544, .inr (.inl (g))))]) (isT := [0]) (isC := [2, 3]) (isR := [0, 1]) (isN := [0, 1, 2, 3]) (k := 2) (ci := 1) (C := R_Im) ⟨hx, hb, hml, hown, hts⟩ (c_Im_wordAt l D cJ h2 a2 g b (0 + i) (by omega) (by omega)) (tw_V ml_Im_19 im_Im_wordAt se_Im_wordAt in_Im cd_Im_wordAt) rfl ⟨by decide +kernel, Nat.le_of_ble_eq_true rfl, Nat.le_of_ble_eq_true rfl⟩ ⟨Nat.le_of_ble_eq_true rfl, Nat.le_of_ble_eq_true rfl⟩ hK hP hD hS hA hN rfl ⟨rfl, rfl, rfl, by decide, by decide, by decide, by decide⟩ rfl rfl rfl hl.1 rfl rfl (Nat.le_of_ble_eq_true rfl) d_Im_receive_72 (fun H locs hP hD hS => ?_)
              refine q_callVv (As := [.int (nI b), .int (nI (0 + i)), .long (qv_word g b (0 + i))]) (rest := []) (wsC := [(h, .inr (1, [.ref a])), (a, .inl (cJ, 12544, .inr (.inl (qv_for i (fun h9 i => qv_setW h9 b (0 + i) (qv_word g b (0 + i))) f))))]) (wsR := [(h2, .inr (1, [.ref a2])), (a2, .inl (cJ, 12544, .inr (.inl (g))))]) (wsC' := [(h, .inr (1, [.ref a])), (a, .inl (cJ, 12544, .inr (.inl (qv_setW (qv_for i (fun h9 i => qv_setW h9 b (0 + i) (qv_word g b (0 + i))) f) b (0 + i) (qv_word g b (0 + i))))))]) (wsN := [(h, .inr (1, [.ref a])), (a, .inl (cJ, 12544, .inr (.inl (qv_setW (qv_for i (fun h9 i => qv_setW h9 b (0 + i) (qv_word g b (0 + i))) f) b (0 + i) (qv_word g b (0 + i)))))), (h2, .inr (1, [.ref a2])), (a2, .inl (cJ, 12544, .inr (.inl (g))))]) (isT := [0]) (isC := [0, 1]) (isR := [2, 3]) (isN := [2, 3, 0, 1]) (k := 3) (ci := 1) (C := R_Im) ⟨hx, hb, hml, hown, hts⟩ (c_Im_setWord l D cJ h a (qv_for i (fun h9 i => qv_setW h9 b (0 + i) (qv_word g b (0 + i))) f) b (0 + i) (qv_word g b (0 + i)) (by omega) (by omega)) (tw_V ml_Im_26 im_Im_setWord se_Im_setWord in_Im cd_Im_setWord) rfl ⟨by decide +kernel, Nat.le_of_ble_eq_true rfl, Nat.le_of_ble_eq_true rfl⟩ ⟨Nat.le_of_ble_eq_true rfl, Nat.le_of_ble_eq_true rfl⟩ hK hP hD hS hA hN rfl ⟨rfl, rfl, rfl, by decide, by decide, by decide, by decide⟩ rfl rfl rfl hl.1 rfl rfl (Nat.le_of_ble_eq_true rfl) d_Im_receive_75 (fun H locs hP hD hS => ?_)
              refine lv_iinc (v := nI (0 + i + 1)) (lv' := [(6, .int (nI (0 + i + 1))), (0, .ref h), (1, .ref h2), (2, .int (nI b)), (4, .int (nI 1)), (5, .int (nI 1))]) hx hb d_Im_receive_78 hl (k := 5) rfl (nI_1 _) (by decide) rfl (fun ls hl => ?_)
              refine lv_goto (tgt := 47) hx hb d_Im_receive_81 (by decide) ?_
              exact ih (()) _ _ _ ⟨hP, hD, hS, lv_sub hl [1, 2, 3, 4, 5, 0] rfl⟩
    · have c19 : ¬ 1 = 1 := fun h9 => c19 ((nI_eq (by omega) (by omega)).mpr h9)
      exfalso; omega
  · have c2 : ¬ 1 = 1 := fun h9 => c2 ((nI_eq (by omega) (by omega)).mpr h9)
    exfalso; omega
set_option maxHeartbeats 4000000 in
set_option maxRecDepth 100000 in
theorem c_Im_receive2 (l : Launch) (D : va_G) (cJ : ClassId) (h : Nat) (a : Nat) (f : Nat → Int64) (h2 : Nat) (a2 : Nat) (g : Nat → Int64) (b : Nat) (kb : b < 65536) : qMv l y_Im_receive b_Im_receive 7 none (rmL 2) D [(cJ, .long)] [.ref h, .ref h2, .int (nI b), .int (nI 2)] [(h, .inr (1, [.ref a])), (a, .inl (cJ, 12544, .inr (.inl (f)))), (h2, .inr (1, [.ref a2])), (a2, .inl (cJ, 12544, .inr (.inl (g))))] [(h, .inr (1, [.ref a])), (a, .inl (cJ, 12544, .inr (.inl (qv_recv f g b 0 8)))), (h2, .inr (1, [.ref a2])), (a2, .inl (cJ, 12544, .inr (.inl (g))))] := by
  refine q_start (Qc := qZv D _ _) (by decide +kernel) (Nat.le_of_ble_eq_true rfl) ?_
  intro p e s m below meth c A hx hb hr hlk hml hown hts hK hP hD hS hA hN ls hl
  have hl : lv_has ls 7 [(0, .ref h), (1, .ref h2), (2, .int (nI b)), (3, .int (nI 2))] := hl
  have hP : va_P D cls [(h, .inr (1, [.ref a])), (a, .inl (cJ, 12544, .inr (.inl (f)))), (h2, .inr (1, [.ref a2])), (a2, .inl (cJ, 12544, .inr (.inl (g))))] s.heap := hP
  have hD : va_D A [(h, .inr (1, [.ref a])), (a, .inl (cJ, 12544, .inr (.inl (f)))), (h2, .inr (1, [.ref a2])), (a2, .inl (cJ, 12544, .inr (.inl (g))))] := hD
  refine lv_iload_n hx hb d_Im_receive_0 rfl (lv_at hl 3 rfl) ?_
  refine lv_iconst (v := nI 1) hx hb d_Im_receive_1 (by decide) ?_
  refine lv_icmp_eq (tgt := 10) hx hb d_Im_receive_2 (by decide) (fun c2 => ?_) (fun c2 => ?_)
  · have c2 : 2 = 1 := (nI_eq (by omega) (by omega)).mp c2
    exfalso; omega
  · have c2 : ¬ 2 = 1 := fun h9 => c2 ((nI_eq (by omega) (by omega)).mpr h9)
    refine lv_iload_n hx hb d_Im_receive_5 rfl (lv_at hl 3 rfl) ?_
    refine lv_iconst (v := nI 2) hx hb d_Im_receive_6 (by decide) ?_
    refine lv_icmp_ne (tgt := 14) hx hb d_Im_receive_7 (by decide) (fun c7 => ?_) (fun c7 => ?_)
    · have c7 : ¬ 2 = 2 := fun h9 => c7 ((nI_eq (by omega) (by omega)).mpr h9)
      exfalso; omega
    · have c7 : 2 = 2 := (nI_eq (by omega) (by omega)).mp c7
      refine lv_iconst (v := nI 1) hx hb d_Im_receive_10 (by decide) ?_
      refine lv_goto (tgt := 15) hx hb d_Im_receive_11 (by decide) ?_
      refine lv_istore (lv' := [(4, .int (nI 1)), (0, .ref h), (1, .ref h2), (2, .int (nI b)), (3, .int (nI 2))]) hx hb d_Im_receive_15 hl (by decide) rfl (fun ls hl => ?_)
      refine lv_iload_n hx hb d_Im_receive_17 rfl (lv_at hl 4 rfl) ?_
      refine lv_iconst (v := nI 1) hx hb d_Im_receive_18 (by decide) ?_
      refine lv_icmp_eq (tgt := 27) hx hb d_Im_receive_19 (by decide) (fun c19 => ?_) (fun c19 => ?_)
      · have c19 : 2 = 1 := (nI_eq (by omega) (by omega)).mp c19
        exfalso; omega
      · have c19 : ¬ 2 = 1 := fun h9 => c19 ((nI_eq (by omega) (by omega)).mpr h9)
        refine lv_iload_n hx hb d_Im_receive_22 rfl (lv_at hl 4 rfl) ?_
        refine lv_iconst (v := nI 3) hx hb d_Im_receive_23 (by decide) ?_
        refine lv_icmp_ne (tgt := 31) hx hb d_Im_receive_24 (by decide) (fun c24 => ?_) (fun c24 => ?_)
        · have c24 : ¬ 2 = 3 := fun h9 => c24 ((nI_eq (by omega) (by omega)).mpr h9)
          refine lv_iconst (v := nI 0) hx hb d_Im_receive_31 (by decide) ?_
          refine lv_istore (lv' := [(5, .int (nI 0)), (4, .int (nI 1)), (0, .ref h), (1, .ref h2), (2, .int (nI b)), (3, .int (nI 2))]) hx hb d_Im_receive_32 hl (by decide) rfl (fun ls hl => ?_)
          refine lv_iload hx hb d_Im_receive_34 (lv_at hl 1 rfl) ?_
          refine lv_if_eq (tgt := 43) hx hb d_Im_receive_36 (by decide) (fun c36 => ?_) (fun c36 => ?_)
          · have c36 : 1 = 0 := (q_z_eq (by omega)).mp c36
            exfalso; omega
          · have c36 : ¬ 1 = 0 := fun h9 => c36 ((q_z_eq (by omega)).mpr h9)
            refine lv_iconst (v := nI 0) hx hb d_Im_receive_39 (by decide) ?_
            refine lv_goto (tgt := 45) hx hb d_Im_receive_40 (by decide) ?_
            refine lv_istore (lv' := [(6, .int (nI 0)), (5, .int (nI 0)), (4, .int (nI 1)), (0, .ref h), (1, .ref h2), (2, .int (nI b)), (3, .int (nI 2))]) hx hb d_Im_receive_45 hl (by decide) rfl (fun ls hl => ?_)
            refine q_loop (pc := 47) (σ := Unit) (I := fun i x H locs ls => va_P D cls [(h, .inr (1, [.ref a])), (a, .inl (cJ, 12544, .inr (.inl (qv_for i (fun h9 i => qv_setW h9 b (0 + i) (qv_word g b (0 + i))) f)))), (h2, .inr (1, [.ref a2])), (a2, .inl (cJ, 12544, .inr (.inl (g))))] H ∧ va_D A [(h, .inr (1, [.ref a])), (a, .inl (cJ, 12544, .inr (.inl (qv_for i (fun h9 i => qv_setW h9 b (0 + i) (qv_word g b (0 + i))) f)))), (h2, .inr (1, [.ref a2])), (a2, .inl (cJ, 12544, .inr (.inl (g))))] ∧ va_S A s.heap H locs ∧ lv_has ls 7 [(0, .ref h), (1, .ref h2), (2, .int (nI b)), (4, .int (nI 1)), (5, .int (nI 0)), (6, .int (nI (0 + i)))]) (8) ?_ ?_ (0) (()) _ _ _ (by omega) ⟨hP, hD, hS, lv_sub hl [3, 4, 5, 2, 1, 0] rfl⟩
            · intro x H locs ls hI
              obtain ⟨hP, hD, hS, hl⟩ := hI
              refine lv_iload hx hb d_Im_receive_47 (lv_at hl 5 rfl) ?_
              refine lv_iload hx hb d_Im_receive_49 (lv_at hl 4 rfl) ?_
              refine lv_if_eq (tgt := 59) hx hb d_Im_receive_51 (by decide) (fun c51 => ?_) (fun c51 => ?_)
              · have c51 : 0 = 0 := (q_z_eq (by omega)).mp c51
                refine lv_bipush (v := nI 8) hx hb d_Im_receive_59 (by decide) ?_
                refine lv_icmp_ge (tgt := 84) hx hb d_Im_receive_61 (by decide) (fun c61 => ?_) (fun c61 => ?_)
                · have c61 : 8 ≤ (0 + 8) := (nI_leI (by omega) (by omega)).mp c61
                  exact q_vret hx hb hr hlk hK hP hD hS d_Im_receive_84 (rfl)
                · have c61 : ¬ 8 ≤ (0 + 8) := fun h9 => c61 ((nI_leI (by omega) (by omega)).mpr h9)
                  exfalso; omega
              · have c51 : ¬ 0 = 0 := fun h9 => c51 ((q_z_eq (by omega)).mpr h9)
                exfalso; omega
            · intro i x H locs ls hi hI ih
              obtain ⟨hP, hD, hS, hl⟩ := hI
              refine lv_iload hx hb d_Im_receive_47 (lv_at hl 5 rfl) ?_
              refine lv_iload hx hb d_Im_receive_49 (lv_at hl 4 rfl) ?_
              refine lv_if_eq (tgt := 59) hx hb d_Im_receive_51 (by decide) (fun c51 => ?_) (fun c51 => ?_)
              · have c51 : 0 = 0 := (q_z_eq (by omega)).mp c51
                refine lv_bipush (v := nI 8) hx hb d_Im_receive_59 (by decide) ?_
                refine lv_icmp_ge (tgt := 84) hx hb d_Im_receive_61 (by decide) (fun c61 => ?_) (fun c61 => ?_)
                · have c61 : 8 ≤ (0 + i) := (nI_leI (by omega) (by omega)).mp c61
                  exfalso; omega
                · have c61 : ¬ 8 ≤ (0 + i) := fun h9 => c61 ((nI_leI (by omega) (by omega)).mpr h9)
                  refine lv_aload_n hx hb d_Im_receive_64 rfl (lv_at hl 0 rfl) ?_
                  refine lv_iload_n hx hb d_Im_receive_65 rfl (lv_at hl 2 rfl) ?_
                  refine lv_iload hx hb d_Im_receive_66 (lv_at hl 5 rfl) ?_
                  refine lv_aload_n hx hb d_Im_receive_68 rfl (lv_at hl 1 rfl) ?_
                  refine lv_iload_n hx hb d_Im_receive_69 rfl (lv_at hl 2 rfl) ?_
                  refine lv_iload hx hb d_Im_receive_70 (lv_at hl 5 rfl) ?_
                  refine q_callVl (As := [.int (nI b), .int (nI (0 + i))]) (rest := [.int (nI (0 + i)), .int (nI b), .ref h]) (wsC := [(h2, .inr (1, [.ref a2])), (a2, .inl (cJ, 12544, .inr (.inl (g))))]) (wsR := [(h, .inr (1, [.ref a])), (a, .inl (cJ, 12544, .inr (.inl (qv_for i (fun h9 i => qv_setW h9 b (0 + i) (qv_word g b (0 + i))) f))))]) (wsC' := [(h2, .inr (1, [.ref a2])), (a2, .inl (cJ, 12544, .inr (.inl (g))))]) (wsN := [(h, .inr (1, [.ref a])), (a, .inl (cJ, 12544, .inr (.inl (qv_for i (fun h9 i => qv_setW h9 b (0 + i) (qv_word g b (0 + i))) f)))), (h2, .inr (1, [.ref a2])), (a2, .inl (cJ, 12544, .inr (.inl (g))))]) (isT := [0]) (isC := [2, 3]) (isR := [0, 1]) (isN := [0, 1, 2, 3]) (k := 2) (ci := 1) (C := R_Im) ⟨hx, hb, hml, hown, hts⟩ (c_Im_wordAt l D cJ h2 a2 g b (0 + i) (by omega) (by omega)) (tw_V ml_Im_19 im_Im_wordAt se_Im_wordAt in_Im cd_Im_wordAt) rfl ⟨by decide +kernel, Nat.le_of_ble_eq_true rfl, Nat.le_of_ble_eq_true rfl⟩ ⟨Nat.le_of_ble_eq_true rfl, Nat.le_of_ble_eq_true rfl⟩ hK hP hD hS hA hN rfl ⟨rfl, rfl, rfl, by decide, by decide, by decide, by decide⟩ rfl rfl rfl hl.1 rfl rfl (Nat.le_of_ble_eq_true rfl) d_Im_receive_72 (fun H locs hP hD hS => ?_)
                  refine q_callVv (As := [.int (nI b), .int (nI (0 + i)), .long (qv_word g b (0 + i))]) (rest := []) (wsC := [(h, .inr (1, [.ref a])), (a, .inl (cJ, 12544, .inr (.inl (qv_for i (fun h9 i => qv_setW h9 b (0 + i) (qv_word g b (0 + i))) f))))]) (wsR := [(h2, .inr (1, [.ref a2])), (a2, .inl (cJ, 12544, .inr (.inl (g))))]) (wsC' := [(h, .inr (1, [.ref a])), (a, .inl (cJ, 12544, .inr (.inl (qv_setW (qv_for i (fun h9 i => qv_setW h9 b (0 + i) (qv_word g b (0 + i))) f) b (0 + i) (qv_word g b (0 + i))))))]) (wsN := [(h, .inr (1, [.ref a])), (a, .inl (cJ, 12544, .inr (.inl (qv_setW (qv_for i (fun h9 i => qv_setW h9 b (0 + i) (qv_word g b (0 + i))) f) b (0 + i) (qv_word g b (0 + i)))))), (h2, .inr (1, [.ref a2])), (a2, .inl (cJ, 12544, .inr (.inl (g))))]) (isT := [0]) (isC := [0, 1]) (isR := [2, 3]) (isN := [2, 3, 0, 1]) (k := 3) (ci := 1) (C := R_Im) ⟨hx, hb, hml, hown, hts⟩ (c_Im_setWord l D cJ h a (qv_for i (fun h9 i => qv_setW h9 b (0 + i) (qv_word g b (0 + i))) f) b (0 + i) (qv_word g b (0 + i)) (by omega) (by omega)) (tw_V ml_Im_26 im_Im_setWord se_Im_setWord in_Im cd_Im_setWord) rfl ⟨by decide +kernel, Nat.le_of_ble_eq_true rfl, Nat.le_of_ble_eq_true rfl⟩ ⟨Nat.le_of_ble_eq_true rfl, Nat.le_of_ble_eq_true rfl⟩ hK hP hD hS hA hN rfl ⟨rfl, rfl, rfl, by decide, by decide, by decide, by decide⟩ rfl rfl rfl hl.1 rfl rfl (Nat.le_of_ble_eq_true rfl) d_Im_receive_75 (fun H locs hP hD hS => ?_)
                  refine lv_iinc (v := nI (0 + i + 1)) (lv' := [(6, .int (nI (0 + i + 1))), (0, .ref h), (1, .ref h2), (2, .int (nI b)), (4, .int (nI 1)), (5, .int (nI 0))]) hx hb d_Im_receive_78 hl (k := 5) rfl (nI_1 _) (by decide) rfl (fun ls hl => ?_)
                  refine lv_goto (tgt := 47) hx hb d_Im_receive_81 (by decide) ?_
                  exact ih (()) _ _ _ ⟨hP, hD, hS, lv_sub hl [1, 2, 3, 4, 5, 0] rfl⟩
              · have c51 : ¬ 0 = 0 := fun h9 => c51 ((q_z_eq (by omega)).mpr h9)
                exfalso; omega
        · have c24 : 2 = 3 := (nI_eq (by omega) (by omega)).mp c24
          exfalso; omega
set_option maxHeartbeats 4000000 in
set_option maxRecDepth 100000 in
theorem c_Im_receive3 (l : Launch) (D : va_G) (cJ : ClassId) (h : Nat) (a : Nat) (f : Nat → Int64) (h2 : Nat) (a2 : Nat) (g : Nat → Int64) (b : Nat) (kb : b < 65536) : qMv l y_Im_receive b_Im_receive 7 none (rmL 2) D [(cJ, .long)] [.ref h, .ref h2, .int (nI b), .int (nI 3)] [(h, .inr (1, [.ref a])), (a, .inl (cJ, 12544, .inr (.inl (f)))), (h2, .inr (1, [.ref a2])), (a2, .inl (cJ, 12544, .inr (.inl (g))))] [(h, .inr (1, [.ref a])), (a, .inl (cJ, 12544, .inr (.inl (qv_recv f g b 8 16)))), (h2, .inr (1, [.ref a2])), (a2, .inl (cJ, 12544, .inr (.inl (g))))] := by
  refine q_start (Qc := qZv D _ _) (by decide +kernel) (Nat.le_of_ble_eq_true rfl) ?_
  intro p e s m below meth c A hx hb hr hlk hml hown hts hK hP hD hS hA hN ls hl
  have hl : lv_has ls 7 [(0, .ref h), (1, .ref h2), (2, .int (nI b)), (3, .int (nI 3))] := hl
  have hP : va_P D cls [(h, .inr (1, [.ref a])), (a, .inl (cJ, 12544, .inr (.inl (f)))), (h2, .inr (1, [.ref a2])), (a2, .inl (cJ, 12544, .inr (.inl (g))))] s.heap := hP
  have hD : va_D A [(h, .inr (1, [.ref a])), (a, .inl (cJ, 12544, .inr (.inl (f)))), (h2, .inr (1, [.ref a2])), (a2, .inl (cJ, 12544, .inr (.inl (g))))] := hD
  refine lv_iload_n hx hb d_Im_receive_0 rfl (lv_at hl 3 rfl) ?_
  refine lv_iconst (v := nI 1) hx hb d_Im_receive_1 (by decide) ?_
  refine lv_icmp_eq (tgt := 10) hx hb d_Im_receive_2 (by decide) (fun c2 => ?_) (fun c2 => ?_)
  · have c2 : 3 = 1 := (nI_eq (by omega) (by omega)).mp c2
    exfalso; omega
  · have c2 : ¬ 3 = 1 := fun h9 => c2 ((nI_eq (by omega) (by omega)).mpr h9)
    refine lv_iload_n hx hb d_Im_receive_5 rfl (lv_at hl 3 rfl) ?_
    refine lv_iconst (v := nI 2) hx hb d_Im_receive_6 (by decide) ?_
    refine lv_icmp_ne (tgt := 14) hx hb d_Im_receive_7 (by decide) (fun c7 => ?_) (fun c7 => ?_)
    · have c7 : ¬ 3 = 2 := fun h9 => c7 ((nI_eq (by omega) (by omega)).mpr h9)
      refine lv_iconst (v := nI 0) hx hb d_Im_receive_14 (by decide) ?_
      refine lv_istore (lv' := [(4, .int (nI 0)), (0, .ref h), (1, .ref h2), (2, .int (nI b)), (3, .int (nI 3))]) hx hb d_Im_receive_15 hl (by decide) rfl (fun ls hl => ?_)
      refine lv_iload_n hx hb d_Im_receive_17 rfl (lv_at hl 4 rfl) ?_
      refine lv_iconst (v := nI 1) hx hb d_Im_receive_18 (by decide) ?_
      refine lv_icmp_eq (tgt := 27) hx hb d_Im_receive_19 (by decide) (fun c19 => ?_) (fun c19 => ?_)
      · have c19 : 3 = 1 := (nI_eq (by omega) (by omega)).mp c19
        exfalso; omega
      · have c19 : ¬ 3 = 1 := fun h9 => c19 ((nI_eq (by omega) (by omega)).mpr h9)
        refine lv_iload_n hx hb d_Im_receive_22 rfl (lv_at hl 4 rfl) ?_
        refine lv_iconst (v := nI 3) hx hb d_Im_receive_23 (by decide) ?_
        refine lv_icmp_ne (tgt := 31) hx hb d_Im_receive_24 (by decide) (fun c24 => ?_) (fun c24 => ?_)
        · have c24 : ¬ 3 = 3 := fun h9 => c24 ((nI_eq (by omega) (by omega)).mpr h9)
          exfalso; omega
        · have c24 : 3 = 3 := (nI_eq (by omega) (by omega)).mp c24
          refine lv_iconst (v := nI 1) hx hb d_Im_receive_27 (by decide) ?_
          refine lv_goto (tgt := 32) hx hb d_Im_receive_28 (by decide) ?_
          refine lv_istore (lv' := [(5, .int (nI 1)), (4, .int (nI 0)), (0, .ref h), (1, .ref h2), (2, .int (nI b)), (3, .int (nI 3))]) hx hb d_Im_receive_32 hl (by decide) rfl (fun ls hl => ?_)
          refine lv_iload hx hb d_Im_receive_34 (lv_at hl 1 rfl) ?_
          refine lv_if_eq (tgt := 43) hx hb d_Im_receive_36 (by decide) (fun c36 => ?_) (fun c36 => ?_)
          · have c36 : 0 = 0 := (q_z_eq (by omega)).mp c36
            refine lv_bipush (v := nI 8) hx hb d_Im_receive_43 (by decide) ?_
            refine lv_istore (lv' := [(6, .int (nI 8)), (5, .int (nI 1)), (4, .int (nI 0)), (0, .ref h), (1, .ref h2), (2, .int (nI b)), (3, .int (nI 3))]) hx hb d_Im_receive_45 hl (by decide) rfl (fun ls hl => ?_)
            refine q_loop (pc := 47) (σ := Unit) (I := fun i x H locs ls => va_P D cls [(h, .inr (1, [.ref a])), (a, .inl (cJ, 12544, .inr (.inl (qv_for i (fun h9 i => qv_setW h9 b (8 + i) (qv_word g b (8 + i))) f)))), (h2, .inr (1, [.ref a2])), (a2, .inl (cJ, 12544, .inr (.inl (g))))] H ∧ va_D A [(h, .inr (1, [.ref a])), (a, .inl (cJ, 12544, .inr (.inl (qv_for i (fun h9 i => qv_setW h9 b (8 + i) (qv_word g b (8 + i))) f)))), (h2, .inr (1, [.ref a2])), (a2, .inl (cJ, 12544, .inr (.inl (g))))] ∧ va_S A s.heap H locs ∧ lv_has ls 7 [(0, .ref h), (1, .ref h2), (2, .int (nI b)), (4, .int (nI 0)), (5, .int (nI 1)), (6, .int (nI (8 + i)))]) (8) ?_ ?_ (0) (()) _ _ _ (by omega) ⟨hP, hD, hS, lv_sub hl [3, 4, 5, 2, 1, 0] rfl⟩
            · intro x H locs ls hI
              obtain ⟨hP, hD, hS, hl⟩ := hI
              refine lv_iload hx hb d_Im_receive_47 (lv_at hl 5 rfl) ?_
              refine lv_iload hx hb d_Im_receive_49 (lv_at hl 4 rfl) ?_
              refine lv_if_eq (tgt := 59) hx hb d_Im_receive_51 (by decide) (fun c51 => ?_) (fun c51 => ?_)
              · have c51 : 1 = 0 := (q_z_eq (by omega)).mp c51
                exfalso; omega
              · have c51 : ¬ 1 = 0 := fun h9 => c51 ((q_z_eq (by omega)).mpr h9)
                refine lv_bipush (v := nI 16) hx hb d_Im_receive_54 (by decide) ?_
                refine lv_goto (tgt := 61) hx hb d_Im_receive_56 (by decide) ?_
                refine lv_icmp_ge (tgt := 84) hx hb d_Im_receive_61 (by decide) (fun c61 => ?_) (fun c61 => ?_)
                · have c61 : 16 ≤ (8 + 8) := (nI_leI (by omega) (by omega)).mp c61
                  exact q_vret hx hb hr hlk hK hP hD hS d_Im_receive_84 (rfl)
                · have c61 : ¬ 16 ≤ (8 + 8) := fun h9 => c61 ((nI_leI (by omega) (by omega)).mpr h9)
                  exfalso; omega
            · intro i x H locs ls hi hI ih
              obtain ⟨hP, hD, hS, hl⟩ := hI
              refine lv_iload hx hb d_Im_receive_47 (lv_at hl 5 rfl) ?_
              refine lv_iload hx hb d_Im_receive_49 (lv_at hl 4 rfl) ?_
              refine lv_if_eq (tgt := 59) hx hb d_Im_receive_51 (by decide) (fun c51 => ?_) (fun c51 => ?_)
              · have c51 : 1 = 0 := (q_z_eq (by omega)).mp c51
                exfalso; omega
              · have c51 : ¬ 1 = 0 := fun h9 => c51 ((q_z_eq (by omega)).mpr h9)
                refine lv_bipush (v := nI 16) hx hb d_Im_receive_54 (by decide) ?_
                refine lv_goto (tgt := 61) hx hb d_Im_receive_56 (by decide) ?_
                refine lv_icmp_ge (tgt := 84) hx hb d_Im_receive_61 (by decide) (fun c61 => ?_) (fun c61 => ?_)
                · have c61 : 16 ≤ (8 + i) := (nI_leI (by omega) (by omega)).mp c61
                  exfalso; omega
                · have c61 : ¬ 16 ≤ (8 + i) := fun h9 => c61 ((nI_leI (by omega) (by omega)).mpr h9)
                  refine lv_aload_n hx hb d_Im_receive_64 rfl (lv_at hl 0 rfl) ?_
                  refine lv_iload_n hx hb d_Im_receive_65 rfl (lv_at hl 2 rfl) ?_
                  refine lv_iload hx hb d_Im_receive_66 (lv_at hl 5 rfl) ?_
                  refine lv_aload_n hx hb d_Im_receive_68 rfl (lv_at hl 1 rfl) ?_
                  refine lv_iload_n hx hb d_Im_receive_69 rfl (lv_at hl 2 rfl) ?_
                  refine lv_iload hx hb d_Im_receive_70 (lv_at hl 5 rfl) ?_
                  refine q_callVl (As := [.int (nI b), .int (nI (8 + i))]) (rest := [.int (nI (8 + i)), .int (nI b), .ref h]) (wsC := [(h2, .inr (1, [.ref a2])), (a2, .inl (cJ, 12544, .inr (.inl (g))))]) (wsR := [(h, .inr (1, [.ref a])), (a, .inl (cJ, 12544, .inr (.inl (qv_for i (fun h9 i => qv_setW h9 b (8 + i) (qv_word g b (8 + i))) f))))]) (wsC' := [(h2, .inr (1, [.ref a2])), (a2, .inl (cJ, 12544, .inr (.inl (g))))]) (wsN := [(h, .inr (1, [.ref a])), (a, .inl (cJ, 12544, .inr (.inl (qv_for i (fun h9 i => qv_setW h9 b (8 + i) (qv_word g b (8 + i))) f)))), (h2, .inr (1, [.ref a2])), (a2, .inl (cJ, 12544, .inr (.inl (g))))]) (isT := [0]) (isC := [2, 3]) (isR := [0, 1]) (isN := [0, 1, 2, 3]) (k := 2) (ci := 1) (C := R_Im) ⟨hx, hb, hml, hown, hts⟩ (c_Im_wordAt l D cJ h2 a2 g b (8 + i) (by omega) (by omega)) (tw_V ml_Im_19 im_Im_wordAt se_Im_wordAt in_Im cd_Im_wordAt) rfl ⟨by decide +kernel, Nat.le_of_ble_eq_true rfl, Nat.le_of_ble_eq_true rfl⟩ ⟨Nat.le_of_ble_eq_true rfl, Nat.le_of_ble_eq_true rfl⟩ hK hP hD hS hA hN rfl ⟨rfl, rfl, rfl, by decide, by decide, by decide, by decide⟩ rfl rfl rfl hl.1 rfl rfl (Nat.le_of_ble_eq_true rfl) d_Im_receive_72 (fun H locs hP hD hS => ?_)
                  refine q_callVv (As := [.int (nI b), .int (nI (8 + i)), .long (qv_word g b (8 + i))]) (rest := []) (wsC := [(h, .inr (1, [.ref a])), (a, .inl (cJ, 12544, .inr (.inl (qv_for i (fun h9 i => qv_setW h9 b (8 + i) (qv_word g b (8 + i))) f))))]) (wsR := [(h2, .inr (1, [.ref a2])), (a2, .inl (cJ, 12544, .inr (.inl (g))))]) (wsC' := [(h, .inr (1, [.ref a])), (a, .inl (cJ, 12544, .inr (.inl (qv_setW (qv_for i (fun h9 i => qv_setW h9 b (8 + i) (qv_word g b (8 + i))) f) b (8 + i) (qv_word g b (8 + i))))))]) (wsN := [(h, .inr (1, [.ref a])), (a, .inl (cJ, 12544, .inr (.inl (qv_setW (qv_for i (fun h9 i => qv_setW h9 b (8 + i) (qv_word g b (8 + i))) f) b (8 + i) (qv_word g b (8 + i)))))), (h2, .inr (1, [.ref a2])), (a2, .inl (cJ, 12544, .inr (.inl (g))))]) (isT := [0]) (isC := [0, 1]) (isR := [2, 3]) (isN := [2, 3, 0, 1]) (k := 3) (ci := 1) (C := R_Im) ⟨hx, hb, hml, hown, hts⟩ (c_Im_setWord l D cJ h a (qv_for i (fun h9 i => qv_setW h9 b (8 + i) (qv_word g b (8 + i))) f) b (8 + i) (qv_word g b (8 + i)) (by omega) (by omega)) (tw_V ml_Im_26 im_Im_setWord se_Im_setWord in_Im cd_Im_setWord) rfl ⟨by decide +kernel, Nat.le_of_ble_eq_true rfl, Nat.le_of_ble_eq_true rfl⟩ ⟨Nat.le_of_ble_eq_true rfl, Nat.le_of_ble_eq_true rfl⟩ hK hP hD hS hA hN rfl ⟨rfl, rfl, rfl, by decide, by decide, by decide, by decide⟩ rfl rfl rfl hl.1 rfl rfl (Nat.le_of_ble_eq_true rfl) d_Im_receive_75 (fun H locs hP hD hS => ?_)
                  refine lv_iinc (v := nI (8 + i + 1)) (lv' := [(6, .int (nI (8 + i + 1))), (0, .ref h), (1, .ref h2), (2, .int (nI b)), (4, .int (nI 0)), (5, .int (nI 1))]) hx hb d_Im_receive_78 hl (k := 5) rfl (nI_1 _) (by decide) rfl (fun ls hl => ?_)
                  refine lv_goto (tgt := 47) hx hb d_Im_receive_81 (by decide) ?_
                  exact ih (()) _ _ _ ⟨hP, hD, hS, lv_sub hl [1, 2, 3, 4, 5, 0] rfl⟩
          · have c36 : ¬ 0 = 0 := fun h9 => c36 ((q_z_eq (by omega)).mpr h9)
            exfalso; omega
    · have c7 : 3 = 2 := (nI_eq (by omega) (by omega)).mp c7
      exfalso; omega
theorem c_Im_receive (l : Launch) (D : va_G) (cJ : ClassId) (h : Nat) (a : Nat) (f : Nat → Int64) (h2 : Nat) (a2 : Nat) (g : Nat → Int64) (b : Nat) (pt : Nat) (kb : b < 65536) (kpt : pt < 4) : qMv l y_Im_receive b_Im_receive 7 none (rmL 2) D [(cJ, .long)] [.ref h, .ref h2, .int (nI b), .int (nI pt)] [(h, .inr (1, [.ref a])), (a, .inl (cJ, 12544, .inr (.inl (f)))), (h2, .inr (1, [.ref a2])), (a2, .inl (cJ, 12544, .inr (.inl (g))))] [(h, .inr (1, [.ref a])), (a, .inl (cJ, 12544, .inr (.inl (qv_recvP f g b pt)))), (h2, .inr (1, [.ref a2])), (a2, .inl (cJ, 12544, .inr (.inl (g))))] := by
  rcases (show pt = 0 ∨ pt = 1 ∨ pt = 2 ∨ pt = 3 by omega) with rfl | rfl | rfl | rfl
  · exact c_Im_receive0 l D cJ h a f h2 a2 g b kb
  · exact c_Im_receive1 l D cJ h a f h2 a2 g b kb
  · exact c_Im_receive2 l D cJ h a f h2 a2 g b kb
  · exact c_Im_receive3 l D cJ h a f h2 a2 g b kb
set_option maxHeartbeats 4000000 in
set_option maxRecDepth 100000 in
theorem c_Ar_fillJ (l : Launch) (D : va_G) (cJ : ClassId) (a : Nat) (f : Nat → Int64) (x : Int64) : qMv l y_Ar_fillJ b_Ar_fillJ 5 none (rmL 1) D [(cJ, .long)] [.ref a, .long (x)] [(a, .inl (cJ, 12544, .inr (.inl (f))))] [(a, .inl (cJ, 12544, .inr (.inl (qv_fill f x))))] := by
  refine q_start (Qc := qZv D _ _) (by decide +kernel) (Nat.le_of_ble_eq_true rfl) ?_
  intro p e s m below meth c A hx hb hr hlk hml hown hts hK hP hD hS hA hN ls hl
  have hl : lv_has ls 5 [(0, .ref a), (1, .long (x))] := hl
  have hP : va_P D cls [(a, .inl (cJ, 12544, .inr (.inl (f))))] s.heap := hP
  have hD : va_D A [(a, .inl (cJ, 12544, .inr (.inl (f))))] := hD
  refine lv_iconst (v := nI 0) hx hb d_Ar_fillJ_0 (by decide) ?_
  refine lv_istore_n (lv' := [(3, .int (nI 0)), (0, .ref a), (1, .long (x))]) hx hb d_Ar_fillJ_1 rfl hl (by decide) rfl (fun ls hl => ?_)
  refine lv_aload_n hx hb d_Ar_fillJ_2 rfl (lv_at hl 1 rfl) ?_
  refine va_alen (v := nI 12544) hx hb hK hP 0 0 rfl rfl rfl d_Ar_fillJ_3 ?_
  refine lv_istore (lv' := [(4, .int (nI 12544)), (3, .int (nI 0)), (0, .ref a), (1, .long (x))]) hx hb d_Ar_fillJ_4 hl (by decide) rfl (fun ls hl => ?_)
  refine q_loop (pc := 6) (σ := Unit) (I := fun i u H locs ls => va_P D cls [(a, .inl (cJ, 12544, .inr (.inl (qv_for i (fun g i => vp_updL g i x) f))))] H ∧ va_D A [(a, .inl (cJ, 12544, .inr (.inl (qv_for i (fun g i => vp_updL g i x) f))))] ∧ va_S A s.heap H locs ∧ lv_has ls 5 [(0, .ref a), (1, .long (x)), (3, .int (nI i)), (4, .int (nI 12544))]) (12544) ?_ ?_ (0) (()) _ _ _ (by omega) ⟨hP, hD, hS, lv_sub hl [2, 3, 1, 0] rfl⟩
  · intro u H locs ls hI
    obtain ⟨hP, hD, hS, hl⟩ := hI
    refine lv_iload_n hx hb d_Ar_fillJ_6 rfl (lv_at hl 2 rfl) ?_
    refine lv_iload hx hb d_Ar_fillJ_7 (lv_at hl 3 rfl) ?_
    refine lv_icmp_ge (tgt := 22) hx hb d_Ar_fillJ_9 (by decide) (fun c9 => ?_) (fun c9 => ?_)
    · have c9 : 12544 ≤ 12544 := (nI_leI (by omega) (by omega)).mp c9
      exact q_vret hx hb hr hlk hK hP hD hS d_Ar_fillJ_22 (rfl)
    · have c9 : ¬ 12544 ≤ 12544 := fun h9 => c9 ((nI_leI (by omega) (by omega)).mpr h9)
      exfalso; omega
  · intro i u H locs ls hi hI ih
    obtain ⟨hP, hD, hS, hl⟩ := hI
    refine lv_iload_n hx hb d_Ar_fillJ_6 rfl (lv_at hl 2 rfl) ?_
    refine lv_iload hx hb d_Ar_fillJ_7 (lv_at hl 3 rfl) ?_
    refine lv_icmp_ge (tgt := 22) hx hb d_Ar_fillJ_9 (by decide) (fun c9 => ?_) (fun c9 => ?_)
    · have c9 : 12544 ≤ i := (nI_leI (by omega) (by omega)).mp c9
      exfalso; omega
    · have c9 : ¬ 12544 ≤ i := fun h9 => c9 ((nI_leI (by omega) (by omega)).mpr h9)
      refine lv_aload_n hx hb d_Ar_fillJ_12 rfl (lv_at hl 0 rfl) ?_
      refine lv_iload_n hx hb d_Ar_fillJ_13 rfl (lv_at hl 2 rfl) ?_
      refine lv_lload_n hx hb d_Ar_fillJ_14 rfl (lv_at hl 1 rfl) ?_
      refine va_last hx hb hK hP hD hS 0 0 rfl rfl (vp_in_nI (by omega) (by decide)) d_Ar_fillJ_15 (fun H locs hP hD hS => ?_)
      rw [nI_clamp (by omega)] at hP hD
      have hP : va_P D cls [(a, .inl (cJ, 12544, .inr (.inl (vp_updL (qv_for i (fun g i => vp_updL g i x) f) (i) (x)))))] H := hP
      have hD : va_D A [(a, .inl (cJ, 12544, .inr (.inl (vp_updL (qv_for i (fun g i => vp_updL g i x) f) (i) (x)))))] := hD
      refine lv_iinc (v := nI (i + 1)) (lv' := [(3, .int (nI (i + 1))), (0, .ref a), (1, .long (x)), (4, .int (nI 12544))]) hx hb d_Ar_fillJ_16 hl (k := 2) rfl (nI_1 _) (by decide) rfl (fun ls hl => ?_)
      refine lv_goto (tgt := 6) hx hb d_Ar_fillJ_19 (by decide) ?_
      exact ih (()) _ _ _ ⟨hP, hD, hS, lv_sub hl [1, 2, 0, 3] rfl⟩
set_option maxHeartbeats 4000000 in
set_option maxRecDepth 100000 in
theorem c_Im_forgetAll (l : Launch) (D : va_G) (cJ : ClassId) (h : Nat) (a : Nat) (f : Nat → Int64) : qMv l y_Im_forgetAll b_Im_forgetAll 1 none (rmL 2) D [(cJ, .long)] [.ref h] [(h, .inr (1, [.ref a])), (a, .inl (cJ, 12544, .inr (.inl (f))))] [(h, .inr (1, [.ref a])), (a, .inl (cJ, 12544, .inr (.inl (qv_fill f 0))))] := by
  refine q_start (Qc := qZv D _ _) (by decide +kernel) (Nat.le_of_ble_eq_true rfl) ?_
  intro p e s m below meth c A hx hb hr hlk hml hown hts hK hP hD hS hA hN ls hl
  have hl : lv_has ls 1 [(0, .ref h)] := hl
  have hP : va_P D cls [(h, .inr (1, [.ref a])), (a, .inl (cJ, 12544, .inr (.inl (f))))] s.heap := hP
  have hD : va_D A [(h, .inr (1, [.ref a])), (a, .inl (cJ, 12544, .inr (.inl (f))))] := hD
  refine lv_aload_n hx hb d_Im_forgetAll_0 rfl (lv_at hl 0 rfl) ?_
  refine va_get (D := D) (ci := 1) (v := .ref a) (C := R_Im) (T := F_Im) (N := 1) hx hb hts i_Im hown hK hP 0 rfl rfl 0 (by decide) (hts _ fl_Im_9) (fun _ h9 => h9) rfl d_Im_forgetAll_1 ?_
  refine lv_lconst (v := 0) hx hb d_Im_forgetAll_4 (by decide) ?_
  refine q_callSv (As := [.ref a, .long (0)]) (rest := []) (wsC := [(a, .inl (cJ, 12544, .inr (.inl (f))))]) (wsR := [(h, .inr (1, [.ref a]))]) (wsC' := [(a, .inl (cJ, 12544, .inr (.inl (qv_fill f 0))))]) (wsN := [(h, .inr (1, [.ref a])), (a, .inl (cJ, 12544, .inr (.inl (qv_fill f 0))))]) (isT := [0]) (isC := [1]) (isR := [0]) (isN := [0, 1]) (k := 2) ⟨hx, hb, hml, hown, hts⟩ (c_Ar_fillJ l D cJ a f 0) (tw_S ml_Im_30 st_Ar_fillJ in_Ar cd_Ar_fillJ) ⟨by decide +kernel, Nat.le_of_ble_eq_true rfl, Nat.le_of_ble_eq_true rfl⟩ ⟨Nat.le_of_ble_eq_true rfl, Nat.le_of_ble_eq_true rfl⟩ hK hP hD hS hA hN rfl ⟨rfl, rfl, rfl, by decide, by decide, by decide, by decide⟩ hl.1 rfl rfl (Nat.le_of_ble_eq_true rfl) d_Im_forgetAll_5 (fun H locs hP hD hS => ?_)
  exact q_vret hx hb hr hlk hK hP hD hS d_Im_forgetAll_8 (rfl)
set_option maxHeartbeats 4000000 in
set_option maxRecDepth 100000 in
theorem c_Ar_fillI (l : Launch) (D : va_G) (cI : ClassId) (a : Nat) (f : Nat → Int32) (x : Int32) : qMv l y_Ar_fillI b_Ar_fillI 4 none (rmL 1) D [(cI, .int)] [.ref a, .int (x)] [(a, .inl (cI, 768, .inl (f)))] [(a, .inl (cI, 768, .inl (qv_fillI f x)))] := by
  refine q_start (Qc := qZv D _ _) (by decide +kernel) (Nat.le_of_ble_eq_true rfl) ?_
  intro p e s m below meth c A hx hb hr hlk hml hown hts hK hP hD hS hA hN ls hl
  have hl : lv_has ls 4 [(0, .ref a), (1, .int (x))] := hl
  have hP : va_P D cls [(a, .inl (cI, 768, .inl (f)))] s.heap := hP
  have hD : va_D A [(a, .inl (cI, 768, .inl (f)))] := hD
  refine lv_iconst (v := nI 0) hx hb d_Ar_fillI_0 (by decide) ?_
  refine lv_istore_n (lv' := [(2, .int (nI 0)), (0, .ref a), (1, .int (x))]) hx hb d_Ar_fillI_1 rfl hl (by decide) rfl (fun ls hl => ?_)
  refine lv_aload_n hx hb d_Ar_fillI_2 rfl (lv_at hl 1 rfl) ?_
  refine va_alen (v := nI 768) hx hb hK hP 0 0 rfl rfl rfl d_Ar_fillI_3 ?_
  refine lv_istore_n (lv' := [(3, .int (nI 768)), (2, .int (nI 0)), (0, .ref a), (1, .int (x))]) hx hb d_Ar_fillI_4 rfl hl (by decide) rfl (fun ls hl => ?_)
  refine q_loop (pc := 5) (σ := Unit) (I := fun i u H locs ls => va_P D cls [(a, .inl (cI, 768, .inl (qv_for i (fun g i => upd g i x) f)))] H ∧ va_D A [(a, .inl (cI, 768, .inl (qv_for i (fun g i => upd g i x) f)))] ∧ va_S A s.heap H locs ∧ lv_has ls 4 [(0, .ref a), (1, .int (x)), (2, .int (nI i)), (3, .int (nI 768))]) (768) ?_ ?_ (0) (()) _ _ _ (by omega) ⟨hP, hD, hS, lv_sub hl [2, 3, 1, 0] rfl⟩
  · intro u H locs ls hI
    obtain ⟨hP, hD, hS, hl⟩ := hI
    refine lv_iload_n hx hb d_Ar_fillI_5 rfl (lv_at hl 2 rfl) ?_
    refine lv_iload_n hx hb d_Ar_fillI_6 rfl (lv_at hl 3 rfl) ?_
    refine lv_icmp_ge (tgt := 20) hx hb d_Ar_fillI_7 (by decide) (fun c7 => ?_) (fun c7 => ?_)
    · have c7 : 768 ≤ 768 := (nI_leI (by omega) (by omega)).mp c7
      exact q_vret hx hb hr hlk hK hP hD hS d_Ar_fillI_20 (rfl)
    · have c7 : ¬ 768 ≤ 768 := fun h9 => c7 ((nI_leI (by omega) (by omega)).mpr h9)
      exfalso; omega
  · intro i u H locs ls hi hI ih
    obtain ⟨hP, hD, hS, hl⟩ := hI
    refine lv_iload_n hx hb d_Ar_fillI_5 rfl (lv_at hl 2 rfl) ?_
    refine lv_iload_n hx hb d_Ar_fillI_6 rfl (lv_at hl 3 rfl) ?_
    refine lv_icmp_ge (tgt := 20) hx hb d_Ar_fillI_7 (by decide) (fun c7 => ?_) (fun c7 => ?_)
    · have c7 : 768 ≤ i := (nI_leI (by omega) (by omega)).mp c7
      exfalso; omega
    · have c7 : ¬ 768 ≤ i := fun h9 => c7 ((nI_leI (by omega) (by omega)).mpr h9)
      refine lv_aload_n hx hb d_Ar_fillI_10 rfl (lv_at hl 0 rfl) ?_
      refine lv_iload_n hx hb d_Ar_fillI_11 rfl (lv_at hl 2 rfl) ?_
      refine lv_iload_n hx hb d_Ar_fillI_12 rfl (lv_at hl 1 rfl) ?_
      refine va_iast hx hb hK hP hD hS 0 0 rfl rfl (vp_in_nI (by omega) (by decide)) d_Ar_fillI_13 (fun H locs hP hD hS => ?_)
      rw [nI_clamp (by omega)] at hP hD
      have hP : va_P D cls [(a, .inl (cI, 768, .inl (upd (qv_for i (fun g i => upd g i x) f) (i) (x))))] H := hP
      have hD : va_D A [(a, .inl (cI, 768, .inl (upd (qv_for i (fun g i => upd g i x) f) (i) (x))))] := hD
      refine lv_iinc (v := nI (i + 1)) (lv' := [(2, .int (nI (i + 1))), (0, .ref a), (1, .int (x)), (3, .int (nI 768))]) hx hb d_Ar_fillI_14 hl (k := 2) rfl (nI_1 _) (by decide) rfl (fun ls hl => ?_)
      refine lv_goto (tgt := 5) hx hb d_Ar_fillI_17 (by decide) ?_
      exact ih (()) _ _ _ ⟨hP, hD, hS, lv_sub hl [1, 2, 0, 3] rfl⟩
set_option maxHeartbeats 4000000 in
set_option maxRecDepth 100000 in
theorem c_Im_receiveAll (l : Launch) (D : va_G) (cJ : ClassId) (h : Nat) (a : Nat) (f : Nat → Int64) (h2 : Nat) (a2 : Nat) (g : Nat → Int64) : qMv l y_Im_receiveAll b_Im_receiveAll 2 none (rmL 2) D [(cJ, .long)] [.ref h, .ref h2] [(h, .inr (1, [.ref a])), (a, .inl (cJ, 12544, .inr (.inl (f)))), (h2, .inr (1, [.ref a2])), (a2, .inl (cJ, 12544, .inr (.inl (g))))] [(h, .inr (1, [.ref a])), (a, .inl (cJ, 12544, .inr (.inl (qv_copy g f)))), (h2, .inr (1, [.ref a2])), (a2, .inl (cJ, 12544, .inr (.inl (g))))] := by
  refine q_start (Qc := qZv D _ _) (by decide +kernel) (Nat.le_of_ble_eq_true rfl) ?_
  intro p e s m below meth c A hx hb hr hlk hml hown hts hK hP hD hS hA hN ls hl
  have hl : lv_has ls 2 [(0, .ref h), (1, .ref h2)] := hl
  have hP : va_P D cls [(h, .inr (1, [.ref a])), (a, .inl (cJ, 12544, .inr (.inl (f)))), (h2, .inr (1, [.ref a2])), (a2, .inl (cJ, 12544, .inr (.inl (g))))] s.heap := hP
  have hD : va_D A [(h, .inr (1, [.ref a])), (a, .inl (cJ, 12544, .inr (.inl (f)))), (h2, .inr (1, [.ref a2])), (a2, .inl (cJ, 12544, .inr (.inl (g))))] := hD
  refine lv_aload_n hx hb d_Im_receiveAll_0 rfl (lv_at hl 1 rfl) ?_
  refine va_get (D := D) (ci := 1) (v := .ref a2) (C := R_Im) (T := F_Im) (N := 1) hx hb hts i_Im hown hK hP 2 rfl rfl 0 (by decide) (hts _ fl_Im_9) (fun _ h9 => h9) rfl d_Im_receiveAll_1 ?_
  refine lv_iconst (v := nI 0) hx hb d_Im_receiveAll_4 (by decide) ?_
  refine lv_aload_n hx hb d_Im_receiveAll_5 rfl (lv_at hl 0 rfl) ?_
  refine va_get (D := D) (ci := 1) (v := .ref a) (C := R_Im) (T := F_Im) (N := 1) hx hb hts i_Im hown hK hP 0 rfl rfl 0 (by decide) (hts _ fl_Im_9) (fun _ h9 => h9) rfl d_Im_receiveAll_6 ?_
  refine lv_iconst (v := nI 0) hx hb d_Im_receiveAll_9 (by decide) ?_
  refine lv_aload_n hx hb d_Im_receiveAll_10 rfl (lv_at hl 0 rfl) ?_
  refine va_get (D := D) (ci := 1) (v := .ref a) (C := R_Im) (T := F_Im) (N := 1) hx hb hts i_Im hown hK hP 0 rfl rfl 0 (by decide) (hts _ fl_Im_9) (fun _ h9 => h9) rfl d_Im_receiveAll_11 ?_
  refine va_alen (v := nI 12544) hx hb hK hP 1 0 rfl rfl rfl d_Im_receiveAll_14 ?_
  refine va_copyl hx hb (by rw [hml]; exact hl.1.symm) hown (hts _ ml_Im_36) (hts _ na_arraycopyName) (hts _ st_arraycopyName) (hts _ in_System) hK hP hD hS 3 1 0 0 rfl rfl rfl rfl rfl (by decide) (by decide) (by decide) (by decide) (by decide) (fun _ _ => rfl) (Nat.le_of_ble_eq_true rfl) (by decide) d_Im_receiveAll_15 (fun H locs hP hD hS => ?_)
  have hP : va_P D cls [(h, .inr (1, [.ref a])), (a, .inl (cJ, 12544, .inr (.inl (va_cpy g f (nI 0).toNatClampNeg (nI 0).toNatClampNeg (nI 12544).toNatClampNeg)))), (h2, .inr (1, [.ref a2])), (a2, .inl (cJ, 12544, .inr (.inl (g))))] H := hP
  have hD : va_D A [(h, .inr (1, [.ref a])), (a, .inl (cJ, 12544, .inr (.inl (va_cpy g f (nI 0).toNatClampNeg (nI 0).toNatClampNeg (nI 12544).toNatClampNeg)))), (h2, .inr (1, [.ref a2])), (a2, .inl (cJ, 12544, .inr (.inl (g))))] := hD
  rw [nI_clamp (by decide), nI_clamp (by decide)] at hP hD
  exact q_vret hx hb hr hlk hK hP hD hS d_Im_receiveAll_18 (rfl)
end
section
theorem qv_rt_lt (f : Nat → Int64) (T v : Nat) : qv_rt f T v < 65536 := qv_lk_lt f T v
theorem qv_nt_lt (f : Nat → Int64) (T i : Nat) : qv_nt f T i < 256 := qv_by_lt f T (32 + i)
set_option maxHeartbeats 4000000 in
set_option maxRecDepth 100000 in
theorem c_Tb_startOf (l : Launch) (D : va_G) (n : Nat) (kn : n < 65536) : qMi l y_Tb_startOf b_Tb_startOf 1 (some .int) (rmL 1) D [] [.int (nI n)] [] [] (nI (2 + n * 7)) := by
  refine q_start (Qc := qZi D _ _ _) (by decide +kernel) (Nat.le_of_ble_eq_true rfl) ?_
  intro p e s m below meth c A hx hb hr hlk hml hown hts hK hP hD hS hA hN ls hl
  have hl : lv_has ls 1 [(0, .int (nI n))] := hl
  have hP : va_P D cls [] s.heap := hP
  have hD : va_D A [] := hD
  refine lv_iconst (v := nI 2) hx hb d_Tb_startOf_0 (by decide) ?_
  refine lv_iload_n hx hb d_Tb_startOf_1 rfl (lv_at hl 0 rfl) ?_
  refine lv_bipush (v := nI 7) hx hb d_Tb_startOf_2 (by decide) ?_
  refine lv_imul hx hb d_Tb_startOf_4 ?_
  refine q_ti (y := nI (n * 7)) (pk_mul _ _) ?_
  refine lv_iadd hx hb d_Tb_startOf_5 ?_
  refine q_ti (y := nI (2 + (n * 7))) (nI_add _ _) ?_
  exact q_iret hx hb hr hlk hK hP hD hS d_Tb_startOf_6 (rfl) (rfl)
set_option maxHeartbeats 4000000 in
set_option maxRecDepth 100000 in
theorem c_Tb_rootOf (l : Launch) (D : va_G) (cJ : ClassId) (t : Nat) (T : Nat) (h : Nat) (a : Nat) (f : Nat → Int64) (v : Nat) (kT : T < 1000) (kv : v < 65536) : qMi l y_Tb_rootOf b_Tb_rootOf 2 (some .int) (rmL 3) D [(cJ, .long)] [.ref t, .int (nI v)] [(t, .inr (2, [.ref h, .int (nI T)])), (h, .inr (1, [.ref a])), (a, .inl (cJ, 12544, .inr (.inl (f))))] [(t, .inr (2, [.ref h, .int (nI T)])), (h, .inr (1, [.ref a])), (a, .inl (cJ, 12544, .inr (.inl (f))))] (nI (qv_rt f T v)) := by
  refine q_start (Qc := qZi D _ _ _) (by decide +kernel) (Nat.le_of_ble_eq_true rfl) ?_
  intro p e s m below meth c A hx hb hr hlk hml hown hts hK hP hD hS hA hN ls hl
  have hl : lv_has ls 2 [(0, .ref t), (1, .int (nI v))] := hl
  have hP : va_P D cls [(t, .inr (2, [.ref h, .int (nI T)])), (h, .inr (1, [.ref a])), (a, .inl (cJ, 12544, .inr (.inl (f))))] s.heap := hP
  have hD : va_D A [(t, .inr (2, [.ref h, .int (nI T)])), (h, .inr (1, [.ref a])), (a, .inl (cJ, 12544, .inr (.inl (f))))] := hD
  refine lv_aload_n hx hb d_Tb_rootOf_0 rfl (lv_at hl 0 rfl) ?_
  refine va_get (D := D) (ci := 2) (v := .ref h) (C := R_Tb) (T := F_Tb) (N := 2) hx hb hts i_Tb hown hK hP 0 rfl rfl 0 (by decide) (hts _ fl_Tb_9) (fun _ h9 => h9) rfl d_Tb_rootOf_1 ?_
  refine lv_aload_n hx hb d_Tb_rootOf_4 rfl (lv_at hl 0 rfl) ?_
  refine va_get (D := D) (ci := 2) (v := .int (nI T)) (C := R_Tb) (T := F_Tb) (N := 2) hx hb hts i_Tb hown hK hP 0 rfl rfl 1 (by decide) (hts _ fl_Tb_19) (fun _ h9 => h9) rfl d_Tb_rootOf_5 ?_
  refine lv_iload_n hx hb d_Tb_rootOf_8 rfl (lv_at hl 1 rfl) ?_
  refine q_callVi (As := [.int (nI T), .int (nI v)]) (rest := []) (wsC := [(h, .inr (1, [.ref a])), (a, .inl (cJ, 12544, .inr (.inl (f))))]) (wsR := [(t, .inr (2, [.ref h, .int (nI T)]))]) (wsC' := [(h, .inr (1, [.ref a])), (a, .inl (cJ, 12544, .inr (.inl (f))))]) (wsN := [(t, .inr (2, [.ref h, .int (nI T)])), (h, .inr (1, [.ref a])), (a, .inl (cJ, 12544, .inr (.inl (f))))]) (isT := [0]) (isC := [1, 2]) (isR := [0]) (isN := [0, 1, 2]) (k := 2) (ci := 1) (C := R_Im) ⟨hx, hb, hml, hown, hts⟩ (c_Im_linkAt l D cJ h a f T v (by omega) (by omega)) (tw_V ml_Tb_23 im_Im_linkAt se_Im_linkAt in_Im cd_Im_linkAt) rfl ⟨by decide +kernel, Nat.le_of_ble_eq_true rfl, Nat.le_of_ble_eq_true rfl⟩ ⟨Nat.le_of_ble_eq_true rfl, Nat.le_of_ble_eq_true rfl⟩ hK hP hD hS hA hN rfl ⟨rfl, rfl, rfl, by decide, by decide, by decide, by decide⟩ rfl rfl rfl hl.1 rfl rfl (Nat.le_of_ble_eq_true rfl) d_Tb_rootOf_9 (fun H locs hP hD hS => ?_)
  have hq1 := qv_lk_lt f T v
  exact q_iret hx hb hr hlk hK hP hD hS d_Tb_rootOf_12 (rfl) (rfl)
set_option maxHeartbeats 4000000 in
set_option maxRecDepth 100000 in
theorem c_Tb_setRoot (l : Launch) (D : va_G) (cJ : ClassId) (t : Nat) (T : Nat) (h : Nat) (a : Nat) (f : Nat → Int64) (v : Nat) (r : Nat) (kT : T < 1000) (kv : v < 65536) (kr : r < 65536) : qMv l y_Tb_setRoot b_Tb_setRoot 3 none (rmL 3) D [(cJ, .long)] [.ref t, .int (nI v), .int (nI r)] [(t, .inr (2, [.ref h, .int (nI T)])), (h, .inr (1, [.ref a])), (a, .inl (cJ, 12544, .inr (.inl (f))))] [(t, .inr (2, [.ref h, .int (nI T)])), (h, .inr (1, [.ref a])), (a, .inl (cJ, 12544, .inr (.inl (qv_setL f T v r))))] := by
  refine q_start (Qc := qZv D _ _) (by decide +kernel) (Nat.le_of_ble_eq_true rfl) ?_
  intro p e s m below meth c A hx hb hr hlk hml hown hts hK hP hD hS hA hN ls hl
  have hl : lv_has ls 3 [(0, .ref t), (1, .int (nI v)), (2, .int (nI r))] := hl
  have hP : va_P D cls [(t, .inr (2, [.ref h, .int (nI T)])), (h, .inr (1, [.ref a])), (a, .inl (cJ, 12544, .inr (.inl (f))))] s.heap := hP
  have hD : va_D A [(t, .inr (2, [.ref h, .int (nI T)])), (h, .inr (1, [.ref a])), (a, .inl (cJ, 12544, .inr (.inl (f))))] := hD
  refine lv_aload_n hx hb d_Tb_setRoot_0 rfl (lv_at hl 0 rfl) ?_
  refine va_get (D := D) (ci := 2) (v := .ref h) (C := R_Tb) (T := F_Tb) (N := 2) hx hb hts i_Tb hown hK hP 0 rfl rfl 0 (by decide) (hts _ fl_Tb_9) (fun _ h9 => h9) rfl d_Tb_setRoot_1 ?_
  refine lv_aload_n hx hb d_Tb_setRoot_4 rfl (lv_at hl 0 rfl) ?_
  refine va_get (D := D) (ci := 2) (v := .int (nI T)) (C := R_Tb) (T := F_Tb) (N := 2) hx hb hts i_Tb hown hK hP 0 rfl rfl 1 (by decide) (hts _ fl_Tb_19) (fun _ h9 => h9) rfl d_Tb_setRoot_5 ?_
  refine lv_iload_n hx hb d_Tb_setRoot_8 rfl (lv_at hl 1 rfl) ?_
  refine lv_iload_n hx hb d_Tb_setRoot_9 rfl (lv_at hl 2 rfl) ?_
  refine q_callVv (As := [.int (nI T), .int (nI v), .int (nI r)]) (rest := []) (wsC := [(h, .inr (1, [.ref a])), (a, .inl (cJ, 12544, .inr (.inl (f))))]) (wsR := [(t, .inr (2, [.ref h, .int (nI T)]))]) (wsC' := [(h, .inr (1, [.ref a])), (a, .inl (cJ, 12544, .inr (.inl (qv_setL f T v r))))]) (wsN := [(t, .inr (2, [.ref h, .int (nI T)])), (h, .inr (1, [.ref a])), (a, .inl (cJ, 12544, .inr (.inl (qv_setL f T v r))))]) (isT := [0]) (isC := [1, 2]) (isR := [0]) (isN := [0, 1, 2]) (k := 3) (ci := 1) (C := R_Im) ⟨hx, hb, hml, hown, hts⟩ (c_Im_setLink l D cJ h a f T v r (by omega) (by omega) (by omega)) (tw_V ml_Tb_29 im_Im_setLink se_Im_setLink in_Im cd_Im_setLink) rfl ⟨by decide +kernel, Nat.le_of_ble_eq_true rfl, Nat.le_of_ble_eq_true rfl⟩ ⟨Nat.le_of_ble_eq_true rfl, Nat.le_of_ble_eq_true rfl⟩ hK hP hD hS hA hN rfl ⟨rfl, rfl, rfl, by decide, by decide, by decide, by decide⟩ rfl rfl rfl hl.1 rfl rfl (Nat.le_of_ble_eq_true rfl) d_Tb_setRoot_10 (fun H locs hP hD hS => ?_)
  exact q_vret hx hb hr hlk hK hP hD hS d_Tb_setRoot_13 (rfl)
set_option maxHeartbeats 4000000 in
set_option maxRecDepth 100000 in
theorem c_Tb_noteAt (l : Launch) (D : va_G) (cJ : ClassId) (t : Nat) (T : Nat) (h : Nat) (a : Nat) (f : Nat → Int64) (i : Nat) (kT : T < 1000) (ki : i < 60000) : qMi l y_Tb_noteAt b_Tb_noteAt 2 (some .int) (rmL 2) D [(cJ, .long)] [.ref t, .int (nI i)] [(t, .inr (2, [.ref h, .int (nI T)])), (h, .inr (1, [.ref a])), (a, .inl (cJ, 12544, .inr (.inl (f))))] [(t, .inr (2, [.ref h, .int (nI T)])), (h, .inr (1, [.ref a])), (a, .inl (cJ, 12544, .inr (.inl (f))))] (nI (qv_nt f T i)) := by
  refine q_start (Qc := qZi D _ _ _) (by decide +kernel) (Nat.le_of_ble_eq_true rfl) ?_
  intro p e s m below meth c A hx hb hr hlk hml hown hts hK hP hD hS hA hN ls hl
  have hl : lv_has ls 2 [(0, .ref t), (1, .int (nI i))] := hl
  have hP : va_P D cls [(t, .inr (2, [.ref h, .int (nI T)])), (h, .inr (1, [.ref a])), (a, .inl (cJ, 12544, .inr (.inl (f))))] s.heap := hP
  have hD : va_D A [(t, .inr (2, [.ref h, .int (nI T)])), (h, .inr (1, [.ref a])), (a, .inl (cJ, 12544, .inr (.inl (f))))] := hD
  refine lv_aload_n hx hb d_Tb_noteAt_0 rfl (lv_at hl 0 rfl) ?_
  refine va_get (D := D) (ci := 2) (v := .ref h) (C := R_Tb) (T := F_Tb) (N := 2) hx hb hts i_Tb hown hK hP 0 rfl rfl 0 (by decide) (hts _ fl_Tb_9) (fun _ h9 => h9) rfl d_Tb_noteAt_1 ?_
  refine lv_aload_n hx hb d_Tb_noteAt_4 rfl (lv_at hl 0 rfl) ?_
  refine va_get (D := D) (ci := 2) (v := .int (nI T)) (C := R_Tb) (T := F_Tb) (N := 2) hx hb hts i_Tb hown hK hP 0 rfl rfl 1 (by decide) (hts _ fl_Tb_19) (fun _ h9 => h9) rfl d_Tb_noteAt_5 ?_
  refine lv_bipush (v := nI 32) hx hb d_Tb_noteAt_8 (by decide) ?_
  refine lv_iload_n hx hb d_Tb_noteAt_10 rfl (lv_at hl 1 rfl) ?_
  refine lv_iadd hx hb d_Tb_noteAt_11 ?_
  refine q_ti (y := nI (32 + i)) (nI_add _ _) ?_
  refine q_callVi (As := [.int (nI T), .int (nI (32 + i))]) (rest := []) (wsC := [(h, .inr (1, [.ref a])), (a, .inl (cJ, 12544, .inr (.inl (f))))]) (wsR := [(t, .inr (2, [.ref h, .int (nI T)]))]) (wsC' := [(h, .inr (1, [.ref a])), (a, .inl (cJ, 12544, .inr (.inl (f))))]) (wsN := [(t, .inr (2, [.ref h, .int (nI T)])), (h, .inr (1, [.ref a])), (a, .inl (cJ, 12544, .inr (.inl (f))))]) (isT := [0]) (isC := [1, 2]) (isR := [0]) (isN := [0, 1, 2]) (k := 2) (ci := 1) (C := R_Im) ⟨hx, hb, hml, hown, hts⟩ (c_Im_byteAt l D cJ h a f T (32 + i) (by omega) (by omega)) (tw_V ml_Tb_33 im_Im_byteAt se_Im_byteAt in_Im cd_Im_byteAt) rfl ⟨by decide +kernel, Nat.le_of_ble_eq_true rfl, Nat.le_of_ble_eq_true rfl⟩ ⟨Nat.le_of_ble_eq_true rfl, Nat.le_of_ble_eq_true rfl⟩ hK hP hD hS hA hN rfl ⟨rfl, rfl, rfl, by decide, by decide, by decide, by decide⟩ rfl rfl rfl hl.1 rfl rfl (Nat.le_of_ble_eq_true rfl) d_Tb_noteAt_12 (fun H locs hP hD hS => ?_)
  have hq1 := qv_by_lt f T (32 + i)
  exact q_iret hx hb hr hlk hK hP hD hS d_Tb_noteAt_15 (rfl) (rfl)
set_option maxHeartbeats 4000000 in
set_option maxRecDepth 100000 in
theorem c_Tb_setNote (l : Launch) (D : va_G) (cJ : ClassId) (t : Nat) (T : Nat) (h : Nat) (a : Nat) (f : Nat → Int64) (i : Nat) (v : Nat) (kT : T < 1000) (ki : i < 60000) (kv : v < 60000) : qMv l y_Tb_setNote b_Tb_setNote 3 none (rmL 2) D [(cJ, .long)] [.ref t, .int (nI i), .int (nI v)] [(t, .inr (2, [.ref h, .int (nI T)])), (h, .inr (1, [.ref a])), (a, .inl (cJ, 12544, .inr (.inl (f))))] [(t, .inr (2, [.ref h, .int (nI T)])), (h, .inr (1, [.ref a])), (a, .inl (cJ, 12544, .inr (.inl (qv_setB f T (32 + i) v))))] := by
  refine q_start (Qc := qZv D _ _) (by decide +kernel) (Nat.le_of_ble_eq_true rfl) ?_
  intro p e s m below meth c A hx hb hr hlk hml hown hts hK hP hD hS hA hN ls hl
  have hl : lv_has ls 3 [(0, .ref t), (1, .int (nI i)), (2, .int (nI v))] := hl
  have hP : va_P D cls [(t, .inr (2, [.ref h, .int (nI T)])), (h, .inr (1, [.ref a])), (a, .inl (cJ, 12544, .inr (.inl (f))))] s.heap := hP
  have hD : va_D A [(t, .inr (2, [.ref h, .int (nI T)])), (h, .inr (1, [.ref a])), (a, .inl (cJ, 12544, .inr (.inl (f))))] := hD
  refine lv_aload_n hx hb d_Tb_setNote_0 rfl (lv_at hl 0 rfl) ?_
  refine va_get (D := D) (ci := 2) (v := .ref h) (C := R_Tb) (T := F_Tb) (N := 2) hx hb hts i_Tb hown hK hP 0 rfl rfl 0 (by decide) (hts _ fl_Tb_9) (fun _ h9 => h9) rfl d_Tb_setNote_1 ?_
  refine lv_aload_n hx hb d_Tb_setNote_4 rfl (lv_at hl 0 rfl) ?_
  refine va_get (D := D) (ci := 2) (v := .int (nI T)) (C := R_Tb) (T := F_Tb) (N := 2) hx hb hts i_Tb hown hK hP 0 rfl rfl 1 (by decide) (hts _ fl_Tb_19) (fun _ h9 => h9) rfl d_Tb_setNote_5 ?_
  refine lv_bipush (v := nI 32) hx hb d_Tb_setNote_8 (by decide) ?_
  refine lv_iload_n hx hb d_Tb_setNote_10 rfl (lv_at hl 1 rfl) ?_
  refine lv_iadd hx hb d_Tb_setNote_11 ?_
  refine q_ti (y := nI (32 + i)) (nI_add _ _) ?_
  refine lv_iload_n hx hb d_Tb_setNote_12 rfl (lv_at hl 2 rfl) ?_
  refine q_callVv (As := [.int (nI T), .int (nI (32 + i)), .int (nI v)]) (rest := []) (wsC := [(h, .inr (1, [.ref a])), (a, .inl (cJ, 12544, .inr (.inl (f))))]) (wsR := [(t, .inr (2, [.ref h, .int (nI T)]))]) (wsC' := [(h, .inr (1, [.ref a])), (a, .inl (cJ, 12544, .inr (.inl (qv_setB f T (32 + i) v))))]) (wsN := [(t, .inr (2, [.ref h, .int (nI T)])), (h, .inr (1, [.ref a])), (a, .inl (cJ, 12544, .inr (.inl (qv_setB f T (32 + i) v))))]) (isT := [0]) (isC := [1, 2]) (isR := [0]) (isN := [0, 1, 2]) (k := 3) (ci := 1) (C := R_Im) ⟨hx, hb, hml, hown, hts⟩ (c_Im_setByte l D cJ h a f T (32 + i) v (by omega) (by omega) (by omega)) (tw_V ml_Tb_36 im_Im_setByte se_Im_setByte in_Im cd_Im_setByte) rfl ⟨by decide +kernel, Nat.le_of_ble_eq_true rfl, Nat.le_of_ble_eq_true rfl⟩ ⟨Nat.le_of_ble_eq_true rfl, Nat.le_of_ble_eq_true rfl⟩ hK hP hD hS hA hN rfl ⟨rfl, rfl, rfl, by decide, by decide, by decide, by decide⟩ rfl rfl rfl hl.1 rfl rfl (Nat.le_of_ble_eq_true rfl) d_Tb_setNote_13 (fun H locs hP hD hS => ?_)
  exact q_vret hx hb hr hlk hK hP hD hS d_Tb_setNote_16 (rfl)
set_option maxHeartbeats 4000000 in
set_option maxRecDepth 100000 in
theorem c_Tb_waysToZ (l : Launch) (D : va_G) (cJ : ClassId) (t : Nat) (T : Nat) (h : Nat) (a : Nat) (f : Nat → Int64) (b : Nat) (kT : T < 1000) (kb : b < 65536) (kz : b < 16) : qMi l y_Tb_waysTo b_Tb_waysTo 3 (some .int) (rmL 2) D [(cJ, .long)] [.ref t, .int (nI b)] [(t, .inr (2, [.ref h, .int (nI T)])), (h, .inr (1, [.ref a])), (a, .inl (cJ, 12544, .inr (.inl (f))))] [(t, .inr (2, [.ref h, .int (nI T)])), (h, .inr (1, [.ref a])), (a, .inl (cJ, 12544, .inr (.inl (f))))] (nI (qv_wy f T b)) := by
  refine q_start (Qc := qZi D _ _ _) (by decide +kernel) (Nat.le_of_ble_eq_true rfl) ?_
  intro p e s m below meth c A hx hb hr hlk hml hown hts hK hP hD hS hA hN ls hl
  have hl : lv_has ls 3 [(0, .ref t), (1, .int (nI b))] := hl
  have hP : va_P D cls [(t, .inr (2, [.ref h, .int (nI T)])), (h, .inr (1, [.ref a])), (a, .inl (cJ, 12544, .inr (.inl (f))))] s.heap := hP
  have hD : va_D A [(t, .inr (2, [.ref h, .int (nI T)])), (h, .inr (1, [.ref a])), (a, .inl (cJ, 12544, .inr (.inl (f))))] := hD
  refine lv_iload_n hx hb d_Tb_waysTo_0 rfl (lv_at hl 1 rfl) ?_
  refine lv_bipush (v := nI 16) hx hb d_Tb_waysTo_1 (by decide) ?_
  refine lv_isub hx hb d_Tb_waysTo_3 ?_
  refine lv_istore_n (lv' := [(2, .int ((nI b) - (nI 16))), (0, .ref t), (1, .int (nI b))]) hx hb d_Tb_waysTo_4 rfl hl (by decide) rfl (fun ls hl => ?_)
  refine lv_iload_n hx hb d_Tb_waysTo_5 rfl (lv_at hl 0 rfl) ?_
  refine lv_if_lt (tgt := 43) hx hb d_Tb_waysTo_6 (by decide) (fun c6 => ?_) (fun c6 => ?_)
  · refine lv_iconst (v := nI 0) hx hb d_Tb_waysTo_43 (by decide) ?_
    exact q_iret hx hb hr hlk hK hP hD hS d_Tb_waysTo_44 (by unfold qv_wy; rw [if_neg (fun q => by have := q.1; omega)]) (rfl)
  · exact absurd (pk_sneg (by omega) (by omega)) c6
set_option maxHeartbeats 4000000 in
set_option maxRecDepth 100000 in
theorem c_Tb_waysToP (l : Launch) (D : va_G) (cJ : ClassId) (t : Nat) (T : Nat) (h : Nat) (a : Nat) (f : Nat → Int64) (b : Nat) (kT : T < 1000) (kb : b < 65536) (kz : 16 ≤ b) : qMi l y_Tb_waysTo b_Tb_waysTo 3 (some .int) (rmL 2) D [(cJ, .long)] [.ref t, .int (nI b)] [(t, .inr (2, [.ref h, .int (nI T)])), (h, .inr (1, [.ref a])), (a, .inl (cJ, 12544, .inr (.inl (f))))] [(t, .inr (2, [.ref h, .int (nI T)])), (h, .inr (1, [.ref a])), (a, .inl (cJ, 12544, .inr (.inl (f))))] (nI (qv_wy f T b)) := by
  refine q_start (Qc := qZi D _ _ _) (by decide +kernel) (Nat.le_of_ble_eq_true rfl) ?_
  intro p e s m below meth c A hx hb hr hlk hml hown hts hK hP hD hS hA hN ls hl
  have hl : lv_has ls 3 [(0, .ref t), (1, .int (nI b))] := hl
  have hP : va_P D cls [(t, .inr (2, [.ref h, .int (nI T)])), (h, .inr (1, [.ref a])), (a, .inl (cJ, 12544, .inr (.inl (f))))] s.heap := hP
  have hD : va_D A [(t, .inr (2, [.ref h, .int (nI T)])), (h, .inr (1, [.ref a])), (a, .inl (cJ, 12544, .inr (.inl (f))))] := hD
  refine lv_iload_n hx hb d_Tb_waysTo_0 rfl (lv_at hl 1 rfl) ?_
  refine lv_bipush (v := nI 16) hx hb d_Tb_waysTo_1 (by decide) ?_
  refine lv_isub hx hb d_Tb_waysTo_3 ?_
  refine q_ti (y := nI (b - 16)) (pk_sub (by omega)) ?_
  refine lv_istore_n (lv' := [(2, .int (nI (b - 16))), (0, .ref t), (1, .int (nI b))]) hx hb d_Tb_waysTo_4 rfl hl (by decide) rfl (fun ls hl => ?_)
  refine lv_iload_n hx hb d_Tb_waysTo_5 rfl (lv_at hl 0 rfl) ?_
  refine lv_if_lt (tgt := 43) hx hb d_Tb_waysTo_6 (by decide) (fun c6 => ?_) (fun c6 => ?_)
  · exact absurd c6 (nI_pos (by omega))
  · refine lv_iload_n hx hb d_Tb_waysTo_9 rfl (lv_at hl 0 rfl) ?_
    refine lv_sipush (v := nI 768) hx hb d_Tb_waysTo_10 (by decide) ?_
    refine lv_icmp_ge (tgt := 43) hx hb d_Tb_waysTo_13 (by decide) (fun c13 => ?_) (fun c13 => ?_)
    · have c13 : 768 ≤ (b - 16) := (nI_leI (by omega) (by omega)).mp c13
      refine lv_iconst (v := nI 0) hx hb d_Tb_waysTo_43 (by decide) ?_
      exact q_iret hx hb hr hlk hK hP hD hS d_Tb_waysTo_44 (by unfold qv_wy; rw [if_neg (fun q => by have := q.2; omega)]) (rfl)
    · have c13 : ¬ 768 ≤ (b - 16) := fun h9 => c13 ((nI_leI (by omega) (by omega)).mpr h9)
      refine lv_aload_n hx hb d_Tb_waysTo_16 rfl (lv_at hl 1 rfl) ?_
      refine va_get (D := D) (ci := 2) (v := .ref h) (C := R_Tb) (T := F_Tb) (N := 2) hx hb hts i_Tb hown hK hP 0 rfl rfl 0 (by decide) (hts _ fl_Tb_9) (fun _ h9 => h9) rfl d_Tb_waysTo_17 ?_
      refine lv_aload_n hx hb d_Tb_waysTo_20 rfl (lv_at hl 1 rfl) ?_
      refine va_get (D := D) (ci := 2) (v := .int (nI T)) (C := R_Tb) (T := F_Tb) (N := 2) hx hb hts i_Tb hown hK hP 0 rfl rfl 1 (by decide) (hts _ fl_Tb_19) (fun _ h9 => h9) rfl d_Tb_waysTo_21 ?_
      refine lv_iconst (v := nI 1) hx hb d_Tb_waysTo_24 (by decide) ?_
      refine lv_iadd hx hb d_Tb_waysTo_25 ?_
      refine q_ti (y := nI (T + 1)) (nI_add _ _) ?_
      refine lv_iload_n hx hb d_Tb_waysTo_26 rfl (lv_at hl 0 rfl) ?_
      refine lv_sipush (v := nI 128) hx hb d_Tb_waysTo_27 (by decide) ?_
      refine lv_idiv hx hb d_Tb_waysTo_30 (by decide) ?_
      refine q_ti (y := nI ((b - 16) / 128)) (pk_div (by omega) (by decide) (by decide)) ?_
      refine lv_iadd hx hb d_Tb_waysTo_31 ?_
      refine q_ti (y := nI (T + 1 + ((b - 16) / 128))) (nI_add _ _) ?_
      refine lv_iload_n hx hb d_Tb_waysTo_32 rfl (lv_at hl 0 rfl) ?_
      refine lv_sipush (v := nI 128) hx hb d_Tb_waysTo_33 (by decide) ?_
      refine lv_irem hx hb d_Tb_waysTo_36 (by decide) ?_
      refine q_ti (y := nI ((b - 16) % 128)) (pk_rem (by omega) (by decide) (by decide)) ?_
      refine q_callVi (As := [.int (nI (T + 1 + ((b - 16) / 128))), .int (nI ((b - 16) % 128))]) (rest := []) (wsC := [(h, .inr (1, [.ref a])), (a, .inl (cJ, 12544, .inr (.inl (f))))]) (wsR := [(t, .inr (2, [.ref h, .int (nI T)]))]) (wsC' := [(h, .inr (1, [.ref a])), (a, .inl (cJ, 12544, .inr (.inl (f))))]) (wsN := [(t, .inr (2, [.ref h, .int (nI T)])), (h, .inr (1, [.ref a])), (a, .inl (cJ, 12544, .inr (.inl (f))))]) (isT := [0]) (isC := [1, 2]) (isR := [0]) (isN := [0, 1, 2]) (k := 2) (ci := 1) (C := R_Im) ⟨hx, hb, hml, hown, hts⟩ (c_Im_byteAt l D cJ h a f (T + 1 + ((b - 16) / 128)) ((b - 16) % 128) (by omega) (by omega)) (tw_V ml_Tb_33 im_Im_byteAt se_Im_byteAt in_Im cd_Im_byteAt) rfl ⟨by decide +kernel, Nat.le_of_ble_eq_true rfl, Nat.le_of_ble_eq_true rfl⟩ ⟨Nat.le_of_ble_eq_true rfl, Nat.le_of_ble_eq_true rfl⟩ hK hP hD hS hA hN rfl ⟨rfl, rfl, rfl, by decide, by decide, by decide, by decide⟩ rfl rfl rfl hl.1 rfl rfl (Nat.le_of_ble_eq_true rfl) d_Tb_waysTo_37 (fun H locs hP hD hS => ?_)
      have hq1 := qv_by_lt f (T + 1 + ((b - 16) / 128)) ((b - 16) % 128)
      refine lv_goto (tgt := 44) hx hb d_Tb_waysTo_40 (by decide) ?_
      exact q_iret hx hb hr hlk hK hP hD hS d_Tb_waysTo_44 (by unfold qv_wy; rw [if_pos ⟨by omega, by omega⟩]) (rfl)
theorem c_Tb_waysTo (l : Launch) (D : va_G) (cJ : ClassId) (t : Nat) (T : Nat) (h : Nat) (a : Nat) (f : Nat → Int64) (b : Nat) (kT : T < 1000) (kb : b < 65536) : qMi l y_Tb_waysTo b_Tb_waysTo 3 (some .int) (rmL 2) D [(cJ, .long)] [.ref t, .int (nI b)] [(t, .inr (2, [.ref h, .int (nI T)])), (h, .inr (1, [.ref a])), (a, .inl (cJ, 12544, .inr (.inl (f))))] [(t, .inr (2, [.ref h, .int (nI T)])), (h, .inr (1, [.ref a])), (a, .inl (cJ, 12544, .inr (.inl (f))))] (nI (qv_wy f T b)) := by
  by_cases hz : b < 16
  · exact c_Tb_waysToZ l D cJ t T h a f b kT kb hz
  · exact c_Tb_waysToP l D cJ t T h a f b kT kb (by omega)
set_option maxHeartbeats 4000000 in
set_option maxRecDepth 100000 in
theorem c_Tb_setWaysZ (l : Launch) (D : va_G) (cJ : ClassId) (t : Nat) (T : Nat) (h : Nat) (a : Nat) (f : Nat → Int64) (b : Nat) (v : Nat) (kT : T < 1000) (kb : b < 65536) (kv : v < 65536) (kz : b < 16) : qMv l y_Tb_setWays b_Tb_setWays 4 none (rmL 2) D [(cJ, .long)] [.ref t, .int (nI b), .int (nI v)] [(t, .inr (2, [.ref h, .int (nI T)])), (h, .inr (1, [.ref a])), (a, .inl (cJ, 12544, .inr (.inl (f))))] [(t, .inr (2, [.ref h, .int (nI T)])), (h, .inr (1, [.ref a])), (a, .inl (cJ, 12544, .inr (.inl (qv_setY f T b v))))] := by
  refine q_start (Qc := qZv D _ _) (by decide +kernel) (Nat.le_of_ble_eq_true rfl) ?_
  intro p e s m below meth c A hx hb hr hlk hml hown hts hK hP hD hS hA hN ls hl
  have hl : lv_has ls 4 [(0, .ref t), (1, .int (nI b)), (2, .int (nI v))] := hl
  have hP : va_P D cls [(t, .inr (2, [.ref h, .int (nI T)])), (h, .inr (1, [.ref a])), (a, .inl (cJ, 12544, .inr (.inl (f))))] s.heap := hP
  have hD : va_D A [(t, .inr (2, [.ref h, .int (nI T)])), (h, .inr (1, [.ref a])), (a, .inl (cJ, 12544, .inr (.inl (f))))] := hD
  refine lv_iload_n hx hb d_Tb_setWays_0 rfl (lv_at hl 1 rfl) ?_
  refine lv_bipush (v := nI 16) hx hb d_Tb_setWays_1 (by decide) ?_
  refine lv_isub hx hb d_Tb_setWays_3 ?_
  refine lv_istore_n (lv' := [(3, .int ((nI b) - (nI 16))), (0, .ref t), (1, .int (nI b)), (2, .int (nI v))]) hx hb d_Tb_setWays_4 rfl hl (by decide) rfl (fun ls hl => ?_)
  refine lv_iload_n hx hb d_Tb_setWays_5 rfl (lv_at hl 0 rfl) ?_
  refine lv_if_lt (tgt := 41) hx hb d_Tb_setWays_6 (by decide) (fun c6 => ?_) (fun c6 => ?_)
  · exact q_vret hx hb hr hlk hK hP hD hS d_Tb_setWays_41 (by unfold qv_setY; rw [if_neg (fun q => by have := q.1; omega)])
  · exact absurd (pk_sneg (by omega) (by omega)) c6
set_option maxHeartbeats 4000000 in
set_option maxRecDepth 100000 in
theorem c_Tb_setWaysP (l : Launch) (D : va_G) (cJ : ClassId) (t : Nat) (T : Nat) (h : Nat) (a : Nat) (f : Nat → Int64) (b : Nat) (v : Nat) (kT : T < 1000) (kb : b < 65536) (kv : v < 65536) (kz : 16 ≤ b) : qMv l y_Tb_setWays b_Tb_setWays 4 none (rmL 2) D [(cJ, .long)] [.ref t, .int (nI b), .int (nI v)] [(t, .inr (2, [.ref h, .int (nI T)])), (h, .inr (1, [.ref a])), (a, .inl (cJ, 12544, .inr (.inl (f))))] [(t, .inr (2, [.ref h, .int (nI T)])), (h, .inr (1, [.ref a])), (a, .inl (cJ, 12544, .inr (.inl (qv_setY f T b v))))] := by
  refine q_start (Qc := qZv D _ _) (by decide +kernel) (Nat.le_of_ble_eq_true rfl) ?_
  intro p e s m below meth c A hx hb hr hlk hml hown hts hK hP hD hS hA hN ls hl
  have hl : lv_has ls 4 [(0, .ref t), (1, .int (nI b)), (2, .int (nI v))] := hl
  have hP : va_P D cls [(t, .inr (2, [.ref h, .int (nI T)])), (h, .inr (1, [.ref a])), (a, .inl (cJ, 12544, .inr (.inl (f))))] s.heap := hP
  have hD : va_D A [(t, .inr (2, [.ref h, .int (nI T)])), (h, .inr (1, [.ref a])), (a, .inl (cJ, 12544, .inr (.inl (f))))] := hD
  refine lv_iload_n hx hb d_Tb_setWays_0 rfl (lv_at hl 1 rfl) ?_
  refine lv_bipush (v := nI 16) hx hb d_Tb_setWays_1 (by decide) ?_
  refine lv_isub hx hb d_Tb_setWays_3 ?_
  refine q_ti (y := nI (b - 16)) (pk_sub (by omega)) ?_
  refine lv_istore_n (lv' := [(3, .int (nI (b - 16))), (0, .ref t), (1, .int (nI b)), (2, .int (nI v))]) hx hb d_Tb_setWays_4 rfl hl (by decide) rfl (fun ls hl => ?_)
  refine lv_iload_n hx hb d_Tb_setWays_5 rfl (lv_at hl 0 rfl) ?_
  refine lv_if_lt (tgt := 41) hx hb d_Tb_setWays_6 (by decide) (fun c6 => ?_) (fun c6 => ?_)
  · exact absurd c6 (nI_pos (by omega))
  · refine lv_iload_n hx hb d_Tb_setWays_9 rfl (lv_at hl 0 rfl) ?_
    refine lv_sipush (v := nI 768) hx hb d_Tb_setWays_10 (by decide) ?_
    refine lv_icmp_ge (tgt := 41) hx hb d_Tb_setWays_13 (by decide) (fun c13 => ?_) (fun c13 => ?_)
    · have c13 : 768 ≤ (b - 16) := (nI_leI (by omega) (by omega)).mp c13
      exact q_vret hx hb hr hlk hK hP hD hS d_Tb_setWays_41 (by unfold qv_setY; rw [if_neg (fun q => by have := q.2; omega)])
    · have c13 : ¬ 768 ≤ (b - 16) := fun h9 => c13 ((nI_leI (by omega) (by omega)).mpr h9)
      refine lv_aload_n hx hb d_Tb_setWays_16 rfl (lv_at hl 1 rfl) ?_
      refine va_get (D := D) (ci := 2) (v := .ref h) (C := R_Tb) (T := F_Tb) (N := 2) hx hb hts i_Tb hown hK hP 0 rfl rfl 0 (by decide) (hts _ fl_Tb_9) (fun _ h9 => h9) rfl d_Tb_setWays_17 ?_
      refine lv_aload_n hx hb d_Tb_setWays_20 rfl (lv_at hl 1 rfl) ?_
      refine va_get (D := D) (ci := 2) (v := .int (nI T)) (C := R_Tb) (T := F_Tb) (N := 2) hx hb hts i_Tb hown hK hP 0 rfl rfl 1 (by decide) (hts _ fl_Tb_19) (fun _ h9 => h9) rfl d_Tb_setWays_21 ?_
      refine lv_iconst (v := nI 1) hx hb d_Tb_setWays_24 (by decide) ?_
      refine lv_iadd hx hb d_Tb_setWays_25 ?_
      refine q_ti (y := nI (T + 1)) (nI_add _ _) ?_
      refine lv_iload_n hx hb d_Tb_setWays_26 rfl (lv_at hl 0 rfl) ?_
      refine lv_sipush (v := nI 128) hx hb d_Tb_setWays_27 (by decide) ?_
      refine lv_idiv hx hb d_Tb_setWays_30 (by decide) ?_
      refine q_ti (y := nI ((b - 16) / 128)) (pk_div (by omega) (by decide) (by decide)) ?_
      refine lv_iadd hx hb d_Tb_setWays_31 ?_
      refine q_ti (y := nI (T + 1 + ((b - 16) / 128))) (nI_add _ _) ?_
      refine lv_iload_n hx hb d_Tb_setWays_32 rfl (lv_at hl 0 rfl) ?_
      refine lv_sipush (v := nI 128) hx hb d_Tb_setWays_33 (by decide) ?_
      refine lv_irem hx hb d_Tb_setWays_36 (by decide) ?_
      refine q_ti (y := nI ((b - 16) % 128)) (pk_rem (by omega) (by decide) (by decide)) ?_
      refine lv_iload_n hx hb d_Tb_setWays_37 rfl (lv_at hl 3 rfl) ?_
      refine q_callVv (As := [.int (nI (T + 1 + ((b - 16) / 128))), .int (nI ((b - 16) % 128)), .int (nI v)]) (rest := []) (wsC := [(h, .inr (1, [.ref a])), (a, .inl (cJ, 12544, .inr (.inl (f))))]) (wsR := [(t, .inr (2, [.ref h, .int (nI T)]))]) (wsC' := [(h, .inr (1, [.ref a])), (a, .inl (cJ, 12544, .inr (.inl (qv_setB f (T + 1 + ((b - 16) / 128)) ((b - 16) % 128) v))))]) (wsN := [(t, .inr (2, [.ref h, .int (nI T)])), (h, .inr (1, [.ref a])), (a, .inl (cJ, 12544, .inr (.inl (qv_setB f (T + 1 + ((b - 16) / 128)) ((b - 16) % 128) v))))]) (isT := [0]) (isC := [1, 2]) (isR := [0]) (isN := [0, 1, 2]) (k := 3) (ci := 1) (C := R_Im) ⟨hx, hb, hml, hown, hts⟩ (c_Im_setByte l D cJ h a f (T + 1 + ((b - 16) / 128)) ((b - 16) % 128) v (by omega) (by omega) (by omega)) (tw_V ml_Tb_36 im_Im_setByte se_Im_setByte in_Im cd_Im_setByte) rfl ⟨by decide +kernel, Nat.le_of_ble_eq_true rfl, Nat.le_of_ble_eq_true rfl⟩ ⟨Nat.le_of_ble_eq_true rfl, Nat.le_of_ble_eq_true rfl⟩ hK hP hD hS hA hN rfl ⟨rfl, rfl, rfl, by decide, by decide, by decide, by decide⟩ rfl rfl rfl hl.1 rfl rfl (Nat.le_of_ble_eq_true rfl) d_Tb_setWays_38 (fun H locs hP hD hS => ?_)
      exact q_vret hx hb hr hlk hK hP hD hS d_Tb_setWays_41 (by unfold qv_setY; rw [if_pos ⟨by omega, by omega⟩])
theorem c_Tb_setWays (l : Launch) (D : va_G) (cJ : ClassId) (t : Nat) (T : Nat) (h : Nat) (a : Nat) (f : Nat → Int64) (b : Nat) (v : Nat) (kT : T < 1000) (kb : b < 65536) (kv : v < 65536) : qMv l y_Tb_setWays b_Tb_setWays 4 none (rmL 2) D [(cJ, .long)] [.ref t, .int (nI b), .int (nI v)] [(t, .inr (2, [.ref h, .int (nI T)])), (h, .inr (1, [.ref a])), (a, .inl (cJ, 12544, .inr (.inl (f))))] [(t, .inr (2, [.ref h, .int (nI T)])), (h, .inr (1, [.ref a])), (a, .inl (cJ, 12544, .inr (.inl (qv_setY f T b v))))] := by
  by_cases hz : b < 16
  · exact c_Tb_setWaysZ l D cJ t T h a f b v kT kb kv hz
  · exact c_Tb_setWaysP l D cJ t T h a f b v kT kb kv (by omega)
set_option maxHeartbeats 4000000 in
set_option maxRecDepth 100000 in
theorem c_Tb_becomeLike (l : Launch) (D : va_G) (cJ : ClassId) (t : Nat) (T : Nat) (t2 : Nat) (M : Nat) (h : Nat) (a : Nat) (f : Nat → Int64) (kT : T < 1000) (kM : M < 1000) : qMv l y_Tb_becomeLike b_Tb_becomeLike 3 none (rmL 3) D [(cJ, .long)] [.ref t, .ref t2] [(t, .inr (2, [.ref h, .int (nI T)])), (t2, .inr (2, [.ref h, .int (nI M)])), (h, .inr (1, [.ref a])), (a, .inl (cJ, 12544, .inr (.inl (f))))] [(t, .inr (2, [.ref h, .int (nI T)])), (t2, .inr (2, [.ref h, .int (nI M)])), (h, .inr (1, [.ref a])), (a, .inl (cJ, 12544, .inr (.inl (qv_like f T M))))] := by
  refine q_start (Qc := qZv D _ _) (by decide +kernel) (Nat.le_of_ble_eq_true rfl) ?_
  intro p e s m below meth c A hx hb hr hlk hml hown hts hK hP hD hS hA hN ls hl
  have hl : lv_has ls 3 [(0, .ref t), (1, .ref t2)] := hl
  have hP : va_P D cls [(t, .inr (2, [.ref h, .int (nI T)])), (t2, .inr (2, [.ref h, .int (nI M)])), (h, .inr (1, [.ref a])), (a, .inl (cJ, 12544, .inr (.inl (f))))] s.heap := hP
  have hD : va_D A [(t, .inr (2, [.ref h, .int (nI T)])), (t2, .inr (2, [.ref h, .int (nI M)])), (h, .inr (1, [.ref a])), (a, .inl (cJ, 12544, .inr (.inl (f))))] := hD
  refine lv_iconst (v := nI 0) hx hb d_Tb_becomeLike_0 (by decide) ?_
  refine lv_istore_n (lv' := [(2, .int (nI 0)), (0, .ref t), (1, .ref t2)]) hx hb d_Tb_becomeLike_1 rfl hl (by decide) rfl (fun ls hl => ?_)
  refine q_loop (pc := 2) (σ := Unit) (I := fun i x H locs ls => va_P D cls [(t, .inr (2, [.ref h, .int (nI T)])), (t2, .inr (2, [.ref h, .int (nI M)])), (h, .inr (1, [.ref a])), (a, .inl (cJ, 12544, .inr (.inl (qv_for i (fun g i => qv_dup g (M + i) (T + i)) f))))] H ∧ va_D A [(t, .inr (2, [.ref h, .int (nI T)])), (t2, .inr (2, [.ref h, .int (nI M)])), (h, .inr (1, [.ref a])), (a, .inl (cJ, 12544, .inr (.inl (qv_for i (fun g i => qv_dup g (M + i) (T + i)) f))))] ∧ va_S A s.heap H locs ∧ lv_has ls 3 [(0, .ref t), (1, .ref t2), (2, .int (nI i))]) (7) ?_ ?_ (0) (()) _ _ _ (by omega) ⟨hP, hD, hS, lv_sub hl [1, 2, 0] rfl⟩
  · intro x H locs ls hI
    obtain ⟨hP, hD, hS, hl⟩ := hI
    refine lv_iload_n hx hb d_Tb_becomeLike_2 rfl (lv_at hl 2 rfl) ?_
    refine lv_bipush (v := nI 7) hx hb d_Tb_becomeLike_3 (by decide) ?_
    refine lv_icmp_ge (tgt := 33) hx hb d_Tb_becomeLike_5 (by decide) (fun c5 => ?_) (fun c5 => ?_)
    · have c5 : 7 ≤ 7 := (nI_leI (by omega) (by omega)).mp c5
      exact q_vret hx hb hr hlk hK hP hD hS d_Tb_becomeLike_33 (rfl)
    · have c5 : ¬ 7 ≤ 7 := fun h9 => c5 ((nI_leI (by omega) (by omega)).mpr h9)
      exfalso; omega
  · intro i x H locs ls hi hI ih
    obtain ⟨hP, hD, hS, hl⟩ := hI
    refine lv_iload_n hx hb d_Tb_becomeLike_2 rfl (lv_at hl 2 rfl) ?_
    refine lv_bipush (v := nI 7) hx hb d_Tb_becomeLike_3 (by decide) ?_
    refine lv_icmp_ge (tgt := 33) hx hb d_Tb_becomeLike_5 (by decide) (fun c5 => ?_) (fun c5 => ?_)
    · have c5 : 7 ≤ i := (nI_leI (by omega) (by omega)).mp c5
      exfalso; omega
    · have c5 : ¬ 7 ≤ i := fun h9 => c5 ((nI_leI (by omega) (by omega)).mpr h9)
      refine lv_aload_n hx hb d_Tb_becomeLike_8 rfl (lv_at hl 0 rfl) ?_
      refine va_get (D := D) (ci := 2) (v := .ref h) (C := R_Tb) (T := F_Tb) (N := 2) hx hb hts i_Tb hown hK hP 0 rfl rfl 0 (by decide) (hts _ fl_Tb_9) (fun _ h9 => h9) rfl d_Tb_becomeLike_9 ?_
      refine lv_aload_n hx hb d_Tb_becomeLike_12 rfl (lv_at hl 1 rfl) ?_
      refine va_get (D := D) (ci := 2) (v := .int (nI M)) (C := R_Tb) (T := F_Tb) (N := 2) hx hb hts i_Tb hown hK hP 1 rfl rfl 1 (by decide) (hts _ fl_Tb_19) (fun _ h9 => h9) rfl d_Tb_becomeLike_13 ?_
      refine lv_iload_n hx hb d_Tb_becomeLike_16 rfl (lv_at hl 2 rfl) ?_
      refine lv_iadd hx hb d_Tb_becomeLike_17 ?_
      refine q_ti (y := nI (M + i)) (nI_add _ _) ?_
      refine lv_aload_n hx hb d_Tb_becomeLike_18 rfl (lv_at hl 0 rfl) ?_
      refine va_get (D := D) (ci := 2) (v := .int (nI T)) (C := R_Tb) (T := F_Tb) (N := 2) hx hb hts i_Tb hown hK hP 0 rfl rfl 1 (by decide) (hts _ fl_Tb_19) (fun _ h9 => h9) rfl d_Tb_becomeLike_19 ?_
      refine lv_iload_n hx hb d_Tb_becomeLike_22 rfl (lv_at hl 2 rfl) ?_
      refine lv_iadd hx hb d_Tb_becomeLike_23 ?_
      refine q_ti (y := nI (T + i)) (nI_add _ _) ?_
      refine q_callVv (As := [.int (nI (M + i)), .int (nI (T + i))]) (rest := []) (wsC := [(h, .inr (1, [.ref a])), (a, .inl (cJ, 12544, .inr (.inl (qv_for i (fun g i => qv_dup g (M + i) (T + i)) f))))]) (wsR := [(t, .inr (2, [.ref h, .int (nI T)])), (t2, .inr (2, [.ref h, .int (nI M)]))]) (wsC' := [(h, .inr (1, [.ref a])), (a, .inl (cJ, 12544, .inr (.inl (qv_dup (qv_for i (fun g i => qv_dup g (M + i) (T + i)) f) (M + i) (T + i)))))]) (wsN := [(t, .inr (2, [.ref h, .int (nI T)])), (t2, .inr (2, [.ref h, .int (nI M)])), (h, .inr (1, [.ref a])), (a, .inl (cJ, 12544, .inr (.inl (qv_dup (qv_for i (fun g i => qv_dup g (M + i) (T + i)) f) (M + i) (T + i)))))]) (isT := [0]) (isC := [2, 3]) (isR := [0, 1]) (isN := [0, 1, 2, 3]) (k := 2) (ci := 1) (C := R_Im) ⟨hx, hb, hml, hown, hts⟩ (c_Im_duplicate l D cJ h a (qv_for i (fun g i => qv_dup g (M + i) (T + i)) f) (M + i) (T + i) (by omega) (by omega)) (tw_V ml_Tb_39 im_Im_duplicate se_Im_duplicate in_Im cd_Im_duplicate) rfl ⟨by decide +kernel, Nat.le_of_ble_eq_true rfl, Nat.le_of_ble_eq_true rfl⟩ ⟨Nat.le_of_ble_eq_true rfl, Nat.le_of_ble_eq_true rfl⟩ hK hP hD hS hA hN rfl ⟨rfl, rfl, rfl, by decide, by decide, by decide, by decide⟩ rfl rfl rfl hl.1 rfl rfl (Nat.le_of_ble_eq_true rfl) d_Tb_becomeLike_24 (fun H locs hP hD hS => ?_)
      refine lv_iinc (v := nI (i + 1)) (lv' := [(2, .int (nI (i + 1))), (0, .ref t), (1, .ref t2)]) hx hb d_Tb_becomeLike_27 hl (k := 2) rfl (nI_1 _) (by decide) rfl (fun ls hl => ?_)
      refine lv_goto (tgt := 2) hx hb d_Tb_becomeLike_30 (by decide) ?_
      exact ih (()) _ _ _ ⟨hP, hD, hS, lv_sub hl [1, 2, 0] rfl⟩
end
section
theorem qt_leaf_lt (f : Nat → Int64) (T v p : Nat) : qt_leaf f T v p < 65536 := by
  unfold qt_leaf; split
  · decide
  · exact qv_lk_lt _ _ _
theorem qt_find_lt (f : Nat → Int64) (T v p : Nat) : qt_find f T v p < 65536 := by
  unfold qt_find; split
  · decide
  · exact qv_lk_lt _ _ _
theorem qt_hand_lt {h : Nat} (k : h < 784) : qt_hand h < 784 := by
  unfold qt_hand; split <;> omega
theorem qt_take_f {T K n : Nat} {f : Nat → Int64} {h : Nat} (h1 : qv_wy f T (qt_hand h) = 0) (h2 : qv_wy f K (qt_hand h) = 0) : qt_take T K (n + 1) f h = (qt_hand h, qv_setY f T (qt_hand h) 1, qt_hand h) := by
  conv => lhs; unfold qt_take
  rw [if_pos ⟨h1, h2⟩]
theorem qt_take_n {T K n : Nat} {f : Nat → Int64} {h : Nat} (hn : ¬ (qv_wy f T (qt_hand h) = 0 ∧ qv_wy f K (qt_hand h) = 0)) : qt_take T K (n + 1) f h = qt_take T K n f (qt_hand h) := by
  conv => lhs; unfold qt_take
  rw [if_neg hn]
theorem qt_take_lt (T K n : Nat) (f : Nat → Int64) (h : Nat) (k : h < 784) : (qt_take T K n f h).1 < 784 ∧ (qt_take T K n f h).2.2 < 784 := by
  induction n generalizing h with
  | zero => exact ⟨by show 0 < 784; decide, k⟩
  | succ n ih =>
    by_cases hn : qv_wy f T (qt_hand h) = 0 ∧ qv_wy f K (qt_hand h) = 0
    · rw [qt_take_f hn.1 hn.2]; exact ⟨qt_hand_lt k, qt_hand_lt k⟩
    · rw [qt_take_n hn]; exact ih _ (qt_hand_lt k)
theorem qt_blank_lt (T K : Nat) (f : Nat → Int64) (h : Nat) (k : h < 784) : (qt_blank T K f h).1 < 784 ∧ (qt_blank T K f h).2.2 < 784 := qt_take_lt T K 768 f h k
theorem qt_own_lt (T K k : Nat) (f : Nat → Int64) (h b : Nat) (hk : h < 784) (hb : b < 65536) : (qt_own T K k f h b).1 < 65536 ∧ (qt_own T K k f h b).2.2 < 784 := by
  unfold qt_own
  split
  · exact ⟨hb, hk⟩
  · have := qt_take_lt T K 768 f h hk
    exact ⟨by have := this.1; show (qt_take T K 768 f h).1 < 65536; omega, this.2⟩
set_option maxHeartbeats 4000000 in
set_option maxRecDepth 100000 in
theorem c_Tr_isNew (l : Launch) (D : va_G) (cJ : ClassId) (tr : Nat) (x0 : Nat) (x1 : Nat) (tn : Nat) (T : Nat) (tk : Nat) (K : Nat) (hd : Nat) (h : Nat) (a : Nat) (f : Nat → Int64) (b : Nat) (kT : T < 1000) (kK : K < 1000) (khd : hd < 784) (kb : b < 65536) : qMi l y_Tr_isNew b_Tr_isNew 2 (some .boolean) (rmL 3) D [(cJ, .long)] [.ref tr, .int (nI b)] [(tr, .inr (3, [.ref h, .ref x0, .ref x1, .ref tn, .ref tk, .int (nI hd)])), (tn, .inr (2, [.ref h, .int (nI T)])), (tk, .inr (2, [.ref h, .int (nI K)])), (h, .inr (1, [.ref a])), (a, .inl (cJ, 12544, .inr (.inl (f))))] [(tr, .inr (3, [.ref h, .ref x0, .ref x1, .ref tn, .ref tk, .int (nI hd)])), (tn, .inr (2, [.ref h, .int (nI T)])), (tk, .inr (2, [.ref h, .int (nI K)])), (h, .inr (1, [.ref a])), (a, .inl (cJ, 12544, .inr (.inl (f))))] (if 0 < qv_wy f T b ∧ qv_wy f K b = 0 then 1 else 0) := by
  refine q_start (Qc := qZi D _ _ _) (by decide +kernel) (Nat.le_of_ble_eq_true rfl) ?_
  intro p e s m below meth c A hx hb hr hlk hml hown hts hK hP hD hS hA hN ls hl
  have hl : lv_has ls 2 [(0, .ref tr), (1, .int (nI b))] := hl
  have hP : va_P D cls [(tr, .inr (3, [.ref h, .ref x0, .ref x1, .ref tn, .ref tk, .int (nI hd)])), (tn, .inr (2, [.ref h, .int (nI T)])), (tk, .inr (2, [.ref h, .int (nI K)])), (h, .inr (1, [.ref a])), (a, .inl (cJ, 12544, .inr (.inl (f))))] s.heap := hP
  have hD : va_D A [(tr, .inr (3, [.ref h, .ref x0, .ref x1, .ref tn, .ref tk, .int (nI hd)])), (tn, .inr (2, [.ref h, .int (nI T)])), (tk, .inr (2, [.ref h, .int (nI K)])), (h, .inr (1, [.ref a])), (a, .inl (cJ, 12544, .inr (.inl (f))))] := hD
  refine lv_aload_n hx hb d_Tr_isNew_0 rfl (lv_at hl 0 rfl) ?_
  refine va_get (D := D) (ci := 3) (v := .ref tn) (C := R_Tr) (T := F_Tr) (N := 6) hx hb hts i_Tr hown hK hP 0 rfl rfl 3 (by decide) (hts _ fl_Tr_34) (fun _ h9 => h9) rfl d_Tr_isNew_1 ?_
  refine lv_iload_n hx hb d_Tr_isNew_4 rfl (lv_at hl 1 rfl) ?_
  refine q_callVi (As := [.int (nI b)]) (rest := []) (wsC := [(tn, .inr (2, [.ref h, .int (nI T)])), (h, .inr (1, [.ref a])), (a, .inl (cJ, 12544, .inr (.inl (f))))]) (wsR := [(tr, .inr (3, [.ref h, .ref x0, .ref x1, .ref tn, .ref tk, .int (nI hd)])), (tk, .inr (2, [.ref h, .int (nI K)]))]) (wsC' := [(tn, .inr (2, [.ref h, .int (nI T)])), (h, .inr (1, [.ref a])), (a, .inl (cJ, 12544, .inr (.inl (f))))]) (wsN := [(tr, .inr (3, [.ref h, .ref x0, .ref x1, .ref tn, .ref tk, .int (nI hd)])), (tn, .inr (2, [.ref h, .int (nI T)])), (tk, .inr (2, [.ref h, .int (nI K)])), (h, .inr (1, [.ref a])), (a, .inl (cJ, 12544, .inr (.inl (f))))]) (isT := [0]) (isC := [1, 3, 4]) (isR := [0, 2]) (isN := [0, 2, 1, 3, 4]) (k := 1) (ci := 2) (C := R_Tb) ⟨hx, hb, hml, hown, hts⟩ (c_Tb_waysTo l D cJ tn T h a f b (by omega) (by omega)) (tw_V ml_Tr_41 im_Tb_waysTo se_Tb_waysTo in_Tb cd_Tb_waysTo) rfl ⟨by decide +kernel, Nat.le_of_ble_eq_true rfl, Nat.le_of_ble_eq_true rfl⟩ ⟨Nat.le_of_ble_eq_true rfl, Nat.le_of_ble_eq_true rfl⟩ hK hP hD hS hA hN rfl ⟨rfl, rfl, rfl, by decide, by decide, by decide, by decide⟩ rfl rfl rfl hl.1 rfl rfl (Nat.le_of_ble_eq_true rfl) d_Tr_isNew_5 (fun H locs hP hD hS => ?_)
  have hq1 := qv_wy_lt f T b
  refine lv_if_le (tgt := 26) hx hb d_Tr_isNew_8 (by decide) (fun c8 => ?_) (fun c8 => ?_)
  · have c8 : (qv_wy f T b) ≤ 0 := (q_z_le (by omega)).mp c8
    refine lv_iconst (v := nI 0) hx hb d_Tr_isNew_26 (by decide) ?_
    exact q_zret (ty := .boolean) hx hb hr (by decide) hlk hK hP hD hS d_Tr_isNew_27 (by rw [if_neg (fun q => by have := q.1; have := q.2; omega)]; rfl) (rfl)
  · have c8 : ¬ (qv_wy f T b) ≤ 0 := fun h9 => c8 ((q_z_le (by omega)).mpr h9)
    refine lv_aload_n hx hb d_Tr_isNew_11 rfl (lv_at hl 0 rfl) ?_
    refine va_get (D := D) (ci := 3) (v := .ref tk) (C := R_Tr) (T := F_Tr) (N := 6) hx hb hts i_Tr hown hK hP 0 rfl rfl 4 (by decide) (hts _ fl_Tr_31) (fun _ h9 => h9) rfl d_Tr_isNew_12 ?_
    refine lv_iload_n hx hb d_Tr_isNew_15 rfl (lv_at hl 1 rfl) ?_
    refine q_callVi (As := [.int (nI b)]) (rest := []) (wsC := [(tk, .inr (2, [.ref h, .int (nI K)])), (h, .inr (1, [.ref a])), (a, .inl (cJ, 12544, .inr (.inl (f))))]) (wsR := [(tr, .inr (3, [.ref h, .ref x0, .ref x1, .ref tn, .ref tk, .int (nI hd)])), (tn, .inr (2, [.ref h, .int (nI T)]))]) (wsC' := [(tk, .inr (2, [.ref h, .int (nI K)])), (h, .inr (1, [.ref a])), (a, .inl (cJ, 12544, .inr (.inl (f))))]) (wsN := [(tr, .inr (3, [.ref h, .ref x0, .ref x1, .ref tn, .ref tk, .int (nI hd)])), (tn, .inr (2, [.ref h, .int (nI T)])), (tk, .inr (2, [.ref h, .int (nI K)])), (h, .inr (1, [.ref a])), (a, .inl (cJ, 12544, .inr (.inl (f))))]) (isT := [0]) (isC := [2, 3, 4]) (isR := [0, 1]) (isN := [0, 1, 2, 3, 4]) (k := 1) (ci := 2) (C := R_Tb) ⟨hx, hb, hml, hown, hts⟩ (c_Tb_waysTo l D cJ tk K h a f b (by omega) (by omega)) (tw_V ml_Tr_41 im_Tb_waysTo se_Tb_waysTo in_Tb cd_Tb_waysTo) rfl ⟨by decide +kernel, Nat.le_of_ble_eq_true rfl, Nat.le_of_ble_eq_true rfl⟩ ⟨Nat.le_of_ble_eq_true rfl, Nat.le_of_ble_eq_true rfl⟩ hK hP hD hS hA hN rfl ⟨rfl, rfl, rfl, by decide, by decide, by decide, by decide⟩ rfl rfl rfl hl.1 rfl rfl (Nat.le_of_ble_eq_true rfl) d_Tr_isNew_16 (fun H locs hP hD hS => ?_)
    have hq2 := qv_wy_lt f K b
    refine lv_if_ne (tgt := 26) hx hb d_Tr_isNew_19 (by decide) (fun c19 => ?_) (fun c19 => ?_)
    · have c19 : ¬ (qv_wy f K b) = 0 := fun h9 => c19 ((q_z_eq (by omega)).mpr h9)
      refine lv_iconst (v := nI 0) hx hb d_Tr_isNew_26 (by decide) ?_
      exact q_zret (ty := .boolean) hx hb hr (by decide) hlk hK hP hD hS d_Tr_isNew_27 (by rw [if_neg (fun q => by have := q.1; have := q.2; omega)]; rfl) (rfl)
    · have c19 : (qv_wy f K b) = 0 := (q_z_eq (by omega)).mp c19
      refine lv_iconst (v := nI 1) hx hb d_Tr_isNew_22 (by decide) ?_
      refine lv_goto (tgt := 27) hx hb d_Tr_isNew_23 (by decide) ?_
      exact q_zret (ty := .boolean) hx hb hr (by decide) hlk hK hP hD hS d_Tr_isNew_27 (by rw [if_pos ⟨by omega, by omega⟩]; rfl) (rfl)
set_option maxHeartbeats 4000000 in
set_option maxRecDepth 100000 in
theorem c_Tr_sizeOf (l : Launch) (D : va_G) (cJ : ClassId) (tr : Nat) (x0 : Nat) (x1 : Nat) (tn : Nat) (T : Nat) (tk : Nat) (K : Nat) (hd : Nat) (h : Nat) (a : Nat) (f : Nat → Int64) (v : Nat) (kT : T < 1000) (kK : K < 1000) (khd : hd < 784) (kv : v < 65536) : qMi l y_Tr_sizeOf b_Tr_sizeOf 3 (some .int) (rmL 4) D [(cJ, .long)] [.ref tr, .int (nI v)] [(tr, .inr (3, [.ref h, .ref x0, .ref x1, .ref tn, .ref tk, .int (nI hd)])), (tn, .inr (2, [.ref h, .int (nI T)])), (tk, .inr (2, [.ref h, .int (nI K)])), (h, .inr (1, [.ref a])), (a, .inl (cJ, 12544, .inr (.inl (f))))] [(tr, .inr (3, [.ref h, .ref x0, .ref x1, .ref tn, .ref tk, .int (nI hd)])), (tn, .inr (2, [.ref h, .int (nI T)])), (tk, .inr (2, [.ref h, .int (nI K)])), (h, .inr (1, [.ref a])), (a, .inl (cJ, 12544, .inr (.inl (f))))] (qt_size f T v) := by
  refine q_start (Qc := qZi D _ _ _) (by decide +kernel) (Nat.le_of_ble_eq_true rfl) ?_
  intro p e s m below meth c A hx hb hr hlk hml hown hts hK hP hD hS hA hN ls hl
  have hl : lv_has ls 3 [(0, .ref tr), (1, .int (nI v))] := hl
  have hP : va_P D cls [(tr, .inr (3, [.ref h, .ref x0, .ref x1, .ref tn, .ref tk, .int (nI hd)])), (tn, .inr (2, [.ref h, .int (nI T)])), (tk, .inr (2, [.ref h, .int (nI K)])), (h, .inr (1, [.ref a])), (a, .inl (cJ, 12544, .inr (.inl (f))))] s.heap := hP
  have hD : va_D A [(tr, .inr (3, [.ref h, .ref x0, .ref x1, .ref tn, .ref tk, .int (nI hd)])), (tn, .inr (2, [.ref h, .int (nI T)])), (tk, .inr (2, [.ref h, .int (nI K)])), (h, .inr (1, [.ref a])), (a, .inl (cJ, 12544, .inr (.inl (f))))] := hD
  refine lv_aload_n hx hb d_Tr_sizeOf_0 rfl (lv_at hl 0 rfl) ?_
  refine va_get (D := D) (ci := 3) (v := .ref tn) (C := R_Tr) (T := F_Tr) (N := 6) hx hb hts i_Tr hown hK hP 0 rfl rfl 3 (by decide) (hts _ fl_Tr_34) (fun _ h9 => h9) rfl d_Tr_sizeOf_1 ?_
  refine lv_iload_n hx hb d_Tr_sizeOf_4 rfl (lv_at hl 1 rfl) ?_
  refine q_callVi (As := [.int (nI v)]) (rest := []) (wsC := [(tn, .inr (2, [.ref h, .int (nI T)])), (h, .inr (1, [.ref a])), (a, .inl (cJ, 12544, .inr (.inl (f))))]) (wsR := [(tr, .inr (3, [.ref h, .ref x0, .ref x1, .ref tn, .ref tk, .int (nI hd)])), (tk, .inr (2, [.ref h, .int (nI K)]))]) (wsC' := [(tn, .inr (2, [.ref h, .int (nI T)])), (h, .inr (1, [.ref a])), (a, .inl (cJ, 12544, .inr (.inl (f))))]) (wsN := [(tr, .inr (3, [.ref h, .ref x0, .ref x1, .ref tn, .ref tk, .int (nI hd)])), (tn, .inr (2, [.ref h, .int (nI T)])), (tk, .inr (2, [.ref h, .int (nI K)])), (h, .inr (1, [.ref a])), (a, .inl (cJ, 12544, .inr (.inl (f))))]) (isT := [0]) (isC := [1, 3, 4]) (isR := [0, 2]) (isN := [0, 2, 1, 3, 4]) (k := 1) (ci := 2) (C := R_Tb) ⟨hx, hb, hml, hown, hts⟩ (c_Tb_rootOf l D cJ tn T h a f v (by omega) (by omega)) (tw_V ml_Tr_45 im_Tb_rootOf se_Tb_rootOf in_Tb cd_Tb_rootOf) rfl ⟨by decide +kernel, Nat.le_of_ble_eq_true rfl, Nat.le_of_ble_eq_true rfl⟩ ⟨Nat.le_of_ble_eq_true rfl, Nat.le_of_ble_eq_true rfl⟩ hK hP hD hS hA hN rfl ⟨rfl, rfl, rfl, by decide, by decide, by decide, by decide⟩ rfl rfl rfl hl.1 rfl rfl (Nat.le_of_ble_eq_true rfl) d_Tr_sizeOf_5 (fun H locs hP hD hS => ?_)
  have hq1 := qv_rt_lt f T v
  refine lv_istore_n (lv' := [(2, .int (nI (qv_rt f T v))), (0, .ref tr), (1, .int (nI v))]) hx hb d_Tr_sizeOf_8 rfl hl (by decide) rfl (fun ls hl => ?_)
  refine lv_iload_n hx hb d_Tr_sizeOf_9 rfl (lv_at hl 0 rfl) ?_
  refine lv_if_ne (tgt := 17) hx hb d_Tr_sizeOf_10 (by decide) (fun c10 => ?_) (fun c10 => ?_)
  · have c10 : ¬ (qv_rt f T v) = 0 := fun h9 => c10 ((q_z_eq (by omega)).mpr h9)
    refine lv_aload_n hx hb d_Tr_sizeOf_17 rfl (lv_at hl 1 rfl) ?_
    refine va_get (D := D) (ci := 3) (v := .ref h) (C := R_Tr) (T := F_Tr) (N := 6) hx hb hts i_Tr hown hK hP 0 rfl rfl 0 (by decide) (hts _ fl_Tr_15) (fun _ h9 => h9) rfl d_Tr_sizeOf_18 ?_
    refine lv_iload_n hx hb d_Tr_sizeOf_21 rfl (lv_at hl 0 rfl) ?_
    refine q_callVi (As := [.int (nI (qv_rt f T v))]) (rest := []) (wsC := [(h, .inr (1, [.ref a])), (a, .inl (cJ, 12544, .inr (.inl (f))))]) (wsR := [(tr, .inr (3, [.ref h, .ref x0, .ref x1, .ref tn, .ref tk, .int (nI hd)])), (tn, .inr (2, [.ref h, .int (nI T)])), (tk, .inr (2, [.ref h, .int (nI K)]))]) (wsC' := [(h, .inr (1, [.ref a])), (a, .inl (cJ, 12544, .inr (.inl (f))))]) (wsN := [(tr, .inr (3, [.ref h, .ref x0, .ref x1, .ref tn, .ref tk, .int (nI hd)])), (tn, .inr (2, [.ref h, .int (nI T)])), (tk, .inr (2, [.ref h, .int (nI K)])), (h, .inr (1, [.ref a])), (a, .inl (cJ, 12544, .inr (.inl (f))))]) (isT := [0]) (isC := [3, 4]) (isR := [0, 1, 2]) (isN := [0, 1, 2, 3, 4]) (k := 1) (ci := 1) (C := R_Im) ⟨hx, hb, hml, hown, hts⟩ (c_Im_sizeAt l D cJ h a f (qv_rt f T v) (by omega)) (tw_V ml_Tr_48 im_Im_sizeAt se_Im_sizeAt in_Im cd_Im_sizeAt) rfl ⟨by decide +kernel, Nat.le_of_ble_eq_true rfl, Nat.le_of_ble_eq_true rfl⟩ ⟨Nat.le_of_ble_eq_true rfl, Nat.le_of_ble_eq_true rfl⟩ hK hP hD hS hA hN rfl ⟨rfl, rfl, rfl, by decide, by decide, by decide, by decide⟩ rfl rfl rfl hl.1 rfl rfl (Nat.le_of_ble_eq_true rfl) d_Tr_sizeOf_22 (fun H locs hP hD hS => ?_)
    exact q_iret hx hb hr hlk hK hP hD hS d_Tr_sizeOf_25 (by unfold qt_size; rw [if_neg c10]) (rfl)
  · have c10 : (qv_rt f T v) = 0 := (q_z_eq (by omega)).mp c10
    refine lv_iconst (v := nI 0) hx hb d_Tr_sizeOf_13 (by decide) ?_
    refine lv_goto (tgt := 25) hx hb d_Tr_sizeOf_14 (by decide) ?_
    exact q_iret hx hb hr hlk hK hP hD hS d_Tr_sizeOf_25 (by unfold qt_size; rw [if_pos c10]; rfl) (rfl)
set_option maxHeartbeats 4000000 in
set_option maxRecDepth 100000 in
theorem c_Tr_sizeOfAll (l : Launch) (D : va_G) (cJ : ClassId) (tr : Nat) (x0 : Nat) (x1 : Nat) (tn : Nat) (T : Nat) (tk : Nat) (K : Nat) (hd : Nat) (h : Nat) (a : Nat) (f : Nat → Int64) (kT : T < 1000) (kK : K < 1000) (khd : hd < 784) : qMi l y_Tr_sizeOfAll b_Tr_sizeOfAll 3 (some .int) (rmL 5) D [(cJ, .long)] [.ref tr] [(tr, .inr (3, [.ref h, .ref x0, .ref x1, .ref tn, .ref tk, .int (nI hd)])), (tn, .inr (2, [.ref h, .int (nI T)])), (tk, .inr (2, [.ref h, .int (nI K)])), (h, .inr (1, [.ref a])), (a, .inl (cJ, 12544, .inr (.inl (f))))] [(tr, .inr (3, [.ref h, .ref x0, .ref x1, .ref tn, .ref tk, .int (nI hd)])), (tn, .inr (2, [.ref h, .int (nI T)])), (tk, .inr (2, [.ref h, .int (nI K)])), (h, .inr (1, [.ref a])), (a, .inl (cJ, 12544, .inr (.inl (f))))] (qt_all f T) := by
  refine q_start (Qc := qZi D _ _ _) (by decide +kernel) (Nat.le_of_ble_eq_true rfl) ?_
  intro p e s m below meth c A hx hb hr hlk hml hown hts hK hP hD hS hA hN ls hl
  have hl : lv_has ls 3 [(0, .ref tr)] := hl
  have hP : va_P D cls [(tr, .inr (3, [.ref h, .ref x0, .ref x1, .ref tn, .ref tk, .int (nI hd)])), (tn, .inr (2, [.ref h, .int (nI T)])), (tk, .inr (2, [.ref h, .int (nI K)])), (h, .inr (1, [.ref a])), (a, .inl (cJ, 12544, .inr (.inl (f))))] s.heap := hP
  have hD : va_D A [(tr, .inr (3, [.ref h, .ref x0, .ref x1, .ref tn, .ref tk, .int (nI hd)])), (tn, .inr (2, [.ref h, .int (nI T)])), (tk, .inr (2, [.ref h, .int (nI K)])), (h, .inr (1, [.ref a])), (a, .inl (cJ, 12544, .inr (.inl (f))))] := hD
  refine lv_iconst (v := nI 0) hx hb d_Tr_sizeOfAll_0 (by decide) ?_
  refine lv_istore_n (lv' := [(1, .int (nI 0)), (0, .ref tr)]) hx hb d_Tr_sizeOfAll_1 rfl hl (by decide) rfl (fun ls hl => ?_)
  refine lv_iconst (v := nI 0) hx hb d_Tr_sizeOfAll_2 (by decide) ?_
  refine lv_istore_n (lv' := [(2, .int (nI 0)), (1, .int (nI 0)), (0, .ref tr)]) hx hb d_Tr_sizeOfAll_3 rfl hl (by decide) rfl (fun ls hl => ?_)
  refine q_loop (pc := 4) (σ := Unit) (I := fun i u H locs ls => va_P D cls [(tr, .inr (3, [.ref h, .ref x0, .ref x1, .ref tn, .ref tk, .int (nI hd)])), (tn, .inr (2, [.ref h, .int (nI T)])), (tk, .inr (2, [.ref h, .int (nI K)])), (h, .inr (1, [.ref a])), (a, .inl (cJ, 12544, .inr (.inl (f))))] H ∧ va_D A [(tr, .inr (3, [.ref h, .ref x0, .ref x1, .ref tn, .ref tk, .int (nI hd)])), (tn, .inr (2, [.ref h, .int (nI T)])), (tk, .inr (2, [.ref h, .int (nI K)])), (h, .inr (1, [.ref a])), (a, .inl (cJ, 12544, .inr (.inl (f))))] ∧ va_S A s.heap H locs ∧ lv_has ls 3 [(0, .ref tr), (1, .int (qv_for i (fun s v => s + qt_size f T v) 0)), (2, .int (nI i))]) (16) ?_ ?_ (0) (()) _ _ _ (by omega) ⟨hP, hD, hS, lv_sub hl [2, 1, 0] rfl⟩
  · intro u H locs ls hI
    obtain ⟨hP, hD, hS, hl⟩ := hI
    refine lv_iload_n hx hb d_Tr_sizeOfAll_4 rfl (lv_at hl 2 rfl) ?_
    refine lv_bipush (v := nI 16) hx hb d_Tr_sizeOfAll_5 (by decide) ?_
    refine lv_icmp_ge (tgt := 24) hx hb d_Tr_sizeOfAll_7 (by decide) (fun c7 => ?_) (fun c7 => ?_)
    · have c7 : 16 ≤ 16 := (nI_leI (by omega) (by omega)).mp c7
      refine lv_iload_n hx hb d_Tr_sizeOfAll_24 rfl (lv_at hl 1 rfl) ?_
      exact q_iret hx hb hr hlk hK hP hD hS d_Tr_sizeOfAll_25 (rfl) (rfl)
    · have c7 : ¬ 16 ≤ 16 := fun h9 => c7 ((nI_leI (by omega) (by omega)).mpr h9)
      exfalso; omega
  · intro i u H locs ls hi hI ih
    obtain ⟨hP, hD, hS, hl⟩ := hI
    refine lv_iload_n hx hb d_Tr_sizeOfAll_4 rfl (lv_at hl 2 rfl) ?_
    refine lv_bipush (v := nI 16) hx hb d_Tr_sizeOfAll_5 (by decide) ?_
    refine lv_icmp_ge (tgt := 24) hx hb d_Tr_sizeOfAll_7 (by decide) (fun c7 => ?_) (fun c7 => ?_)
    · have c7 : 16 ≤ i := (nI_leI (by omega) (by omega)).mp c7
      exfalso; omega
    · have c7 : ¬ 16 ≤ i := fun h9 => c7 ((nI_leI (by omega) (by omega)).mpr h9)
      refine lv_iload_n hx hb d_Tr_sizeOfAll_10 rfl (lv_at hl 1 rfl) ?_
      refine lv_aload_n hx hb d_Tr_sizeOfAll_11 rfl (lv_at hl 0 rfl) ?_
      refine lv_iload_n hx hb d_Tr_sizeOfAll_12 rfl (lv_at hl 2 rfl) ?_
      refine q_callVi (As := [.int (nI i)]) (rest := [.int (qv_for i (fun s v => s + qt_size f T v) 0)]) (wsC := [(tr, .inr (3, [.ref h, .ref x0, .ref x1, .ref tn, .ref tk, .int (nI hd)])), (tn, .inr (2, [.ref h, .int (nI T)])), (tk, .inr (2, [.ref h, .int (nI K)])), (h, .inr (1, [.ref a])), (a, .inl (cJ, 12544, .inr (.inl (f))))]) (wsR := []) (wsC' := [(tr, .inr (3, [.ref h, .ref x0, .ref x1, .ref tn, .ref tk, .int (nI hd)])), (tn, .inr (2, [.ref h, .int (nI T)])), (tk, .inr (2, [.ref h, .int (nI K)])), (h, .inr (1, [.ref a])), (a, .inl (cJ, 12544, .inr (.inl (f))))]) (wsN := [(tr, .inr (3, [.ref h, .ref x0, .ref x1, .ref tn, .ref tk, .int (nI hd)])), (tn, .inr (2, [.ref h, .int (nI T)])), (tk, .inr (2, [.ref h, .int (nI K)])), (h, .inr (1, [.ref a])), (a, .inl (cJ, 12544, .inr (.inl (f))))]) (isT := [0]) (isC := [0, 1, 2, 3, 4]) (isR := []) (isN := [0, 1, 2, 3, 4]) (k := 1) (ci := 3) (C := R_Tr) ⟨hx, hb, hml, hown, hts⟩ (c_Tr_sizeOf l D cJ tr x0 x1 tn T tk K hd h a f i (by omega) (by omega) (by omega) (by omega)) (tw_V ml_Tr_53 im_Tr_sizeOf se_Tr_sizeOf in_Tr cd_Tr_sizeOf) rfl ⟨by decide +kernel, Nat.le_of_ble_eq_true rfl, Nat.le_of_ble_eq_true rfl⟩ ⟨Nat.le_of_ble_eq_true rfl, Nat.le_of_ble_eq_true rfl⟩ hK hP hD hS hA hN rfl ⟨rfl, rfl, rfl, by decide, by decide, by decide, by decide⟩ rfl rfl rfl hl.1 rfl rfl (Nat.le_of_ble_eq_true rfl) d_Tr_sizeOfAll_13 (fun H locs hP hD hS => ?_)
      refine lv_iadd hx hb d_Tr_sizeOfAll_16 ?_
      refine lv_istore_n (lv' := [(1, .int ((qv_for i (fun s v => s + qt_size f T v) 0) + (qt_size f T i))), (0, .ref tr), (2, .int (nI i))]) hx hb d_Tr_sizeOfAll_17 rfl hl (by decide) rfl (fun ls hl => ?_)
      refine lv_iinc (v := nI (i + 1)) (lv' := [(2, .int (nI (i + 1))), (1, .int ((qv_for i (fun s v => s + qt_size f T v) 0) + (qt_size f T i))), (0, .ref tr)]) hx hb d_Tr_sizeOfAll_18 hl (k := 2) rfl (nI_1 _) (by decide) rfl (fun ls hl => ?_)
      refine lv_goto (tgt := 4) hx hb d_Tr_sizeOfAll_21 (by decide) ?_
      exact ih (()) _ _ _ ⟨hP, hD, hS, lv_sub hl [2, 1, 0] rfl⟩
set_option maxHeartbeats 4000000 in
set_option maxRecDepth 100000 in
theorem c_Tr_find (l : Launch) (D : va_G) (cJ : ClassId) (tr : Nat) (x0 : Nat) (x1 : Nat) (tn : Nat) (T : Nat) (tk : Nat) (K : Nat) (hd : Nat) (h : Nat) (a : Nat) (f : Nat → Int64) (v : Nat) (pc : Nat) (kT : T < 1000) (kK : K < 1000) (khd : hd < 784) (kv : v < 65536) (kpc : pc < 65536) : qMi l y_Tr_find b_Tr_find 5 (some .int) (rmL 4) D [(cJ, .long)] [.ref tr, .int (nI v), .int (nI pc)] [(tr, .inr (3, [.ref h, .ref x0, .ref x1, .ref tn, .ref tk, .int (nI hd)])), (tn, .inr (2, [.ref h, .int (nI T)])), (tk, .inr (2, [.ref h, .int (nI K)])), (h, .inr (1, [.ref a])), (a, .inl (cJ, 12544, .inr (.inl (f))))] [(tr, .inr (3, [.ref h, .ref x0, .ref x1, .ref tn, .ref tk, .int (nI hd)])), (tn, .inr (2, [.ref h, .int (nI T)])), (tk, .inr (2, [.ref h, .int (nI K)])), (h, .inr (1, [.ref a])), (a, .inl (cJ, 12544, .inr (.inl (f))))] (nI (qt_find f T v pc)) := by
  refine q_start (Qc := qZi D _ _ _) (by decide +kernel) (Nat.le_of_ble_eq_true rfl) ?_
  intro p e s m below meth c A hx hb hr hlk hml hown hts hK hP hD hS hA hN ls hl
  have hl : lv_has ls 5 [(0, .ref tr), (1, .int (nI v)), (2, .int (nI pc))] := hl
  have hP : va_P D cls [(tr, .inr (3, [.ref h, .ref x0, .ref x1, .ref tn, .ref tk, .int (nI hd)])), (tn, .inr (2, [.ref h, .int (nI T)])), (tk, .inr (2, [.ref h, .int (nI K)])), (h, .inr (1, [.ref a])), (a, .inl (cJ, 12544, .inr (.inl (f))))] s.heap := hP
  have hD : va_D A [(tr, .inr (3, [.ref h, .ref x0, .ref x1, .ref tn, .ref tk, .int (nI hd)])), (tn, .inr (2, [.ref h, .int (nI T)])), (tk, .inr (2, [.ref h, .int (nI K)])), (h, .inr (1, [.ref a])), (a, .inl (cJ, 12544, .inr (.inl (f))))] := hD
  refine lv_aload_n hx hb d_Tr_find_0 rfl (lv_at hl 0 rfl) ?_
  refine va_get (D := D) (ci := 3) (v := .ref tn) (C := R_Tr) (T := F_Tr) (N := 6) hx hb hts i_Tr hown hK hP 0 rfl rfl 3 (by decide) (hts _ fl_Tr_34) (fun _ h9 => h9) rfl d_Tr_find_1 ?_
  refine lv_iload_n hx hb d_Tr_find_4 rfl (lv_at hl 1 rfl) ?_
  refine q_callVi (As := [.int (nI v)]) (rest := []) (wsC := [(tn, .inr (2, [.ref h, .int (nI T)])), (h, .inr (1, [.ref a])), (a, .inl (cJ, 12544, .inr (.inl (f))))]) (wsR := [(tr, .inr (3, [.ref h, .ref x0, .ref x1, .ref tn, .ref tk, .int (nI hd)])), (tk, .inr (2, [.ref h, .int (nI K)]))]) (wsC' := [(tn, .inr (2, [.ref h, .int (nI T)])), (h, .inr (1, [.ref a])), (a, .inl (cJ, 12544, .inr (.inl (f))))]) (wsN := [(tr, .inr (3, [.ref h, .ref x0, .ref x1, .ref tn, .ref tk, .int (nI hd)])), (tn, .inr (2, [.ref h, .int (nI T)])), (tk, .inr (2, [.ref h, .int (nI K)])), (h, .inr (1, [.ref a])), (a, .inl (cJ, 12544, .inr (.inl (f))))]) (isT := [0]) (isC := [1, 3, 4]) (isR := [0, 2]) (isN := [0, 2, 1, 3, 4]) (k := 1) (ci := 2) (C := R_Tb) ⟨hx, hb, hml, hown, hts⟩ (c_Tb_rootOf l D cJ tn T h a f v (by omega) (by omega)) (tw_V ml_Tr_45 im_Tb_rootOf se_Tb_rootOf in_Tb cd_Tb_rootOf) rfl ⟨by decide +kernel, Nat.le_of_ble_eq_true rfl, Nat.le_of_ble_eq_true rfl⟩ ⟨Nat.le_of_ble_eq_true rfl, Nat.le_of_ble_eq_true rfl⟩ hK hP hD hS hA hN rfl ⟨rfl, rfl, rfl, by decide, by decide, by decide, by decide⟩ rfl rfl rfl hl.1 rfl rfl (Nat.le_of_ble_eq_true rfl) d_Tr_find_5 (fun H locs hP hD hS => ?_)
  have hq1 := qv_rt_lt f T v
  refine lv_istore_n (lv' := [(3, .int (nI (qv_rt f T v))), (0, .ref tr), (1, .int (nI v)), (2, .int (nI pc))]) hx hb d_Tr_find_8 rfl hl (by decide) rfl (fun ls hl => ?_)
  refine lv_iload_n hx hb d_Tr_find_9 rfl (lv_at hl 0 rfl) ?_
  refine lv_if_ne (tgt := 17) hx hb d_Tr_find_10 (by decide) (fun c10 => ?_) (fun c10 => ?_)
  · have c10 : ¬ (qv_rt f T v) = 0 := fun h9 => c10 ((q_z_eq (by omega)).mpr h9)
    refine lv_aload_n hx hb d_Tr_find_17 rfl (lv_at hl 1 rfl) ?_
    refine va_get (D := D) (ci := 3) (v := .ref h) (C := R_Tr) (T := F_Tr) (N := 6) hx hb hts i_Tr hown hK hP 0 rfl rfl 0 (by decide) (hts _ fl_Tr_15) (fun _ h9 => h9) rfl d_Tr_find_18 ?_
    refine lv_iload_n hx hb d_Tr_find_21 rfl (lv_at hl 0 rfl) ?_
    refine lv_iload_n hx hb d_Tr_find_22 rfl (lv_at hl 3 rfl) ?_
    refine lv_bipush (v := nI 32) hx hb d_Tr_find_23 (by decide) ?_
    refine lv_idiv hx hb d_Tr_find_25 (by decide) ?_
    refine q_ti (y := nI (pc / 32)) (pk_div (by omega) (by decide) (by decide)) ?_
    refine q_callVi (As := [.int (nI (qv_rt f T v)), .int (nI (pc / 32))]) (rest := []) (wsC := [(h, .inr (1, [.ref a])), (a, .inl (cJ, 12544, .inr (.inl (f))))]) (wsR := [(tr, .inr (3, [.ref h, .ref x0, .ref x1, .ref tn, .ref tk, .int (nI hd)])), (tn, .inr (2, [.ref h, .int (nI T)])), (tk, .inr (2, [.ref h, .int (nI K)]))]) (wsC' := [(h, .inr (1, [.ref a])), (a, .inl (cJ, 12544, .inr (.inl (f))))]) (wsN := [(tr, .inr (3, [.ref h, .ref x0, .ref x1, .ref tn, .ref tk, .int (nI hd)])), (tn, .inr (2, [.ref h, .int (nI T)])), (tk, .inr (2, [.ref h, .int (nI K)])), (h, .inr (1, [.ref a])), (a, .inl (cJ, 12544, .inr (.inl (f))))]) (isT := [0]) (isC := [3, 4]) (isR := [0, 1, 2]) (isN := [0, 1, 2, 3, 4]) (k := 2) (ci := 1) (C := R_Im) ⟨hx, hb, hml, hown, hts⟩ (c_Im_linkAt l D cJ h a f (qv_rt f T v) (pc / 32) (by omega) (by omega)) (tw_V ml_Tr_56 im_Im_linkAt se_Im_linkAt in_Im cd_Im_linkAt) rfl ⟨by decide +kernel, Nat.le_of_ble_eq_true rfl, Nat.le_of_ble_eq_true rfl⟩ ⟨Nat.le_of_ble_eq_true rfl, Nat.le_of_ble_eq_true rfl⟩ hK hP hD hS hA hN rfl ⟨rfl, rfl, rfl, by decide, by decide, by decide, by decide⟩ rfl rfl rfl hl.1 rfl rfl (Nat.le_of_ble_eq_true rfl) d_Tr_find_26 (fun H locs hP hD hS => ?_)
    have hq2 := qv_lk_lt f (qv_rt f T v) (pc / 32)
    have hq9 := qt_leaf_lt f T v pc
    refine q_ti (y := nI (qt_leaf f T v pc)) (by unfold qt_leaf; rw [if_neg c10]) ?_
    refine lv_istore (lv' := [(4, .int (nI (qt_leaf f T v pc))), (3, .int (nI (qv_rt f T v))), (0, .ref tr), (1, .int (nI v)), (2, .int (nI pc))]) hx hb d_Tr_find_29 hl (by decide) rfl (fun ls hl => ?_)
    refine lv_iload hx hb d_Tr_find_31 (lv_at hl 0 rfl) ?_
    refine lv_if_ne (tgt := 40) hx hb d_Tr_find_33 (by decide) (fun c33 => ?_) (fun c33 => ?_)
    · have c33 : ¬ (qt_leaf f T v pc) = 0 := fun h9 => c33 ((q_z_eq (by omega)).mpr h9)
      refine lv_aload_n hx hb d_Tr_find_40 rfl (lv_at hl 2 rfl) ?_
      refine va_get (D := D) (ci := 3) (v := .ref h) (C := R_Tr) (T := F_Tr) (N := 6) hx hb hts i_Tr hown hK hP 0 rfl rfl 0 (by decide) (hts _ fl_Tr_15) (fun _ h9 => h9) rfl d_Tr_find_41 ?_
      refine lv_iload hx hb d_Tr_find_44 (lv_at hl 0 rfl) ?_
      refine lv_iload_n hx hb d_Tr_find_46 rfl (lv_at hl 4 rfl) ?_
      refine lv_bipush (v := nI 32) hx hb d_Tr_find_47 (by decide) ?_
      refine lv_irem hx hb d_Tr_find_49 (by decide) ?_
      refine q_ti (y := nI (pc % 32)) (pk_rem (by omega) (by decide) (by decide)) ?_
      refine q_callVi (As := [.int (nI (qt_leaf f T v pc)), .int (nI (pc % 32))]) (rest := []) (wsC := [(h, .inr (1, [.ref a])), (a, .inl (cJ, 12544, .inr (.inl (f))))]) (wsR := [(tr, .inr (3, [.ref h, .ref x0, .ref x1, .ref tn, .ref tk, .int (nI hd)])), (tn, .inr (2, [.ref h, .int (nI T)])), (tk, .inr (2, [.ref h, .int (nI K)]))]) (wsC' := [(h, .inr (1, [.ref a])), (a, .inl (cJ, 12544, .inr (.inl (f))))]) (wsN := [(tr, .inr (3, [.ref h, .ref x0, .ref x1, .ref tn, .ref tk, .int (nI hd)])), (tn, .inr (2, [.ref h, .int (nI T)])), (tk, .inr (2, [.ref h, .int (nI K)])), (h, .inr (1, [.ref a])), (a, .inl (cJ, 12544, .inr (.inl (f))))]) (isT := [0]) (isC := [3, 4]) (isR := [0, 1, 2]) (isN := [0, 1, 2, 3, 4]) (k := 2) (ci := 1) (C := R_Im) ⟨hx, hb, hml, hown, hts⟩ (c_Im_linkAt l D cJ h a f (qt_leaf f T v pc) (pc % 32) (by omega) (by omega)) (tw_V ml_Tr_56 im_Im_linkAt se_Im_linkAt in_Im cd_Im_linkAt) rfl ⟨by decide +kernel, Nat.le_of_ble_eq_true rfl, Nat.le_of_ble_eq_true rfl⟩ ⟨Nat.le_of_ble_eq_true rfl, Nat.le_of_ble_eq_true rfl⟩ hK hP hD hS hA hN rfl ⟨rfl, rfl, rfl, by decide, by decide, by decide, by decide⟩ rfl rfl rfl hl.1 rfl rfl (Nat.le_of_ble_eq_true rfl) d_Tr_find_50 (fun H locs hP hD hS => ?_)
      have hq3 := qv_lk_lt f (qt_leaf f T v pc) (pc % 32)
      exact q_iret hx hb hr hlk hK hP hD hS d_Tr_find_53 (by unfold qt_find; rw [if_neg c33]) (rfl)
    · have c33 : (qt_leaf f T v pc) = 0 := (q_z_eq (by omega)).mp c33
      refine lv_iconst (v := nI 0) hx hb d_Tr_find_36 (by decide) ?_
      refine lv_goto (tgt := 53) hx hb d_Tr_find_37 (by decide) ?_
      exact q_iret hx hb hr hlk hK hP hD hS d_Tr_find_53 (by unfold qt_find; rw [if_pos c33]) (rfl)
  · have c10 : (qv_rt f T v) = 0 := (q_z_eq (by omega)).mp c10
    refine lv_iconst (v := nI 0) hx hb d_Tr_find_13 (by decide) ?_
    refine lv_goto (tgt := 29) hx hb d_Tr_find_14 (by decide) ?_
    have hq9 := qt_leaf_lt f T v pc
    refine q_ti (y := nI (qt_leaf f T v pc)) (by unfold qt_leaf; rw [if_pos c10]) ?_
    refine lv_istore (lv' := [(4, .int (nI (qt_leaf f T v pc))), (3, .int (nI (qv_rt f T v))), (0, .ref tr), (1, .int (nI v)), (2, .int (nI pc))]) hx hb d_Tr_find_29 hl (by decide) rfl (fun ls hl => ?_)
    refine lv_iload hx hb d_Tr_find_31 (lv_at hl 0 rfl) ?_
    refine lv_if_ne (tgt := 40) hx hb d_Tr_find_33 (by decide) (fun c33 => ?_) (fun c33 => ?_)
    · have c33 : ¬ (qt_leaf f T v pc) = 0 := fun h9 => c33 ((q_z_eq (by omega)).mpr h9)
      refine lv_aload_n hx hb d_Tr_find_40 rfl (lv_at hl 2 rfl) ?_
      refine va_get (D := D) (ci := 3) (v := .ref h) (C := R_Tr) (T := F_Tr) (N := 6) hx hb hts i_Tr hown hK hP 0 rfl rfl 0 (by decide) (hts _ fl_Tr_15) (fun _ h9 => h9) rfl d_Tr_find_41 ?_
      refine lv_iload hx hb d_Tr_find_44 (lv_at hl 0 rfl) ?_
      refine lv_iload_n hx hb d_Tr_find_46 rfl (lv_at hl 4 rfl) ?_
      refine lv_bipush (v := nI 32) hx hb d_Tr_find_47 (by decide) ?_
      refine lv_irem hx hb d_Tr_find_49 (by decide) ?_
      refine q_ti (y := nI (pc % 32)) (pk_rem (by omega) (by decide) (by decide)) ?_
      refine q_callVi (As := [.int (nI (qt_leaf f T v pc)), .int (nI (pc % 32))]) (rest := []) (wsC := [(h, .inr (1, [.ref a])), (a, .inl (cJ, 12544, .inr (.inl (f))))]) (wsR := [(tr, .inr (3, [.ref h, .ref x0, .ref x1, .ref tn, .ref tk, .int (nI hd)])), (tn, .inr (2, [.ref h, .int (nI T)])), (tk, .inr (2, [.ref h, .int (nI K)]))]) (wsC' := [(h, .inr (1, [.ref a])), (a, .inl (cJ, 12544, .inr (.inl (f))))]) (wsN := [(tr, .inr (3, [.ref h, .ref x0, .ref x1, .ref tn, .ref tk, .int (nI hd)])), (tn, .inr (2, [.ref h, .int (nI T)])), (tk, .inr (2, [.ref h, .int (nI K)])), (h, .inr (1, [.ref a])), (a, .inl (cJ, 12544, .inr (.inl (f))))]) (isT := [0]) (isC := [3, 4]) (isR := [0, 1, 2]) (isN := [0, 1, 2, 3, 4]) (k := 2) (ci := 1) (C := R_Im) ⟨hx, hb, hml, hown, hts⟩ (c_Im_linkAt l D cJ h a f (qt_leaf f T v pc) (pc % 32) (by omega) (by omega)) (tw_V ml_Tr_56 im_Im_linkAt se_Im_linkAt in_Im cd_Im_linkAt) rfl ⟨by decide +kernel, Nat.le_of_ble_eq_true rfl, Nat.le_of_ble_eq_true rfl⟩ ⟨Nat.le_of_ble_eq_true rfl, Nat.le_of_ble_eq_true rfl⟩ hK hP hD hS hA hN rfl ⟨rfl, rfl, rfl, by decide, by decide, by decide, by decide⟩ rfl rfl rfl hl.1 rfl rfl (Nat.le_of_ble_eq_true rfl) d_Tr_find_50 (fun H locs hP hD hS => ?_)
      have hq4 := qv_lk_lt f (qt_leaf f T v pc) (pc % 32)
      exact q_iret hx hb hr hlk hK hP hD hS d_Tr_find_53 (by unfold qt_find; rw [if_neg c33]) (rfl)
    · have c33 : (qt_leaf f T v pc) = 0 := (q_z_eq (by omega)).mp c33
      refine lv_iconst (v := nI 0) hx hb d_Tr_find_36 (by decide) ?_
      refine lv_goto (tgt := 53) hx hb d_Tr_find_37 (by decide) ?_
      exact q_iret hx hb hr hlk hK hP hD hS d_Tr_find_53 (by unfold qt_find; rw [if_pos c33]) (rfl)
set_option maxHeartbeats 4000000 in
set_option maxRecDepth 100000 in
theorem c_Tr_linksOf (l : Launch) (D : va_G) (n : Nat) (kn : n < 65536) : qMi l y_Tr_linksOf b_Tr_linksOf 1 (some .int) (rmL 1) D [] [.int (nI n)] [] [] (nI (qf_nl n)) := by
  refine q_start (Qc := qZi D _ _ _) (by decide +kernel) (Nat.le_of_ble_eq_true rfl) ?_
  intro p e s m below meth c A hx hb hr hlk hml hown hts hK hP hD hS hA hN ls hl
  have hl : lv_has ls 1 [(0, .int (nI n))] := hl
  have hP : va_P D cls [] s.heap := hP
  have hD : va_D A [] := hD
  refine lv_iload_n hx hb d_Tr_linksOf_0 rfl (lv_at hl 0 rfl) ?_
  refine lv_iconst (v := nI 2) hx hb d_Tr_linksOf_1 (by decide) ?_
  refine lv_icmp_ne (tgt := 9) hx hb d_Tr_linksOf_2 (by decide) (fun c2 => ?_) (fun c2 => ?_)
  · have c2 : ¬ n = 2 := fun h9 => c2 ((nI_eq (by omega) (by omega)).mpr h9)
    refine lv_iload_n hx hb d_Tr_linksOf_9 rfl (lv_at hl 0 rfl) ?_
    refine lv_iconst (v := nI 1) hx hb d_Tr_linksOf_10 (by decide) ?_
    refine lv_icmp_ne (tgt := 19) hx hb d_Tr_linksOf_11 (by decide) (fun c11 => ?_) (fun c11 => ?_)
    · have c11 : ¬ n = 1 := fun h9 => c11 ((nI_eq (by omega) (by omega)).mpr h9)
      refine lv_iconst (v := nI 0) hx hb d_Tr_linksOf_19 (by decide) ?_
      exact q_iret hx hb hr hlk hK hP hD hS d_Tr_linksOf_20 (by unfold qf_nl; rw [if_neg (by omega), if_neg (by omega)]) (rfl)
    · have c11 : n = 1 := (nI_eq (by omega) (by omega)).mp c11
      refine lv_bipush (v := nI 32) hx hb d_Tr_linksOf_14 (by decide) ?_
      refine lv_goto (tgt := 20) hx hb d_Tr_linksOf_16 (by decide) ?_
      exact q_iret hx hb hr hlk hK hP hD hS d_Tr_linksOf_20 (by unfold qf_nl; rw [if_neg (by omega), if_pos (by omega)]) (rfl)
  · have c2 : n = 2 := (nI_eq (by omega) (by omega)).mp c2
    refine lv_iconst (v := nI 4) hx hb d_Tr_linksOf_5 (by decide) ?_
    refine lv_goto (tgt := 20) hx hb d_Tr_linksOf_6 (by decide) ?_
    exact q_iret hx hb hr hlk hK hP hD hS d_Tr_linksOf_20 (by unfold qf_nl; rw [if_pos (by omega)]) (rfl)
set_option maxHeartbeats 4000000 in
set_option maxRecDepth 100000 in
theorem c_Tr_addWay (l : Launch) (D : va_G) (cJ : ClassId) (tr : Nat) (x0 : Nat) (x1 : Nat) (tn : Nat) (T : Nat) (tk : Nat) (K : Nat) (hd : Nat) (h : Nat) (a : Nat) (f : Nat → Int64) (b : Nat) (kT : T < 1000) (kK : K < 1000) (khd : hd < 784) (kb : b < 65536) : qMv l y_Tr_addWay b_Tr_addWay 2 none (rmL 3) D [(cJ, .long)] [.ref tr, .int (nI b)] [(tr, .inr (3, [.ref h, .ref x0, .ref x1, .ref tn, .ref tk, .int (nI hd)])), (tn, .inr (2, [.ref h, .int (nI T)])), (tk, .inr (2, [.ref h, .int (nI K)])), (h, .inr (1, [.ref a])), (a, .inl (cJ, 12544, .inr (.inl (f))))] [(tr, .inr (3, [.ref h, .ref x0, .ref x1, .ref tn, .ref tk, .int (nI hd)])), (tn, .inr (2, [.ref h, .int (nI T)])), (tk, .inr (2, [.ref h, .int (nI K)])), (h, .inr (1, [.ref a])), (a, .inl (cJ, 12544, .inr (.inl (qt_addW T f b))))] := by
  refine q_start (Qc := qZv D _ _) (by decide +kernel) (Nat.le_of_ble_eq_true rfl) ?_
  intro p e s m below meth c A hx hb hr hlk hml hown hts hK hP hD hS hA hN ls hl
  have hl : lv_has ls 2 [(0, .ref tr), (1, .int (nI b))] := hl
  have hP : va_P D cls [(tr, .inr (3, [.ref h, .ref x0, .ref x1, .ref tn, .ref tk, .int (nI hd)])), (tn, .inr (2, [.ref h, .int (nI T)])), (tk, .inr (2, [.ref h, .int (nI K)])), (h, .inr (1, [.ref a])), (a, .inl (cJ, 12544, .inr (.inl (f))))] s.heap := hP
  have hD : va_D A [(tr, .inr (3, [.ref h, .ref x0, .ref x1, .ref tn, .ref tk, .int (nI hd)])), (tn, .inr (2, [.ref h, .int (nI T)])), (tk, .inr (2, [.ref h, .int (nI K)])), (h, .inr (1, [.ref a])), (a, .inl (cJ, 12544, .inr (.inl (f))))] := hD
  refine lv_aload_n hx hb d_Tr_addWay_0 rfl (lv_at hl 0 rfl) ?_
  refine va_get (D := D) (ci := 3) (v := .ref tn) (C := R_Tr) (T := F_Tr) (N := 6) hx hb hts i_Tr hown hK hP 0 rfl rfl 3 (by decide) (hts _ fl_Tr_34) (fun _ h9 => h9) rfl d_Tr_addWay_1 ?_
  refine lv_iload_n hx hb d_Tr_addWay_4 rfl (lv_at hl 1 rfl) ?_
  refine lv_aload_n hx hb d_Tr_addWay_5 rfl (lv_at hl 0 rfl) ?_
  refine va_get (D := D) (ci := 3) (v := .ref tn) (C := R_Tr) (T := F_Tr) (N := 6) hx hb hts i_Tr hown hK hP 0 rfl rfl 3 (by decide) (hts _ fl_Tr_34) (fun _ h9 => h9) rfl d_Tr_addWay_6 ?_
  refine lv_iload_n hx hb d_Tr_addWay_9 rfl (lv_at hl 1 rfl) ?_
  refine q_callVi (As := [.int (nI b)]) (rest := [.int (nI b), .ref tn]) (wsC := [(tn, .inr (2, [.ref h, .int (nI T)])), (h, .inr (1, [.ref a])), (a, .inl (cJ, 12544, .inr (.inl (f))))]) (wsR := [(tr, .inr (3, [.ref h, .ref x0, .ref x1, .ref tn, .ref tk, .int (nI hd)])), (tk, .inr (2, [.ref h, .int (nI K)]))]) (wsC' := [(tn, .inr (2, [.ref h, .int (nI T)])), (h, .inr (1, [.ref a])), (a, .inl (cJ, 12544, .inr (.inl (f))))]) (wsN := [(tr, .inr (3, [.ref h, .ref x0, .ref x1, .ref tn, .ref tk, .int (nI hd)])), (tn, .inr (2, [.ref h, .int (nI T)])), (tk, .inr (2, [.ref h, .int (nI K)])), (h, .inr (1, [.ref a])), (a, .inl (cJ, 12544, .inr (.inl (f))))]) (isT := [0]) (isC := [1, 3, 4]) (isR := [0, 2]) (isN := [0, 2, 1, 3, 4]) (k := 1) (ci := 2) (C := R_Tb) ⟨hx, hb, hml, hown, hts⟩ (c_Tb_waysTo l D cJ tn T h a f b (by omega) (by omega)) (tw_V ml_Tr_41 im_Tb_waysTo se_Tb_waysTo in_Tb cd_Tb_waysTo) rfl ⟨by decide +kernel, Nat.le_of_ble_eq_true rfl, Nat.le_of_ble_eq_true rfl⟩ ⟨Nat.le_of_ble_eq_true rfl, Nat.le_of_ble_eq_true rfl⟩ hK hP hD hS hA hN rfl ⟨rfl, rfl, rfl, by decide, by decide, by decide, by decide⟩ rfl rfl rfl hl.1 rfl rfl (Nat.le_of_ble_eq_true rfl) d_Tr_addWay_10 (fun H locs hP hD hS => ?_)
  have hq1 := qv_wy_lt f T b
  refine lv_iconst (v := nI 1) hx hb d_Tr_addWay_13 (by decide) ?_
  refine lv_iadd hx hb d_Tr_addWay_14 ?_
  refine q_ti (y := nI (qv_wy f T b + 1)) (nI_add _ _) ?_
  refine q_callVv (As := [.int (nI b), .int (nI (qv_wy f T b + 1))]) (rest := []) (wsC := [(tn, .inr (2, [.ref h, .int (nI T)])), (h, .inr (1, [.ref a])), (a, .inl (cJ, 12544, .inr (.inl (f))))]) (wsR := [(tr, .inr (3, [.ref h, .ref x0, .ref x1, .ref tn, .ref tk, .int (nI hd)])), (tk, .inr (2, [.ref h, .int (nI K)]))]) (wsC' := [(tn, .inr (2, [.ref h, .int (nI T)])), (h, .inr (1, [.ref a])), (a, .inl (cJ, 12544, .inr (.inl (qv_setY f T b (qv_wy f T b + 1)))))]) (wsN := [(tr, .inr (3, [.ref h, .ref x0, .ref x1, .ref tn, .ref tk, .int (nI hd)])), (tn, .inr (2, [.ref h, .int (nI T)])), (tk, .inr (2, [.ref h, .int (nI K)])), (h, .inr (1, [.ref a])), (a, .inl (cJ, 12544, .inr (.inl (qv_setY f T b (qv_wy f T b + 1)))))]) (isT := [0]) (isC := [1, 3, 4]) (isR := [0, 2]) (isN := [0, 2, 1, 3, 4]) (k := 2) (ci := 2) (C := R_Tb) ⟨hx, hb, hml, hown, hts⟩ (c_Tb_setWays l D cJ tn T h a f b (qv_wy f T b + 1) (by omega) (by omega) (by omega)) (tw_V ml_Tr_107 im_Tb_setWays se_Tb_setWays in_Tb cd_Tb_setWays) rfl ⟨by decide +kernel, Nat.le_of_ble_eq_true rfl, Nat.le_of_ble_eq_true rfl⟩ ⟨Nat.le_of_ble_eq_true rfl, Nat.le_of_ble_eq_true rfl⟩ hK hP hD hS hA hN rfl ⟨rfl, rfl, rfl, by decide, by decide, by decide, by decide⟩ rfl rfl rfl hl.1 rfl rfl (Nat.le_of_ble_eq_true rfl) d_Tr_addWay_15 (fun H locs hP hD hS => ?_)
  exact q_vret hx hb hr hlk hK hP hD hS d_Tr_addWay_18 (rfl)
set_option maxHeartbeats 4000000 in
set_option maxRecDepth 100000 in
theorem c_Tr_release0 (l : Launch) (D : va_G) (cJ : ClassId) (tr : Nat) (x0 : Nat) (x1 : Nat) (tn : Nat) (T : Nat) (tk : Nat) (K : Nat) (hd : Nat) (h : Nat) (a : Nat) (f : Nat → Int64) (b : Nat) (kT : T < 1000) (kK : K < 1000) (khd : hd < 784) (kb : b < 65536) : qMv l y_Tr_release b_Tr_release 5 none (rmL 3) D [(cJ, .long)] [.ref tr, .int (nI b), .int (nI 0)] [(tr, .inr (3, [.ref h, .ref x0, .ref x1, .ref tn, .ref tk, .int (nI hd)])), (tn, .inr (2, [.ref h, .int (nI T)])), (tk, .inr (2, [.ref h, .int (nI K)])), (h, .inr (1, [.ref a])), (a, .inl (cJ, 12544, .inr (.inl (f))))] [(tr, .inr (3, [.ref h, .ref x0, .ref x1, .ref tn, .ref tk, .int (nI hd)])), (tn, .inr (2, [.ref h, .int (nI T)])), (tk, .inr (2, [.ref h, .int (nI K)])), (h, .inr (1, [.ref a])), (a, .inl (cJ, 12544, .inr (.inl (qt_rel T 0 f b))))] := by
  refine q_start (Qc := qZv D _ _) (by decide +kernel) (Nat.le_of_ble_eq_true rfl) ?_
  intro p e s m below meth c A hx hb hr hlk hml hown hts hK hP hD hS hA hN ls hl
  have hl : lv_has ls 5 [(0, .ref tr), (1, .int (nI b)), (2, .int (nI 0))] := hl
  have hP : va_P D cls [(tr, .inr (3, [.ref h, .ref x0, .ref x1, .ref tn, .ref tk, .int (nI hd)])), (tn, .inr (2, [.ref h, .int (nI T)])), (tk, .inr (2, [.ref h, .int (nI K)])), (h, .inr (1, [.ref a])), (a, .inl (cJ, 12544, .inr (.inl (f))))] s.heap := hP
  have hD : va_D A [(tr, .inr (3, [.ref h, .ref x0, .ref x1, .ref tn, .ref tk, .int (nI hd)])), (tn, .inr (2, [.ref h, .int (nI T)])), (tk, .inr (2, [.ref h, .int (nI K)])), (h, .inr (1, [.ref a])), (a, .inl (cJ, 12544, .inr (.inl (f))))] := hD
  refine lv_aload_n hx hb d_Tr_release_0 rfl (lv_at hl 0 rfl) ?_
  refine va_get (D := D) (ci := 3) (v := .ref tn) (C := R_Tr) (T := F_Tr) (N := 6) hx hb hts i_Tr hown hK hP 0 rfl rfl 3 (by decide) (hts _ fl_Tr_34) (fun _ h9 => h9) rfl d_Tr_release_1 ?_
  refine lv_iload_n hx hb d_Tr_release_4 rfl (lv_at hl 1 rfl) ?_
  refine q_callVi (As := [.int (nI b)]) (rest := []) (wsC := [(tn, .inr (2, [.ref h, .int (nI T)])), (h, .inr (1, [.ref a])), (a, .inl (cJ, 12544, .inr (.inl (f))))]) (wsR := [(tr, .inr (3, [.ref h, .ref x0, .ref x1, .ref tn, .ref tk, .int (nI hd)])), (tk, .inr (2, [.ref h, .int (nI K)]))]) (wsC' := [(tn, .inr (2, [.ref h, .int (nI T)])), (h, .inr (1, [.ref a])), (a, .inl (cJ, 12544, .inr (.inl (f))))]) (wsN := [(tr, .inr (3, [.ref h, .ref x0, .ref x1, .ref tn, .ref tk, .int (nI hd)])), (tn, .inr (2, [.ref h, .int (nI T)])), (tk, .inr (2, [.ref h, .int (nI K)])), (h, .inr (1, [.ref a])), (a, .inl (cJ, 12544, .inr (.inl (f))))]) (isT := [0]) (isC := [1, 3, 4]) (isR := [0, 2]) (isN := [0, 2, 1, 3, 4]) (k := 1) (ci := 2) (C := R_Tb) ⟨hx, hb, hml, hown, hts⟩ (c_Tb_waysTo l D cJ tn T h a f b (by omega) (by omega)) (tw_V ml_Tr_41 im_Tb_waysTo se_Tb_waysTo in_Tb cd_Tb_waysTo) rfl ⟨by decide +kernel, Nat.le_of_ble_eq_true rfl, Nat.le_of_ble_eq_true rfl⟩ ⟨Nat.le_of_ble_eq_true rfl, Nat.le_of_ble_eq_true rfl⟩ hK hP hD hS hA hN rfl ⟨rfl, rfl, rfl, by decide, by decide, by decide, by decide⟩ rfl rfl rfl hl.1 rfl rfl (Nat.le_of_ble_eq_true rfl) d_Tr_release_5 (fun H locs hP hD hS => ?_)
  have hq1 := qv_wy_lt f T b
  refine lv_istore_n (lv' := [(3, .int (nI (qv_wy f T b))), (0, .ref tr), (1, .int (nI b)), (2, .int (nI 0))]) hx hb d_Tr_release_8 rfl hl (by decide) rfl (fun ls hl => ?_)
  refine lv_iload_n hx hb d_Tr_release_9 rfl (lv_at hl 0 rfl) ?_
  refine lv_if_ne (tgt := 14) hx hb d_Tr_release_10 (by decide) (fun c10 => ?_) (fun c10 => ?_)
  · have c10 : ¬ (qv_wy f T b) = 0 := fun h9 => c10 ((q_z_eq (by omega)).mpr h9)
    refine lv_aload_n hx hb d_Tr_release_14 rfl (lv_at hl 1 rfl) ?_
    refine va_get (D := D) (ci := 3) (v := .ref tn) (C := R_Tr) (T := F_Tr) (N := 6) hx hb hts i_Tr hown hK hP 0 rfl rfl 3 (by decide) (hts _ fl_Tr_34) (fun _ h9 => h9) rfl d_Tr_release_15 ?_
    refine lv_iload_n hx hb d_Tr_release_18 rfl (lv_at hl 2 rfl) ?_
    refine lv_iload_n hx hb d_Tr_release_19 rfl (lv_at hl 0 rfl) ?_
    refine lv_iconst (v := nI 1) hx hb d_Tr_release_20 (by decide) ?_
    refine lv_isub hx hb d_Tr_release_21 ?_
    refine q_ti (y := nI ((qv_wy f T b) - 1)) (pk_sub (by omega)) ?_
    refine q_callVv (As := [.int (nI b), .int (nI ((qv_wy f T b) - 1))]) (rest := []) (wsC := [(tn, .inr (2, [.ref h, .int (nI T)])), (h, .inr (1, [.ref a])), (a, .inl (cJ, 12544, .inr (.inl (f))))]) (wsR := [(tr, .inr (3, [.ref h, .ref x0, .ref x1, .ref tn, .ref tk, .int (nI hd)])), (tk, .inr (2, [.ref h, .int (nI K)]))]) (wsC' := [(tn, .inr (2, [.ref h, .int (nI T)])), (h, .inr (1, [.ref a])), (a, .inl (cJ, 12544, .inr (.inl (qv_setY f T b ((qv_wy f T b) - 1)))))]) (wsN := [(tr, .inr (3, [.ref h, .ref x0, .ref x1, .ref tn, .ref tk, .int (nI hd)])), (tn, .inr (2, [.ref h, .int (nI T)])), (tk, .inr (2, [.ref h, .int (nI K)])), (h, .inr (1, [.ref a])), (a, .inl (cJ, 12544, .inr (.inl (qv_setY f T b ((qv_wy f T b) - 1)))))]) (isT := [0]) (isC := [1, 3, 4]) (isR := [0, 2]) (isN := [0, 2, 1, 3, 4]) (k := 2) (ci := 2) (C := R_Tb) ⟨hx, hb, hml, hown, hts⟩ (c_Tb_setWays l D cJ tn T h a f b ((qv_wy f T b) - 1) (by omega) (by omega) (by omega)) (tw_V ml_Tr_107 im_Tb_setWays se_Tb_setWays in_Tb cd_Tb_setWays) rfl ⟨by decide +kernel, Nat.le_of_ble_eq_true rfl, Nat.le_of_ble_eq_true rfl⟩ ⟨Nat.le_of_ble_eq_true rfl, Nat.le_of_ble_eq_true rfl⟩ hK hP hD hS hA hN rfl ⟨rfl, rfl, rfl, by decide, by decide, by decide, by decide⟩ rfl rfl rfl hl.1 rfl rfl (Nat.le_of_ble_eq_true rfl) d_Tr_release_22 (fun H locs hP hD hS => ?_)
    refine lv_iload_n hx hb d_Tr_release_25 rfl (lv_at hl 0 rfl) ?_
    refine lv_iconst (v := nI 1) hx hb d_Tr_release_26 (by decide) ?_
    refine lv_icmp_le (tgt := 31) hx hb d_Tr_release_27 (by decide) (fun c27 => ?_) (fun c27 => ?_)
    · have c27 : (qv_wy f T b) ≤ 1 := (nI_leI (by omega) (by omega)).mp c27
      refine lv_iconst (v := nI 0) hx hb d_Tr_release_31 (by decide) ?_
      refine lv_istore (lv' := [(4, .int (nI 0)), (3, .int (nI (qv_wy f T b))), (0, .ref tr), (1, .int (nI b)), (2, .int (nI 0))]) hx hb d_Tr_release_32 hl (by decide) rfl (fun ls hl => ?_)
      refine q_loop (pc := 34) (σ := Unit) (I := fun i u H locs ls => va_P D cls [(tr, .inr (3, [.ref h, .ref x0, .ref x1, .ref tn, .ref tk, .int (nI hd)])), (tn, .inr (2, [.ref h, .int (nI T)])), (tk, .inr (2, [.ref h, .int (nI K)])), (h, .inr (1, [.ref a])), (a, .inl (cJ, 12544, .inr (.inl (qv_for i (fun g i => g) (qv_setY f T b (qv_wy f T b - 1))))))] H ∧ va_D A [(tr, .inr (3, [.ref h, .ref x0, .ref x1, .ref tn, .ref tk, .int (nI hd)])), (tn, .inr (2, [.ref h, .int (nI T)])), (tk, .inr (2, [.ref h, .int (nI K)])), (h, .inr (1, [.ref a])), (a, .inl (cJ, 12544, .inr (.inl (qv_for i (fun g i => g) (qv_setY f T b (qv_wy f T b - 1))))))] ∧ va_S A s.heap H locs ∧ lv_has ls 5 [(0, .ref tr), (1, .int (nI b)), (2, .int (nI 0)), (4, .int (nI i))]) (0) ?_ ?_ (0) (()) _ _ _ (by omega) ⟨hP, hD, hS, lv_sub hl [2, 3, 4, 0] rfl⟩
      · intro u H locs ls hI
        obtain ⟨hP, hD, hS, hl⟩ := hI
        refine lv_iload hx hb d_Tr_release_34 (lv_at hl 3 rfl) ?_
        refine lv_iload_n hx hb d_Tr_release_36 rfl (lv_at hl 2 rfl) ?_
        refine q_callSi (As := [.int (nI 0)]) (rest := [.int (nI 0)]) (wsC := []) (wsR := [(tr, .inr (3, [.ref h, .ref x0, .ref x1, .ref tn, .ref tk, .int (nI hd)])), (tn, .inr (2, [.ref h, .int (nI T)])), (tk, .inr (2, [.ref h, .int (nI K)])), (h, .inr (1, [.ref a])), (a, .inl (cJ, 12544, .inr (.inl (qv_for 0 (fun g i => g) (qv_setY f T b (qv_wy f T b - 1))))))]) (wsC' := []) (wsN := [(tr, .inr (3, [.ref h, .ref x0, .ref x1, .ref tn, .ref tk, .int (nI hd)])), (tn, .inr (2, [.ref h, .int (nI T)])), (tk, .inr (2, [.ref h, .int (nI K)])), (h, .inr (1, [.ref a])), (a, .inl (cJ, 12544, .inr (.inl (qv_for 0 (fun g i => g) (qv_setY f T b (qv_wy f T b - 1))))))]) (isT := []) (isC := []) (isR := [0, 1, 2, 3, 4]) (isN := [0, 1, 2, 3, 4]) (k := 1) ⟨hx, hb, hml, hown, hts⟩ (c_Tr_linksOf l D 0 (by omega)) (tw_S ml_Tr_101 st_Tr_linksOf in_Tr cd_Tr_linksOf) ⟨by decide +kernel, Nat.le_of_ble_eq_true rfl, Nat.le_of_ble_eq_true rfl⟩ ⟨Nat.le_of_ble_eq_true rfl, Nat.le_of_ble_eq_true rfl⟩ hK hP hD hS hA hN rfl ⟨rfl, rfl, rfl, by decide, by decide, by decide, by decide⟩ hl.1 rfl rfl (Nat.le_of_ble_eq_true rfl) d_Tr_release_37 (fun H locs hP hD hS => ?_)
        refine q_ti (y := nI 0) (rfl) ?_
        refine lv_icmp_ge (tgt := 66) hx hb d_Tr_release_40 (by decide) (fun c40 => ?_) (fun c40 => ?_)
        · have c40 : 0 ≤ 0 := (nI_leI (by omega) (by omega)).mp c40
          exact q_vret hx hb hr hlk hK hP hD hS d_Tr_release_66 (by unfold qt_rel; rw [if_neg c10]; rfl)
        · have c40 : ¬ 0 ≤ 0 := fun h9 => c40 ((nI_leI (by omega) (by omega)).mpr h9)
          exfalso; omega
      · intro i u H locs ls hi hI ih
        obtain ⟨hP, hD, hS, hl⟩ := hI
        refine lv_iload hx hb d_Tr_release_34 (lv_at hl 3 rfl) ?_
        refine lv_iload_n hx hb d_Tr_release_36 rfl (lv_at hl 2 rfl) ?_
        refine q_callSi (As := [.int (nI 0)]) (rest := [.int (nI i)]) (wsC := []) (wsR := [(tr, .inr (3, [.ref h, .ref x0, .ref x1, .ref tn, .ref tk, .int (nI hd)])), (tn, .inr (2, [.ref h, .int (nI T)])), (tk, .inr (2, [.ref h, .int (nI K)])), (h, .inr (1, [.ref a])), (a, .inl (cJ, 12544, .inr (.inl (qv_for i (fun g i => g) (qv_setY f T b (qv_wy f T b - 1))))))]) (wsC' := []) (wsN := [(tr, .inr (3, [.ref h, .ref x0, .ref x1, .ref tn, .ref tk, .int (nI hd)])), (tn, .inr (2, [.ref h, .int (nI T)])), (tk, .inr (2, [.ref h, .int (nI K)])), (h, .inr (1, [.ref a])), (a, .inl (cJ, 12544, .inr (.inl (qv_for i (fun g i => g) (qv_setY f T b (qv_wy f T b - 1))))))]) (isT := []) (isC := []) (isR := [0, 1, 2, 3, 4]) (isN := [0, 1, 2, 3, 4]) (k := 1) ⟨hx, hb, hml, hown, hts⟩ (c_Tr_linksOf l D 0 (by omega)) (tw_S ml_Tr_101 st_Tr_linksOf in_Tr cd_Tr_linksOf) ⟨by decide +kernel, Nat.le_of_ble_eq_true rfl, Nat.le_of_ble_eq_true rfl⟩ ⟨Nat.le_of_ble_eq_true rfl, Nat.le_of_ble_eq_true rfl⟩ hK hP hD hS hA hN rfl ⟨rfl, rfl, rfl, by decide, by decide, by decide, by decide⟩ hl.1 rfl rfl (Nat.le_of_ble_eq_true rfl) d_Tr_release_37 (fun H locs hP hD hS => ?_)
        refine q_ti (y := nI 0) (rfl) ?_
        refine lv_icmp_ge (tgt := 66) hx hb d_Tr_release_40 (by decide) (fun c40 => ?_) (fun c40 => ?_)
        · have c40 : 0 ≤ i := (nI_leI (by omega) (by omega)).mp c40
          exfalso; omega
        · have c40 : ¬ 0 ≤ i := fun h9 => c40 ((nI_leI (by omega) (by omega)).mpr h9)
          exfalso; omega
    · have c27 : ¬ (qv_wy f T b) ≤ 1 := fun h9 => c27 ((nI_leI (by omega) (by omega)).mpr h9)
      exact q_vret hx hb hr hlk hK hP hD hS d_Tr_release_30 (by unfold qt_rel; rw [if_neg c10])
  · have c10 : (qv_wy f T b) = 0 := (q_z_eq (by omega)).mp c10
    exact q_vret hx hb hr hlk hK hP hD hS d_Tr_release_13 (by unfold qt_rel; rw [if_pos c10])
set_option maxHeartbeats 4000000 in
set_option maxRecDepth 100000 in
theorem c_Tr_release1 (l : Launch) (D : va_G) (cJ : ClassId) (tr : Nat) (x0 : Nat) (x1 : Nat) (tn : Nat) (T : Nat) (tk : Nat) (K : Nat) (hd : Nat) (h : Nat) (a : Nat) (f : Nat → Int64) (b : Nat) (kT : T < 1000) (kK : K < 1000) (khd : hd < 784) (kb : b < 65536) : qMv l y_Tr_release b_Tr_release 5 none (rmL 4) D [(cJ, .long)] [.ref tr, .int (nI b), .int (nI 1)] [(tr, .inr (3, [.ref h, .ref x0, .ref x1, .ref tn, .ref tk, .int (nI hd)])), (tn, .inr (2, [.ref h, .int (nI T)])), (tk, .inr (2, [.ref h, .int (nI K)])), (h, .inr (1, [.ref a])), (a, .inl (cJ, 12544, .inr (.inl (f))))] [(tr, .inr (3, [.ref h, .ref x0, .ref x1, .ref tn, .ref tk, .int (nI hd)])), (tn, .inr (2, [.ref h, .int (nI T)])), (tk, .inr (2, [.ref h, .int (nI K)])), (h, .inr (1, [.ref a])), (a, .inl (cJ, 12544, .inr (.inl (qt_rel T 1 f b))))] := by
  refine q_start (Qc := qZv D _ _) (by decide +kernel) (Nat.le_of_ble_eq_true rfl) ?_
  intro p e s m below meth c A hx hb hr hlk hml hown hts hK hP hD hS hA hN ls hl
  have hl : lv_has ls 5 [(0, .ref tr), (1, .int (nI b)), (2, .int (nI 1))] := hl
  have hP : va_P D cls [(tr, .inr (3, [.ref h, .ref x0, .ref x1, .ref tn, .ref tk, .int (nI hd)])), (tn, .inr (2, [.ref h, .int (nI T)])), (tk, .inr (2, [.ref h, .int (nI K)])), (h, .inr (1, [.ref a])), (a, .inl (cJ, 12544, .inr (.inl (f))))] s.heap := hP
  have hD : va_D A [(tr, .inr (3, [.ref h, .ref x0, .ref x1, .ref tn, .ref tk, .int (nI hd)])), (tn, .inr (2, [.ref h, .int (nI T)])), (tk, .inr (2, [.ref h, .int (nI K)])), (h, .inr (1, [.ref a])), (a, .inl (cJ, 12544, .inr (.inl (f))))] := hD
  refine lv_aload_n hx hb d_Tr_release_0 rfl (lv_at hl 0 rfl) ?_
  refine va_get (D := D) (ci := 3) (v := .ref tn) (C := R_Tr) (T := F_Tr) (N := 6) hx hb hts i_Tr hown hK hP 0 rfl rfl 3 (by decide) (hts _ fl_Tr_34) (fun _ h9 => h9) rfl d_Tr_release_1 ?_
  refine lv_iload_n hx hb d_Tr_release_4 rfl (lv_at hl 1 rfl) ?_
  refine q_callVi (As := [.int (nI b)]) (rest := []) (wsC := [(tn, .inr (2, [.ref h, .int (nI T)])), (h, .inr (1, [.ref a])), (a, .inl (cJ, 12544, .inr (.inl (f))))]) (wsR := [(tr, .inr (3, [.ref h, .ref x0, .ref x1, .ref tn, .ref tk, .int (nI hd)])), (tk, .inr (2, [.ref h, .int (nI K)]))]) (wsC' := [(tn, .inr (2, [.ref h, .int (nI T)])), (h, .inr (1, [.ref a])), (a, .inl (cJ, 12544, .inr (.inl (f))))]) (wsN := [(tr, .inr (3, [.ref h, .ref x0, .ref x1, .ref tn, .ref tk, .int (nI hd)])), (tn, .inr (2, [.ref h, .int (nI T)])), (tk, .inr (2, [.ref h, .int (nI K)])), (h, .inr (1, [.ref a])), (a, .inl (cJ, 12544, .inr (.inl (f))))]) (isT := [0]) (isC := [1, 3, 4]) (isR := [0, 2]) (isN := [0, 2, 1, 3, 4]) (k := 1) (ci := 2) (C := R_Tb) ⟨hx, hb, hml, hown, hts⟩ (c_Tb_waysTo l D cJ tn T h a f b (by omega) (by omega)) (tw_V ml_Tr_41 im_Tb_waysTo se_Tb_waysTo in_Tb cd_Tb_waysTo) rfl ⟨by decide +kernel, Nat.le_of_ble_eq_true rfl, Nat.le_of_ble_eq_true rfl⟩ ⟨Nat.le_of_ble_eq_true rfl, Nat.le_of_ble_eq_true rfl⟩ hK hP hD hS hA hN rfl ⟨rfl, rfl, rfl, by decide, by decide, by decide, by decide⟩ rfl rfl rfl hl.1 rfl rfl (Nat.le_of_ble_eq_true rfl) d_Tr_release_5 (fun H locs hP hD hS => ?_)
  have hq1 := qv_wy_lt f T b
  refine lv_istore_n (lv' := [(3, .int (nI (qv_wy f T b))), (0, .ref tr), (1, .int (nI b)), (2, .int (nI 1))]) hx hb d_Tr_release_8 rfl hl (by decide) rfl (fun ls hl => ?_)
  refine lv_iload_n hx hb d_Tr_release_9 rfl (lv_at hl 0 rfl) ?_
  refine lv_if_ne (tgt := 14) hx hb d_Tr_release_10 (by decide) (fun c10 => ?_) (fun c10 => ?_)
  · have c10 : ¬ (qv_wy f T b) = 0 := fun h9 => c10 ((q_z_eq (by omega)).mpr h9)
    refine lv_aload_n hx hb d_Tr_release_14 rfl (lv_at hl 1 rfl) ?_
    refine va_get (D := D) (ci := 3) (v := .ref tn) (C := R_Tr) (T := F_Tr) (N := 6) hx hb hts i_Tr hown hK hP 0 rfl rfl 3 (by decide) (hts _ fl_Tr_34) (fun _ h9 => h9) rfl d_Tr_release_15 ?_
    refine lv_iload_n hx hb d_Tr_release_18 rfl (lv_at hl 2 rfl) ?_
    refine lv_iload_n hx hb d_Tr_release_19 rfl (lv_at hl 0 rfl) ?_
    refine lv_iconst (v := nI 1) hx hb d_Tr_release_20 (by decide) ?_
    refine lv_isub hx hb d_Tr_release_21 ?_
    refine q_ti (y := nI ((qv_wy f T b) - 1)) (pk_sub (by omega)) ?_
    refine q_callVv (As := [.int (nI b), .int (nI ((qv_wy f T b) - 1))]) (rest := []) (wsC := [(tn, .inr (2, [.ref h, .int (nI T)])), (h, .inr (1, [.ref a])), (a, .inl (cJ, 12544, .inr (.inl (f))))]) (wsR := [(tr, .inr (3, [.ref h, .ref x0, .ref x1, .ref tn, .ref tk, .int (nI hd)])), (tk, .inr (2, [.ref h, .int (nI K)]))]) (wsC' := [(tn, .inr (2, [.ref h, .int (nI T)])), (h, .inr (1, [.ref a])), (a, .inl (cJ, 12544, .inr (.inl (qv_setY f T b ((qv_wy f T b) - 1)))))]) (wsN := [(tr, .inr (3, [.ref h, .ref x0, .ref x1, .ref tn, .ref tk, .int (nI hd)])), (tn, .inr (2, [.ref h, .int (nI T)])), (tk, .inr (2, [.ref h, .int (nI K)])), (h, .inr (1, [.ref a])), (a, .inl (cJ, 12544, .inr (.inl (qv_setY f T b ((qv_wy f T b) - 1)))))]) (isT := [0]) (isC := [1, 3, 4]) (isR := [0, 2]) (isN := [0, 2, 1, 3, 4]) (k := 2) (ci := 2) (C := R_Tb) ⟨hx, hb, hml, hown, hts⟩ (c_Tb_setWays l D cJ tn T h a f b ((qv_wy f T b) - 1) (by omega) (by omega) (by omega)) (tw_V ml_Tr_107 im_Tb_setWays se_Tb_setWays in_Tb cd_Tb_setWays) rfl ⟨by decide +kernel, Nat.le_of_ble_eq_true rfl, Nat.le_of_ble_eq_true rfl⟩ ⟨Nat.le_of_ble_eq_true rfl, Nat.le_of_ble_eq_true rfl⟩ hK hP hD hS hA hN rfl ⟨rfl, rfl, rfl, by decide, by decide, by decide, by decide⟩ rfl rfl rfl hl.1 rfl rfl (Nat.le_of_ble_eq_true rfl) d_Tr_release_22 (fun H locs hP hD hS => ?_)
    refine lv_iload_n hx hb d_Tr_release_25 rfl (lv_at hl 0 rfl) ?_
    refine lv_iconst (v := nI 1) hx hb d_Tr_release_26 (by decide) ?_
    refine lv_icmp_le (tgt := 31) hx hb d_Tr_release_27 (by decide) (fun c27 => ?_) (fun c27 => ?_)
    · have c27 : (qv_wy f T b) ≤ 1 := (nI_leI (by omega) (by omega)).mp c27
      refine lv_iconst (v := nI 0) hx hb d_Tr_release_31 (by decide) ?_
      refine lv_istore (lv' := [(4, .int (nI 0)), (3, .int (nI (qv_wy f T b))), (0, .ref tr), (1, .int (nI b)), (2, .int (nI 1))]) hx hb d_Tr_release_32 hl (by decide) rfl (fun ls hl => ?_)
      refine q_loop (pc := 34) (σ := Unit) (I := fun i u H locs ls => va_P D cls [(tr, .inr (3, [.ref h, .ref x0, .ref x1, .ref tn, .ref tk, .int (nI hd)])), (tn, .inr (2, [.ref h, .int (nI T)])), (tk, .inr (2, [.ref h, .int (nI K)])), (h, .inr (1, [.ref a])), (a, .inl (cJ, 12544, .inr (.inl (qv_for i (fun g i => qt_rel T 0 g (qv_lk g b i)) (qv_setY f T b (qv_wy f T b - 1))))))] H ∧ va_D A [(tr, .inr (3, [.ref h, .ref x0, .ref x1, .ref tn, .ref tk, .int (nI hd)])), (tn, .inr (2, [.ref h, .int (nI T)])), (tk, .inr (2, [.ref h, .int (nI K)])), (h, .inr (1, [.ref a])), (a, .inl (cJ, 12544, .inr (.inl (qv_for i (fun g i => qt_rel T 0 g (qv_lk g b i)) (qv_setY f T b (qv_wy f T b - 1))))))] ∧ va_S A s.heap H locs ∧ lv_has ls 5 [(0, .ref tr), (1, .int (nI b)), (2, .int (nI 1)), (4, .int (nI i))]) (32) ?_ ?_ (0) (()) _ _ _ (by omega) ⟨hP, hD, hS, lv_sub hl [2, 3, 4, 0] rfl⟩
      · intro u H locs ls hI
        obtain ⟨hP, hD, hS, hl⟩ := hI
        refine lv_iload hx hb d_Tr_release_34 (lv_at hl 3 rfl) ?_
        refine lv_iload_n hx hb d_Tr_release_36 rfl (lv_at hl 2 rfl) ?_
        refine q_callSi (As := [.int (nI 1)]) (rest := [.int (nI 32)]) (wsC := []) (wsR := [(tr, .inr (3, [.ref h, .ref x0, .ref x1, .ref tn, .ref tk, .int (nI hd)])), (tn, .inr (2, [.ref h, .int (nI T)])), (tk, .inr (2, [.ref h, .int (nI K)])), (h, .inr (1, [.ref a])), (a, .inl (cJ, 12544, .inr (.inl (qv_for 32 (fun g i => qt_rel T 0 g (qv_lk g b i)) (qv_setY f T b (qv_wy f T b - 1))))))]) (wsC' := []) (wsN := [(tr, .inr (3, [.ref h, .ref x0, .ref x1, .ref tn, .ref tk, .int (nI hd)])), (tn, .inr (2, [.ref h, .int (nI T)])), (tk, .inr (2, [.ref h, .int (nI K)])), (h, .inr (1, [.ref a])), (a, .inl (cJ, 12544, .inr (.inl (qv_for 32 (fun g i => qt_rel T 0 g (qv_lk g b i)) (qv_setY f T b (qv_wy f T b - 1))))))]) (isT := []) (isC := []) (isR := [0, 1, 2, 3, 4]) (isN := [0, 1, 2, 3, 4]) (k := 1) ⟨hx, hb, hml, hown, hts⟩ (c_Tr_linksOf l D 1 (by omega)) (tw_S ml_Tr_101 st_Tr_linksOf in_Tr cd_Tr_linksOf) ⟨by decide +kernel, Nat.le_of_ble_eq_true rfl, Nat.le_of_ble_eq_true rfl⟩ ⟨Nat.le_of_ble_eq_true rfl, Nat.le_of_ble_eq_true rfl⟩ hK hP hD hS hA hN rfl ⟨rfl, rfl, rfl, by decide, by decide, by decide, by decide⟩ hl.1 rfl rfl (Nat.le_of_ble_eq_true rfl) d_Tr_release_37 (fun H locs hP hD hS => ?_)
        refine q_ti (y := nI 32) (rfl) ?_
        refine lv_icmp_ge (tgt := 66) hx hb d_Tr_release_40 (by decide) (fun c40 => ?_) (fun c40 => ?_)
        · have c40 : 32 ≤ 32 := (nI_leI (by omega) (by omega)).mp c40
          exact q_vret hx hb hr hlk hK hP hD hS d_Tr_release_66 (by unfold qt_rel; rw [if_neg c10, if_neg (by omega)]; rfl)
        · have c40 : ¬ 32 ≤ 32 := fun h9 => c40 ((nI_leI (by omega) (by omega)).mpr h9)
          exfalso; omega
      · intro i u H locs ls hi hI ih
        obtain ⟨hP, hD, hS, hl⟩ := hI
        refine lv_iload hx hb d_Tr_release_34 (lv_at hl 3 rfl) ?_
        refine lv_iload_n hx hb d_Tr_release_36 rfl (lv_at hl 2 rfl) ?_
        refine q_callSi (As := [.int (nI 1)]) (rest := [.int (nI i)]) (wsC := []) (wsR := [(tr, .inr (3, [.ref h, .ref x0, .ref x1, .ref tn, .ref tk, .int (nI hd)])), (tn, .inr (2, [.ref h, .int (nI T)])), (tk, .inr (2, [.ref h, .int (nI K)])), (h, .inr (1, [.ref a])), (a, .inl (cJ, 12544, .inr (.inl (qv_for i (fun g i => qt_rel T 0 g (qv_lk g b i)) (qv_setY f T b (qv_wy f T b - 1))))))]) (wsC' := []) (wsN := [(tr, .inr (3, [.ref h, .ref x0, .ref x1, .ref tn, .ref tk, .int (nI hd)])), (tn, .inr (2, [.ref h, .int (nI T)])), (tk, .inr (2, [.ref h, .int (nI K)])), (h, .inr (1, [.ref a])), (a, .inl (cJ, 12544, .inr (.inl (qv_for i (fun g i => qt_rel T 0 g (qv_lk g b i)) (qv_setY f T b (qv_wy f T b - 1))))))]) (isT := []) (isC := []) (isR := [0, 1, 2, 3, 4]) (isN := [0, 1, 2, 3, 4]) (k := 1) ⟨hx, hb, hml, hown, hts⟩ (c_Tr_linksOf l D 1 (by omega)) (tw_S ml_Tr_101 st_Tr_linksOf in_Tr cd_Tr_linksOf) ⟨by decide +kernel, Nat.le_of_ble_eq_true rfl, Nat.le_of_ble_eq_true rfl⟩ ⟨Nat.le_of_ble_eq_true rfl, Nat.le_of_ble_eq_true rfl⟩ hK hP hD hS hA hN rfl ⟨rfl, rfl, rfl, by decide, by decide, by decide, by decide⟩ hl.1 rfl rfl (Nat.le_of_ble_eq_true rfl) d_Tr_release_37 (fun H locs hP hD hS => ?_)
        refine q_ti (y := nI 32) (rfl) ?_
        refine lv_icmp_ge (tgt := 66) hx hb d_Tr_release_40 (by decide) (fun c40 => ?_) (fun c40 => ?_)
        · have c40 : 32 ≤ i := (nI_leI (by omega) (by omega)).mp c40
          exfalso; omega
        · have c40 : ¬ 32 ≤ i := fun h9 => c40 ((nI_leI (by omega) (by omega)).mpr h9)
          refine lv_aload_n hx hb d_Tr_release_43 rfl (lv_at hl 0 rfl) ?_
          refine lv_aload_n hx hb d_Tr_release_44 rfl (lv_at hl 0 rfl) ?_
          refine va_get (D := D) (ci := 3) (v := .ref h) (C := R_Tr) (T := F_Tr) (N := 6) hx hb hts i_Tr hown hK hP 0 rfl rfl 0 (by decide) (hts _ fl_Tr_15) (fun _ h9 => h9) rfl d_Tr_release_45 ?_
          refine lv_iload_n hx hb d_Tr_release_48 rfl (lv_at hl 1 rfl) ?_
          refine lv_iload hx hb d_Tr_release_49 (lv_at hl 3 rfl) ?_
          refine q_callVi (As := [.int (nI b), .int (nI i)]) (rest := [.ref tr]) (wsC := [(h, .inr (1, [.ref a])), (a, .inl (cJ, 12544, .inr (.inl (qv_for i (fun g i => qt_rel T 0 g (qv_lk g b i)) (qv_setY f T b (qv_wy f T b - 1))))))]) (wsR := [(tr, .inr (3, [.ref h, .ref x0, .ref x1, .ref tn, .ref tk, .int (nI hd)])), (tn, .inr (2, [.ref h, .int (nI T)])), (tk, .inr (2, [.ref h, .int (nI K)]))]) (wsC' := [(h, .inr (1, [.ref a])), (a, .inl (cJ, 12544, .inr (.inl ((qv_for i (fun g i => qt_rel T 0 g (qv_lk g b i)) (qv_setY f T b (qv_wy f T b - 1)))))))]) (wsN := [(tr, .inr (3, [.ref h, .ref x0, .ref x1, .ref tn, .ref tk, .int (nI hd)])), (tn, .inr (2, [.ref h, .int (nI T)])), (tk, .inr (2, [.ref h, .int (nI K)])), (h, .inr (1, [.ref a])), (a, .inl (cJ, 12544, .inr (.inl ((qv_for i (fun g i => qt_rel T 0 g (qv_lk g b i)) (qv_setY f T b (qv_wy f T b - 1)))))))]) (isT := [0]) (isC := [3, 4]) (isR := [0, 1, 2]) (isN := [0, 1, 2, 3, 4]) (k := 2) (ci := 1) (C := R_Im) ⟨hx, hb, hml, hown, hts⟩ (c_Im_linkAt l D cJ h a (qv_for i (fun g i => qt_rel T 0 g (qv_lk g b i)) (qv_setY f T b (qv_wy f T b - 1))) b i (by omega) (by omega)) (tw_V ml_Tr_56 im_Im_linkAt se_Im_linkAt in_Im cd_Im_linkAt) rfl ⟨by decide +kernel, Nat.le_of_ble_eq_true rfl, Nat.le_of_ble_eq_true rfl⟩ ⟨Nat.le_of_ble_eq_true rfl, Nat.le_of_ble_eq_true rfl⟩ hK hP hD hS hA hN rfl ⟨rfl, rfl, rfl, by decide, by decide, by decide, by decide⟩ rfl rfl rfl hl.1 rfl rfl (Nat.le_of_ble_eq_true rfl) d_Tr_release_51 (fun H locs hP hD hS => ?_)
          have hq2 := qv_lk_lt (qv_for i (fun g i => qt_rel T 0 g (qv_lk g b i)) (qv_setY f T b (qv_wy f T b - 1))) b i
          refine lv_iload_n hx hb d_Tr_release_54 rfl (lv_at hl 2 rfl) ?_
          refine lv_iconst (v := nI 1) hx hb d_Tr_release_55 (by decide) ?_
          refine lv_isub hx hb d_Tr_release_56 ?_
          refine q_ti (y := nI 0) (by decide) ?_
          refine q_callVv (As := [.int (nI (qv_lk (qv_for i (fun g i => qt_rel T 0 g (qv_lk g b i)) (qv_setY f T b (qv_wy f T b - 1))) b i)), .int (nI 0)]) (rest := []) (wsC := [(tr, .inr (3, [.ref h, .ref x0, .ref x1, .ref tn, .ref tk, .int (nI hd)])), (tn, .inr (2, [.ref h, .int (nI T)])), (tk, .inr (2, [.ref h, .int (nI K)])), (h, .inr (1, [.ref a])), (a, .inl (cJ, 12544, .inr (.inl ((qv_for i (fun g i => qt_rel T 0 g (qv_lk g b i)) (qv_setY f T b (qv_wy f T b - 1)))))))]) (wsR := []) (wsC' := [(tr, .inr (3, [.ref h, .ref x0, .ref x1, .ref tn, .ref tk, .int (nI hd)])), (tn, .inr (2, [.ref h, .int (nI T)])), (tk, .inr (2, [.ref h, .int (nI K)])), (h, .inr (1, [.ref a])), (a, .inl (cJ, 12544, .inr (.inl (qt_rel T 0 ((qv_for i (fun g i => qt_rel T 0 g (qv_lk g b i)) (qv_setY f T b (qv_wy f T b - 1)))) (qv_lk (qv_for i (fun g i => qt_rel T 0 g (qv_lk g b i)) (qv_setY f T b (qv_wy f T b - 1))) b i)))))]) (wsN := [(tr, .inr (3, [.ref h, .ref x0, .ref x1, .ref tn, .ref tk, .int (nI hd)])), (tn, .inr (2, [.ref h, .int (nI T)])), (tk, .inr (2, [.ref h, .int (nI K)])), (h, .inr (1, [.ref a])), (a, .inl (cJ, 12544, .inr (.inl (qt_rel T 0 ((qv_for i (fun g i => qt_rel T 0 g (qv_lk g b i)) (qv_setY f T b (qv_wy f T b - 1)))) (qv_lk (qv_for i (fun g i => qt_rel T 0 g (qv_lk g b i)) (qv_setY f T b (qv_wy f T b - 1))) b i)))))]) (isT := [0]) (isC := [0, 1, 2, 3, 4]) (isR := []) (isN := [0, 1, 2, 3, 4]) (k := 2) (ci := 3) (C := R_Tr) ⟨hx, hb, hml, hown, hts⟩ (c_Tr_release0 l D cJ tr x0 x1 tn T tk K hd h a (qv_for i (fun g i => qt_rel T 0 g (qv_lk g b i)) (qv_setY f T b (qv_wy f T b - 1))) (qv_lk (qv_for i (fun g i => qt_rel T 0 g (qv_lk g b i)) (qv_setY f T b (qv_wy f T b - 1))) b i) (by omega) (by omega) (by omega) (by omega)) (tw_V ml_Tr_72 im_Tr_release se_Tr_release in_Tr cd_Tr_release) rfl ⟨by decide +kernel, Nat.le_of_ble_eq_true rfl, Nat.le_of_ble_eq_true rfl⟩ ⟨Nat.le_of_ble_eq_true rfl, Nat.le_of_ble_eq_true rfl⟩ hK hP hD hS hA hN rfl ⟨rfl, rfl, rfl, by decide, by decide, by decide, by decide⟩ rfl rfl rfl hl.1 rfl rfl (Nat.le_of_ble_eq_true rfl) d_Tr_release_57 (fun H locs hP hD hS => ?_)
          refine lv_iinc (v := nI (i + 1)) (lv' := [(4, .int (nI (i + 1))), (0, .ref tr), (1, .int (nI b)), (2, .int (nI 1))]) hx hb d_Tr_release_60 hl (k := 3) rfl (nI_1 _) (by decide) rfl (fun ls hl => ?_)
          refine lv_goto (tgt := 34) hx hb d_Tr_release_63 (by decide) ?_
          exact ih (()) _ _ _ ⟨hP, hD, hS, lv_sub hl [1, 2, 3, 0] rfl⟩
    · have c27 : ¬ (qv_wy f T b) ≤ 1 := fun h9 => c27 ((nI_leI (by omega) (by omega)).mpr h9)
      exact q_vret hx hb hr hlk hK hP hD hS d_Tr_release_30 (by unfold qt_rel; rw [if_neg c10, if_pos (by omega)])
  · have c10 : (qv_wy f T b) = 0 := (q_z_eq (by omega)).mp c10
    exact q_vret hx hb hr hlk hK hP hD hS d_Tr_release_13 (by unfold qt_rel; rw [if_pos c10])
set_option maxHeartbeats 4000000 in
set_option maxRecDepth 100000 in
theorem c_Tr_release2 (l : Launch) (D : va_G) (cJ : ClassId) (tr : Nat) (x0 : Nat) (x1 : Nat) (tn : Nat) (T : Nat) (tk : Nat) (K : Nat) (hd : Nat) (h : Nat) (a : Nat) (f : Nat → Int64) (b : Nat) (kT : T < 1000) (kK : K < 1000) (khd : hd < 784) (kb : b < 65536) : qMv l y_Tr_release b_Tr_release 5 none (rmL 5) D [(cJ, .long)] [.ref tr, .int (nI b), .int (nI 2)] [(tr, .inr (3, [.ref h, .ref x0, .ref x1, .ref tn, .ref tk, .int (nI hd)])), (tn, .inr (2, [.ref h, .int (nI T)])), (tk, .inr (2, [.ref h, .int (nI K)])), (h, .inr (1, [.ref a])), (a, .inl (cJ, 12544, .inr (.inl (f))))] [(tr, .inr (3, [.ref h, .ref x0, .ref x1, .ref tn, .ref tk, .int (nI hd)])), (tn, .inr (2, [.ref h, .int (nI T)])), (tk, .inr (2, [.ref h, .int (nI K)])), (h, .inr (1, [.ref a])), (a, .inl (cJ, 12544, .inr (.inl (qt_rel T 2 f b))))] := by
  refine q_start (Qc := qZv D _ _) (by decide +kernel) (Nat.le_of_ble_eq_true rfl) ?_
  intro p e s m below meth c A hx hb hr hlk hml hown hts hK hP hD hS hA hN ls hl
  have hl : lv_has ls 5 [(0, .ref tr), (1, .int (nI b)), (2, .int (nI 2))] := hl
  have hP : va_P D cls [(tr, .inr (3, [.ref h, .ref x0, .ref x1, .ref tn, .ref tk, .int (nI hd)])), (tn, .inr (2, [.ref h, .int (nI T)])), (tk, .inr (2, [.ref h, .int (nI K)])), (h, .inr (1, [.ref a])), (a, .inl (cJ, 12544, .inr (.inl (f))))] s.heap := hP
  have hD : va_D A [(tr, .inr (3, [.ref h, .ref x0, .ref x1, .ref tn, .ref tk, .int (nI hd)])), (tn, .inr (2, [.ref h, .int (nI T)])), (tk, .inr (2, [.ref h, .int (nI K)])), (h, .inr (1, [.ref a])), (a, .inl (cJ, 12544, .inr (.inl (f))))] := hD
  refine lv_aload_n hx hb d_Tr_release_0 rfl (lv_at hl 0 rfl) ?_
  refine va_get (D := D) (ci := 3) (v := .ref tn) (C := R_Tr) (T := F_Tr) (N := 6) hx hb hts i_Tr hown hK hP 0 rfl rfl 3 (by decide) (hts _ fl_Tr_34) (fun _ h9 => h9) rfl d_Tr_release_1 ?_
  refine lv_iload_n hx hb d_Tr_release_4 rfl (lv_at hl 1 rfl) ?_
  refine q_callVi (As := [.int (nI b)]) (rest := []) (wsC := [(tn, .inr (2, [.ref h, .int (nI T)])), (h, .inr (1, [.ref a])), (a, .inl (cJ, 12544, .inr (.inl (f))))]) (wsR := [(tr, .inr (3, [.ref h, .ref x0, .ref x1, .ref tn, .ref tk, .int (nI hd)])), (tk, .inr (2, [.ref h, .int (nI K)]))]) (wsC' := [(tn, .inr (2, [.ref h, .int (nI T)])), (h, .inr (1, [.ref a])), (a, .inl (cJ, 12544, .inr (.inl (f))))]) (wsN := [(tr, .inr (3, [.ref h, .ref x0, .ref x1, .ref tn, .ref tk, .int (nI hd)])), (tn, .inr (2, [.ref h, .int (nI T)])), (tk, .inr (2, [.ref h, .int (nI K)])), (h, .inr (1, [.ref a])), (a, .inl (cJ, 12544, .inr (.inl (f))))]) (isT := [0]) (isC := [1, 3, 4]) (isR := [0, 2]) (isN := [0, 2, 1, 3, 4]) (k := 1) (ci := 2) (C := R_Tb) ⟨hx, hb, hml, hown, hts⟩ (c_Tb_waysTo l D cJ tn T h a f b (by omega) (by omega)) (tw_V ml_Tr_41 im_Tb_waysTo se_Tb_waysTo in_Tb cd_Tb_waysTo) rfl ⟨by decide +kernel, Nat.le_of_ble_eq_true rfl, Nat.le_of_ble_eq_true rfl⟩ ⟨Nat.le_of_ble_eq_true rfl, Nat.le_of_ble_eq_true rfl⟩ hK hP hD hS hA hN rfl ⟨rfl, rfl, rfl, by decide, by decide, by decide, by decide⟩ rfl rfl rfl hl.1 rfl rfl (Nat.le_of_ble_eq_true rfl) d_Tr_release_5 (fun H locs hP hD hS => ?_)
  have hq1 := qv_wy_lt f T b
  refine lv_istore_n (lv' := [(3, .int (nI (qv_wy f T b))), (0, .ref tr), (1, .int (nI b)), (2, .int (nI 2))]) hx hb d_Tr_release_8 rfl hl (by decide) rfl (fun ls hl => ?_)
  refine lv_iload_n hx hb d_Tr_release_9 rfl (lv_at hl 0 rfl) ?_
  refine lv_if_ne (tgt := 14) hx hb d_Tr_release_10 (by decide) (fun c10 => ?_) (fun c10 => ?_)
  · have c10 : ¬ (qv_wy f T b) = 0 := fun h9 => c10 ((q_z_eq (by omega)).mpr h9)
    refine lv_aload_n hx hb d_Tr_release_14 rfl (lv_at hl 1 rfl) ?_
    refine va_get (D := D) (ci := 3) (v := .ref tn) (C := R_Tr) (T := F_Tr) (N := 6) hx hb hts i_Tr hown hK hP 0 rfl rfl 3 (by decide) (hts _ fl_Tr_34) (fun _ h9 => h9) rfl d_Tr_release_15 ?_
    refine lv_iload_n hx hb d_Tr_release_18 rfl (lv_at hl 2 rfl) ?_
    refine lv_iload_n hx hb d_Tr_release_19 rfl (lv_at hl 0 rfl) ?_
    refine lv_iconst (v := nI 1) hx hb d_Tr_release_20 (by decide) ?_
    refine lv_isub hx hb d_Tr_release_21 ?_
    refine q_ti (y := nI ((qv_wy f T b) - 1)) (pk_sub (by omega)) ?_
    refine q_callVv (As := [.int (nI b), .int (nI ((qv_wy f T b) - 1))]) (rest := []) (wsC := [(tn, .inr (2, [.ref h, .int (nI T)])), (h, .inr (1, [.ref a])), (a, .inl (cJ, 12544, .inr (.inl (f))))]) (wsR := [(tr, .inr (3, [.ref h, .ref x0, .ref x1, .ref tn, .ref tk, .int (nI hd)])), (tk, .inr (2, [.ref h, .int (nI K)]))]) (wsC' := [(tn, .inr (2, [.ref h, .int (nI T)])), (h, .inr (1, [.ref a])), (a, .inl (cJ, 12544, .inr (.inl (qv_setY f T b ((qv_wy f T b) - 1)))))]) (wsN := [(tr, .inr (3, [.ref h, .ref x0, .ref x1, .ref tn, .ref tk, .int (nI hd)])), (tn, .inr (2, [.ref h, .int (nI T)])), (tk, .inr (2, [.ref h, .int (nI K)])), (h, .inr (1, [.ref a])), (a, .inl (cJ, 12544, .inr (.inl (qv_setY f T b ((qv_wy f T b) - 1)))))]) (isT := [0]) (isC := [1, 3, 4]) (isR := [0, 2]) (isN := [0, 2, 1, 3, 4]) (k := 2) (ci := 2) (C := R_Tb) ⟨hx, hb, hml, hown, hts⟩ (c_Tb_setWays l D cJ tn T h a f b ((qv_wy f T b) - 1) (by omega) (by omega) (by omega)) (tw_V ml_Tr_107 im_Tb_setWays se_Tb_setWays in_Tb cd_Tb_setWays) rfl ⟨by decide +kernel, Nat.le_of_ble_eq_true rfl, Nat.le_of_ble_eq_true rfl⟩ ⟨Nat.le_of_ble_eq_true rfl, Nat.le_of_ble_eq_true rfl⟩ hK hP hD hS hA hN rfl ⟨rfl, rfl, rfl, by decide, by decide, by decide, by decide⟩ rfl rfl rfl hl.1 rfl rfl (Nat.le_of_ble_eq_true rfl) d_Tr_release_22 (fun H locs hP hD hS => ?_)
    refine lv_iload_n hx hb d_Tr_release_25 rfl (lv_at hl 0 rfl) ?_
    refine lv_iconst (v := nI 1) hx hb d_Tr_release_26 (by decide) ?_
    refine lv_icmp_le (tgt := 31) hx hb d_Tr_release_27 (by decide) (fun c27 => ?_) (fun c27 => ?_)
    · have c27 : (qv_wy f T b) ≤ 1 := (nI_leI (by omega) (by omega)).mp c27
      refine lv_iconst (v := nI 0) hx hb d_Tr_release_31 (by decide) ?_
      refine lv_istore (lv' := [(4, .int (nI 0)), (3, .int (nI (qv_wy f T b))), (0, .ref tr), (1, .int (nI b)), (2, .int (nI 2))]) hx hb d_Tr_release_32 hl (by decide) rfl (fun ls hl => ?_)
      refine q_loop (pc := 34) (σ := Unit) (I := fun i u H locs ls => va_P D cls [(tr, .inr (3, [.ref h, .ref x0, .ref x1, .ref tn, .ref tk, .int (nI hd)])), (tn, .inr (2, [.ref h, .int (nI T)])), (tk, .inr (2, [.ref h, .int (nI K)])), (h, .inr (1, [.ref a])), (a, .inl (cJ, 12544, .inr (.inl (qv_for i (fun g i => qt_rel T 1 g (qv_lk g b i)) (qv_setY f T b (qv_wy f T b - 1))))))] H ∧ va_D A [(tr, .inr (3, [.ref h, .ref x0, .ref x1, .ref tn, .ref tk, .int (nI hd)])), (tn, .inr (2, [.ref h, .int (nI T)])), (tk, .inr (2, [.ref h, .int (nI K)])), (h, .inr (1, [.ref a])), (a, .inl (cJ, 12544, .inr (.inl (qv_for i (fun g i => qt_rel T 1 g (qv_lk g b i)) (qv_setY f T b (qv_wy f T b - 1))))))] ∧ va_S A s.heap H locs ∧ lv_has ls 5 [(0, .ref tr), (1, .int (nI b)), (2, .int (nI 2)), (4, .int (nI i))]) (4) ?_ ?_ (0) (()) _ _ _ (by omega) ⟨hP, hD, hS, lv_sub hl [2, 3, 4, 0] rfl⟩
      · intro u H locs ls hI
        obtain ⟨hP, hD, hS, hl⟩ := hI
        refine lv_iload hx hb d_Tr_release_34 (lv_at hl 3 rfl) ?_
        refine lv_iload_n hx hb d_Tr_release_36 rfl (lv_at hl 2 rfl) ?_
        refine q_callSi (As := [.int (nI 2)]) (rest := [.int (nI 4)]) (wsC := []) (wsR := [(tr, .inr (3, [.ref h, .ref x0, .ref x1, .ref tn, .ref tk, .int (nI hd)])), (tn, .inr (2, [.ref h, .int (nI T)])), (tk, .inr (2, [.ref h, .int (nI K)])), (h, .inr (1, [.ref a])), (a, .inl (cJ, 12544, .inr (.inl (qv_for 4 (fun g i => qt_rel T 1 g (qv_lk g b i)) (qv_setY f T b (qv_wy f T b - 1))))))]) (wsC' := []) (wsN := [(tr, .inr (3, [.ref h, .ref x0, .ref x1, .ref tn, .ref tk, .int (nI hd)])), (tn, .inr (2, [.ref h, .int (nI T)])), (tk, .inr (2, [.ref h, .int (nI K)])), (h, .inr (1, [.ref a])), (a, .inl (cJ, 12544, .inr (.inl (qv_for 4 (fun g i => qt_rel T 1 g (qv_lk g b i)) (qv_setY f T b (qv_wy f T b - 1))))))]) (isT := []) (isC := []) (isR := [0, 1, 2, 3, 4]) (isN := [0, 1, 2, 3, 4]) (k := 1) ⟨hx, hb, hml, hown, hts⟩ (c_Tr_linksOf l D 2 (by omega)) (tw_S ml_Tr_101 st_Tr_linksOf in_Tr cd_Tr_linksOf) ⟨by decide +kernel, Nat.le_of_ble_eq_true rfl, Nat.le_of_ble_eq_true rfl⟩ ⟨Nat.le_of_ble_eq_true rfl, Nat.le_of_ble_eq_true rfl⟩ hK hP hD hS hA hN rfl ⟨rfl, rfl, rfl, by decide, by decide, by decide, by decide⟩ hl.1 rfl rfl (Nat.le_of_ble_eq_true rfl) d_Tr_release_37 (fun H locs hP hD hS => ?_)
        refine q_ti (y := nI 4) (rfl) ?_
        refine lv_icmp_ge (tgt := 66) hx hb d_Tr_release_40 (by decide) (fun c40 => ?_) (fun c40 => ?_)
        · have c40 : 4 ≤ 4 := (nI_leI (by omega) (by omega)).mp c40
          exact q_vret hx hb hr hlk hK hP hD hS d_Tr_release_66 (by unfold qt_rel; rw [if_neg c10, if_neg (by omega)]; rfl)
        · have c40 : ¬ 4 ≤ 4 := fun h9 => c40 ((nI_leI (by omega) (by omega)).mpr h9)
          exfalso; omega
      · intro i u H locs ls hi hI ih
        obtain ⟨hP, hD, hS, hl⟩ := hI
        refine lv_iload hx hb d_Tr_release_34 (lv_at hl 3 rfl) ?_
        refine lv_iload_n hx hb d_Tr_release_36 rfl (lv_at hl 2 rfl) ?_
        refine q_callSi (As := [.int (nI 2)]) (rest := [.int (nI i)]) (wsC := []) (wsR := [(tr, .inr (3, [.ref h, .ref x0, .ref x1, .ref tn, .ref tk, .int (nI hd)])), (tn, .inr (2, [.ref h, .int (nI T)])), (tk, .inr (2, [.ref h, .int (nI K)])), (h, .inr (1, [.ref a])), (a, .inl (cJ, 12544, .inr (.inl (qv_for i (fun g i => qt_rel T 1 g (qv_lk g b i)) (qv_setY f T b (qv_wy f T b - 1))))))]) (wsC' := []) (wsN := [(tr, .inr (3, [.ref h, .ref x0, .ref x1, .ref tn, .ref tk, .int (nI hd)])), (tn, .inr (2, [.ref h, .int (nI T)])), (tk, .inr (2, [.ref h, .int (nI K)])), (h, .inr (1, [.ref a])), (a, .inl (cJ, 12544, .inr (.inl (qv_for i (fun g i => qt_rel T 1 g (qv_lk g b i)) (qv_setY f T b (qv_wy f T b - 1))))))]) (isT := []) (isC := []) (isR := [0, 1, 2, 3, 4]) (isN := [0, 1, 2, 3, 4]) (k := 1) ⟨hx, hb, hml, hown, hts⟩ (c_Tr_linksOf l D 2 (by omega)) (tw_S ml_Tr_101 st_Tr_linksOf in_Tr cd_Tr_linksOf) ⟨by decide +kernel, Nat.le_of_ble_eq_true rfl, Nat.le_of_ble_eq_true rfl⟩ ⟨Nat.le_of_ble_eq_true rfl, Nat.le_of_ble_eq_true rfl⟩ hK hP hD hS hA hN rfl ⟨rfl, rfl, rfl, by decide, by decide, by decide, by decide⟩ hl.1 rfl rfl (Nat.le_of_ble_eq_true rfl) d_Tr_release_37 (fun H locs hP hD hS => ?_)
        refine q_ti (y := nI 4) (rfl) ?_
        refine lv_icmp_ge (tgt := 66) hx hb d_Tr_release_40 (by decide) (fun c40 => ?_) (fun c40 => ?_)
        · have c40 : 4 ≤ i := (nI_leI (by omega) (by omega)).mp c40
          exfalso; omega
        · have c40 : ¬ 4 ≤ i := fun h9 => c40 ((nI_leI (by omega) (by omega)).mpr h9)
          refine lv_aload_n hx hb d_Tr_release_43 rfl (lv_at hl 0 rfl) ?_
          refine lv_aload_n hx hb d_Tr_release_44 rfl (lv_at hl 0 rfl) ?_
          refine va_get (D := D) (ci := 3) (v := .ref h) (C := R_Tr) (T := F_Tr) (N := 6) hx hb hts i_Tr hown hK hP 0 rfl rfl 0 (by decide) (hts _ fl_Tr_15) (fun _ h9 => h9) rfl d_Tr_release_45 ?_
          refine lv_iload_n hx hb d_Tr_release_48 rfl (lv_at hl 1 rfl) ?_
          refine lv_iload hx hb d_Tr_release_49 (lv_at hl 3 rfl) ?_
          refine q_callVi (As := [.int (nI b), .int (nI i)]) (rest := [.ref tr]) (wsC := [(h, .inr (1, [.ref a])), (a, .inl (cJ, 12544, .inr (.inl (qv_for i (fun g i => qt_rel T 1 g (qv_lk g b i)) (qv_setY f T b (qv_wy f T b - 1))))))]) (wsR := [(tr, .inr (3, [.ref h, .ref x0, .ref x1, .ref tn, .ref tk, .int (nI hd)])), (tn, .inr (2, [.ref h, .int (nI T)])), (tk, .inr (2, [.ref h, .int (nI K)]))]) (wsC' := [(h, .inr (1, [.ref a])), (a, .inl (cJ, 12544, .inr (.inl ((qv_for i (fun g i => qt_rel T 1 g (qv_lk g b i)) (qv_setY f T b (qv_wy f T b - 1)))))))]) (wsN := [(tr, .inr (3, [.ref h, .ref x0, .ref x1, .ref tn, .ref tk, .int (nI hd)])), (tn, .inr (2, [.ref h, .int (nI T)])), (tk, .inr (2, [.ref h, .int (nI K)])), (h, .inr (1, [.ref a])), (a, .inl (cJ, 12544, .inr (.inl ((qv_for i (fun g i => qt_rel T 1 g (qv_lk g b i)) (qv_setY f T b (qv_wy f T b - 1)))))))]) (isT := [0]) (isC := [3, 4]) (isR := [0, 1, 2]) (isN := [0, 1, 2, 3, 4]) (k := 2) (ci := 1) (C := R_Im) ⟨hx, hb, hml, hown, hts⟩ (c_Im_linkAt l D cJ h a (qv_for i (fun g i => qt_rel T 1 g (qv_lk g b i)) (qv_setY f T b (qv_wy f T b - 1))) b i (by omega) (by omega)) (tw_V ml_Tr_56 im_Im_linkAt se_Im_linkAt in_Im cd_Im_linkAt) rfl ⟨by decide +kernel, Nat.le_of_ble_eq_true rfl, Nat.le_of_ble_eq_true rfl⟩ ⟨Nat.le_of_ble_eq_true rfl, Nat.le_of_ble_eq_true rfl⟩ hK hP hD hS hA hN rfl ⟨rfl, rfl, rfl, by decide, by decide, by decide, by decide⟩ rfl rfl rfl hl.1 rfl rfl (Nat.le_of_ble_eq_true rfl) d_Tr_release_51 (fun H locs hP hD hS => ?_)
          have hq2 := qv_lk_lt (qv_for i (fun g i => qt_rel T 1 g (qv_lk g b i)) (qv_setY f T b (qv_wy f T b - 1))) b i
          refine lv_iload_n hx hb d_Tr_release_54 rfl (lv_at hl 2 rfl) ?_
          refine lv_iconst (v := nI 1) hx hb d_Tr_release_55 (by decide) ?_
          refine lv_isub hx hb d_Tr_release_56 ?_
          refine q_ti (y := nI 1) (by decide) ?_
          refine q_callVv (As := [.int (nI (qv_lk (qv_for i (fun g i => qt_rel T 1 g (qv_lk g b i)) (qv_setY f T b (qv_wy f T b - 1))) b i)), .int (nI 1)]) (rest := []) (wsC := [(tr, .inr (3, [.ref h, .ref x0, .ref x1, .ref tn, .ref tk, .int (nI hd)])), (tn, .inr (2, [.ref h, .int (nI T)])), (tk, .inr (2, [.ref h, .int (nI K)])), (h, .inr (1, [.ref a])), (a, .inl (cJ, 12544, .inr (.inl ((qv_for i (fun g i => qt_rel T 1 g (qv_lk g b i)) (qv_setY f T b (qv_wy f T b - 1)))))))]) (wsR := []) (wsC' := [(tr, .inr (3, [.ref h, .ref x0, .ref x1, .ref tn, .ref tk, .int (nI hd)])), (tn, .inr (2, [.ref h, .int (nI T)])), (tk, .inr (2, [.ref h, .int (nI K)])), (h, .inr (1, [.ref a])), (a, .inl (cJ, 12544, .inr (.inl (qt_rel T 1 ((qv_for i (fun g i => qt_rel T 1 g (qv_lk g b i)) (qv_setY f T b (qv_wy f T b - 1)))) (qv_lk (qv_for i (fun g i => qt_rel T 1 g (qv_lk g b i)) (qv_setY f T b (qv_wy f T b - 1))) b i)))))]) (wsN := [(tr, .inr (3, [.ref h, .ref x0, .ref x1, .ref tn, .ref tk, .int (nI hd)])), (tn, .inr (2, [.ref h, .int (nI T)])), (tk, .inr (2, [.ref h, .int (nI K)])), (h, .inr (1, [.ref a])), (a, .inl (cJ, 12544, .inr (.inl (qt_rel T 1 ((qv_for i (fun g i => qt_rel T 1 g (qv_lk g b i)) (qv_setY f T b (qv_wy f T b - 1)))) (qv_lk (qv_for i (fun g i => qt_rel T 1 g (qv_lk g b i)) (qv_setY f T b (qv_wy f T b - 1))) b i)))))]) (isT := [0]) (isC := [0, 1, 2, 3, 4]) (isR := []) (isN := [0, 1, 2, 3, 4]) (k := 2) (ci := 3) (C := R_Tr) ⟨hx, hb, hml, hown, hts⟩ (c_Tr_release1 l D cJ tr x0 x1 tn T tk K hd h a (qv_for i (fun g i => qt_rel T 1 g (qv_lk g b i)) (qv_setY f T b (qv_wy f T b - 1))) (qv_lk (qv_for i (fun g i => qt_rel T 1 g (qv_lk g b i)) (qv_setY f T b (qv_wy f T b - 1))) b i) (by omega) (by omega) (by omega) (by omega)) (tw_V ml_Tr_72 im_Tr_release se_Tr_release in_Tr cd_Tr_release) rfl ⟨by decide +kernel, Nat.le_of_ble_eq_true rfl, Nat.le_of_ble_eq_true rfl⟩ ⟨Nat.le_of_ble_eq_true rfl, Nat.le_of_ble_eq_true rfl⟩ hK hP hD hS hA hN rfl ⟨rfl, rfl, rfl, by decide, by decide, by decide, by decide⟩ rfl rfl rfl hl.1 rfl rfl (Nat.le_of_ble_eq_true rfl) d_Tr_release_57 (fun H locs hP hD hS => ?_)
          refine lv_iinc (v := nI (i + 1)) (lv' := [(4, .int (nI (i + 1))), (0, .ref tr), (1, .int (nI b)), (2, .int (nI 2))]) hx hb d_Tr_release_60 hl (k := 3) rfl (nI_1 _) (by decide) rfl (fun ls hl => ?_)
          refine lv_goto (tgt := 34) hx hb d_Tr_release_63 (by decide) ?_
          exact ih (()) _ _ _ ⟨hP, hD, hS, lv_sub hl [1, 2, 3, 0] rfl⟩
    · have c27 : ¬ (qv_wy f T b) ≤ 1 := fun h9 => c27 ((nI_leI (by omega) (by omega)).mpr h9)
      exact q_vret hx hb hr hlk hK hP hD hS d_Tr_release_30 (by unfold qt_rel; rw [if_neg c10, if_pos (by omega)])
  · have c10 : (qv_wy f T b) = 0 := (q_z_eq (by omega)).mp c10
    exact q_vret hx hb hr hlk hK hP hD hS d_Tr_release_13 (by unfold qt_rel; rw [if_pos c10])
set_option maxHeartbeats 4000000 in
set_option maxRecDepth 100000 in
theorem c_Tr_take (l : Launch) (D : va_G) (cJ : ClassId) (tr : Nat) (x0 : Nat) (x1 : Nat) (tn : Nat) (T : Nat) (tk : Nat) (K : Nat) (hd : Nat) (h : Nat) (a : Nat) (f : Nat → Int64) (kT : T < 1000) (kK : K < 1000) (khd : hd < 784) : qMi l y_Tr_take b_Tr_take 2 (some .int) (rmL 3) D [(cJ, .long)] [.ref tr] [(tr, .inr (3, [.ref h, .ref x0, .ref x1, .ref tn, .ref tk, .int (nI hd)])), (tn, .inr (2, [.ref h, .int (nI T)])), (tk, .inr (2, [.ref h, .int (nI K)])), (h, .inr (1, [.ref a])), (a, .inl (cJ, 12544, .inr (.inl (f))))] [(tr, .inr (3, [.ref h, .ref x0, .ref x1, .ref tn, .ref tk, .int (nI ((qt_take T K 768 f hd).2.2))])), (tn, .inr (2, [.ref h, .int (nI T)])), (tk, .inr (2, [.ref h, .int (nI K)])), (h, .inr (1, [.ref a])), (a, .inl (cJ, 12544, .inr (.inl ((qt_take T K 768 f hd).2.1))))] (nI (qt_take T K 768 f hd).1) := by
  refine q_start (Qc := qZi D _ _ _) (by decide +kernel) (Nat.le_of_ble_eq_true rfl) ?_
  intro p e s m below meth c A hx hb hr hlk hml hown hts hK hP hD hS hA hN ls hl
  have hl : lv_has ls 2 [(0, .ref tr)] := hl
  have hP : va_P D cls [(tr, .inr (3, [.ref h, .ref x0, .ref x1, .ref tn, .ref tk, .int (nI hd)])), (tn, .inr (2, [.ref h, .int (nI T)])), (tk, .inr (2, [.ref h, .int (nI K)])), (h, .inr (1, [.ref a])), (a, .inl (cJ, 12544, .inr (.inl (f))))] s.heap := hP
  have hD : va_D A [(tr, .inr (3, [.ref h, .ref x0, .ref x1, .ref tn, .ref tk, .int (nI hd)])), (tn, .inr (2, [.ref h, .int (nI T)])), (tk, .inr (2, [.ref h, .int (nI K)])), (h, .inr (1, [.ref a])), (a, .inl (cJ, 12544, .inr (.inl (f))))] := hD
  refine lv_iconst (v := nI 0) hx hb d_Tr_take_0 (by decide) ?_
  refine lv_istore_n (lv' := [(1, .int (nI 0)), (0, .ref tr)]) hx hb d_Tr_take_1 rfl hl (by decide) rfl (fun ls hl => ?_)
  refine q_loop (pc := 2) (σ := Nat) (I := fun i x H locs ls => va_P D cls [(tr, .inr (3, [.ref h, .ref x0, .ref x1, .ref tn, .ref tk, .int (nI x)])), (tn, .inr (2, [.ref h, .int (nI T)])), (tk, .inr (2, [.ref h, .int (nI K)])), (h, .inr (1, [.ref a])), (a, .inl (cJ, 12544, .inr (.inl (f))))] H ∧ va_D A [(tr, .inr (3, [.ref h, .ref x0, .ref x1, .ref tn, .ref tk, .int (nI x)])), (tn, .inr (2, [.ref h, .int (nI T)])), (tk, .inr (2, [.ref h, .int (nI K)])), (h, .inr (1, [.ref a])), (a, .inl (cJ, 12544, .inr (.inl (f))))] ∧ va_S A s.heap H locs ∧ lv_has ls 2 [(0, .ref tr), (1, .int (nI i))] ∧ (x < 784 ∧ qt_take T K 768 f hd = qt_take T K (768 - i) f x)) (768) ?_ ?_ (0) (hd) _ _ _ (by omega) ⟨hP, hD, hS, lv_sub hl [1, 0] rfl, ⟨khd, rfl⟩⟩
  · intro x H locs ls hI
    obtain ⟨hP, hD, hS, hl, hF⟩ := hI
    have hh := hF.1
    refine lv_iload_n hx hb d_Tr_take_2 rfl (lv_at hl 1 rfl) ?_
    refine lv_sipush (v := nI 768) hx hb d_Tr_take_3 (by decide) ?_
    refine lv_icmp_ge (tgt := 87) hx hb d_Tr_take_6 (by decide) (fun c6 => ?_) (fun c6 => ?_)
    · have c6 : 768 ≤ 768 := (nI_leI (by omega) (by omega)).mp c6
      refine lv_iconst (v := nI 0) hx hb d_Tr_take_87 (by decide) ?_
      exact q_iret hx hb hr hlk hK hP hD hS d_Tr_take_88 (by rw [hF.2]; rfl) (by rw [hF.2]; rfl)
    · have c6 : ¬ 768 ≤ 768 := fun h9 => c6 ((nI_leI (by omega) (by omega)).mpr h9)
      exfalso; omega
  · intro i x H locs ls hi hI ih
    obtain ⟨hP, hD, hS, hl, hF⟩ := hI
    have hh := hF.1
    have hh2 := qt_hand_lt hh
    have h7 : 768 - i = (767 - i) + 1 := by omega
    refine lv_iload_n hx hb d_Tr_take_2 rfl (lv_at hl 1 rfl) ?_
    refine lv_sipush (v := nI 768) hx hb d_Tr_take_3 (by decide) ?_
    refine lv_icmp_ge (tgt := 87) hx hb d_Tr_take_6 (by decide) (fun c6 => ?_) (fun c6 => ?_)
    · have c6 : 768 ≤ i := (nI_leI (by omega) (by omega)).mp c6
      exfalso; omega
    · have c6 : ¬ 768 ≤ i := fun h9 => c6 ((nI_leI (by omega) (by omega)).mpr h9)
      refine lv_aload_n hx hb d_Tr_take_9 rfl (lv_at hl 0 rfl) ?_
      refine lv_aload_n hx hb d_Tr_take_10 rfl (lv_at hl 0 rfl) ?_
      refine va_get (D := D) (ci := 3) (v := .int (nI x)) (C := R_Tr) (T := F_Tr) (N := 6) hx hb hts i_Tr hown hK hP 0 rfl rfl 5 (by decide) (hts _ fl_Tr_9) (fun _ h9 => h9) rfl d_Tr_take_11 ?_
      refine lv_iconst (v := nI 1) hx hb d_Tr_take_14 (by decide) ?_
      refine lv_iadd hx hb d_Tr_take_15 ?_
      refine q_ti (y := nI (x + 1)) (nI_add _ _) ?_
      refine lv_sipush (v := nI 784) hx hb d_Tr_take_16 (by decide) ?_
      refine lv_icmp_ge (tgt := 31) hx hb d_Tr_take_19 (by decide) (fun c19 => ?_) (fun c19 => ?_)
      · have c19 : 784 ≤ (x + 1) := (nI_leI (by omega) (by omega)).mp c19
        refine lv_bipush (v := nI 16) hx hb d_Tr_take_31 (by decide) ?_
        refine q_ti (y := nI (qt_hand x)) (by unfold qt_hand; rw [if_neg (by omega)]) ?_
        refine va_put (D := D) (ci := 3) (v := .int (nI (qt_hand x))) (ty := .int) (C := R_Tr) (T := F_Tr) (N := 6) hx hb hts i_Tr t_Tr t_Tr_ok n_Tr hown hK hP hD hS 0 rfl rfl 5 (by decide) (hts _ fl_Tr_9) (fun _ h9 => h9) rfl (by decide +kernel) rfl rfl (Nat.le_of_ble_eq_true rfl) d_Tr_take_33 (fun H locs hP hD hS => ?_)
        have hP : va_P D cls [(tr, .inr (3, [.ref h, .ref x0, .ref x1, .ref tn, .ref tk, .int (nI (qt_hand x))])), (tn, .inr (2, [.ref h, .int (nI T)])), (tk, .inr (2, [.ref h, .int (nI K)])), (h, .inr (1, [.ref a])), (a, .inl (cJ, 12544, .inr (.inl (f))))] H := hP
        have hD : va_D A [(tr, .inr (3, [.ref h, .ref x0, .ref x1, .ref tn, .ref tk, .int (nI (qt_hand x))])), (tn, .inr (2, [.ref h, .int (nI T)])), (tk, .inr (2, [.ref h, .int (nI K)])), (h, .inr (1, [.ref a])), (a, .inl (cJ, 12544, .inr (.inl (f))))] := hD
        refine lv_aload_n hx hb d_Tr_take_36 rfl (lv_at hl 0 rfl) ?_
        refine va_get (D := D) (ci := 3) (v := .ref tn) (C := R_Tr) (T := F_Tr) (N := 6) hx hb hts i_Tr hown hK hP 0 rfl rfl 3 (by decide) (hts _ fl_Tr_34) (fun _ h9 => h9) rfl d_Tr_take_37 ?_
        refine lv_aload_n hx hb d_Tr_take_40 rfl (lv_at hl 0 rfl) ?_
        refine va_get (D := D) (ci := 3) (v := .int (nI (qt_hand x))) (C := R_Tr) (T := F_Tr) (N := 6) hx hb hts i_Tr hown hK hP 0 rfl rfl 5 (by decide) (hts _ fl_Tr_9) (fun _ h9 => h9) rfl d_Tr_take_41 ?_
        refine q_callVi (As := [.int (nI (qt_hand x))]) (rest := []) (wsC := [(tn, .inr (2, [.ref h, .int (nI T)])), (h, .inr (1, [.ref a])), (a, .inl (cJ, 12544, .inr (.inl (f))))]) (wsR := [(tr, .inr (3, [.ref h, .ref x0, .ref x1, .ref tn, .ref tk, .int (nI (qt_hand x))])), (tk, .inr (2, [.ref h, .int (nI K)]))]) (wsC' := [(tn, .inr (2, [.ref h, .int (nI T)])), (h, .inr (1, [.ref a])), (a, .inl (cJ, 12544, .inr (.inl (f))))]) (wsN := [(tr, .inr (3, [.ref h, .ref x0, .ref x1, .ref tn, .ref tk, .int (nI (qt_hand x))])), (tn, .inr (2, [.ref h, .int (nI T)])), (tk, .inr (2, [.ref h, .int (nI K)])), (h, .inr (1, [.ref a])), (a, .inl (cJ, 12544, .inr (.inl (f))))]) (isT := [0]) (isC := [1, 3, 4]) (isR := [0, 2]) (isN := [0, 2, 1, 3, 4]) (k := 1) (ci := 2) (C := R_Tb) ⟨hx, hb, hml, hown, hts⟩ (c_Tb_waysTo l D cJ tn T h a f (qt_hand x) (by omega) (by omega)) (tw_V ml_Tr_41 im_Tb_waysTo se_Tb_waysTo in_Tb cd_Tb_waysTo) rfl ⟨by decide +kernel, Nat.le_of_ble_eq_true rfl, Nat.le_of_ble_eq_true rfl⟩ ⟨Nat.le_of_ble_eq_true rfl, Nat.le_of_ble_eq_true rfl⟩ hK hP hD hS hA hN rfl ⟨rfl, rfl, rfl, by decide, by decide, by decide, by decide⟩ rfl rfl rfl hl.1 rfl rfl (Nat.le_of_ble_eq_true rfl) d_Tr_take_44 (fun H locs hP hD hS => ?_)
        have hq1 := qv_wy_lt f T (qt_hand x)
        refine lv_if_ne (tgt := 81) hx hb d_Tr_take_47 (by decide) (fun c47 => ?_) (fun c47 => ?_)
        · have c47 : ¬ (qv_wy f T (qt_hand x)) = 0 := fun h9 => c47 ((q_z_eq (by omega)).mpr h9)
          refine lv_iinc (v := nI (i + 1)) (lv' := [(1, .int (nI (i + 1))), (0, .ref tr)]) hx hb d_Tr_take_81 hl (k := 1) rfl (nI_1 _) (by decide) rfl (fun ls hl => ?_)
          refine lv_goto (tgt := 2) hx hb d_Tr_take_84 (by decide) ?_
          exact ih (qt_hand x) _ _ _ ⟨hP, hD, hS, lv_sub hl [1, 0] rfl, ⟨hh2, by rw [hF.2, h7, qt_take_n (fun q => by have := q.1; have := q.2; omega), show 768 - (i + 1) = 767 - i by omega]⟩⟩
        · have c47 : (qv_wy f T (qt_hand x)) = 0 := (q_z_eq (by omega)).mp c47
          refine lv_aload_n hx hb d_Tr_take_50 rfl (lv_at hl 0 rfl) ?_
          refine va_get (D := D) (ci := 3) (v := .ref tk) (C := R_Tr) (T := F_Tr) (N := 6) hx hb hts i_Tr hown hK hP 0 rfl rfl 4 (by decide) (hts _ fl_Tr_31) (fun _ h9 => h9) rfl d_Tr_take_51 ?_
          refine lv_aload_n hx hb d_Tr_take_54 rfl (lv_at hl 0 rfl) ?_
          refine va_get (D := D) (ci := 3) (v := .int (nI (qt_hand x))) (C := R_Tr) (T := F_Tr) (N := 6) hx hb hts i_Tr hown hK hP 0 rfl rfl 5 (by decide) (hts _ fl_Tr_9) (fun _ h9 => h9) rfl d_Tr_take_55 ?_
          refine q_callVi (As := [.int (nI (qt_hand x))]) (rest := []) (wsC := [(tk, .inr (2, [.ref h, .int (nI K)])), (h, .inr (1, [.ref a])), (a, .inl (cJ, 12544, .inr (.inl (f))))]) (wsR := [(tr, .inr (3, [.ref h, .ref x0, .ref x1, .ref tn, .ref tk, .int (nI (qt_hand x))])), (tn, .inr (2, [.ref h, .int (nI T)]))]) (wsC' := [(tk, .inr (2, [.ref h, .int (nI K)])), (h, .inr (1, [.ref a])), (a, .inl (cJ, 12544, .inr (.inl (f))))]) (wsN := [(tr, .inr (3, [.ref h, .ref x0, .ref x1, .ref tn, .ref tk, .int (nI (qt_hand x))])), (tn, .inr (2, [.ref h, .int (nI T)])), (tk, .inr (2, [.ref h, .int (nI K)])), (h, .inr (1, [.ref a])), (a, .inl (cJ, 12544, .inr (.inl (f))))]) (isT := [0]) (isC := [2, 3, 4]) (isR := [0, 1]) (isN := [0, 1, 2, 3, 4]) (k := 1) (ci := 2) (C := R_Tb) ⟨hx, hb, hml, hown, hts⟩ (c_Tb_waysTo l D cJ tk K h a f (qt_hand x) (by omega) (by omega)) (tw_V ml_Tr_41 im_Tb_waysTo se_Tb_waysTo in_Tb cd_Tb_waysTo) rfl ⟨by decide +kernel, Nat.le_of_ble_eq_true rfl, Nat.le_of_ble_eq_true rfl⟩ ⟨Nat.le_of_ble_eq_true rfl, Nat.le_of_ble_eq_true rfl⟩ hK hP hD hS hA hN rfl ⟨rfl, rfl, rfl, by decide, by decide, by decide, by decide⟩ rfl rfl rfl hl.1 rfl rfl (Nat.le_of_ble_eq_true rfl) d_Tr_take_58 (fun H locs hP hD hS => ?_)
          have hq2 := qv_wy_lt f K (qt_hand x)
          refine lv_if_ne (tgt := 81) hx hb d_Tr_take_61 (by decide) (fun c61 => ?_) (fun c61 => ?_)
          · have c61 : ¬ (qv_wy f K (qt_hand x)) = 0 := fun h9 => c61 ((q_z_eq (by omega)).mpr h9)
            refine lv_iinc (v := nI (i + 1)) (lv' := [(1, .int (nI (i + 1))), (0, .ref tr)]) hx hb d_Tr_take_81 hl (k := 1) rfl (nI_1 _) (by decide) rfl (fun ls hl => ?_)
            refine lv_goto (tgt := 2) hx hb d_Tr_take_84 (by decide) ?_
            exact ih (qt_hand x) _ _ _ ⟨hP, hD, hS, lv_sub hl [1, 0] rfl, ⟨hh2, by rw [hF.2, h7, qt_take_n (fun q => by have := q.1; have := q.2; omega), show 768 - (i + 1) = 767 - i by omega]⟩⟩
          · have c61 : (qv_wy f K (qt_hand x)) = 0 := (q_z_eq (by omega)).mp c61
            refine lv_aload_n hx hb d_Tr_take_64 rfl (lv_at hl 0 rfl) ?_
            refine va_get (D := D) (ci := 3) (v := .ref tn) (C := R_Tr) (T := F_Tr) (N := 6) hx hb hts i_Tr hown hK hP 0 rfl rfl 3 (by decide) (hts _ fl_Tr_34) (fun _ h9 => h9) rfl d_Tr_take_65 ?_
            refine lv_aload_n hx hb d_Tr_take_68 rfl (lv_at hl 0 rfl) ?_
            refine va_get (D := D) (ci := 3) (v := .int (nI (qt_hand x))) (C := R_Tr) (T := F_Tr) (N := 6) hx hb hts i_Tr hown hK hP 0 rfl rfl 5 (by decide) (hts _ fl_Tr_9) (fun _ h9 => h9) rfl d_Tr_take_69 ?_
            refine lv_iconst (v := nI 1) hx hb d_Tr_take_72 (by decide) ?_
            refine q_callVv (As := [.int (nI (qt_hand x)), .int (nI 1)]) (rest := []) (wsC := [(tn, .inr (2, [.ref h, .int (nI T)])), (h, .inr (1, [.ref a])), (a, .inl (cJ, 12544, .inr (.inl (f))))]) (wsR := [(tr, .inr (3, [.ref h, .ref x0, .ref x1, .ref tn, .ref tk, .int (nI (qt_hand x))])), (tk, .inr (2, [.ref h, .int (nI K)]))]) (wsC' := [(tn, .inr (2, [.ref h, .int (nI T)])), (h, .inr (1, [.ref a])), (a, .inl (cJ, 12544, .inr (.inl (qv_setY f T (qt_hand x) 1))))]) (wsN := [(tr, .inr (3, [.ref h, .ref x0, .ref x1, .ref tn, .ref tk, .int (nI (qt_hand x))])), (tn, .inr (2, [.ref h, .int (nI T)])), (tk, .inr (2, [.ref h, .int (nI K)])), (h, .inr (1, [.ref a])), (a, .inl (cJ, 12544, .inr (.inl (qv_setY f T (qt_hand x) 1))))]) (isT := [0]) (isC := [1, 3, 4]) (isR := [0, 2]) (isN := [0, 2, 1, 3, 4]) (k := 2) (ci := 2) (C := R_Tb) ⟨hx, hb, hml, hown, hts⟩ (c_Tb_setWays l D cJ tn T h a f (qt_hand x) 1 (by omega) (by omega) (by omega)) (tw_V ml_Tr_107 im_Tb_setWays se_Tb_setWays in_Tb cd_Tb_setWays) rfl ⟨by decide +kernel, Nat.le_of_ble_eq_true rfl, Nat.le_of_ble_eq_true rfl⟩ ⟨Nat.le_of_ble_eq_true rfl, Nat.le_of_ble_eq_true rfl⟩ hK hP hD hS hA hN rfl ⟨rfl, rfl, rfl, by decide, by decide, by decide, by decide⟩ rfl rfl rfl hl.1 rfl rfl (Nat.le_of_ble_eq_true rfl) d_Tr_take_73 (fun H locs hP hD hS => ?_)
            refine lv_aload_n hx hb d_Tr_take_76 rfl (lv_at hl 0 rfl) ?_
            refine va_get (D := D) (ci := 3) (v := .int (nI (qt_hand x))) (C := R_Tr) (T := F_Tr) (N := 6) hx hb hts i_Tr hown hK hP 0 rfl rfl 5 (by decide) (hts _ fl_Tr_9) (fun _ h9 => h9) rfl d_Tr_take_77 ?_
            exact q_iret hx hb hr hlk hK hP hD hS d_Tr_take_80 (by rw [hF.2, h7, qt_take_f (by omega) (by omega)]) (by rw [hF.2, h7, qt_take_f (by omega) (by omega)])
      · have c19 : ¬ 784 ≤ (x + 1) := fun h9 => c19 ((nI_leI (by omega) (by omega)).mpr h9)
        refine lv_aload_n hx hb d_Tr_take_22 rfl (lv_at hl 0 rfl) ?_
        refine va_get (D := D) (ci := 3) (v := .int (nI x)) (C := R_Tr) (T := F_Tr) (N := 6) hx hb hts i_Tr hown hK hP 0 rfl rfl 5 (by decide) (hts _ fl_Tr_9) (fun _ h9 => h9) rfl d_Tr_take_23 ?_
        refine lv_iconst (v := nI 1) hx hb d_Tr_take_26 (by decide) ?_
        refine lv_iadd hx hb d_Tr_take_27 ?_
        refine q_ti (y := nI (x + 1)) (nI_add _ _) ?_
        refine lv_goto (tgt := 33) hx hb d_Tr_take_28 (by decide) ?_
        refine q_ti (y := nI (qt_hand x)) (by unfold qt_hand; rw [if_pos (by omega)]) ?_
        refine va_put (D := D) (ci := 3) (v := .int (nI (qt_hand x))) (ty := .int) (C := R_Tr) (T := F_Tr) (N := 6) hx hb hts i_Tr t_Tr t_Tr_ok n_Tr hown hK hP hD hS 0 rfl rfl 5 (by decide) (hts _ fl_Tr_9) (fun _ h9 => h9) rfl (by decide +kernel) rfl rfl (Nat.le_of_ble_eq_true rfl) d_Tr_take_33 (fun H locs hP hD hS => ?_)
        have hP : va_P D cls [(tr, .inr (3, [.ref h, .ref x0, .ref x1, .ref tn, .ref tk, .int (nI (qt_hand x))])), (tn, .inr (2, [.ref h, .int (nI T)])), (tk, .inr (2, [.ref h, .int (nI K)])), (h, .inr (1, [.ref a])), (a, .inl (cJ, 12544, .inr (.inl (f))))] H := hP
        have hD : va_D A [(tr, .inr (3, [.ref h, .ref x0, .ref x1, .ref tn, .ref tk, .int (nI (qt_hand x))])), (tn, .inr (2, [.ref h, .int (nI T)])), (tk, .inr (2, [.ref h, .int (nI K)])), (h, .inr (1, [.ref a])), (a, .inl (cJ, 12544, .inr (.inl (f))))] := hD
        refine lv_aload_n hx hb d_Tr_take_36 rfl (lv_at hl 0 rfl) ?_
        refine va_get (D := D) (ci := 3) (v := .ref tn) (C := R_Tr) (T := F_Tr) (N := 6) hx hb hts i_Tr hown hK hP 0 rfl rfl 3 (by decide) (hts _ fl_Tr_34) (fun _ h9 => h9) rfl d_Tr_take_37 ?_
        refine lv_aload_n hx hb d_Tr_take_40 rfl (lv_at hl 0 rfl) ?_
        refine va_get (D := D) (ci := 3) (v := .int (nI (qt_hand x))) (C := R_Tr) (T := F_Tr) (N := 6) hx hb hts i_Tr hown hK hP 0 rfl rfl 5 (by decide) (hts _ fl_Tr_9) (fun _ h9 => h9) rfl d_Tr_take_41 ?_
        refine q_callVi (As := [.int (nI (qt_hand x))]) (rest := []) (wsC := [(tn, .inr (2, [.ref h, .int (nI T)])), (h, .inr (1, [.ref a])), (a, .inl (cJ, 12544, .inr (.inl (f))))]) (wsR := [(tr, .inr (3, [.ref h, .ref x0, .ref x1, .ref tn, .ref tk, .int (nI (qt_hand x))])), (tk, .inr (2, [.ref h, .int (nI K)]))]) (wsC' := [(tn, .inr (2, [.ref h, .int (nI T)])), (h, .inr (1, [.ref a])), (a, .inl (cJ, 12544, .inr (.inl (f))))]) (wsN := [(tr, .inr (3, [.ref h, .ref x0, .ref x1, .ref tn, .ref tk, .int (nI (qt_hand x))])), (tn, .inr (2, [.ref h, .int (nI T)])), (tk, .inr (2, [.ref h, .int (nI K)])), (h, .inr (1, [.ref a])), (a, .inl (cJ, 12544, .inr (.inl (f))))]) (isT := [0]) (isC := [1, 3, 4]) (isR := [0, 2]) (isN := [0, 2, 1, 3, 4]) (k := 1) (ci := 2) (C := R_Tb) ⟨hx, hb, hml, hown, hts⟩ (c_Tb_waysTo l D cJ tn T h a f (qt_hand x) (by omega) (by omega)) (tw_V ml_Tr_41 im_Tb_waysTo se_Tb_waysTo in_Tb cd_Tb_waysTo) rfl ⟨by decide +kernel, Nat.le_of_ble_eq_true rfl, Nat.le_of_ble_eq_true rfl⟩ ⟨Nat.le_of_ble_eq_true rfl, Nat.le_of_ble_eq_true rfl⟩ hK hP hD hS hA hN rfl ⟨rfl, rfl, rfl, by decide, by decide, by decide, by decide⟩ rfl rfl rfl hl.1 rfl rfl (Nat.le_of_ble_eq_true rfl) d_Tr_take_44 (fun H locs hP hD hS => ?_)
        have hq3 := qv_wy_lt f T (qt_hand x)
        refine lv_if_ne (tgt := 81) hx hb d_Tr_take_47 (by decide) (fun c47 => ?_) (fun c47 => ?_)
        · have c47 : ¬ (qv_wy f T (qt_hand x)) = 0 := fun h9 => c47 ((q_z_eq (by omega)).mpr h9)
          refine lv_iinc (v := nI (i + 1)) (lv' := [(1, .int (nI (i + 1))), (0, .ref tr)]) hx hb d_Tr_take_81 hl (k := 1) rfl (nI_1 _) (by decide) rfl (fun ls hl => ?_)
          refine lv_goto (tgt := 2) hx hb d_Tr_take_84 (by decide) ?_
          exact ih (qt_hand x) _ _ _ ⟨hP, hD, hS, lv_sub hl [1, 0] rfl, ⟨hh2, by rw [hF.2, h7, qt_take_n (fun q => by have := q.1; have := q.2; omega), show 768 - (i + 1) = 767 - i by omega]⟩⟩
        · have c47 : (qv_wy f T (qt_hand x)) = 0 := (q_z_eq (by omega)).mp c47
          refine lv_aload_n hx hb d_Tr_take_50 rfl (lv_at hl 0 rfl) ?_
          refine va_get (D := D) (ci := 3) (v := .ref tk) (C := R_Tr) (T := F_Tr) (N := 6) hx hb hts i_Tr hown hK hP 0 rfl rfl 4 (by decide) (hts _ fl_Tr_31) (fun _ h9 => h9) rfl d_Tr_take_51 ?_
          refine lv_aload_n hx hb d_Tr_take_54 rfl (lv_at hl 0 rfl) ?_
          refine va_get (D := D) (ci := 3) (v := .int (nI (qt_hand x))) (C := R_Tr) (T := F_Tr) (N := 6) hx hb hts i_Tr hown hK hP 0 rfl rfl 5 (by decide) (hts _ fl_Tr_9) (fun _ h9 => h9) rfl d_Tr_take_55 ?_
          refine q_callVi (As := [.int (nI (qt_hand x))]) (rest := []) (wsC := [(tk, .inr (2, [.ref h, .int (nI K)])), (h, .inr (1, [.ref a])), (a, .inl (cJ, 12544, .inr (.inl (f))))]) (wsR := [(tr, .inr (3, [.ref h, .ref x0, .ref x1, .ref tn, .ref tk, .int (nI (qt_hand x))])), (tn, .inr (2, [.ref h, .int (nI T)]))]) (wsC' := [(tk, .inr (2, [.ref h, .int (nI K)])), (h, .inr (1, [.ref a])), (a, .inl (cJ, 12544, .inr (.inl (f))))]) (wsN := [(tr, .inr (3, [.ref h, .ref x0, .ref x1, .ref tn, .ref tk, .int (nI (qt_hand x))])), (tn, .inr (2, [.ref h, .int (nI T)])), (tk, .inr (2, [.ref h, .int (nI K)])), (h, .inr (1, [.ref a])), (a, .inl (cJ, 12544, .inr (.inl (f))))]) (isT := [0]) (isC := [2, 3, 4]) (isR := [0, 1]) (isN := [0, 1, 2, 3, 4]) (k := 1) (ci := 2) (C := R_Tb) ⟨hx, hb, hml, hown, hts⟩ (c_Tb_waysTo l D cJ tk K h a f (qt_hand x) (by omega) (by omega)) (tw_V ml_Tr_41 im_Tb_waysTo se_Tb_waysTo in_Tb cd_Tb_waysTo) rfl ⟨by decide +kernel, Nat.le_of_ble_eq_true rfl, Nat.le_of_ble_eq_true rfl⟩ ⟨Nat.le_of_ble_eq_true rfl, Nat.le_of_ble_eq_true rfl⟩ hK hP hD hS hA hN rfl ⟨rfl, rfl, rfl, by decide, by decide, by decide, by decide⟩ rfl rfl rfl hl.1 rfl rfl (Nat.le_of_ble_eq_true rfl) d_Tr_take_58 (fun H locs hP hD hS => ?_)
          have hq4 := qv_wy_lt f K (qt_hand x)
          refine lv_if_ne (tgt := 81) hx hb d_Tr_take_61 (by decide) (fun c61 => ?_) (fun c61 => ?_)
          · have c61 : ¬ (qv_wy f K (qt_hand x)) = 0 := fun h9 => c61 ((q_z_eq (by omega)).mpr h9)
            refine lv_iinc (v := nI (i + 1)) (lv' := [(1, .int (nI (i + 1))), (0, .ref tr)]) hx hb d_Tr_take_81 hl (k := 1) rfl (nI_1 _) (by decide) rfl (fun ls hl => ?_)
            refine lv_goto (tgt := 2) hx hb d_Tr_take_84 (by decide) ?_
            exact ih (qt_hand x) _ _ _ ⟨hP, hD, hS, lv_sub hl [1, 0] rfl, ⟨hh2, by rw [hF.2, h7, qt_take_n (fun q => by have := q.1; have := q.2; omega), show 768 - (i + 1) = 767 - i by omega]⟩⟩
          · have c61 : (qv_wy f K (qt_hand x)) = 0 := (q_z_eq (by omega)).mp c61
            refine lv_aload_n hx hb d_Tr_take_64 rfl (lv_at hl 0 rfl) ?_
            refine va_get (D := D) (ci := 3) (v := .ref tn) (C := R_Tr) (T := F_Tr) (N := 6) hx hb hts i_Tr hown hK hP 0 rfl rfl 3 (by decide) (hts _ fl_Tr_34) (fun _ h9 => h9) rfl d_Tr_take_65 ?_
            refine lv_aload_n hx hb d_Tr_take_68 rfl (lv_at hl 0 rfl) ?_
            refine va_get (D := D) (ci := 3) (v := .int (nI (qt_hand x))) (C := R_Tr) (T := F_Tr) (N := 6) hx hb hts i_Tr hown hK hP 0 rfl rfl 5 (by decide) (hts _ fl_Tr_9) (fun _ h9 => h9) rfl d_Tr_take_69 ?_
            refine lv_iconst (v := nI 1) hx hb d_Tr_take_72 (by decide) ?_
            refine q_callVv (As := [.int (nI (qt_hand x)), .int (nI 1)]) (rest := []) (wsC := [(tn, .inr (2, [.ref h, .int (nI T)])), (h, .inr (1, [.ref a])), (a, .inl (cJ, 12544, .inr (.inl (f))))]) (wsR := [(tr, .inr (3, [.ref h, .ref x0, .ref x1, .ref tn, .ref tk, .int (nI (qt_hand x))])), (tk, .inr (2, [.ref h, .int (nI K)]))]) (wsC' := [(tn, .inr (2, [.ref h, .int (nI T)])), (h, .inr (1, [.ref a])), (a, .inl (cJ, 12544, .inr (.inl (qv_setY f T (qt_hand x) 1))))]) (wsN := [(tr, .inr (3, [.ref h, .ref x0, .ref x1, .ref tn, .ref tk, .int (nI (qt_hand x))])), (tn, .inr (2, [.ref h, .int (nI T)])), (tk, .inr (2, [.ref h, .int (nI K)])), (h, .inr (1, [.ref a])), (a, .inl (cJ, 12544, .inr (.inl (qv_setY f T (qt_hand x) 1))))]) (isT := [0]) (isC := [1, 3, 4]) (isR := [0, 2]) (isN := [0, 2, 1, 3, 4]) (k := 2) (ci := 2) (C := R_Tb) ⟨hx, hb, hml, hown, hts⟩ (c_Tb_setWays l D cJ tn T h a f (qt_hand x) 1 (by omega) (by omega) (by omega)) (tw_V ml_Tr_107 im_Tb_setWays se_Tb_setWays in_Tb cd_Tb_setWays) rfl ⟨by decide +kernel, Nat.le_of_ble_eq_true rfl, Nat.le_of_ble_eq_true rfl⟩ ⟨Nat.le_of_ble_eq_true rfl, Nat.le_of_ble_eq_true rfl⟩ hK hP hD hS hA hN rfl ⟨rfl, rfl, rfl, by decide, by decide, by decide, by decide⟩ rfl rfl rfl hl.1 rfl rfl (Nat.le_of_ble_eq_true rfl) d_Tr_take_73 (fun H locs hP hD hS => ?_)
            refine lv_aload_n hx hb d_Tr_take_76 rfl (lv_at hl 0 rfl) ?_
            refine va_get (D := D) (ci := 3) (v := .int (nI (qt_hand x))) (C := R_Tr) (T := F_Tr) (N := 6) hx hb hts i_Tr hown hK hP 0 rfl rfl 5 (by decide) (hts _ fl_Tr_9) (fun _ h9 => h9) rfl d_Tr_take_77 ?_
            exact q_iret hx hb hr hlk hK hP hD hS d_Tr_take_80 (by rw [hF.2, h7, qt_take_f (by omega) (by omega)]) (by rw [hF.2, h7, qt_take_f (by omega) (by omega)])
set_option maxHeartbeats 4000000 in
set_option maxRecDepth 100000 in
theorem c_Tr_takeBlank (l : Launch) (D : va_G) (cJ : ClassId) (tr : Nat) (x0 : Nat) (x1 : Nat) (tn : Nat) (T : Nat) (tk : Nat) (K : Nat) (hd : Nat) (h : Nat) (a : Nat) (f : Nat → Int64) (kT : T < 1000) (kK : K < 1000) (khd : hd < 784) : qMi l y_Tr_takeBlank b_Tr_takeBlank 2 (some .int) (rmL 4) D [(cJ, .long)] [.ref tr] [(tr, .inr (3, [.ref h, .ref x0, .ref x1, .ref tn, .ref tk, .int (nI hd)])), (tn, .inr (2, [.ref h, .int (nI T)])), (tk, .inr (2, [.ref h, .int (nI K)])), (h, .inr (1, [.ref a])), (a, .inl (cJ, 12544, .inr (.inl (f))))] [(tr, .inr (3, [.ref h, .ref x0, .ref x1, .ref tn, .ref tk, .int (nI ((qt_blank T K f hd).2.2))])), (tn, .inr (2, [.ref h, .int (nI T)])), (tk, .inr (2, [.ref h, .int (nI K)])), (h, .inr (1, [.ref a])), (a, .inl (cJ, 12544, .inr (.inl ((qt_blank T K f hd).2.1))))] (nI (qt_blank T K f hd).1) := by
  refine q_start (Qc := qZi D _ _ _) (by decide +kernel) (Nat.le_of_ble_eq_true rfl) ?_
  intro p e s m below meth c A hx hb hr hlk hml hown hts hK hP hD hS hA hN ls hl
  have hl : lv_has ls 2 [(0, .ref tr)] := hl
  have hP : va_P D cls [(tr, .inr (3, [.ref h, .ref x0, .ref x1, .ref tn, .ref tk, .int (nI hd)])), (tn, .inr (2, [.ref h, .int (nI T)])), (tk, .inr (2, [.ref h, .int (nI K)])), (h, .inr (1, [.ref a])), (a, .inl (cJ, 12544, .inr (.inl (f))))] s.heap := hP
  have hD : va_D A [(tr, .inr (3, [.ref h, .ref x0, .ref x1, .ref tn, .ref tk, .int (nI hd)])), (tn, .inr (2, [.ref h, .int (nI T)])), (tk, .inr (2, [.ref h, .int (nI K)])), (h, .inr (1, [.ref a])), (a, .inl (cJ, 12544, .inr (.inl (f))))] := hD
  refine lv_aload_n hx hb d_Tr_takeBlank_0 rfl (lv_at hl 0 rfl) ?_
  refine q_callVi (As := []) (rest := []) (wsC := [(tr, .inr (3, [.ref h, .ref x0, .ref x1, .ref tn, .ref tk, .int (nI hd)])), (tn, .inr (2, [.ref h, .int (nI T)])), (tk, .inr (2, [.ref h, .int (nI K)])), (h, .inr (1, [.ref a])), (a, .inl (cJ, 12544, .inr (.inl (f))))]) (wsR := []) (wsC' := [(tr, .inr (3, [.ref h, .ref x0, .ref x1, .ref tn, .ref tk, .int (nI ((qt_take T K 768 f hd).2.2))])), (tn, .inr (2, [.ref h, .int (nI T)])), (tk, .inr (2, [.ref h, .int (nI K)])), (h, .inr (1, [.ref a])), (a, .inl (cJ, 12544, .inr (.inl ((qt_take T K 768 f hd).2.1))))]) (wsN := [(tr, .inr (3, [.ref h, .ref x0, .ref x1, .ref tn, .ref tk, .int (nI ((qt_take T K 768 f hd).2.2))])), (tn, .inr (2, [.ref h, .int (nI T)])), (tk, .inr (2, [.ref h, .int (nI K)])), (h, .inr (1, [.ref a])), (a, .inl (cJ, 12544, .inr (.inl ((qt_take T K 768 f hd).2.1))))]) (isT := [0]) (isC := [0, 1, 2, 3, 4]) (isR := []) (isN := [0, 1, 2, 3, 4]) (k := 0) (ci := 3) (C := R_Tr) ⟨hx, hb, hml, hown, hts⟩ (c_Tr_take l D cJ tr x0 x1 tn T tk K hd h a f (by omega) (by omega) (by omega)) (tw_V ml_Tr_95 im_Tr_take se_Tr_take in_Tr cd_Tr_take) rfl ⟨by decide +kernel, Nat.le_of_ble_eq_true rfl, Nat.le_of_ble_eq_true rfl⟩ ⟨Nat.le_of_ble_eq_true rfl, Nat.le_of_ble_eq_true rfl⟩ hK hP hD hS hA hN rfl ⟨rfl, rfl, rfl, by decide, by decide, by decide, by decide⟩ rfl rfl rfl hl.1 rfl rfl (Nat.le_of_ble_eq_true rfl) d_Tr_takeBlank_1 (fun H locs hP hD hS => ?_)
  have hq1 := qt_take_lt T K 768 f hd khd
  refine lv_istore_n (lv' := [(1, .int (nI (qt_take T K 768 f hd).1)), (0, .ref tr)]) hx hb d_Tr_takeBlank_4 rfl hl (by decide) rfl (fun ls hl => ?_)
  refine lv_aload_n hx hb d_Tr_takeBlank_5 rfl (lv_at hl 1 rfl) ?_
  refine va_get (D := D) (ci := 3) (v := .ref h) (C := R_Tr) (T := F_Tr) (N := 6) hx hb hts i_Tr hown hK hP 0 rfl rfl 0 (by decide) (hts _ fl_Tr_15) (fun _ h9 => h9) rfl d_Tr_takeBlank_6 ?_
  refine lv_iload_n hx hb d_Tr_takeBlank_9 rfl (lv_at hl 0 rfl) ?_
  refine q_callVv (As := [.int (nI (qt_take T K 768 f hd).1)]) (rest := []) (wsC := [(h, .inr (1, [.ref a])), (a, .inl (cJ, 12544, .inr (.inl ((qt_take T K 768 f hd).2.1))))]) (wsR := [(tr, .inr (3, [.ref h, .ref x0, .ref x1, .ref tn, .ref tk, .int (nI ((qt_take T K 768 f hd).2.2))])), (tn, .inr (2, [.ref h, .int (nI T)])), (tk, .inr (2, [.ref h, .int (nI K)]))]) (wsC' := [(h, .inr (1, [.ref a])), (a, .inl (cJ, 12544, .inr (.inl (qv_blank ((qt_take T K 768 f hd).2.1) ((qt_take T K 768 f hd).1)))))]) (wsN := [(tr, .inr (3, [.ref h, .ref x0, .ref x1, .ref tn, .ref tk, .int (nI ((qt_take T K 768 f hd).2.2))])), (tn, .inr (2, [.ref h, .int (nI T)])), (tk, .inr (2, [.ref h, .int (nI K)])), (h, .inr (1, [.ref a])), (a, .inl (cJ, 12544, .inr (.inl (qv_blank ((qt_take T K 768 f hd).2.1) ((qt_take T K 768 f hd).1)))))]) (isT := [0]) (isC := [3, 4]) (isR := [0, 1, 2]) (isN := [0, 1, 2, 3, 4]) (k := 1) (ci := 1) (C := R_Im) ⟨hx, hb, hml, hown, hts⟩ (c_Im_blank l D cJ h a ((qt_take T K 768 f hd).2.1) ((qt_take T K 768 f hd).1) (by omega)) (tw_V ml_Tr_104 im_Im_blank se_Im_blank in_Im cd_Im_blank) rfl ⟨by decide +kernel, Nat.le_of_ble_eq_true rfl, Nat.le_of_ble_eq_true rfl⟩ ⟨Nat.le_of_ble_eq_true rfl, Nat.le_of_ble_eq_true rfl⟩ hK hP hD hS hA hN rfl ⟨rfl, rfl, rfl, by decide, by decide, by decide, by decide⟩ rfl rfl rfl hl.1 rfl rfl (Nat.le_of_ble_eq_true rfl) d_Tr_takeBlank_10 (fun H locs hP hD hS => ?_)
  refine lv_iload_n hx hb d_Tr_takeBlank_13 rfl (lv_at hl 0 rfl) ?_
  exact q_iret hx hb hr hlk hK hP hD hS d_Tr_takeBlank_14 (rfl) (rfl)
set_option maxHeartbeats 4000000 in
set_option maxRecDepth 100000 in
theorem c_Tr_addEmpty (l : Launch) (D : va_G) (cJ : ClassId) (tr : Nat) (x0 : Nat) (x1 : Nat) (tn : Nat) (T : Nat) (tk : Nat) (K : Nat) (hd : Nat) (h : Nat) (a : Nat) (f : Nat → Int64) (v : Nat) (kT : T < 1000) (kK : K < 1000) (khd : hd < 784) (kv : v < 65536) : qMv l y_Tr_addEmpty b_Tr_addEmpty 2 none (rmL 5) D [(cJ, .long)] [.ref tr, .int (nI v)] [(tr, .inr (3, [.ref h, .ref x0, .ref x1, .ref tn, .ref tk, .int (nI hd)])), (tn, .inr (2, [.ref h, .int (nI T)])), (tk, .inr (2, [.ref h, .int (nI K)])), (h, .inr (1, [.ref a])), (a, .inl (cJ, 12544, .inr (.inl (f))))] [(tr, .inr (3, [.ref h, .ref x0, .ref x1, .ref tn, .ref tk, .int (nI ((qt_addEmpty T K f hd v).2))])), (tn, .inr (2, [.ref h, .int (nI T)])), (tk, .inr (2, [.ref h, .int (nI K)])), (h, .inr (1, [.ref a])), (a, .inl (cJ, 12544, .inr (.inl ((qt_addEmpty T K f hd v).1))))] := by
  refine q_start (Qc := qZv D _ _) (by decide +kernel) (Nat.le_of_ble_eq_true rfl) ?_
  intro p e s m below meth c A hx hb hr hlk hml hown hts hK hP hD hS hA hN ls hl
  have hl : lv_has ls 2 [(0, .ref tr), (1, .int (nI v))] := hl
  have hP : va_P D cls [(tr, .inr (3, [.ref h, .ref x0, .ref x1, .ref tn, .ref tk, .int (nI hd)])), (tn, .inr (2, [.ref h, .int (nI T)])), (tk, .inr (2, [.ref h, .int (nI K)])), (h, .inr (1, [.ref a])), (a, .inl (cJ, 12544, .inr (.inl (f))))] s.heap := hP
  have hD : va_D A [(tr, .inr (3, [.ref h, .ref x0, .ref x1, .ref tn, .ref tk, .int (nI hd)])), (tn, .inr (2, [.ref h, .int (nI T)])), (tk, .inr (2, [.ref h, .int (nI K)])), (h, .inr (1, [.ref a])), (a, .inl (cJ, 12544, .inr (.inl (f))))] := hD
  refine lv_aload_n hx hb d_Tr_addEmpty_0 rfl (lv_at hl 0 rfl) ?_
  refine va_get (D := D) (ci := 3) (v := .ref tn) (C := R_Tr) (T := F_Tr) (N := 6) hx hb hts i_Tr hown hK hP 0 rfl rfl 3 (by decide) (hts _ fl_Tr_34) (fun _ h9 => h9) rfl d_Tr_addEmpty_1 ?_
  refine lv_iload_n hx hb d_Tr_addEmpty_4 rfl (lv_at hl 1 rfl) ?_
  refine lv_aload_n hx hb d_Tr_addEmpty_5 rfl (lv_at hl 0 rfl) ?_
  refine q_callVi (As := []) (rest := [.int (nI v), .ref tn]) (wsC := [(tr, .inr (3, [.ref h, .ref x0, .ref x1, .ref tn, .ref tk, .int (nI hd)])), (tn, .inr (2, [.ref h, .int (nI T)])), (tk, .inr (2, [.ref h, .int (nI K)])), (h, .inr (1, [.ref a])), (a, .inl (cJ, 12544, .inr (.inl (f))))]) (wsR := []) (wsC' := [(tr, .inr (3, [.ref h, .ref x0, .ref x1, .ref tn, .ref tk, .int (nI ((qt_blank T K f hd).2.2))])), (tn, .inr (2, [.ref h, .int (nI T)])), (tk, .inr (2, [.ref h, .int (nI K)])), (h, .inr (1, [.ref a])), (a, .inl (cJ, 12544, .inr (.inl ((qt_blank T K f hd).2.1))))]) (wsN := [(tr, .inr (3, [.ref h, .ref x0, .ref x1, .ref tn, .ref tk, .int (nI ((qt_blank T K f hd).2.2))])), (tn, .inr (2, [.ref h, .int (nI T)])), (tk, .inr (2, [.ref h, .int (nI K)])), (h, .inr (1, [.ref a])), (a, .inl (cJ, 12544, .inr (.inl ((qt_blank T K f hd).2.1))))]) (isT := [0]) (isC := [0, 1, 2, 3, 4]) (isR := []) (isN := [0, 1, 2, 3, 4]) (k := 0) (ci := 3) (C := R_Tr) ⟨hx, hb, hml, hown, hts⟩ (c_Tr_takeBlank l D cJ tr x0 x1 tn T tk K hd h a f (by omega) (by omega) (by omega)) (tw_V ml_Tr_60 im_Tr_takeBlank se_Tr_takeBlank in_Tr cd_Tr_takeBlank) rfl ⟨by decide +kernel, Nat.le_of_ble_eq_true rfl, Nat.le_of_ble_eq_true rfl⟩ ⟨Nat.le_of_ble_eq_true rfl, Nat.le_of_ble_eq_true rfl⟩ hK hP hD hS hA hN rfl ⟨rfl, rfl, rfl, by decide, by decide, by decide, by decide⟩ rfl rfl rfl hl.1 rfl rfl (Nat.le_of_ble_eq_true rfl) d_Tr_addEmpty_6 (fun H locs hP hD hS => ?_)
  have hq1 := qt_blank_lt T K f hd khd
  refine q_callVv (As := [.int (nI v), .int (nI (qt_blank T K f hd).1)]) (rest := []) (wsC := [(tn, .inr (2, [.ref h, .int (nI T)])), (h, .inr (1, [.ref a])), (a, .inl (cJ, 12544, .inr (.inl ((qt_blank T K f hd).2.1))))]) (wsR := [(tr, .inr (3, [.ref h, .ref x0, .ref x1, .ref tn, .ref tk, .int (nI ((qt_blank T K f hd).2.2))])), (tk, .inr (2, [.ref h, .int (nI K)]))]) (wsC' := [(tn, .inr (2, [.ref h, .int (nI T)])), (h, .inr (1, [.ref a])), (a, .inl (cJ, 12544, .inr (.inl (qv_setL ((qt_blank T K f hd).2.1) T v ((qt_blank T K f hd).1)))))]) (wsN := [(tr, .inr (3, [.ref h, .ref x0, .ref x1, .ref tn, .ref tk, .int (nI ((qt_blank T K f hd).2.2))])), (tn, .inr (2, [.ref h, .int (nI T)])), (tk, .inr (2, [.ref h, .int (nI K)])), (h, .inr (1, [.ref a])), (a, .inl (cJ, 12544, .inr (.inl (qv_setL ((qt_blank T K f hd).2.1) T v ((qt_blank T K f hd).1)))))]) (isT := [0]) (isC := [1, 3, 4]) (isR := [0, 2]) (isN := [0, 2, 1, 3, 4]) (k := 2) (ci := 2) (C := R_Tb) ⟨hx, hb, hml, hown, hts⟩ (c_Tb_setRoot l D cJ tn T h a ((qt_blank T K f hd).2.1) v ((qt_blank T K f hd).1) (by omega) (by omega) (by omega)) (tw_V ml_Tr_64 im_Tb_setRoot se_Tb_setRoot in_Tb cd_Tb_setRoot) rfl ⟨by decide +kernel, Nat.le_of_ble_eq_true rfl, Nat.le_of_ble_eq_true rfl⟩ ⟨Nat.le_of_ble_eq_true rfl, Nat.le_of_ble_eq_true rfl⟩ hK hP hD hS hA hN rfl ⟨rfl, rfl, rfl, by decide, by decide, by decide, by decide⟩ rfl rfl rfl hl.1 rfl rfl (Nat.le_of_ble_eq_true rfl) d_Tr_addEmpty_9 (fun H locs hP hD hS => ?_)
  exact q_vret hx hb hr hlk hK hP hD hS d_Tr_addEmpty_12 (rfl)
set_option maxHeartbeats 4000000 in
set_option maxRecDepth 100000 in
theorem c_Tr_addTwin (l : Launch) (D : va_G) (cJ : ClassId) (tr : Nat) (x0 : Nat) (x1 : Nat) (tn : Nat) (T : Nat) (tk : Nat) (K : Nat) (hd : Nat) (h : Nat) (a : Nat) (f : Nat → Int64) (v : Nat) (o : Nat) (kT : T < 1000) (kK : K < 1000) (khd : hd < 784) (kv : v < 65536) (ko : o < 65536) : qMv l y_Tr_addTwin b_Tr_addTwin 4 none (rmL 4) D [(cJ, .long)] [.ref tr, .int (nI v), .int (nI o)] [(tr, .inr (3, [.ref h, .ref x0, .ref x1, .ref tn, .ref tk, .int (nI hd)])), (tn, .inr (2, [.ref h, .int (nI T)])), (tk, .inr (2, [.ref h, .int (nI K)])), (h, .inr (1, [.ref a])), (a, .inl (cJ, 12544, .inr (.inl (f))))] [(tr, .inr (3, [.ref h, .ref x0, .ref x1, .ref tn, .ref tk, .int (nI hd)])), (tn, .inr (2, [.ref h, .int (nI T)])), (tk, .inr (2, [.ref h, .int (nI K)])), (h, .inr (1, [.ref a])), (a, .inl (cJ, 12544, .inr (.inl (qt_addTwin T f v o))))] := by
  refine q_start (Qc := qZv D _ _) (by decide +kernel) (Nat.le_of_ble_eq_true rfl) ?_
  intro p e s m below meth c A hx hb hr hlk hml hown hts hK hP hD hS hA hN ls hl
  have hl : lv_has ls 4 [(0, .ref tr), (1, .int (nI v)), (2, .int (nI o))] := hl
  have hP : va_P D cls [(tr, .inr (3, [.ref h, .ref x0, .ref x1, .ref tn, .ref tk, .int (nI hd)])), (tn, .inr (2, [.ref h, .int (nI T)])), (tk, .inr (2, [.ref h, .int (nI K)])), (h, .inr (1, [.ref a])), (a, .inl (cJ, 12544, .inr (.inl (f))))] s.heap := hP
  have hD : va_D A [(tr, .inr (3, [.ref h, .ref x0, .ref x1, .ref tn, .ref tk, .int (nI hd)])), (tn, .inr (2, [.ref h, .int (nI T)])), (tk, .inr (2, [.ref h, .int (nI K)])), (h, .inr (1, [.ref a])), (a, .inl (cJ, 12544, .inr (.inl (f))))] := hD
  refine lv_aload_n hx hb d_Tr_addTwin_0 rfl (lv_at hl 0 rfl) ?_
  refine va_get (D := D) (ci := 3) (v := .ref tn) (C := R_Tr) (T := F_Tr) (N := 6) hx hb hts i_Tr hown hK hP 0 rfl rfl 3 (by decide) (hts _ fl_Tr_34) (fun _ h9 => h9) rfl d_Tr_addTwin_1 ?_
  refine lv_iload_n hx hb d_Tr_addTwin_4 rfl (lv_at hl 2 rfl) ?_
  refine q_callVi (As := [.int (nI o)]) (rest := []) (wsC := [(tn, .inr (2, [.ref h, .int (nI T)])), (h, .inr (1, [.ref a])), (a, .inl (cJ, 12544, .inr (.inl (f))))]) (wsR := [(tr, .inr (3, [.ref h, .ref x0, .ref x1, .ref tn, .ref tk, .int (nI hd)])), (tk, .inr (2, [.ref h, .int (nI K)]))]) (wsC' := [(tn, .inr (2, [.ref h, .int (nI T)])), (h, .inr (1, [.ref a])), (a, .inl (cJ, 12544, .inr (.inl (f))))]) (wsN := [(tr, .inr (3, [.ref h, .ref x0, .ref x1, .ref tn, .ref tk, .int (nI hd)])), (tn, .inr (2, [.ref h, .int (nI T)])), (tk, .inr (2, [.ref h, .int (nI K)])), (h, .inr (1, [.ref a])), (a, .inl (cJ, 12544, .inr (.inl (f))))]) (isT := [0]) (isC := [1, 3, 4]) (isR := [0, 2]) (isN := [0, 2, 1, 3, 4]) (k := 1) (ci := 2) (C := R_Tb) ⟨hx, hb, hml, hown, hts⟩ (c_Tb_rootOf l D cJ tn T h a f o (by omega) (by omega)) (tw_V ml_Tr_45 im_Tb_rootOf se_Tb_rootOf in_Tb cd_Tb_rootOf) rfl ⟨by decide +kernel, Nat.le_of_ble_eq_true rfl, Nat.le_of_ble_eq_true rfl⟩ ⟨Nat.le_of_ble_eq_true rfl, Nat.le_of_ble_eq_true rfl⟩ hK hP hD hS hA hN rfl ⟨rfl, rfl, rfl, by decide, by decide, by decide, by decide⟩ rfl rfl rfl hl.1 rfl rfl (Nat.le_of_ble_eq_true rfl) d_Tr_addTwin_5 (fun H locs hP hD hS => ?_)
  have hq1 := qv_rt_lt f T o
  refine lv_istore_n (lv' := [(3, .int (nI (qv_rt f T o))), (0, .ref tr), (1, .int (nI v)), (2, .int (nI o))]) hx hb d_Tr_addTwin_8 rfl hl (by decide) rfl (fun ls hl => ?_)
  refine lv_aload_n hx hb d_Tr_addTwin_9 rfl (lv_at hl 1 rfl) ?_
  refine va_get (D := D) (ci := 3) (v := .ref tn) (C := R_Tr) (T := F_Tr) (N := 6) hx hb hts i_Tr hown hK hP 0 rfl rfl 3 (by decide) (hts _ fl_Tr_34) (fun _ h9 => h9) rfl d_Tr_addTwin_10 ?_
  refine lv_iload_n hx hb d_Tr_addTwin_13 rfl (lv_at hl 2 rfl) ?_
  refine lv_iload_n hx hb d_Tr_addTwin_14 rfl (lv_at hl 0 rfl) ?_
  refine q_callVv (As := [.int (nI v), .int (nI (qv_rt f T o))]) (rest := []) (wsC := [(tn, .inr (2, [.ref h, .int (nI T)])), (h, .inr (1, [.ref a])), (a, .inl (cJ, 12544, .inr (.inl (f))))]) (wsR := [(tr, .inr (3, [.ref h, .ref x0, .ref x1, .ref tn, .ref tk, .int (nI hd)])), (tk, .inr (2, [.ref h, .int (nI K)]))]) (wsC' := [(tn, .inr (2, [.ref h, .int (nI T)])), (h, .inr (1, [.ref a])), (a, .inl (cJ, 12544, .inr (.inl (qv_setL f T v (qv_rt f T o)))))]) (wsN := [(tr, .inr (3, [.ref h, .ref x0, .ref x1, .ref tn, .ref tk, .int (nI hd)])), (tn, .inr (2, [.ref h, .int (nI T)])), (tk, .inr (2, [.ref h, .int (nI K)])), (h, .inr (1, [.ref a])), (a, .inl (cJ, 12544, .inr (.inl (qv_setL f T v (qv_rt f T o)))))]) (isT := [0]) (isC := [1, 3, 4]) (isR := [0, 2]) (isN := [0, 2, 1, 3, 4]) (k := 2) (ci := 2) (C := R_Tb) ⟨hx, hb, hml, hown, hts⟩ (c_Tb_setRoot l D cJ tn T h a f v (qv_rt f T o) (by omega) (by omega) (by omega)) (tw_V ml_Tr_64 im_Tb_setRoot se_Tb_setRoot in_Tb cd_Tb_setRoot) rfl ⟨by decide +kernel, Nat.le_of_ble_eq_true rfl, Nat.le_of_ble_eq_true rfl⟩ ⟨Nat.le_of_ble_eq_true rfl, Nat.le_of_ble_eq_true rfl⟩ hK hP hD hS hA hN rfl ⟨rfl, rfl, rfl, by decide, by decide, by decide, by decide⟩ rfl rfl rfl hl.1 rfl rfl (Nat.le_of_ble_eq_true rfl) d_Tr_addTwin_15 (fun H locs hP hD hS => ?_)
  refine lv_aload_n hx hb d_Tr_addTwin_18 rfl (lv_at hl 1 rfl) ?_
  refine lv_iload_n hx hb d_Tr_addTwin_19 rfl (lv_at hl 0 rfl) ?_
  refine q_callVv (As := [.int (nI (qv_rt f T o))]) (rest := []) (wsC := [(tr, .inr (3, [.ref h, .ref x0, .ref x1, .ref tn, .ref tk, .int (nI hd)])), (tn, .inr (2, [.ref h, .int (nI T)])), (tk, .inr (2, [.ref h, .int (nI K)])), (h, .inr (1, [.ref a])), (a, .inl (cJ, 12544, .inr (.inl (qv_setL f T v (qv_rt f T o)))))]) (wsR := []) (wsC' := [(tr, .inr (3, [.ref h, .ref x0, .ref x1, .ref tn, .ref tk, .int (nI hd)])), (tn, .inr (2, [.ref h, .int (nI T)])), (tk, .inr (2, [.ref h, .int (nI K)])), (h, .inr (1, [.ref a])), (a, .inl (cJ, 12544, .inr (.inl (qt_addW T (qv_setL f T v (qv_rt f T o)) (qv_rt f T o)))))]) (wsN := [(tr, .inr (3, [.ref h, .ref x0, .ref x1, .ref tn, .ref tk, .int (nI hd)])), (tn, .inr (2, [.ref h, .int (nI T)])), (tk, .inr (2, [.ref h, .int (nI K)])), (h, .inr (1, [.ref a])), (a, .inl (cJ, 12544, .inr (.inl (qt_addW T (qv_setL f T v (qv_rt f T o)) (qv_rt f T o)))))]) (isT := [0]) (isC := [0, 1, 2, 3, 4]) (isR := []) (isN := [0, 1, 2, 3, 4]) (k := 1) (ci := 3) (C := R_Tr) ⟨hx, hb, hml, hown, hts⟩ (c_Tr_addWay l D cJ tr x0 x1 tn T tk K hd h a (qv_setL f T v (qv_rt f T o)) (qv_rt f T o) (by omega) (by omega) (by omega) (by omega)) (tw_V ml_Tr_68 im_Tr_addWay se_Tr_addWay in_Tr cd_Tr_addWay) rfl ⟨by decide +kernel, Nat.le_of_ble_eq_true rfl, Nat.le_of_ble_eq_true rfl⟩ ⟨Nat.le_of_ble_eq_true rfl, Nat.le_of_ble_eq_true rfl⟩ hK hP hD hS hA hN rfl ⟨rfl, rfl, rfl, by decide, by decide, by decide, by decide⟩ rfl rfl rfl hl.1 rfl rfl (Nat.le_of_ble_eq_true rfl) d_Tr_addTwin_20 (fun H locs hP hD hS => ?_)
  exact q_vret hx hb hr hlk hK hP hD hS d_Tr_addTwin_23 (rfl)
set_option maxHeartbeats 4000000 in
set_option maxRecDepth 100000 in
theorem c_Tr_dropVolume (l : Launch) (D : va_G) (cJ : ClassId) (tr : Nat) (x0 : Nat) (x1 : Nat) (tn : Nat) (T : Nat) (tk : Nat) (K : Nat) (hd : Nat) (h : Nat) (a : Nat) (f : Nat → Int64) (v : Nat) (kT : T < 1000) (kK : K < 1000) (khd : hd < 784) (kv : v < 65536) : qMv l y_Tr_dropVolume b_Tr_dropVolume 2 none (rmL 6) D [(cJ, .long)] [.ref tr, .int (nI v)] [(tr, .inr (3, [.ref h, .ref x0, .ref x1, .ref tn, .ref tk, .int (nI hd)])), (tn, .inr (2, [.ref h, .int (nI T)])), (tk, .inr (2, [.ref h, .int (nI K)])), (h, .inr (1, [.ref a])), (a, .inl (cJ, 12544, .inr (.inl (f))))] [(tr, .inr (3, [.ref h, .ref x0, .ref x1, .ref tn, .ref tk, .int (nI hd)])), (tn, .inr (2, [.ref h, .int (nI T)])), (tk, .inr (2, [.ref h, .int (nI K)])), (h, .inr (1, [.ref a])), (a, .inl (cJ, 12544, .inr (.inl (qt_dropVol T f v))))] := by
  refine q_start (Qc := qZv D _ _) (by decide +kernel) (Nat.le_of_ble_eq_true rfl) ?_
  intro p e s m below meth c A hx hb hr hlk hml hown hts hK hP hD hS hA hN ls hl
  have hl : lv_has ls 2 [(0, .ref tr), (1, .int (nI v))] := hl
  have hP : va_P D cls [(tr, .inr (3, [.ref h, .ref x0, .ref x1, .ref tn, .ref tk, .int (nI hd)])), (tn, .inr (2, [.ref h, .int (nI T)])), (tk, .inr (2, [.ref h, .int (nI K)])), (h, .inr (1, [.ref a])), (a, .inl (cJ, 12544, .inr (.inl (f))))] s.heap := hP
  have hD : va_D A [(tr, .inr (3, [.ref h, .ref x0, .ref x1, .ref tn, .ref tk, .int (nI hd)])), (tn, .inr (2, [.ref h, .int (nI T)])), (tk, .inr (2, [.ref h, .int (nI K)])), (h, .inr (1, [.ref a])), (a, .inl (cJ, 12544, .inr (.inl (f))))] := hD
  refine lv_aload_n hx hb d_Tr_dropVolume_0 rfl (lv_at hl 0 rfl) ?_
  refine lv_aload_n hx hb d_Tr_dropVolume_1 rfl (lv_at hl 0 rfl) ?_
  refine va_get (D := D) (ci := 3) (v := .ref tn) (C := R_Tr) (T := F_Tr) (N := 6) hx hb hts i_Tr hown hK hP 0 rfl rfl 3 (by decide) (hts _ fl_Tr_34) (fun _ h9 => h9) rfl d_Tr_dropVolume_2 ?_
  refine lv_iload_n hx hb d_Tr_dropVolume_5 rfl (lv_at hl 1 rfl) ?_
  refine q_callVi (As := [.int (nI v)]) (rest := [.ref tr]) (wsC := [(tn, .inr (2, [.ref h, .int (nI T)])), (h, .inr (1, [.ref a])), (a, .inl (cJ, 12544, .inr (.inl (f))))]) (wsR := [(tr, .inr (3, [.ref h, .ref x0, .ref x1, .ref tn, .ref tk, .int (nI hd)])), (tk, .inr (2, [.ref h, .int (nI K)]))]) (wsC' := [(tn, .inr (2, [.ref h, .int (nI T)])), (h, .inr (1, [.ref a])), (a, .inl (cJ, 12544, .inr (.inl (f))))]) (wsN := [(tr, .inr (3, [.ref h, .ref x0, .ref x1, .ref tn, .ref tk, .int (nI hd)])), (tn, .inr (2, [.ref h, .int (nI T)])), (tk, .inr (2, [.ref h, .int (nI K)])), (h, .inr (1, [.ref a])), (a, .inl (cJ, 12544, .inr (.inl (f))))]) (isT := [0]) (isC := [1, 3, 4]) (isR := [0, 2]) (isN := [0, 2, 1, 3, 4]) (k := 1) (ci := 2) (C := R_Tb) ⟨hx, hb, hml, hown, hts⟩ (c_Tb_rootOf l D cJ tn T h a f v (by omega) (by omega)) (tw_V ml_Tr_45 im_Tb_rootOf se_Tb_rootOf in_Tb cd_Tb_rootOf) rfl ⟨by decide +kernel, Nat.le_of_ble_eq_true rfl, Nat.le_of_ble_eq_true rfl⟩ ⟨Nat.le_of_ble_eq_true rfl, Nat.le_of_ble_eq_true rfl⟩ hK hP hD hS hA hN rfl ⟨rfl, rfl, rfl, by decide, by decide, by decide, by decide⟩ rfl rfl rfl hl.1 rfl rfl (Nat.le_of_ble_eq_true rfl) d_Tr_dropVolume_6 (fun H locs hP hD hS => ?_)
  have hq1 := qv_rt_lt f T v
  refine lv_iconst (v := nI 2) hx hb d_Tr_dropVolume_9 (by decide) ?_
  refine q_callVv (As := [.int (nI (qv_rt f T v)), .int (nI 2)]) (rest := []) (wsC := [(tr, .inr (3, [.ref h, .ref x0, .ref x1, .ref tn, .ref tk, .int (nI hd)])), (tn, .inr (2, [.ref h, .int (nI T)])), (tk, .inr (2, [.ref h, .int (nI K)])), (h, .inr (1, [.ref a])), (a, .inl (cJ, 12544, .inr (.inl (f))))]) (wsR := []) (wsC' := [(tr, .inr (3, [.ref h, .ref x0, .ref x1, .ref tn, .ref tk, .int (nI hd)])), (tn, .inr (2, [.ref h, .int (nI T)])), (tk, .inr (2, [.ref h, .int (nI K)])), (h, .inr (1, [.ref a])), (a, .inl (cJ, 12544, .inr (.inl (qt_rel T 2 f (qv_rt f T v)))))]) (wsN := [(tr, .inr (3, [.ref h, .ref x0, .ref x1, .ref tn, .ref tk, .int (nI hd)])), (tn, .inr (2, [.ref h, .int (nI T)])), (tk, .inr (2, [.ref h, .int (nI K)])), (h, .inr (1, [.ref a])), (a, .inl (cJ, 12544, .inr (.inl (qt_rel T 2 f (qv_rt f T v)))))]) (isT := [0]) (isC := [0, 1, 2, 3, 4]) (isR := []) (isN := [0, 1, 2, 3, 4]) (k := 2) (ci := 3) (C := R_Tr) ⟨hx, hb, hml, hown, hts⟩ (c_Tr_release2 l D cJ tr x0 x1 tn T tk K hd h a f (qv_rt f T v) (by omega) (by omega) (by omega) (by omega)) (tw_V ml_Tr_72 im_Tr_release se_Tr_release in_Tr cd_Tr_release) rfl ⟨by decide +kernel, Nat.le_of_ble_eq_true rfl, Nat.le_of_ble_eq_true rfl⟩ ⟨Nat.le_of_ble_eq_true rfl, Nat.le_of_ble_eq_true rfl⟩ hK hP hD hS hA hN rfl ⟨rfl, rfl, rfl, by decide, by decide, by decide, by decide⟩ rfl rfl rfl hl.1 rfl rfl (Nat.le_of_ble_eq_true rfl) d_Tr_dropVolume_10 (fun H locs hP hD hS => ?_)
  refine lv_aload_n hx hb d_Tr_dropVolume_13 rfl (lv_at hl 0 rfl) ?_
  refine va_get (D := D) (ci := 3) (v := .ref tn) (C := R_Tr) (T := F_Tr) (N := 6) hx hb hts i_Tr hown hK hP 0 rfl rfl 3 (by decide) (hts _ fl_Tr_34) (fun _ h9 => h9) rfl d_Tr_dropVolume_14 ?_
  refine lv_iload_n hx hb d_Tr_dropVolume_17 rfl (lv_at hl 1 rfl) ?_
  refine lv_iconst (v := nI 0) hx hb d_Tr_dropVolume_18 (by decide) ?_
  refine q_callVv (As := [.int (nI v), .int (nI 0)]) (rest := []) (wsC := [(tn, .inr (2, [.ref h, .int (nI T)])), (h, .inr (1, [.ref a])), (a, .inl (cJ, 12544, .inr (.inl (qt_rel T 2 f (qv_rt f T v)))))]) (wsR := [(tr, .inr (3, [.ref h, .ref x0, .ref x1, .ref tn, .ref tk, .int (nI hd)])), (tk, .inr (2, [.ref h, .int (nI K)]))]) (wsC' := [(tn, .inr (2, [.ref h, .int (nI T)])), (h, .inr (1, [.ref a])), (a, .inl (cJ, 12544, .inr (.inl (qv_setL (qt_rel T 2 f (qv_rt f T v)) T v 0))))]) (wsN := [(tr, .inr (3, [.ref h, .ref x0, .ref x1, .ref tn, .ref tk, .int (nI hd)])), (tn, .inr (2, [.ref h, .int (nI T)])), (tk, .inr (2, [.ref h, .int (nI K)])), (h, .inr (1, [.ref a])), (a, .inl (cJ, 12544, .inr (.inl (qv_setL (qt_rel T 2 f (qv_rt f T v)) T v 0))))]) (isT := [0]) (isC := [1, 3, 4]) (isR := [0, 2]) (isN := [0, 2, 1, 3, 4]) (k := 2) (ci := 2) (C := R_Tb) ⟨hx, hb, hml, hown, hts⟩ (c_Tb_setRoot l D cJ tn T h a (qt_rel T 2 f (qv_rt f T v)) v 0 (by omega) (by omega) (by omega)) (tw_V ml_Tr_64 im_Tb_setRoot se_Tb_setRoot in_Tb cd_Tb_setRoot) rfl ⟨by decide +kernel, Nat.le_of_ble_eq_true rfl, Nat.le_of_ble_eq_true rfl⟩ ⟨Nat.le_of_ble_eq_true rfl, Nat.le_of_ble_eq_true rfl⟩ hK hP hD hS hA hN rfl ⟨rfl, rfl, rfl, by decide, by decide, by decide, by decide⟩ rfl rfl rfl hl.1 rfl rfl (Nat.le_of_ble_eq_true rfl) d_Tr_dropVolume_19 (fun H locs hP hD hS => ?_)
  exact q_vret hx hb hr hlk hK hP hD hS d_Tr_dropVolume_22 (rfl)
set_option maxHeartbeats 4000000 in
set_option maxRecDepth 100000 in
theorem c_Tr_own0 (l : Launch) (D : va_G) (cJ : ClassId) (tr : Nat) (x0 : Nat) (x1 : Nat) (tn : Nat) (T : Nat) (tk : Nat) (K : Nat) (hd : Nat) (h : Nat) (a : Nat) (f : Nat → Int64) (b : Nat) (kT : T < 1000) (kK : K < 1000) (khd : hd < 784) (kb : b < 65536) : qMi l y_Tr_own b_Tr_own 5 (some .int) (rmL 6) D [(cJ, .long)] [.ref tr, .int (nI b), .int (nI 0)] [(tr, .inr (3, [.ref h, .ref x0, .ref x1, .ref tn, .ref tk, .int (nI hd)])), (tn, .inr (2, [.ref h, .int (nI T)])), (tk, .inr (2, [.ref h, .int (nI K)])), (h, .inr (1, [.ref a])), (a, .inl (cJ, 12544, .inr (.inl (f))))] [(tr, .inr (3, [.ref h, .ref x0, .ref x1, .ref tn, .ref tk, .int (nI ((qt_own T K 0 f hd b).2.2))])), (tn, .inr (2, [.ref h, .int (nI T)])), (tk, .inr (2, [.ref h, .int (nI K)])), (h, .inr (1, [.ref a])), (a, .inl (cJ, 12544, .inr (.inl ((qt_own T K 0 f hd b).2.1))))] (nI (qt_own T K 0 f hd b).1) := by
  refine q_start (Qc := qZi D _ _ _) (by decide +kernel) (Nat.le_of_ble_eq_true rfl) ?_
  intro p e s m below meth c A hx hb hr hlk hml hown hts hK hP hD hS hA hN ls hl
  have hl : lv_has ls 5 [(0, .ref tr), (1, .int (nI b)), (2, .int (nI 0))] := hl
  have hP : va_P D cls [(tr, .inr (3, [.ref h, .ref x0, .ref x1, .ref tn, .ref tk, .int (nI hd)])), (tn, .inr (2, [.ref h, .int (nI T)])), (tk, .inr (2, [.ref h, .int (nI K)])), (h, .inr (1, [.ref a])), (a, .inl (cJ, 12544, .inr (.inl (f))))] s.heap := hP
  have hD : va_D A [(tr, .inr (3, [.ref h, .ref x0, .ref x1, .ref tn, .ref tk, .int (nI hd)])), (tn, .inr (2, [.ref h, .int (nI T)])), (tk, .inr (2, [.ref h, .int (nI K)])), (h, .inr (1, [.ref a])), (a, .inl (cJ, 12544, .inr (.inl (f))))] := hD
  refine lv_aload_n hx hb d_Tr_own_0 rfl (lv_at hl 0 rfl) ?_
  refine va_get (D := D) (ci := 3) (v := .ref tn) (C := R_Tr) (T := F_Tr) (N := 6) hx hb hts i_Tr hown hK hP 0 rfl rfl 3 (by decide) (hts _ fl_Tr_34) (fun _ h9 => h9) rfl d_Tr_own_1 ?_
  refine lv_iload_n hx hb d_Tr_own_4 rfl (lv_at hl 1 rfl) ?_
  refine q_callVi (As := [.int (nI b)]) (rest := []) (wsC := [(tn, .inr (2, [.ref h, .int (nI T)])), (h, .inr (1, [.ref a])), (a, .inl (cJ, 12544, .inr (.inl (f))))]) (wsR := [(tr, .inr (3, [.ref h, .ref x0, .ref x1, .ref tn, .ref tk, .int (nI hd)])), (tk, .inr (2, [.ref h, .int (nI K)]))]) (wsC' := [(tn, .inr (2, [.ref h, .int (nI T)])), (h, .inr (1, [.ref a])), (a, .inl (cJ, 12544, .inr (.inl (f))))]) (wsN := [(tr, .inr (3, [.ref h, .ref x0, .ref x1, .ref tn, .ref tk, .int (nI hd)])), (tn, .inr (2, [.ref h, .int (nI T)])), (tk, .inr (2, [.ref h, .int (nI K)])), (h, .inr (1, [.ref a])), (a, .inl (cJ, 12544, .inr (.inl (f))))]) (isT := [0]) (isC := [1, 3, 4]) (isR := [0, 2]) (isN := [0, 2, 1, 3, 4]) (k := 1) (ci := 2) (C := R_Tb) ⟨hx, hb, hml, hown, hts⟩ (c_Tb_waysTo l D cJ tn T h a f b (by omega) (by omega)) (tw_V ml_Tr_41 im_Tb_waysTo se_Tb_waysTo in_Tb cd_Tb_waysTo) rfl ⟨by decide +kernel, Nat.le_of_ble_eq_true rfl, Nat.le_of_ble_eq_true rfl⟩ ⟨Nat.le_of_ble_eq_true rfl, Nat.le_of_ble_eq_true rfl⟩ hK hP hD hS hA hN rfl ⟨rfl, rfl, rfl, by decide, by decide, by decide, by decide⟩ rfl rfl rfl hl.1 rfl rfl (Nat.le_of_ble_eq_true rfl) d_Tr_own_5 (fun H locs hP hD hS => ?_)
  have hq1 := qv_wy_lt f T b
  refine lv_iconst (v := nI 1) hx hb d_Tr_own_8 (by decide) ?_
  refine lv_icmp_ne (tgt := 25) hx hb d_Tr_own_9 (by decide) (fun c9 => ?_) (fun c9 => ?_)
  · have c9 : ¬ (qv_wy f T b) = 1 := fun h9 => c9 ((nI_eq (by omega) (by omega)).mpr h9)
    refine lv_aload_n hx hb d_Tr_own_25 rfl (lv_at hl 0 rfl) ?_
    refine q_callVi (As := []) (rest := []) (wsC := [(tr, .inr (3, [.ref h, .ref x0, .ref x1, .ref tn, .ref tk, .int (nI hd)])), (tn, .inr (2, [.ref h, .int (nI T)])), (tk, .inr (2, [.ref h, .int (nI K)])), (h, .inr (1, [.ref a])), (a, .inl (cJ, 12544, .inr (.inl (f))))]) (wsR := []) (wsC' := [(tr, .inr (3, [.ref h, .ref x0, .ref x1, .ref tn, .ref tk, .int (nI ((qt_take T K 768 f hd).2.2))])), (tn, .inr (2, [.ref h, .int (nI T)])), (tk, .inr (2, [.ref h, .int (nI K)])), (h, .inr (1, [.ref a])), (a, .inl (cJ, 12544, .inr (.inl ((qt_take T K 768 f hd).2.1))))]) (wsN := [(tr, .inr (3, [.ref h, .ref x0, .ref x1, .ref tn, .ref tk, .int (nI ((qt_take T K 768 f hd).2.2))])), (tn, .inr (2, [.ref h, .int (nI T)])), (tk, .inr (2, [.ref h, .int (nI K)])), (h, .inr (1, [.ref a])), (a, .inl (cJ, 12544, .inr (.inl ((qt_take T K 768 f hd).2.1))))]) (isT := [0]) (isC := [0, 1, 2, 3, 4]) (isR := []) (isN := [0, 1, 2, 3, 4]) (k := 0) (ci := 3) (C := R_Tr) ⟨hx, hb, hml, hown, hts⟩ (c_Tr_take l D cJ tr x0 x1 tn T tk K hd h a f (by omega) (by omega) (by omega)) (tw_V ml_Tr_95 im_Tr_take se_Tr_take in_Tr cd_Tr_take) rfl ⟨by decide +kernel, Nat.le_of_ble_eq_true rfl, Nat.le_of_ble_eq_true rfl⟩ ⟨Nat.le_of_ble_eq_true rfl, Nat.le_of_ble_eq_true rfl⟩ hK hP hD hS hA hN rfl ⟨rfl, rfl, rfl, by decide, by decide, by decide, by decide⟩ rfl rfl rfl hl.1 rfl rfl (Nat.le_of_ble_eq_true rfl) d_Tr_own_26 (fun H locs hP hD hS => ?_)
    have hq2 := qt_take_lt T K 768 f hd khd
    refine lv_istore_n (lv' := [(3, .int (nI (qt_take T K 768 f hd).1)), (0, .ref tr), (1, .int (nI b)), (2, .int (nI 0))]) hx hb d_Tr_own_29 rfl hl (by decide) rfl (fun ls hl => ?_)
    refine lv_aload_n hx hb d_Tr_own_30 rfl (lv_at hl 1 rfl) ?_
    refine va_get (D := D) (ci := 3) (v := .ref h) (C := R_Tr) (T := F_Tr) (N := 6) hx hb hts i_Tr hown hK hP 0 rfl rfl 0 (by decide) (hts _ fl_Tr_15) (fun _ h9 => h9) rfl d_Tr_own_31 ?_
    refine lv_iload_n hx hb d_Tr_own_34 rfl (lv_at hl 2 rfl) ?_
    refine lv_iload_n hx hb d_Tr_own_35 rfl (lv_at hl 0 rfl) ?_
    refine q_callVv (As := [.int (nI b), .int (nI (qt_take T K 768 f hd).1)]) (rest := []) (wsC := [(h, .inr (1, [.ref a])), (a, .inl (cJ, 12544, .inr (.inl ((qt_take T K 768 f hd).2.1))))]) (wsR := [(tr, .inr (3, [.ref h, .ref x0, .ref x1, .ref tn, .ref tk, .int (nI ((qt_take T K 768 f hd).2.2))])), (tn, .inr (2, [.ref h, .int (nI T)])), (tk, .inr (2, [.ref h, .int (nI K)]))]) (wsC' := [(h, .inr (1, [.ref a])), (a, .inl (cJ, 12544, .inr (.inl (qv_dup ((qt_take T K 768 f hd).2.1) b ((qt_take T K 768 f hd).1)))))]) (wsN := [(tr, .inr (3, [.ref h, .ref x0, .ref x1, .ref tn, .ref tk, .int (nI ((qt_take T K 768 f hd).2.2))])), (tn, .inr (2, [.ref h, .int (nI T)])), (tk, .inr (2, [.ref h, .int (nI K)])), (h, .inr (1, [.ref a])), (a, .inl (cJ, 12544, .inr (.inl (qv_dup ((qt_take T K 768 f hd).2.1) b ((qt_take T K 768 f hd).1)))))]) (isT := [0]) (isC := [3, 4]) (isR := [0, 1, 2]) (isN := [0, 1, 2, 3, 4]) (k := 2) (ci := 1) (C := R_Im) ⟨hx, hb, hml, hown, hts⟩ (c_Im_duplicate l D cJ h a ((qt_take T K 768 f hd).2.1) b ((qt_take T K 768 f hd).1) (by omega) (by omega)) (tw_V ml_Tr_98 im_Im_duplicate se_Im_duplicate in_Im cd_Im_duplicate) rfl ⟨by decide +kernel, Nat.le_of_ble_eq_true rfl, Nat.le_of_ble_eq_true rfl⟩ ⟨Nat.le_of_ble_eq_true rfl, Nat.le_of_ble_eq_true rfl⟩ hK hP hD hS hA hN rfl ⟨rfl, rfl, rfl, by decide, by decide, by decide, by decide⟩ rfl rfl rfl hl.1 rfl rfl (Nat.le_of_ble_eq_true rfl) d_Tr_own_36 (fun H locs hP hD hS => ?_)
    refine lv_iconst (v := nI 0) hx hb d_Tr_own_39 (by decide) ?_
    refine lv_istore (lv' := [(4, .int (nI 0)), (3, .int (nI (qt_take T K 768 f hd).1)), (0, .ref tr), (1, .int (nI b)), (2, .int (nI 0))]) hx hb d_Tr_own_40 hl (by decide) rfl (fun ls hl => ?_)
    refine q_loop (pc := 42) (σ := Unit) (I := fun i u H locs ls => va_P D cls [(tr, .inr (3, [.ref h, .ref x0, .ref x1, .ref tn, .ref tk, .int (nI ((qt_take T K 768 f hd).2.2))])), (tn, .inr (2, [.ref h, .int (nI T)])), (tk, .inr (2, [.ref h, .int (nI K)])), (h, .inr (1, [.ref a])), (a, .inl (cJ, 12544, .inr (.inl (qv_for i (fun g i => qt_addW T g (qv_lk g (qt_take T K 768 f hd).1 i)) (qv_dup (qt_take T K 768 f hd).2.1 b (qt_take T K 768 f hd).1)))))] H ∧ va_D A [(tr, .inr (3, [.ref h, .ref x0, .ref x1, .ref tn, .ref tk, .int (nI ((qt_take T K 768 f hd).2.2))])), (tn, .inr (2, [.ref h, .int (nI T)])), (tk, .inr (2, [.ref h, .int (nI K)])), (h, .inr (1, [.ref a])), (a, .inl (cJ, 12544, .inr (.inl (qv_for i (fun g i => qt_addW T g (qv_lk g (qt_take T K 768 f hd).1 i)) (qv_dup (qt_take T K 768 f hd).2.1 b (qt_take T K 768 f hd).1)))))] ∧ va_S A s.heap H locs ∧ lv_has ls 5 [(0, .ref tr), (1, .int (nI b)), (2, .int (nI 0)), (3, .int (nI ((qt_take T K 768 f hd).1))), (4, .int (nI i))]) (0) ?_ ?_ (0) (()) _ _ _ (by omega) ⟨hP, hD, hS, lv_sub hl [2, 3, 4, 1, 0] rfl⟩
    · intro u H locs ls hI
      obtain ⟨hP, hD, hS, hl⟩ := hI
      refine lv_iload hx hb d_Tr_own_42 (lv_at hl 4 rfl) ?_
      refine lv_iload_n hx hb d_Tr_own_44 rfl (lv_at hl 2 rfl) ?_
      refine q_callSi (As := [.int (nI 0)]) (rest := [.int (nI 0)]) (wsC := []) (wsR := [(tr, .inr (3, [.ref h, .ref x0, .ref x1, .ref tn, .ref tk, .int (nI ((qt_take T K 768 f hd).2.2))])), (tn, .inr (2, [.ref h, .int (nI T)])), (tk, .inr (2, [.ref h, .int (nI K)])), (h, .inr (1, [.ref a])), (a, .inl (cJ, 12544, .inr (.inl (qv_for 0 (fun g i => qt_addW T g (qv_lk g (qt_take T K 768 f hd).1 i)) (qv_dup (qt_take T K 768 f hd).2.1 b (qt_take T K 768 f hd).1)))))]) (wsC' := []) (wsN := [(tr, .inr (3, [.ref h, .ref x0, .ref x1, .ref tn, .ref tk, .int (nI ((qt_take T K 768 f hd).2.2))])), (tn, .inr (2, [.ref h, .int (nI T)])), (tk, .inr (2, [.ref h, .int (nI K)])), (h, .inr (1, [.ref a])), (a, .inl (cJ, 12544, .inr (.inl (qv_for 0 (fun g i => qt_addW T g (qv_lk g (qt_take T K 768 f hd).1 i)) (qv_dup (qt_take T K 768 f hd).2.1 b (qt_take T K 768 f hd).1)))))]) (isT := []) (isC := []) (isR := [0, 1, 2, 3, 4]) (isN := [0, 1, 2, 3, 4]) (k := 1) ⟨hx, hb, hml, hown, hts⟩ (c_Tr_linksOf l D 0 (by omega)) (tw_S ml_Tr_101 st_Tr_linksOf in_Tr cd_Tr_linksOf) ⟨by decide +kernel, Nat.le_of_ble_eq_true rfl, Nat.le_of_ble_eq_true rfl⟩ ⟨Nat.le_of_ble_eq_true rfl, Nat.le_of_ble_eq_true rfl⟩ hK hP hD hS hA hN rfl ⟨rfl, rfl, rfl, by decide, by decide, by decide, by decide⟩ hl.1 rfl rfl (Nat.le_of_ble_eq_true rfl) d_Tr_own_45 (fun H locs hP hD hS => ?_)
      refine q_ti (y := nI 0) (rfl) ?_
      refine lv_icmp_ge (tgt := 71) hx hb d_Tr_own_48 (by decide) (fun c48 => ?_) (fun c48 => ?_)
      · have c48 : 0 ≤ 0 := (nI_leI (by omega) (by omega)).mp c48
        refine lv_aload_n hx hb d_Tr_own_71 rfl (lv_at hl 0 rfl) ?_
        refine lv_iload_n hx hb d_Tr_own_72 rfl (lv_at hl 1 rfl) ?_
        refine lv_iload_n hx hb d_Tr_own_73 rfl (lv_at hl 2 rfl) ?_
        refine q_callVv (As := [.int (nI b), .int (nI 0)]) (rest := []) (wsC := [(tr, .inr (3, [.ref h, .ref x0, .ref x1, .ref tn, .ref tk, .int (nI ((qt_take T K 768 f hd).2.2))])), (tn, .inr (2, [.ref h, .int (nI T)])), (tk, .inr (2, [.ref h, .int (nI K)])), (h, .inr (1, [.ref a])), (a, .inl (cJ, 12544, .inr (.inl (qv_for 0 (fun g i => qt_addW T g (qv_lk g (qt_take T K 768 f hd).1 i)) (qv_dup (qt_take T K 768 f hd).2.1 b (qt_take T K 768 f hd).1)))))]) (wsR := []) (wsC' := [(tr, .inr (3, [.ref h, .ref x0, .ref x1, .ref tn, .ref tk, .int (nI ((qt_take T K 768 f hd).2.2))])), (tn, .inr (2, [.ref h, .int (nI T)])), (tk, .inr (2, [.ref h, .int (nI K)])), (h, .inr (1, [.ref a])), (a, .inl (cJ, 12544, .inr (.inl (qt_rel T 0 (qv_for 0 (fun g i => qt_addW T g (qv_lk g (qt_take T K 768 f hd).1 i)) (qv_dup (qt_take T K 768 f hd).2.1 b (qt_take T K 768 f hd).1)) b))))]) (wsN := [(tr, .inr (3, [.ref h, .ref x0, .ref x1, .ref tn, .ref tk, .int (nI ((qt_take T K 768 f hd).2.2))])), (tn, .inr (2, [.ref h, .int (nI T)])), (tk, .inr (2, [.ref h, .int (nI K)])), (h, .inr (1, [.ref a])), (a, .inl (cJ, 12544, .inr (.inl (qt_rel T 0 (qv_for 0 (fun g i => qt_addW T g (qv_lk g (qt_take T K 768 f hd).1 i)) (qv_dup (qt_take T K 768 f hd).2.1 b (qt_take T K 768 f hd).1)) b))))]) (isT := [0]) (isC := [0, 1, 2, 3, 4]) (isR := []) (isN := [0, 1, 2, 3, 4]) (k := 2) (ci := 3) (C := R_Tr) ⟨hx, hb, hml, hown, hts⟩ (c_Tr_release0 l D cJ tr x0 x1 tn T tk K ((qt_take T K 768 f hd).2.2) h a (qv_for 0 (fun g i => qt_addW T g (qv_lk g (qt_take T K 768 f hd).1 i)) (qv_dup (qt_take T K 768 f hd).2.1 b (qt_take T K 768 f hd).1)) b (by omega) (by omega) (by omega) (by omega)) (tw_V ml_Tr_72 im_Tr_release se_Tr_release in_Tr cd_Tr_release) rfl ⟨by decide +kernel, Nat.le_of_ble_eq_true rfl, Nat.le_of_ble_eq_true rfl⟩ ⟨Nat.le_of_ble_eq_true rfl, Nat.le_of_ble_eq_true rfl⟩ hK hP hD hS hA hN rfl ⟨rfl, rfl, rfl, by decide, by decide, by decide, by decide⟩ rfl rfl rfl hl.1 rfl rfl (Nat.le_of_ble_eq_true rfl) d_Tr_own_74 (fun H locs hP hD hS => ?_)
        refine lv_iload_n hx hb d_Tr_own_77 rfl (lv_at hl 3 rfl) ?_
        exact q_iret hx hb hr hlk hK hP hD hS d_Tr_own_78 (by unfold qt_own; rw [if_neg (fun q => by have := q.1; have := q.2; omega)]) (by unfold qt_own; rw [if_neg (fun q => by have := q.1; have := q.2; omega)]; rfl)
      · have c48 : ¬ 0 ≤ 0 := fun h9 => c48 ((nI_leI (by omega) (by omega)).mpr h9)
        exfalso; omega
    · intro i u H locs ls hi hI ih
      obtain ⟨hP, hD, hS, hl⟩ := hI
      refine lv_iload hx hb d_Tr_own_42 (lv_at hl 4 rfl) ?_
      refine lv_iload_n hx hb d_Tr_own_44 rfl (lv_at hl 2 rfl) ?_
      refine q_callSi (As := [.int (nI 0)]) (rest := [.int (nI i)]) (wsC := []) (wsR := [(tr, .inr (3, [.ref h, .ref x0, .ref x1, .ref tn, .ref tk, .int (nI ((qt_take T K 768 f hd).2.2))])), (tn, .inr (2, [.ref h, .int (nI T)])), (tk, .inr (2, [.ref h, .int (nI K)])), (h, .inr (1, [.ref a])), (a, .inl (cJ, 12544, .inr (.inl (qv_for i (fun g i => qt_addW T g (qv_lk g (qt_take T K 768 f hd).1 i)) (qv_dup (qt_take T K 768 f hd).2.1 b (qt_take T K 768 f hd).1)))))]) (wsC' := []) (wsN := [(tr, .inr (3, [.ref h, .ref x0, .ref x1, .ref tn, .ref tk, .int (nI ((qt_take T K 768 f hd).2.2))])), (tn, .inr (2, [.ref h, .int (nI T)])), (tk, .inr (2, [.ref h, .int (nI K)])), (h, .inr (1, [.ref a])), (a, .inl (cJ, 12544, .inr (.inl (qv_for i (fun g i => qt_addW T g (qv_lk g (qt_take T K 768 f hd).1 i)) (qv_dup (qt_take T K 768 f hd).2.1 b (qt_take T K 768 f hd).1)))))]) (isT := []) (isC := []) (isR := [0, 1, 2, 3, 4]) (isN := [0, 1, 2, 3, 4]) (k := 1) ⟨hx, hb, hml, hown, hts⟩ (c_Tr_linksOf l D 0 (by omega)) (tw_S ml_Tr_101 st_Tr_linksOf in_Tr cd_Tr_linksOf) ⟨by decide +kernel, Nat.le_of_ble_eq_true rfl, Nat.le_of_ble_eq_true rfl⟩ ⟨Nat.le_of_ble_eq_true rfl, Nat.le_of_ble_eq_true rfl⟩ hK hP hD hS hA hN rfl ⟨rfl, rfl, rfl, by decide, by decide, by decide, by decide⟩ hl.1 rfl rfl (Nat.le_of_ble_eq_true rfl) d_Tr_own_45 (fun H locs hP hD hS => ?_)
      refine q_ti (y := nI 0) (rfl) ?_
      refine lv_icmp_ge (tgt := 71) hx hb d_Tr_own_48 (by decide) (fun c48 => ?_) (fun c48 => ?_)
      · have c48 : 0 ≤ i := (nI_leI (by omega) (by omega)).mp c48
        exfalso; omega
      · have c48 : ¬ 0 ≤ i := fun h9 => c48 ((nI_leI (by omega) (by omega)).mpr h9)
        exfalso; omega
  · have c9 : (qv_wy f T b) = 1 := (nI_eq (by omega) (by omega)).mp c9
    refine lv_aload_n hx hb d_Tr_own_12 rfl (lv_at hl 0 rfl) ?_
    refine va_get (D := D) (ci := 3) (v := .ref tk) (C := R_Tr) (T := F_Tr) (N := 6) hx hb hts i_Tr hown hK hP 0 rfl rfl 4 (by decide) (hts _ fl_Tr_31) (fun _ h9 => h9) rfl d_Tr_own_13 ?_
    refine lv_iload_n hx hb d_Tr_own_16 rfl (lv_at hl 1 rfl) ?_
    refine q_callVi (As := [.int (nI b)]) (rest := []) (wsC := [(tk, .inr (2, [.ref h, .int (nI K)])), (h, .inr (1, [.ref a])), (a, .inl (cJ, 12544, .inr (.inl (f))))]) (wsR := [(tr, .inr (3, [.ref h, .ref x0, .ref x1, .ref tn, .ref tk, .int (nI hd)])), (tn, .inr (2, [.ref h, .int (nI T)]))]) (wsC' := [(tk, .inr (2, [.ref h, .int (nI K)])), (h, .inr (1, [.ref a])), (a, .inl (cJ, 12544, .inr (.inl (f))))]) (wsN := [(tr, .inr (3, [.ref h, .ref x0, .ref x1, .ref tn, .ref tk, .int (nI hd)])), (tn, .inr (2, [.ref h, .int (nI T)])), (tk, .inr (2, [.ref h, .int (nI K)])), (h, .inr (1, [.ref a])), (a, .inl (cJ, 12544, .inr (.inl (f))))]) (isT := [0]) (isC := [2, 3, 4]) (isR := [0, 1]) (isN := [0, 1, 2, 3, 4]) (k := 1) (ci := 2) (C := R_Tb) ⟨hx, hb, hml, hown, hts⟩ (c_Tb_waysTo l D cJ tk K h a f b (by omega) (by omega)) (tw_V ml_Tr_41 im_Tb_waysTo se_Tb_waysTo in_Tb cd_Tb_waysTo) rfl ⟨by decide +kernel, Nat.le_of_ble_eq_true rfl, Nat.le_of_ble_eq_true rfl⟩ ⟨Nat.le_of_ble_eq_true rfl, Nat.le_of_ble_eq_true rfl⟩ hK hP hD hS hA hN rfl ⟨rfl, rfl, rfl, by decide, by decide, by decide, by decide⟩ rfl rfl rfl hl.1 rfl rfl (Nat.le_of_ble_eq_true rfl) d_Tr_own_17 (fun H locs hP hD hS => ?_)
    have hq3 := qv_wy_lt f K b
    refine lv_if_ne (tgt := 25) hx hb d_Tr_own_20 (by decide) (fun c20 => ?_) (fun c20 => ?_)
    · have c20 : ¬ (qv_wy f K b) = 0 := fun h9 => c20 ((q_z_eq (by omega)).mpr h9)
      refine lv_aload_n hx hb d_Tr_own_25 rfl (lv_at hl 0 rfl) ?_
      refine q_callVi (As := []) (rest := []) (wsC := [(tr, .inr (3, [.ref h, .ref x0, .ref x1, .ref tn, .ref tk, .int (nI hd)])), (tn, .inr (2, [.ref h, .int (nI T)])), (tk, .inr (2, [.ref h, .int (nI K)])), (h, .inr (1, [.ref a])), (a, .inl (cJ, 12544, .inr (.inl (f))))]) (wsR := []) (wsC' := [(tr, .inr (3, [.ref h, .ref x0, .ref x1, .ref tn, .ref tk, .int (nI ((qt_take T K 768 f hd).2.2))])), (tn, .inr (2, [.ref h, .int (nI T)])), (tk, .inr (2, [.ref h, .int (nI K)])), (h, .inr (1, [.ref a])), (a, .inl (cJ, 12544, .inr (.inl ((qt_take T K 768 f hd).2.1))))]) (wsN := [(tr, .inr (3, [.ref h, .ref x0, .ref x1, .ref tn, .ref tk, .int (nI ((qt_take T K 768 f hd).2.2))])), (tn, .inr (2, [.ref h, .int (nI T)])), (tk, .inr (2, [.ref h, .int (nI K)])), (h, .inr (1, [.ref a])), (a, .inl (cJ, 12544, .inr (.inl ((qt_take T K 768 f hd).2.1))))]) (isT := [0]) (isC := [0, 1, 2, 3, 4]) (isR := []) (isN := [0, 1, 2, 3, 4]) (k := 0) (ci := 3) (C := R_Tr) ⟨hx, hb, hml, hown, hts⟩ (c_Tr_take l D cJ tr x0 x1 tn T tk K hd h a f (by omega) (by omega) (by omega)) (tw_V ml_Tr_95 im_Tr_take se_Tr_take in_Tr cd_Tr_take) rfl ⟨by decide +kernel, Nat.le_of_ble_eq_true rfl, Nat.le_of_ble_eq_true rfl⟩ ⟨Nat.le_of_ble_eq_true rfl, Nat.le_of_ble_eq_true rfl⟩ hK hP hD hS hA hN rfl ⟨rfl, rfl, rfl, by decide, by decide, by decide, by decide⟩ rfl rfl rfl hl.1 rfl rfl (Nat.le_of_ble_eq_true rfl) d_Tr_own_26 (fun H locs hP hD hS => ?_)
      have hq4 := qt_take_lt T K 768 f hd khd
      refine lv_istore_n (lv' := [(3, .int (nI (qt_take T K 768 f hd).1)), (0, .ref tr), (1, .int (nI b)), (2, .int (nI 0))]) hx hb d_Tr_own_29 rfl hl (by decide) rfl (fun ls hl => ?_)
      refine lv_aload_n hx hb d_Tr_own_30 rfl (lv_at hl 1 rfl) ?_
      refine va_get (D := D) (ci := 3) (v := .ref h) (C := R_Tr) (T := F_Tr) (N := 6) hx hb hts i_Tr hown hK hP 0 rfl rfl 0 (by decide) (hts _ fl_Tr_15) (fun _ h9 => h9) rfl d_Tr_own_31 ?_
      refine lv_iload_n hx hb d_Tr_own_34 rfl (lv_at hl 2 rfl) ?_
      refine lv_iload_n hx hb d_Tr_own_35 rfl (lv_at hl 0 rfl) ?_
      refine q_callVv (As := [.int (nI b), .int (nI (qt_take T K 768 f hd).1)]) (rest := []) (wsC := [(h, .inr (1, [.ref a])), (a, .inl (cJ, 12544, .inr (.inl ((qt_take T K 768 f hd).2.1))))]) (wsR := [(tr, .inr (3, [.ref h, .ref x0, .ref x1, .ref tn, .ref tk, .int (nI ((qt_take T K 768 f hd).2.2))])), (tn, .inr (2, [.ref h, .int (nI T)])), (tk, .inr (2, [.ref h, .int (nI K)]))]) (wsC' := [(h, .inr (1, [.ref a])), (a, .inl (cJ, 12544, .inr (.inl (qv_dup ((qt_take T K 768 f hd).2.1) b ((qt_take T K 768 f hd).1)))))]) (wsN := [(tr, .inr (3, [.ref h, .ref x0, .ref x1, .ref tn, .ref tk, .int (nI ((qt_take T K 768 f hd).2.2))])), (tn, .inr (2, [.ref h, .int (nI T)])), (tk, .inr (2, [.ref h, .int (nI K)])), (h, .inr (1, [.ref a])), (a, .inl (cJ, 12544, .inr (.inl (qv_dup ((qt_take T K 768 f hd).2.1) b ((qt_take T K 768 f hd).1)))))]) (isT := [0]) (isC := [3, 4]) (isR := [0, 1, 2]) (isN := [0, 1, 2, 3, 4]) (k := 2) (ci := 1) (C := R_Im) ⟨hx, hb, hml, hown, hts⟩ (c_Im_duplicate l D cJ h a ((qt_take T K 768 f hd).2.1) b ((qt_take T K 768 f hd).1) (by omega) (by omega)) (tw_V ml_Tr_98 im_Im_duplicate se_Im_duplicate in_Im cd_Im_duplicate) rfl ⟨by decide +kernel, Nat.le_of_ble_eq_true rfl, Nat.le_of_ble_eq_true rfl⟩ ⟨Nat.le_of_ble_eq_true rfl, Nat.le_of_ble_eq_true rfl⟩ hK hP hD hS hA hN rfl ⟨rfl, rfl, rfl, by decide, by decide, by decide, by decide⟩ rfl rfl rfl hl.1 rfl rfl (Nat.le_of_ble_eq_true rfl) d_Tr_own_36 (fun H locs hP hD hS => ?_)
      refine lv_iconst (v := nI 0) hx hb d_Tr_own_39 (by decide) ?_
      refine lv_istore (lv' := [(4, .int (nI 0)), (3, .int (nI (qt_take T K 768 f hd).1)), (0, .ref tr), (1, .int (nI b)), (2, .int (nI 0))]) hx hb d_Tr_own_40 hl (by decide) rfl (fun ls hl => ?_)
      refine q_loop (pc := 42) (σ := Unit) (I := fun i u H locs ls => va_P D cls [(tr, .inr (3, [.ref h, .ref x0, .ref x1, .ref tn, .ref tk, .int (nI ((qt_take T K 768 f hd).2.2))])), (tn, .inr (2, [.ref h, .int (nI T)])), (tk, .inr (2, [.ref h, .int (nI K)])), (h, .inr (1, [.ref a])), (a, .inl (cJ, 12544, .inr (.inl (qv_for i (fun g i => qt_addW T g (qv_lk g (qt_take T K 768 f hd).1 i)) (qv_dup (qt_take T K 768 f hd).2.1 b (qt_take T K 768 f hd).1)))))] H ∧ va_D A [(tr, .inr (3, [.ref h, .ref x0, .ref x1, .ref tn, .ref tk, .int (nI ((qt_take T K 768 f hd).2.2))])), (tn, .inr (2, [.ref h, .int (nI T)])), (tk, .inr (2, [.ref h, .int (nI K)])), (h, .inr (1, [.ref a])), (a, .inl (cJ, 12544, .inr (.inl (qv_for i (fun g i => qt_addW T g (qv_lk g (qt_take T K 768 f hd).1 i)) (qv_dup (qt_take T K 768 f hd).2.1 b (qt_take T K 768 f hd).1)))))] ∧ va_S A s.heap H locs ∧ lv_has ls 5 [(0, .ref tr), (1, .int (nI b)), (2, .int (nI 0)), (3, .int (nI ((qt_take T K 768 f hd).1))), (4, .int (nI i))]) (0) ?_ ?_ (0) (()) _ _ _ (by omega) ⟨hP, hD, hS, lv_sub hl [2, 3, 4, 1, 0] rfl⟩
      · intro u H locs ls hI
        obtain ⟨hP, hD, hS, hl⟩ := hI
        refine lv_iload hx hb d_Tr_own_42 (lv_at hl 4 rfl) ?_
        refine lv_iload_n hx hb d_Tr_own_44 rfl (lv_at hl 2 rfl) ?_
        refine q_callSi (As := [.int (nI 0)]) (rest := [.int (nI 0)]) (wsC := []) (wsR := [(tr, .inr (3, [.ref h, .ref x0, .ref x1, .ref tn, .ref tk, .int (nI ((qt_take T K 768 f hd).2.2))])), (tn, .inr (2, [.ref h, .int (nI T)])), (tk, .inr (2, [.ref h, .int (nI K)])), (h, .inr (1, [.ref a])), (a, .inl (cJ, 12544, .inr (.inl (qv_for 0 (fun g i => qt_addW T g (qv_lk g (qt_take T K 768 f hd).1 i)) (qv_dup (qt_take T K 768 f hd).2.1 b (qt_take T K 768 f hd).1)))))]) (wsC' := []) (wsN := [(tr, .inr (3, [.ref h, .ref x0, .ref x1, .ref tn, .ref tk, .int (nI ((qt_take T K 768 f hd).2.2))])), (tn, .inr (2, [.ref h, .int (nI T)])), (tk, .inr (2, [.ref h, .int (nI K)])), (h, .inr (1, [.ref a])), (a, .inl (cJ, 12544, .inr (.inl (qv_for 0 (fun g i => qt_addW T g (qv_lk g (qt_take T K 768 f hd).1 i)) (qv_dup (qt_take T K 768 f hd).2.1 b (qt_take T K 768 f hd).1)))))]) (isT := []) (isC := []) (isR := [0, 1, 2, 3, 4]) (isN := [0, 1, 2, 3, 4]) (k := 1) ⟨hx, hb, hml, hown, hts⟩ (c_Tr_linksOf l D 0 (by omega)) (tw_S ml_Tr_101 st_Tr_linksOf in_Tr cd_Tr_linksOf) ⟨by decide +kernel, Nat.le_of_ble_eq_true rfl, Nat.le_of_ble_eq_true rfl⟩ ⟨Nat.le_of_ble_eq_true rfl, Nat.le_of_ble_eq_true rfl⟩ hK hP hD hS hA hN rfl ⟨rfl, rfl, rfl, by decide, by decide, by decide, by decide⟩ hl.1 rfl rfl (Nat.le_of_ble_eq_true rfl) d_Tr_own_45 (fun H locs hP hD hS => ?_)
        refine q_ti (y := nI 0) (rfl) ?_
        refine lv_icmp_ge (tgt := 71) hx hb d_Tr_own_48 (by decide) (fun c48 => ?_) (fun c48 => ?_)
        · have c48 : 0 ≤ 0 := (nI_leI (by omega) (by omega)).mp c48
          refine lv_aload_n hx hb d_Tr_own_71 rfl (lv_at hl 0 rfl) ?_
          refine lv_iload_n hx hb d_Tr_own_72 rfl (lv_at hl 1 rfl) ?_
          refine lv_iload_n hx hb d_Tr_own_73 rfl (lv_at hl 2 rfl) ?_
          refine q_callVv (As := [.int (nI b), .int (nI 0)]) (rest := []) (wsC := [(tr, .inr (3, [.ref h, .ref x0, .ref x1, .ref tn, .ref tk, .int (nI ((qt_take T K 768 f hd).2.2))])), (tn, .inr (2, [.ref h, .int (nI T)])), (tk, .inr (2, [.ref h, .int (nI K)])), (h, .inr (1, [.ref a])), (a, .inl (cJ, 12544, .inr (.inl (qv_for 0 (fun g i => qt_addW T g (qv_lk g (qt_take T K 768 f hd).1 i)) (qv_dup (qt_take T K 768 f hd).2.1 b (qt_take T K 768 f hd).1)))))]) (wsR := []) (wsC' := [(tr, .inr (3, [.ref h, .ref x0, .ref x1, .ref tn, .ref tk, .int (nI ((qt_take T K 768 f hd).2.2))])), (tn, .inr (2, [.ref h, .int (nI T)])), (tk, .inr (2, [.ref h, .int (nI K)])), (h, .inr (1, [.ref a])), (a, .inl (cJ, 12544, .inr (.inl (qt_rel T 0 (qv_for 0 (fun g i => qt_addW T g (qv_lk g (qt_take T K 768 f hd).1 i)) (qv_dup (qt_take T K 768 f hd).2.1 b (qt_take T K 768 f hd).1)) b))))]) (wsN := [(tr, .inr (3, [.ref h, .ref x0, .ref x1, .ref tn, .ref tk, .int (nI ((qt_take T K 768 f hd).2.2))])), (tn, .inr (2, [.ref h, .int (nI T)])), (tk, .inr (2, [.ref h, .int (nI K)])), (h, .inr (1, [.ref a])), (a, .inl (cJ, 12544, .inr (.inl (qt_rel T 0 (qv_for 0 (fun g i => qt_addW T g (qv_lk g (qt_take T K 768 f hd).1 i)) (qv_dup (qt_take T K 768 f hd).2.1 b (qt_take T K 768 f hd).1)) b))))]) (isT := [0]) (isC := [0, 1, 2, 3, 4]) (isR := []) (isN := [0, 1, 2, 3, 4]) (k := 2) (ci := 3) (C := R_Tr) ⟨hx, hb, hml, hown, hts⟩ (c_Tr_release0 l D cJ tr x0 x1 tn T tk K ((qt_take T K 768 f hd).2.2) h a (qv_for 0 (fun g i => qt_addW T g (qv_lk g (qt_take T K 768 f hd).1 i)) (qv_dup (qt_take T K 768 f hd).2.1 b (qt_take T K 768 f hd).1)) b (by omega) (by omega) (by omega) (by omega)) (tw_V ml_Tr_72 im_Tr_release se_Tr_release in_Tr cd_Tr_release) rfl ⟨by decide +kernel, Nat.le_of_ble_eq_true rfl, Nat.le_of_ble_eq_true rfl⟩ ⟨Nat.le_of_ble_eq_true rfl, Nat.le_of_ble_eq_true rfl⟩ hK hP hD hS hA hN rfl ⟨rfl, rfl, rfl, by decide, by decide, by decide, by decide⟩ rfl rfl rfl hl.1 rfl rfl (Nat.le_of_ble_eq_true rfl) d_Tr_own_74 (fun H locs hP hD hS => ?_)
          refine lv_iload_n hx hb d_Tr_own_77 rfl (lv_at hl 3 rfl) ?_
          exact q_iret hx hb hr hlk hK hP hD hS d_Tr_own_78 (by unfold qt_own; rw [if_neg (fun q => by have := q.1; have := q.2; omega)]) (by unfold qt_own; rw [if_neg (fun q => by have := q.1; have := q.2; omega)]; rfl)
        · have c48 : ¬ 0 ≤ 0 := fun h9 => c48 ((nI_leI (by omega) (by omega)).mpr h9)
          exfalso; omega
      · intro i u H locs ls hi hI ih
        obtain ⟨hP, hD, hS, hl⟩ := hI
        refine lv_iload hx hb d_Tr_own_42 (lv_at hl 4 rfl) ?_
        refine lv_iload_n hx hb d_Tr_own_44 rfl (lv_at hl 2 rfl) ?_
        refine q_callSi (As := [.int (nI 0)]) (rest := [.int (nI i)]) (wsC := []) (wsR := [(tr, .inr (3, [.ref h, .ref x0, .ref x1, .ref tn, .ref tk, .int (nI ((qt_take T K 768 f hd).2.2))])), (tn, .inr (2, [.ref h, .int (nI T)])), (tk, .inr (2, [.ref h, .int (nI K)])), (h, .inr (1, [.ref a])), (a, .inl (cJ, 12544, .inr (.inl (qv_for i (fun g i => qt_addW T g (qv_lk g (qt_take T K 768 f hd).1 i)) (qv_dup (qt_take T K 768 f hd).2.1 b (qt_take T K 768 f hd).1)))))]) (wsC' := []) (wsN := [(tr, .inr (3, [.ref h, .ref x0, .ref x1, .ref tn, .ref tk, .int (nI ((qt_take T K 768 f hd).2.2))])), (tn, .inr (2, [.ref h, .int (nI T)])), (tk, .inr (2, [.ref h, .int (nI K)])), (h, .inr (1, [.ref a])), (a, .inl (cJ, 12544, .inr (.inl (qv_for i (fun g i => qt_addW T g (qv_lk g (qt_take T K 768 f hd).1 i)) (qv_dup (qt_take T K 768 f hd).2.1 b (qt_take T K 768 f hd).1)))))]) (isT := []) (isC := []) (isR := [0, 1, 2, 3, 4]) (isN := [0, 1, 2, 3, 4]) (k := 1) ⟨hx, hb, hml, hown, hts⟩ (c_Tr_linksOf l D 0 (by omega)) (tw_S ml_Tr_101 st_Tr_linksOf in_Tr cd_Tr_linksOf) ⟨by decide +kernel, Nat.le_of_ble_eq_true rfl, Nat.le_of_ble_eq_true rfl⟩ ⟨Nat.le_of_ble_eq_true rfl, Nat.le_of_ble_eq_true rfl⟩ hK hP hD hS hA hN rfl ⟨rfl, rfl, rfl, by decide, by decide, by decide, by decide⟩ hl.1 rfl rfl (Nat.le_of_ble_eq_true rfl) d_Tr_own_45 (fun H locs hP hD hS => ?_)
        refine q_ti (y := nI 0) (rfl) ?_
        refine lv_icmp_ge (tgt := 71) hx hb d_Tr_own_48 (by decide) (fun c48 => ?_) (fun c48 => ?_)
        · have c48 : 0 ≤ i := (nI_leI (by omega) (by omega)).mp c48
          exfalso; omega
        · have c48 : ¬ 0 ≤ i := fun h9 => c48 ((nI_leI (by omega) (by omega)).mpr h9)
          exfalso; omega
    · have c20 : (qv_wy f K b) = 0 := (q_z_eq (by omega)).mp c20
      refine lv_iload_n hx hb d_Tr_own_23 rfl (lv_at hl 1 rfl) ?_
      exact q_iret hx hb hr hlk hK hP hD hS d_Tr_own_24 (by unfold qt_own; rw [if_pos ⟨by omega, by omega⟩]) (by unfold qt_own; rw [if_pos ⟨by omega, by omega⟩])
set_option maxHeartbeats 4000000 in
set_option maxRecDepth 100000 in
theorem c_Tr_own1 (l : Launch) (D : va_G) (cJ : ClassId) (tr : Nat) (x0 : Nat) (x1 : Nat) (tn : Nat) (T : Nat) (tk : Nat) (K : Nat) (hd : Nat) (h : Nat) (a : Nat) (f : Nat → Int64) (b : Nat) (kT : T < 1000) (kK : K < 1000) (khd : hd < 784) (kb : b < 65536) : qMi l y_Tr_own b_Tr_own 5 (some .int) (rmL 6) D [(cJ, .long)] [.ref tr, .int (nI b), .int (nI 1)] [(tr, .inr (3, [.ref h, .ref x0, .ref x1, .ref tn, .ref tk, .int (nI hd)])), (tn, .inr (2, [.ref h, .int (nI T)])), (tk, .inr (2, [.ref h, .int (nI K)])), (h, .inr (1, [.ref a])), (a, .inl (cJ, 12544, .inr (.inl (f))))] [(tr, .inr (3, [.ref h, .ref x0, .ref x1, .ref tn, .ref tk, .int (nI ((qt_own T K 1 f hd b).2.2))])), (tn, .inr (2, [.ref h, .int (nI T)])), (tk, .inr (2, [.ref h, .int (nI K)])), (h, .inr (1, [.ref a])), (a, .inl (cJ, 12544, .inr (.inl ((qt_own T K 1 f hd b).2.1))))] (nI (qt_own T K 1 f hd b).1) := by
  refine q_start (Qc := qZi D _ _ _) (by decide +kernel) (Nat.le_of_ble_eq_true rfl) ?_
  intro p e s m below meth c A hx hb hr hlk hml hown hts hK hP hD hS hA hN ls hl
  have hl : lv_has ls 5 [(0, .ref tr), (1, .int (nI b)), (2, .int (nI 1))] := hl
  have hP : va_P D cls [(tr, .inr (3, [.ref h, .ref x0, .ref x1, .ref tn, .ref tk, .int (nI hd)])), (tn, .inr (2, [.ref h, .int (nI T)])), (tk, .inr (2, [.ref h, .int (nI K)])), (h, .inr (1, [.ref a])), (a, .inl (cJ, 12544, .inr (.inl (f))))] s.heap := hP
  have hD : va_D A [(tr, .inr (3, [.ref h, .ref x0, .ref x1, .ref tn, .ref tk, .int (nI hd)])), (tn, .inr (2, [.ref h, .int (nI T)])), (tk, .inr (2, [.ref h, .int (nI K)])), (h, .inr (1, [.ref a])), (a, .inl (cJ, 12544, .inr (.inl (f))))] := hD
  refine lv_aload_n hx hb d_Tr_own_0 rfl (lv_at hl 0 rfl) ?_
  refine va_get (D := D) (ci := 3) (v := .ref tn) (C := R_Tr) (T := F_Tr) (N := 6) hx hb hts i_Tr hown hK hP 0 rfl rfl 3 (by decide) (hts _ fl_Tr_34) (fun _ h9 => h9) rfl d_Tr_own_1 ?_
  refine lv_iload_n hx hb d_Tr_own_4 rfl (lv_at hl 1 rfl) ?_
  refine q_callVi (As := [.int (nI b)]) (rest := []) (wsC := [(tn, .inr (2, [.ref h, .int (nI T)])), (h, .inr (1, [.ref a])), (a, .inl (cJ, 12544, .inr (.inl (f))))]) (wsR := [(tr, .inr (3, [.ref h, .ref x0, .ref x1, .ref tn, .ref tk, .int (nI hd)])), (tk, .inr (2, [.ref h, .int (nI K)]))]) (wsC' := [(tn, .inr (2, [.ref h, .int (nI T)])), (h, .inr (1, [.ref a])), (a, .inl (cJ, 12544, .inr (.inl (f))))]) (wsN := [(tr, .inr (3, [.ref h, .ref x0, .ref x1, .ref tn, .ref tk, .int (nI hd)])), (tn, .inr (2, [.ref h, .int (nI T)])), (tk, .inr (2, [.ref h, .int (nI K)])), (h, .inr (1, [.ref a])), (a, .inl (cJ, 12544, .inr (.inl (f))))]) (isT := [0]) (isC := [1, 3, 4]) (isR := [0, 2]) (isN := [0, 2, 1, 3, 4]) (k := 1) (ci := 2) (C := R_Tb) ⟨hx, hb, hml, hown, hts⟩ (c_Tb_waysTo l D cJ tn T h a f b (by omega) (by omega)) (tw_V ml_Tr_41 im_Tb_waysTo se_Tb_waysTo in_Tb cd_Tb_waysTo) rfl ⟨by decide +kernel, Nat.le_of_ble_eq_true rfl, Nat.le_of_ble_eq_true rfl⟩ ⟨Nat.le_of_ble_eq_true rfl, Nat.le_of_ble_eq_true rfl⟩ hK hP hD hS hA hN rfl ⟨rfl, rfl, rfl, by decide, by decide, by decide, by decide⟩ rfl rfl rfl hl.1 rfl rfl (Nat.le_of_ble_eq_true rfl) d_Tr_own_5 (fun H locs hP hD hS => ?_)
  have hq1 := qv_wy_lt f T b
  refine lv_iconst (v := nI 1) hx hb d_Tr_own_8 (by decide) ?_
  refine lv_icmp_ne (tgt := 25) hx hb d_Tr_own_9 (by decide) (fun c9 => ?_) (fun c9 => ?_)
  · have c9 : ¬ (qv_wy f T b) = 1 := fun h9 => c9 ((nI_eq (by omega) (by omega)).mpr h9)
    refine lv_aload_n hx hb d_Tr_own_25 rfl (lv_at hl 0 rfl) ?_
    refine q_callVi (As := []) (rest := []) (wsC := [(tr, .inr (3, [.ref h, .ref x0, .ref x1, .ref tn, .ref tk, .int (nI hd)])), (tn, .inr (2, [.ref h, .int (nI T)])), (tk, .inr (2, [.ref h, .int (nI K)])), (h, .inr (1, [.ref a])), (a, .inl (cJ, 12544, .inr (.inl (f))))]) (wsR := []) (wsC' := [(tr, .inr (3, [.ref h, .ref x0, .ref x1, .ref tn, .ref tk, .int (nI ((qt_take T K 768 f hd).2.2))])), (tn, .inr (2, [.ref h, .int (nI T)])), (tk, .inr (2, [.ref h, .int (nI K)])), (h, .inr (1, [.ref a])), (a, .inl (cJ, 12544, .inr (.inl ((qt_take T K 768 f hd).2.1))))]) (wsN := [(tr, .inr (3, [.ref h, .ref x0, .ref x1, .ref tn, .ref tk, .int (nI ((qt_take T K 768 f hd).2.2))])), (tn, .inr (2, [.ref h, .int (nI T)])), (tk, .inr (2, [.ref h, .int (nI K)])), (h, .inr (1, [.ref a])), (a, .inl (cJ, 12544, .inr (.inl ((qt_take T K 768 f hd).2.1))))]) (isT := [0]) (isC := [0, 1, 2, 3, 4]) (isR := []) (isN := [0, 1, 2, 3, 4]) (k := 0) (ci := 3) (C := R_Tr) ⟨hx, hb, hml, hown, hts⟩ (c_Tr_take l D cJ tr x0 x1 tn T tk K hd h a f (by omega) (by omega) (by omega)) (tw_V ml_Tr_95 im_Tr_take se_Tr_take in_Tr cd_Tr_take) rfl ⟨by decide +kernel, Nat.le_of_ble_eq_true rfl, Nat.le_of_ble_eq_true rfl⟩ ⟨Nat.le_of_ble_eq_true rfl, Nat.le_of_ble_eq_true rfl⟩ hK hP hD hS hA hN rfl ⟨rfl, rfl, rfl, by decide, by decide, by decide, by decide⟩ rfl rfl rfl hl.1 rfl rfl (Nat.le_of_ble_eq_true rfl) d_Tr_own_26 (fun H locs hP hD hS => ?_)
    have hq2 := qt_take_lt T K 768 f hd khd
    refine lv_istore_n (lv' := [(3, .int (nI (qt_take T K 768 f hd).1)), (0, .ref tr), (1, .int (nI b)), (2, .int (nI 1))]) hx hb d_Tr_own_29 rfl hl (by decide) rfl (fun ls hl => ?_)
    refine lv_aload_n hx hb d_Tr_own_30 rfl (lv_at hl 1 rfl) ?_
    refine va_get (D := D) (ci := 3) (v := .ref h) (C := R_Tr) (T := F_Tr) (N := 6) hx hb hts i_Tr hown hK hP 0 rfl rfl 0 (by decide) (hts _ fl_Tr_15) (fun _ h9 => h9) rfl d_Tr_own_31 ?_
    refine lv_iload_n hx hb d_Tr_own_34 rfl (lv_at hl 2 rfl) ?_
    refine lv_iload_n hx hb d_Tr_own_35 rfl (lv_at hl 0 rfl) ?_
    refine q_callVv (As := [.int (nI b), .int (nI (qt_take T K 768 f hd).1)]) (rest := []) (wsC := [(h, .inr (1, [.ref a])), (a, .inl (cJ, 12544, .inr (.inl ((qt_take T K 768 f hd).2.1))))]) (wsR := [(tr, .inr (3, [.ref h, .ref x0, .ref x1, .ref tn, .ref tk, .int (nI ((qt_take T K 768 f hd).2.2))])), (tn, .inr (2, [.ref h, .int (nI T)])), (tk, .inr (2, [.ref h, .int (nI K)]))]) (wsC' := [(h, .inr (1, [.ref a])), (a, .inl (cJ, 12544, .inr (.inl (qv_dup ((qt_take T K 768 f hd).2.1) b ((qt_take T K 768 f hd).1)))))]) (wsN := [(tr, .inr (3, [.ref h, .ref x0, .ref x1, .ref tn, .ref tk, .int (nI ((qt_take T K 768 f hd).2.2))])), (tn, .inr (2, [.ref h, .int (nI T)])), (tk, .inr (2, [.ref h, .int (nI K)])), (h, .inr (1, [.ref a])), (a, .inl (cJ, 12544, .inr (.inl (qv_dup ((qt_take T K 768 f hd).2.1) b ((qt_take T K 768 f hd).1)))))]) (isT := [0]) (isC := [3, 4]) (isR := [0, 1, 2]) (isN := [0, 1, 2, 3, 4]) (k := 2) (ci := 1) (C := R_Im) ⟨hx, hb, hml, hown, hts⟩ (c_Im_duplicate l D cJ h a ((qt_take T K 768 f hd).2.1) b ((qt_take T K 768 f hd).1) (by omega) (by omega)) (tw_V ml_Tr_98 im_Im_duplicate se_Im_duplicate in_Im cd_Im_duplicate) rfl ⟨by decide +kernel, Nat.le_of_ble_eq_true rfl, Nat.le_of_ble_eq_true rfl⟩ ⟨Nat.le_of_ble_eq_true rfl, Nat.le_of_ble_eq_true rfl⟩ hK hP hD hS hA hN rfl ⟨rfl, rfl, rfl, by decide, by decide, by decide, by decide⟩ rfl rfl rfl hl.1 rfl rfl (Nat.le_of_ble_eq_true rfl) d_Tr_own_36 (fun H locs hP hD hS => ?_)
    refine lv_iconst (v := nI 0) hx hb d_Tr_own_39 (by decide) ?_
    refine lv_istore (lv' := [(4, .int (nI 0)), (3, .int (nI (qt_take T K 768 f hd).1)), (0, .ref tr), (1, .int (nI b)), (2, .int (nI 1))]) hx hb d_Tr_own_40 hl (by decide) rfl (fun ls hl => ?_)
    refine q_loop (pc := 42) (σ := Unit) (I := fun i u H locs ls => va_P D cls [(tr, .inr (3, [.ref h, .ref x0, .ref x1, .ref tn, .ref tk, .int (nI ((qt_take T K 768 f hd).2.2))])), (tn, .inr (2, [.ref h, .int (nI T)])), (tk, .inr (2, [.ref h, .int (nI K)])), (h, .inr (1, [.ref a])), (a, .inl (cJ, 12544, .inr (.inl (qv_for i (fun g i => qt_addW T g (qv_lk g (qt_take T K 768 f hd).1 i)) (qv_dup (qt_take T K 768 f hd).2.1 b (qt_take T K 768 f hd).1)))))] H ∧ va_D A [(tr, .inr (3, [.ref h, .ref x0, .ref x1, .ref tn, .ref tk, .int (nI ((qt_take T K 768 f hd).2.2))])), (tn, .inr (2, [.ref h, .int (nI T)])), (tk, .inr (2, [.ref h, .int (nI K)])), (h, .inr (1, [.ref a])), (a, .inl (cJ, 12544, .inr (.inl (qv_for i (fun g i => qt_addW T g (qv_lk g (qt_take T K 768 f hd).1 i)) (qv_dup (qt_take T K 768 f hd).2.1 b (qt_take T K 768 f hd).1)))))] ∧ va_S A s.heap H locs ∧ lv_has ls 5 [(0, .ref tr), (1, .int (nI b)), (2, .int (nI 1)), (3, .int (nI ((qt_take T K 768 f hd).1))), (4, .int (nI i))]) (32) ?_ ?_ (0) (()) _ _ _ (by omega) ⟨hP, hD, hS, lv_sub hl [2, 3, 4, 1, 0] rfl⟩
    · intro u H locs ls hI
      obtain ⟨hP, hD, hS, hl⟩ := hI
      refine lv_iload hx hb d_Tr_own_42 (lv_at hl 4 rfl) ?_
      refine lv_iload_n hx hb d_Tr_own_44 rfl (lv_at hl 2 rfl) ?_
      refine q_callSi (As := [.int (nI 1)]) (rest := [.int (nI 32)]) (wsC := []) (wsR := [(tr, .inr (3, [.ref h, .ref x0, .ref x1, .ref tn, .ref tk, .int (nI ((qt_take T K 768 f hd).2.2))])), (tn, .inr (2, [.ref h, .int (nI T)])), (tk, .inr (2, [.ref h, .int (nI K)])), (h, .inr (1, [.ref a])), (a, .inl (cJ, 12544, .inr (.inl (qv_for 32 (fun g i => qt_addW T g (qv_lk g (qt_take T K 768 f hd).1 i)) (qv_dup (qt_take T K 768 f hd).2.1 b (qt_take T K 768 f hd).1)))))]) (wsC' := []) (wsN := [(tr, .inr (3, [.ref h, .ref x0, .ref x1, .ref tn, .ref tk, .int (nI ((qt_take T K 768 f hd).2.2))])), (tn, .inr (2, [.ref h, .int (nI T)])), (tk, .inr (2, [.ref h, .int (nI K)])), (h, .inr (1, [.ref a])), (a, .inl (cJ, 12544, .inr (.inl (qv_for 32 (fun g i => qt_addW T g (qv_lk g (qt_take T K 768 f hd).1 i)) (qv_dup (qt_take T K 768 f hd).2.1 b (qt_take T K 768 f hd).1)))))]) (isT := []) (isC := []) (isR := [0, 1, 2, 3, 4]) (isN := [0, 1, 2, 3, 4]) (k := 1) ⟨hx, hb, hml, hown, hts⟩ (c_Tr_linksOf l D 1 (by omega)) (tw_S ml_Tr_101 st_Tr_linksOf in_Tr cd_Tr_linksOf) ⟨by decide +kernel, Nat.le_of_ble_eq_true rfl, Nat.le_of_ble_eq_true rfl⟩ ⟨Nat.le_of_ble_eq_true rfl, Nat.le_of_ble_eq_true rfl⟩ hK hP hD hS hA hN rfl ⟨rfl, rfl, rfl, by decide, by decide, by decide, by decide⟩ hl.1 rfl rfl (Nat.le_of_ble_eq_true rfl) d_Tr_own_45 (fun H locs hP hD hS => ?_)
      refine q_ti (y := nI 32) (rfl) ?_
      refine lv_icmp_ge (tgt := 71) hx hb d_Tr_own_48 (by decide) (fun c48 => ?_) (fun c48 => ?_)
      · have c48 : 32 ≤ 32 := (nI_leI (by omega) (by omega)).mp c48
        refine lv_aload_n hx hb d_Tr_own_71 rfl (lv_at hl 0 rfl) ?_
        refine lv_iload_n hx hb d_Tr_own_72 rfl (lv_at hl 1 rfl) ?_
        refine lv_iload_n hx hb d_Tr_own_73 rfl (lv_at hl 2 rfl) ?_
        refine q_callVv (As := [.int (nI b), .int (nI 1)]) (rest := []) (wsC := [(tr, .inr (3, [.ref h, .ref x0, .ref x1, .ref tn, .ref tk, .int (nI ((qt_take T K 768 f hd).2.2))])), (tn, .inr (2, [.ref h, .int (nI T)])), (tk, .inr (2, [.ref h, .int (nI K)])), (h, .inr (1, [.ref a])), (a, .inl (cJ, 12544, .inr (.inl (qv_for 32 (fun g i => qt_addW T g (qv_lk g (qt_take T K 768 f hd).1 i)) (qv_dup (qt_take T K 768 f hd).2.1 b (qt_take T K 768 f hd).1)))))]) (wsR := []) (wsC' := [(tr, .inr (3, [.ref h, .ref x0, .ref x1, .ref tn, .ref tk, .int (nI ((qt_take T K 768 f hd).2.2))])), (tn, .inr (2, [.ref h, .int (nI T)])), (tk, .inr (2, [.ref h, .int (nI K)])), (h, .inr (1, [.ref a])), (a, .inl (cJ, 12544, .inr (.inl (qt_rel T 1 (qv_for 32 (fun g i => qt_addW T g (qv_lk g (qt_take T K 768 f hd).1 i)) (qv_dup (qt_take T K 768 f hd).2.1 b (qt_take T K 768 f hd).1)) b))))]) (wsN := [(tr, .inr (3, [.ref h, .ref x0, .ref x1, .ref tn, .ref tk, .int (nI ((qt_take T K 768 f hd).2.2))])), (tn, .inr (2, [.ref h, .int (nI T)])), (tk, .inr (2, [.ref h, .int (nI K)])), (h, .inr (1, [.ref a])), (a, .inl (cJ, 12544, .inr (.inl (qt_rel T 1 (qv_for 32 (fun g i => qt_addW T g (qv_lk g (qt_take T K 768 f hd).1 i)) (qv_dup (qt_take T K 768 f hd).2.1 b (qt_take T K 768 f hd).1)) b))))]) (isT := [0]) (isC := [0, 1, 2, 3, 4]) (isR := []) (isN := [0, 1, 2, 3, 4]) (k := 2) (ci := 3) (C := R_Tr) ⟨hx, hb, hml, hown, hts⟩ (c_Tr_release1 l D cJ tr x0 x1 tn T tk K ((qt_take T K 768 f hd).2.2) h a (qv_for 32 (fun g i => qt_addW T g (qv_lk g (qt_take T K 768 f hd).1 i)) (qv_dup (qt_take T K 768 f hd).2.1 b (qt_take T K 768 f hd).1)) b (by omega) (by omega) (by omega) (by omega)) (tw_V ml_Tr_72 im_Tr_release se_Tr_release in_Tr cd_Tr_release) rfl ⟨by decide +kernel, Nat.le_of_ble_eq_true rfl, Nat.le_of_ble_eq_true rfl⟩ ⟨Nat.le_of_ble_eq_true rfl, Nat.le_of_ble_eq_true rfl⟩ hK hP hD hS hA hN rfl ⟨rfl, rfl, rfl, by decide, by decide, by decide, by decide⟩ rfl rfl rfl hl.1 rfl rfl (Nat.le_of_ble_eq_true rfl) d_Tr_own_74 (fun H locs hP hD hS => ?_)
        refine lv_iload_n hx hb d_Tr_own_77 rfl (lv_at hl 3 rfl) ?_
        exact q_iret hx hb hr hlk hK hP hD hS d_Tr_own_78 (by unfold qt_own; rw [if_neg (fun q => by have := q.1; have := q.2; omega)]) (by unfold qt_own; rw [if_neg (fun q => by have := q.1; have := q.2; omega)]; rfl)
      · have c48 : ¬ 32 ≤ 32 := fun h9 => c48 ((nI_leI (by omega) (by omega)).mpr h9)
        exfalso; omega
    · intro i u H locs ls hi hI ih
      obtain ⟨hP, hD, hS, hl⟩ := hI
      refine lv_iload hx hb d_Tr_own_42 (lv_at hl 4 rfl) ?_
      refine lv_iload_n hx hb d_Tr_own_44 rfl (lv_at hl 2 rfl) ?_
      refine q_callSi (As := [.int (nI 1)]) (rest := [.int (nI i)]) (wsC := []) (wsR := [(tr, .inr (3, [.ref h, .ref x0, .ref x1, .ref tn, .ref tk, .int (nI ((qt_take T K 768 f hd).2.2))])), (tn, .inr (2, [.ref h, .int (nI T)])), (tk, .inr (2, [.ref h, .int (nI K)])), (h, .inr (1, [.ref a])), (a, .inl (cJ, 12544, .inr (.inl (qv_for i (fun g i => qt_addW T g (qv_lk g (qt_take T K 768 f hd).1 i)) (qv_dup (qt_take T K 768 f hd).2.1 b (qt_take T K 768 f hd).1)))))]) (wsC' := []) (wsN := [(tr, .inr (3, [.ref h, .ref x0, .ref x1, .ref tn, .ref tk, .int (nI ((qt_take T K 768 f hd).2.2))])), (tn, .inr (2, [.ref h, .int (nI T)])), (tk, .inr (2, [.ref h, .int (nI K)])), (h, .inr (1, [.ref a])), (a, .inl (cJ, 12544, .inr (.inl (qv_for i (fun g i => qt_addW T g (qv_lk g (qt_take T K 768 f hd).1 i)) (qv_dup (qt_take T K 768 f hd).2.1 b (qt_take T K 768 f hd).1)))))]) (isT := []) (isC := []) (isR := [0, 1, 2, 3, 4]) (isN := [0, 1, 2, 3, 4]) (k := 1) ⟨hx, hb, hml, hown, hts⟩ (c_Tr_linksOf l D 1 (by omega)) (tw_S ml_Tr_101 st_Tr_linksOf in_Tr cd_Tr_linksOf) ⟨by decide +kernel, Nat.le_of_ble_eq_true rfl, Nat.le_of_ble_eq_true rfl⟩ ⟨Nat.le_of_ble_eq_true rfl, Nat.le_of_ble_eq_true rfl⟩ hK hP hD hS hA hN rfl ⟨rfl, rfl, rfl, by decide, by decide, by decide, by decide⟩ hl.1 rfl rfl (Nat.le_of_ble_eq_true rfl) d_Tr_own_45 (fun H locs hP hD hS => ?_)
      refine q_ti (y := nI 32) (rfl) ?_
      refine lv_icmp_ge (tgt := 71) hx hb d_Tr_own_48 (by decide) (fun c48 => ?_) (fun c48 => ?_)
      · have c48 : 32 ≤ i := (nI_leI (by omega) (by omega)).mp c48
        exfalso; omega
      · have c48 : ¬ 32 ≤ i := fun h9 => c48 ((nI_leI (by omega) (by omega)).mpr h9)
        refine lv_aload_n hx hb d_Tr_own_51 rfl (lv_at hl 0 rfl) ?_
        refine lv_aload_n hx hb d_Tr_own_52 rfl (lv_at hl 0 rfl) ?_
        refine va_get (D := D) (ci := 3) (v := .ref h) (C := R_Tr) (T := F_Tr) (N := 6) hx hb hts i_Tr hown hK hP 0 rfl rfl 0 (by decide) (hts _ fl_Tr_15) (fun _ h9 => h9) rfl d_Tr_own_53 ?_
        refine lv_iload_n hx hb d_Tr_own_56 rfl (lv_at hl 3 rfl) ?_
        refine lv_iload hx hb d_Tr_own_57 (lv_at hl 4 rfl) ?_
        refine q_callVi (As := [.int (nI ((qt_take T K 768 f hd).1)), .int (nI i)]) (rest := [.ref tr]) (wsC := [(h, .inr (1, [.ref a])), (a, .inl (cJ, 12544, .inr (.inl (qv_for i (fun g i => qt_addW T g (qv_lk g (qt_take T K 768 f hd).1 i)) (qv_dup (qt_take T K 768 f hd).2.1 b (qt_take T K 768 f hd).1)))))]) (wsR := [(tr, .inr (3, [.ref h, .ref x0, .ref x1, .ref tn, .ref tk, .int (nI ((qt_take T K 768 f hd).2.2))])), (tn, .inr (2, [.ref h, .int (nI T)])), (tk, .inr (2, [.ref h, .int (nI K)]))]) (wsC' := [(h, .inr (1, [.ref a])), (a, .inl (cJ, 12544, .inr (.inl ((qv_for i (fun g i => qt_addW T g (qv_lk g (qt_take T K 768 f hd).1 i)) (qv_dup (qt_take T K 768 f hd).2.1 b (qt_take T K 768 f hd).1))))))]) (wsN := [(tr, .inr (3, [.ref h, .ref x0, .ref x1, .ref tn, .ref tk, .int (nI ((qt_take T K 768 f hd).2.2))])), (tn, .inr (2, [.ref h, .int (nI T)])), (tk, .inr (2, [.ref h, .int (nI K)])), (h, .inr (1, [.ref a])), (a, .inl (cJ, 12544, .inr (.inl ((qv_for i (fun g i => qt_addW T g (qv_lk g (qt_take T K 768 f hd).1 i)) (qv_dup (qt_take T K 768 f hd).2.1 b (qt_take T K 768 f hd).1))))))]) (isT := [0]) (isC := [3, 4]) (isR := [0, 1, 2]) (isN := [0, 1, 2, 3, 4]) (k := 2) (ci := 1) (C := R_Im) ⟨hx, hb, hml, hown, hts⟩ (c_Im_linkAt l D cJ h a (qv_for i (fun g i => qt_addW T g (qv_lk g (qt_take T K 768 f hd).1 i)) (qv_dup (qt_take T K 768 f hd).2.1 b (qt_take T K 768 f hd).1)) ((qt_take T K 768 f hd).1) i (by omega) (by omega)) (tw_V ml_Tr_56 im_Im_linkAt se_Im_linkAt in_Im cd_Im_linkAt) rfl ⟨by decide +kernel, Nat.le_of_ble_eq_true rfl, Nat.le_of_ble_eq_true rfl⟩ ⟨Nat.le_of_ble_eq_true rfl, Nat.le_of_ble_eq_true rfl⟩ hK hP hD hS hA hN rfl ⟨rfl, rfl, rfl, by decide, by decide, by decide, by decide⟩ rfl rfl rfl hl.1 rfl rfl (Nat.le_of_ble_eq_true rfl) d_Tr_own_59 (fun H locs hP hD hS => ?_)
        have hq3 := qv_lk_lt (qv_for i (fun g i => qt_addW T g (qv_lk g (qt_take T K 768 f hd).1 i)) (qv_dup (qt_take T K 768 f hd).2.1 b (qt_take T K 768 f hd).1)) ((qt_take T K 768 f hd).1) i
        refine q_callVv (As := [.int (nI (qv_lk (qv_for i (fun g i => qt_addW T g (qv_lk g (qt_take T K 768 f hd).1 i)) (qv_dup (qt_take T K 768 f hd).2.1 b (qt_take T K 768 f hd).1)) ((qt_take T K 768 f hd).1) i))]) (rest := []) (wsC := [(tr, .inr (3, [.ref h, .ref x0, .ref x1, .ref tn, .ref tk, .int (nI ((qt_take T K 768 f hd).2.2))])), (tn, .inr (2, [.ref h, .int (nI T)])), (tk, .inr (2, [.ref h, .int (nI K)])), (h, .inr (1, [.ref a])), (a, .inl (cJ, 12544, .inr (.inl ((qv_for i (fun g i => qt_addW T g (qv_lk g (qt_take T K 768 f hd).1 i)) (qv_dup (qt_take T K 768 f hd).2.1 b (qt_take T K 768 f hd).1))))))]) (wsR := []) (wsC' := [(tr, .inr (3, [.ref h, .ref x0, .ref x1, .ref tn, .ref tk, .int (nI ((qt_take T K 768 f hd).2.2))])), (tn, .inr (2, [.ref h, .int (nI T)])), (tk, .inr (2, [.ref h, .int (nI K)])), (h, .inr (1, [.ref a])), (a, .inl (cJ, 12544, .inr (.inl (qt_addW T ((qv_for i (fun g i => qt_addW T g (qv_lk g (qt_take T K 768 f hd).1 i)) (qv_dup (qt_take T K 768 f hd).2.1 b (qt_take T K 768 f hd).1))) (qv_lk (qv_for i (fun g i => qt_addW T g (qv_lk g (qt_take T K 768 f hd).1 i)) (qv_dup (qt_take T K 768 f hd).2.1 b (qt_take T K 768 f hd).1)) ((qt_take T K 768 f hd).1) i)))))]) (wsN := [(tr, .inr (3, [.ref h, .ref x0, .ref x1, .ref tn, .ref tk, .int (nI ((qt_take T K 768 f hd).2.2))])), (tn, .inr (2, [.ref h, .int (nI T)])), (tk, .inr (2, [.ref h, .int (nI K)])), (h, .inr (1, [.ref a])), (a, .inl (cJ, 12544, .inr (.inl (qt_addW T ((qv_for i (fun g i => qt_addW T g (qv_lk g (qt_take T K 768 f hd).1 i)) (qv_dup (qt_take T K 768 f hd).2.1 b (qt_take T K 768 f hd).1))) (qv_lk (qv_for i (fun g i => qt_addW T g (qv_lk g (qt_take T K 768 f hd).1 i)) (qv_dup (qt_take T K 768 f hd).2.1 b (qt_take T K 768 f hd).1)) ((qt_take T K 768 f hd).1) i)))))]) (isT := [0]) (isC := [0, 1, 2, 3, 4]) (isR := []) (isN := [0, 1, 2, 3, 4]) (k := 1) (ci := 3) (C := R_Tr) ⟨hx, hb, hml, hown, hts⟩ (c_Tr_addWay l D cJ tr x0 x1 tn T tk K ((qt_take T K 768 f hd).2.2) h a (qv_for i (fun g i => qt_addW T g (qv_lk g (qt_take T K 768 f hd).1 i)) (qv_dup (qt_take T K 768 f hd).2.1 b (qt_take T K 768 f hd).1)) (qv_lk (qv_for i (fun g i => qt_addW T g (qv_lk g (qt_take T K 768 f hd).1 i)) (qv_dup (qt_take T K 768 f hd).2.1 b (qt_take T K 768 f hd).1)) ((qt_take T K 768 f hd).1) i) (by omega) (by omega) (by omega) (by omega)) (tw_V ml_Tr_68 im_Tr_addWay se_Tr_addWay in_Tr cd_Tr_addWay) rfl ⟨by decide +kernel, Nat.le_of_ble_eq_true rfl, Nat.le_of_ble_eq_true rfl⟩ ⟨Nat.le_of_ble_eq_true rfl, Nat.le_of_ble_eq_true rfl⟩ hK hP hD hS hA hN rfl ⟨rfl, rfl, rfl, by decide, by decide, by decide, by decide⟩ rfl rfl rfl hl.1 rfl rfl (Nat.le_of_ble_eq_true rfl) d_Tr_own_62 (fun H locs hP hD hS => ?_)
        refine lv_iinc (v := nI (i + 1)) (lv' := [(4, .int (nI (i + 1))), (0, .ref tr), (1, .int (nI b)), (2, .int (nI 1)), (3, .int (nI ((qt_take T K 768 f hd).1)))]) hx hb d_Tr_own_65 hl (k := 4) rfl (nI_1 _) (by decide) rfl (fun ls hl => ?_)
        refine lv_goto (tgt := 42) hx hb d_Tr_own_68 (by decide) ?_
        exact ih (()) _ _ _ ⟨hP, hD, hS, lv_sub hl [1, 2, 3, 4, 0] rfl⟩
  · have c9 : (qv_wy f T b) = 1 := (nI_eq (by omega) (by omega)).mp c9
    refine lv_aload_n hx hb d_Tr_own_12 rfl (lv_at hl 0 rfl) ?_
    refine va_get (D := D) (ci := 3) (v := .ref tk) (C := R_Tr) (T := F_Tr) (N := 6) hx hb hts i_Tr hown hK hP 0 rfl rfl 4 (by decide) (hts _ fl_Tr_31) (fun _ h9 => h9) rfl d_Tr_own_13 ?_
    refine lv_iload_n hx hb d_Tr_own_16 rfl (lv_at hl 1 rfl) ?_
    refine q_callVi (As := [.int (nI b)]) (rest := []) (wsC := [(tk, .inr (2, [.ref h, .int (nI K)])), (h, .inr (1, [.ref a])), (a, .inl (cJ, 12544, .inr (.inl (f))))]) (wsR := [(tr, .inr (3, [.ref h, .ref x0, .ref x1, .ref tn, .ref tk, .int (nI hd)])), (tn, .inr (2, [.ref h, .int (nI T)]))]) (wsC' := [(tk, .inr (2, [.ref h, .int (nI K)])), (h, .inr (1, [.ref a])), (a, .inl (cJ, 12544, .inr (.inl (f))))]) (wsN := [(tr, .inr (3, [.ref h, .ref x0, .ref x1, .ref tn, .ref tk, .int (nI hd)])), (tn, .inr (2, [.ref h, .int (nI T)])), (tk, .inr (2, [.ref h, .int (nI K)])), (h, .inr (1, [.ref a])), (a, .inl (cJ, 12544, .inr (.inl (f))))]) (isT := [0]) (isC := [2, 3, 4]) (isR := [0, 1]) (isN := [0, 1, 2, 3, 4]) (k := 1) (ci := 2) (C := R_Tb) ⟨hx, hb, hml, hown, hts⟩ (c_Tb_waysTo l D cJ tk K h a f b (by omega) (by omega)) (tw_V ml_Tr_41 im_Tb_waysTo se_Tb_waysTo in_Tb cd_Tb_waysTo) rfl ⟨by decide +kernel, Nat.le_of_ble_eq_true rfl, Nat.le_of_ble_eq_true rfl⟩ ⟨Nat.le_of_ble_eq_true rfl, Nat.le_of_ble_eq_true rfl⟩ hK hP hD hS hA hN rfl ⟨rfl, rfl, rfl, by decide, by decide, by decide, by decide⟩ rfl rfl rfl hl.1 rfl rfl (Nat.le_of_ble_eq_true rfl) d_Tr_own_17 (fun H locs hP hD hS => ?_)
    have hq4 := qv_wy_lt f K b
    refine lv_if_ne (tgt := 25) hx hb d_Tr_own_20 (by decide) (fun c20 => ?_) (fun c20 => ?_)
    · have c20 : ¬ (qv_wy f K b) = 0 := fun h9 => c20 ((q_z_eq (by omega)).mpr h9)
      refine lv_aload_n hx hb d_Tr_own_25 rfl (lv_at hl 0 rfl) ?_
      refine q_callVi (As := []) (rest := []) (wsC := [(tr, .inr (3, [.ref h, .ref x0, .ref x1, .ref tn, .ref tk, .int (nI hd)])), (tn, .inr (2, [.ref h, .int (nI T)])), (tk, .inr (2, [.ref h, .int (nI K)])), (h, .inr (1, [.ref a])), (a, .inl (cJ, 12544, .inr (.inl (f))))]) (wsR := []) (wsC' := [(tr, .inr (3, [.ref h, .ref x0, .ref x1, .ref tn, .ref tk, .int (nI ((qt_take T K 768 f hd).2.2))])), (tn, .inr (2, [.ref h, .int (nI T)])), (tk, .inr (2, [.ref h, .int (nI K)])), (h, .inr (1, [.ref a])), (a, .inl (cJ, 12544, .inr (.inl ((qt_take T K 768 f hd).2.1))))]) (wsN := [(tr, .inr (3, [.ref h, .ref x0, .ref x1, .ref tn, .ref tk, .int (nI ((qt_take T K 768 f hd).2.2))])), (tn, .inr (2, [.ref h, .int (nI T)])), (tk, .inr (2, [.ref h, .int (nI K)])), (h, .inr (1, [.ref a])), (a, .inl (cJ, 12544, .inr (.inl ((qt_take T K 768 f hd).2.1))))]) (isT := [0]) (isC := [0, 1, 2, 3, 4]) (isR := []) (isN := [0, 1, 2, 3, 4]) (k := 0) (ci := 3) (C := R_Tr) ⟨hx, hb, hml, hown, hts⟩ (c_Tr_take l D cJ tr x0 x1 tn T tk K hd h a f (by omega) (by omega) (by omega)) (tw_V ml_Tr_95 im_Tr_take se_Tr_take in_Tr cd_Tr_take) rfl ⟨by decide +kernel, Nat.le_of_ble_eq_true rfl, Nat.le_of_ble_eq_true rfl⟩ ⟨Nat.le_of_ble_eq_true rfl, Nat.le_of_ble_eq_true rfl⟩ hK hP hD hS hA hN rfl ⟨rfl, rfl, rfl, by decide, by decide, by decide, by decide⟩ rfl rfl rfl hl.1 rfl rfl (Nat.le_of_ble_eq_true rfl) d_Tr_own_26 (fun H locs hP hD hS => ?_)
      have hq5 := qt_take_lt T K 768 f hd khd
      refine lv_istore_n (lv' := [(3, .int (nI (qt_take T K 768 f hd).1)), (0, .ref tr), (1, .int (nI b)), (2, .int (nI 1))]) hx hb d_Tr_own_29 rfl hl (by decide) rfl (fun ls hl => ?_)
      refine lv_aload_n hx hb d_Tr_own_30 rfl (lv_at hl 1 rfl) ?_
      refine va_get (D := D) (ci := 3) (v := .ref h) (C := R_Tr) (T := F_Tr) (N := 6) hx hb hts i_Tr hown hK hP 0 rfl rfl 0 (by decide) (hts _ fl_Tr_15) (fun _ h9 => h9) rfl d_Tr_own_31 ?_
      refine lv_iload_n hx hb d_Tr_own_34 rfl (lv_at hl 2 rfl) ?_
      refine lv_iload_n hx hb d_Tr_own_35 rfl (lv_at hl 0 rfl) ?_
      refine q_callVv (As := [.int (nI b), .int (nI (qt_take T K 768 f hd).1)]) (rest := []) (wsC := [(h, .inr (1, [.ref a])), (a, .inl (cJ, 12544, .inr (.inl ((qt_take T K 768 f hd).2.1))))]) (wsR := [(tr, .inr (3, [.ref h, .ref x0, .ref x1, .ref tn, .ref tk, .int (nI ((qt_take T K 768 f hd).2.2))])), (tn, .inr (2, [.ref h, .int (nI T)])), (tk, .inr (2, [.ref h, .int (nI K)]))]) (wsC' := [(h, .inr (1, [.ref a])), (a, .inl (cJ, 12544, .inr (.inl (qv_dup ((qt_take T K 768 f hd).2.1) b ((qt_take T K 768 f hd).1)))))]) (wsN := [(tr, .inr (3, [.ref h, .ref x0, .ref x1, .ref tn, .ref tk, .int (nI ((qt_take T K 768 f hd).2.2))])), (tn, .inr (2, [.ref h, .int (nI T)])), (tk, .inr (2, [.ref h, .int (nI K)])), (h, .inr (1, [.ref a])), (a, .inl (cJ, 12544, .inr (.inl (qv_dup ((qt_take T K 768 f hd).2.1) b ((qt_take T K 768 f hd).1)))))]) (isT := [0]) (isC := [3, 4]) (isR := [0, 1, 2]) (isN := [0, 1, 2, 3, 4]) (k := 2) (ci := 1) (C := R_Im) ⟨hx, hb, hml, hown, hts⟩ (c_Im_duplicate l D cJ h a ((qt_take T K 768 f hd).2.1) b ((qt_take T K 768 f hd).1) (by omega) (by omega)) (tw_V ml_Tr_98 im_Im_duplicate se_Im_duplicate in_Im cd_Im_duplicate) rfl ⟨by decide +kernel, Nat.le_of_ble_eq_true rfl, Nat.le_of_ble_eq_true rfl⟩ ⟨Nat.le_of_ble_eq_true rfl, Nat.le_of_ble_eq_true rfl⟩ hK hP hD hS hA hN rfl ⟨rfl, rfl, rfl, by decide, by decide, by decide, by decide⟩ rfl rfl rfl hl.1 rfl rfl (Nat.le_of_ble_eq_true rfl) d_Tr_own_36 (fun H locs hP hD hS => ?_)
      refine lv_iconst (v := nI 0) hx hb d_Tr_own_39 (by decide) ?_
      refine lv_istore (lv' := [(4, .int (nI 0)), (3, .int (nI (qt_take T K 768 f hd).1)), (0, .ref tr), (1, .int (nI b)), (2, .int (nI 1))]) hx hb d_Tr_own_40 hl (by decide) rfl (fun ls hl => ?_)
      refine q_loop (pc := 42) (σ := Unit) (I := fun i u H locs ls => va_P D cls [(tr, .inr (3, [.ref h, .ref x0, .ref x1, .ref tn, .ref tk, .int (nI ((qt_take T K 768 f hd).2.2))])), (tn, .inr (2, [.ref h, .int (nI T)])), (tk, .inr (2, [.ref h, .int (nI K)])), (h, .inr (1, [.ref a])), (a, .inl (cJ, 12544, .inr (.inl (qv_for i (fun g i => qt_addW T g (qv_lk g (qt_take T K 768 f hd).1 i)) (qv_dup (qt_take T K 768 f hd).2.1 b (qt_take T K 768 f hd).1)))))] H ∧ va_D A [(tr, .inr (3, [.ref h, .ref x0, .ref x1, .ref tn, .ref tk, .int (nI ((qt_take T K 768 f hd).2.2))])), (tn, .inr (2, [.ref h, .int (nI T)])), (tk, .inr (2, [.ref h, .int (nI K)])), (h, .inr (1, [.ref a])), (a, .inl (cJ, 12544, .inr (.inl (qv_for i (fun g i => qt_addW T g (qv_lk g (qt_take T K 768 f hd).1 i)) (qv_dup (qt_take T K 768 f hd).2.1 b (qt_take T K 768 f hd).1)))))] ∧ va_S A s.heap H locs ∧ lv_has ls 5 [(0, .ref tr), (1, .int (nI b)), (2, .int (nI 1)), (3, .int (nI ((qt_take T K 768 f hd).1))), (4, .int (nI i))]) (32) ?_ ?_ (0) (()) _ _ _ (by omega) ⟨hP, hD, hS, lv_sub hl [2, 3, 4, 1, 0] rfl⟩
      · intro u H locs ls hI
        obtain ⟨hP, hD, hS, hl⟩ := hI
        refine lv_iload hx hb d_Tr_own_42 (lv_at hl 4 rfl) ?_
        refine lv_iload_n hx hb d_Tr_own_44 rfl (lv_at hl 2 rfl) ?_
        refine q_callSi (As := [.int (nI 1)]) (rest := [.int (nI 32)]) (wsC := []) (wsR := [(tr, .inr (3, [.ref h, .ref x0, .ref x1, .ref tn, .ref tk, .int (nI ((qt_take T K 768 f hd).2.2))])), (tn, .inr (2, [.ref h, .int (nI T)])), (tk, .inr (2, [.ref h, .int (nI K)])), (h, .inr (1, [.ref a])), (a, .inl (cJ, 12544, .inr (.inl (qv_for 32 (fun g i => qt_addW T g (qv_lk g (qt_take T K 768 f hd).1 i)) (qv_dup (qt_take T K 768 f hd).2.1 b (qt_take T K 768 f hd).1)))))]) (wsC' := []) (wsN := [(tr, .inr (3, [.ref h, .ref x0, .ref x1, .ref tn, .ref tk, .int (nI ((qt_take T K 768 f hd).2.2))])), (tn, .inr (2, [.ref h, .int (nI T)])), (tk, .inr (2, [.ref h, .int (nI K)])), (h, .inr (1, [.ref a])), (a, .inl (cJ, 12544, .inr (.inl (qv_for 32 (fun g i => qt_addW T g (qv_lk g (qt_take T K 768 f hd).1 i)) (qv_dup (qt_take T K 768 f hd).2.1 b (qt_take T K 768 f hd).1)))))]) (isT := []) (isC := []) (isR := [0, 1, 2, 3, 4]) (isN := [0, 1, 2, 3, 4]) (k := 1) ⟨hx, hb, hml, hown, hts⟩ (c_Tr_linksOf l D 1 (by omega)) (tw_S ml_Tr_101 st_Tr_linksOf in_Tr cd_Tr_linksOf) ⟨by decide +kernel, Nat.le_of_ble_eq_true rfl, Nat.le_of_ble_eq_true rfl⟩ ⟨Nat.le_of_ble_eq_true rfl, Nat.le_of_ble_eq_true rfl⟩ hK hP hD hS hA hN rfl ⟨rfl, rfl, rfl, by decide, by decide, by decide, by decide⟩ hl.1 rfl rfl (Nat.le_of_ble_eq_true rfl) d_Tr_own_45 (fun H locs hP hD hS => ?_)
        refine q_ti (y := nI 32) (rfl) ?_
        refine lv_icmp_ge (tgt := 71) hx hb d_Tr_own_48 (by decide) (fun c48 => ?_) (fun c48 => ?_)
        · have c48 : 32 ≤ 32 := (nI_leI (by omega) (by omega)).mp c48
          refine lv_aload_n hx hb d_Tr_own_71 rfl (lv_at hl 0 rfl) ?_
          refine lv_iload_n hx hb d_Tr_own_72 rfl (lv_at hl 1 rfl) ?_
          refine lv_iload_n hx hb d_Tr_own_73 rfl (lv_at hl 2 rfl) ?_
          refine q_callVv (As := [.int (nI b), .int (nI 1)]) (rest := []) (wsC := [(tr, .inr (3, [.ref h, .ref x0, .ref x1, .ref tn, .ref tk, .int (nI ((qt_take T K 768 f hd).2.2))])), (tn, .inr (2, [.ref h, .int (nI T)])), (tk, .inr (2, [.ref h, .int (nI K)])), (h, .inr (1, [.ref a])), (a, .inl (cJ, 12544, .inr (.inl (qv_for 32 (fun g i => qt_addW T g (qv_lk g (qt_take T K 768 f hd).1 i)) (qv_dup (qt_take T K 768 f hd).2.1 b (qt_take T K 768 f hd).1)))))]) (wsR := []) (wsC' := [(tr, .inr (3, [.ref h, .ref x0, .ref x1, .ref tn, .ref tk, .int (nI ((qt_take T K 768 f hd).2.2))])), (tn, .inr (2, [.ref h, .int (nI T)])), (tk, .inr (2, [.ref h, .int (nI K)])), (h, .inr (1, [.ref a])), (a, .inl (cJ, 12544, .inr (.inl (qt_rel T 1 (qv_for 32 (fun g i => qt_addW T g (qv_lk g (qt_take T K 768 f hd).1 i)) (qv_dup (qt_take T K 768 f hd).2.1 b (qt_take T K 768 f hd).1)) b))))]) (wsN := [(tr, .inr (3, [.ref h, .ref x0, .ref x1, .ref tn, .ref tk, .int (nI ((qt_take T K 768 f hd).2.2))])), (tn, .inr (2, [.ref h, .int (nI T)])), (tk, .inr (2, [.ref h, .int (nI K)])), (h, .inr (1, [.ref a])), (a, .inl (cJ, 12544, .inr (.inl (qt_rel T 1 (qv_for 32 (fun g i => qt_addW T g (qv_lk g (qt_take T K 768 f hd).1 i)) (qv_dup (qt_take T K 768 f hd).2.1 b (qt_take T K 768 f hd).1)) b))))]) (isT := [0]) (isC := [0, 1, 2, 3, 4]) (isR := []) (isN := [0, 1, 2, 3, 4]) (k := 2) (ci := 3) (C := R_Tr) ⟨hx, hb, hml, hown, hts⟩ (c_Tr_release1 l D cJ tr x0 x1 tn T tk K ((qt_take T K 768 f hd).2.2) h a (qv_for 32 (fun g i => qt_addW T g (qv_lk g (qt_take T K 768 f hd).1 i)) (qv_dup (qt_take T K 768 f hd).2.1 b (qt_take T K 768 f hd).1)) b (by omega) (by omega) (by omega) (by omega)) (tw_V ml_Tr_72 im_Tr_release se_Tr_release in_Tr cd_Tr_release) rfl ⟨by decide +kernel, Nat.le_of_ble_eq_true rfl, Nat.le_of_ble_eq_true rfl⟩ ⟨Nat.le_of_ble_eq_true rfl, Nat.le_of_ble_eq_true rfl⟩ hK hP hD hS hA hN rfl ⟨rfl, rfl, rfl, by decide, by decide, by decide, by decide⟩ rfl rfl rfl hl.1 rfl rfl (Nat.le_of_ble_eq_true rfl) d_Tr_own_74 (fun H locs hP hD hS => ?_)
          refine lv_iload_n hx hb d_Tr_own_77 rfl (lv_at hl 3 rfl) ?_
          exact q_iret hx hb hr hlk hK hP hD hS d_Tr_own_78 (by unfold qt_own; rw [if_neg (fun q => by have := q.1; have := q.2; omega)]) (by unfold qt_own; rw [if_neg (fun q => by have := q.1; have := q.2; omega)]; rfl)
        · have c48 : ¬ 32 ≤ 32 := fun h9 => c48 ((nI_leI (by omega) (by omega)).mpr h9)
          exfalso; omega
      · intro i u H locs ls hi hI ih
        obtain ⟨hP, hD, hS, hl⟩ := hI
        refine lv_iload hx hb d_Tr_own_42 (lv_at hl 4 rfl) ?_
        refine lv_iload_n hx hb d_Tr_own_44 rfl (lv_at hl 2 rfl) ?_
        refine q_callSi (As := [.int (nI 1)]) (rest := [.int (nI i)]) (wsC := []) (wsR := [(tr, .inr (3, [.ref h, .ref x0, .ref x1, .ref tn, .ref tk, .int (nI ((qt_take T K 768 f hd).2.2))])), (tn, .inr (2, [.ref h, .int (nI T)])), (tk, .inr (2, [.ref h, .int (nI K)])), (h, .inr (1, [.ref a])), (a, .inl (cJ, 12544, .inr (.inl (qv_for i (fun g i => qt_addW T g (qv_lk g (qt_take T K 768 f hd).1 i)) (qv_dup (qt_take T K 768 f hd).2.1 b (qt_take T K 768 f hd).1)))))]) (wsC' := []) (wsN := [(tr, .inr (3, [.ref h, .ref x0, .ref x1, .ref tn, .ref tk, .int (nI ((qt_take T K 768 f hd).2.2))])), (tn, .inr (2, [.ref h, .int (nI T)])), (tk, .inr (2, [.ref h, .int (nI K)])), (h, .inr (1, [.ref a])), (a, .inl (cJ, 12544, .inr (.inl (qv_for i (fun g i => qt_addW T g (qv_lk g (qt_take T K 768 f hd).1 i)) (qv_dup (qt_take T K 768 f hd).2.1 b (qt_take T K 768 f hd).1)))))]) (isT := []) (isC := []) (isR := [0, 1, 2, 3, 4]) (isN := [0, 1, 2, 3, 4]) (k := 1) ⟨hx, hb, hml, hown, hts⟩ (c_Tr_linksOf l D 1 (by omega)) (tw_S ml_Tr_101 st_Tr_linksOf in_Tr cd_Tr_linksOf) ⟨by decide +kernel, Nat.le_of_ble_eq_true rfl, Nat.le_of_ble_eq_true rfl⟩ ⟨Nat.le_of_ble_eq_true rfl, Nat.le_of_ble_eq_true rfl⟩ hK hP hD hS hA hN rfl ⟨rfl, rfl, rfl, by decide, by decide, by decide, by decide⟩ hl.1 rfl rfl (Nat.le_of_ble_eq_true rfl) d_Tr_own_45 (fun H locs hP hD hS => ?_)
        refine q_ti (y := nI 32) (rfl) ?_
        refine lv_icmp_ge (tgt := 71) hx hb d_Tr_own_48 (by decide) (fun c48 => ?_) (fun c48 => ?_)
        · have c48 : 32 ≤ i := (nI_leI (by omega) (by omega)).mp c48
          exfalso; omega
        · have c48 : ¬ 32 ≤ i := fun h9 => c48 ((nI_leI (by omega) (by omega)).mpr h9)
          refine lv_aload_n hx hb d_Tr_own_51 rfl (lv_at hl 0 rfl) ?_
          refine lv_aload_n hx hb d_Tr_own_52 rfl (lv_at hl 0 rfl) ?_
          refine va_get (D := D) (ci := 3) (v := .ref h) (C := R_Tr) (T := F_Tr) (N := 6) hx hb hts i_Tr hown hK hP 0 rfl rfl 0 (by decide) (hts _ fl_Tr_15) (fun _ h9 => h9) rfl d_Tr_own_53 ?_
          refine lv_iload_n hx hb d_Tr_own_56 rfl (lv_at hl 3 rfl) ?_
          refine lv_iload hx hb d_Tr_own_57 (lv_at hl 4 rfl) ?_
          refine q_callVi (As := [.int (nI ((qt_take T K 768 f hd).1)), .int (nI i)]) (rest := [.ref tr]) (wsC := [(h, .inr (1, [.ref a])), (a, .inl (cJ, 12544, .inr (.inl (qv_for i (fun g i => qt_addW T g (qv_lk g (qt_take T K 768 f hd).1 i)) (qv_dup (qt_take T K 768 f hd).2.1 b (qt_take T K 768 f hd).1)))))]) (wsR := [(tr, .inr (3, [.ref h, .ref x0, .ref x1, .ref tn, .ref tk, .int (nI ((qt_take T K 768 f hd).2.2))])), (tn, .inr (2, [.ref h, .int (nI T)])), (tk, .inr (2, [.ref h, .int (nI K)]))]) (wsC' := [(h, .inr (1, [.ref a])), (a, .inl (cJ, 12544, .inr (.inl ((qv_for i (fun g i => qt_addW T g (qv_lk g (qt_take T K 768 f hd).1 i)) (qv_dup (qt_take T K 768 f hd).2.1 b (qt_take T K 768 f hd).1))))))]) (wsN := [(tr, .inr (3, [.ref h, .ref x0, .ref x1, .ref tn, .ref tk, .int (nI ((qt_take T K 768 f hd).2.2))])), (tn, .inr (2, [.ref h, .int (nI T)])), (tk, .inr (2, [.ref h, .int (nI K)])), (h, .inr (1, [.ref a])), (a, .inl (cJ, 12544, .inr (.inl ((qv_for i (fun g i => qt_addW T g (qv_lk g (qt_take T K 768 f hd).1 i)) (qv_dup (qt_take T K 768 f hd).2.1 b (qt_take T K 768 f hd).1))))))]) (isT := [0]) (isC := [3, 4]) (isR := [0, 1, 2]) (isN := [0, 1, 2, 3, 4]) (k := 2) (ci := 1) (C := R_Im) ⟨hx, hb, hml, hown, hts⟩ (c_Im_linkAt l D cJ h a (qv_for i (fun g i => qt_addW T g (qv_lk g (qt_take T K 768 f hd).1 i)) (qv_dup (qt_take T K 768 f hd).2.1 b (qt_take T K 768 f hd).1)) ((qt_take T K 768 f hd).1) i (by omega) (by omega)) (tw_V ml_Tr_56 im_Im_linkAt se_Im_linkAt in_Im cd_Im_linkAt) rfl ⟨by decide +kernel, Nat.le_of_ble_eq_true rfl, Nat.le_of_ble_eq_true rfl⟩ ⟨Nat.le_of_ble_eq_true rfl, Nat.le_of_ble_eq_true rfl⟩ hK hP hD hS hA hN rfl ⟨rfl, rfl, rfl, by decide, by decide, by decide, by decide⟩ rfl rfl rfl hl.1 rfl rfl (Nat.le_of_ble_eq_true rfl) d_Tr_own_59 (fun H locs hP hD hS => ?_)
          have hq6 := qv_lk_lt (qv_for i (fun g i => qt_addW T g (qv_lk g (qt_take T K 768 f hd).1 i)) (qv_dup (qt_take T K 768 f hd).2.1 b (qt_take T K 768 f hd).1)) ((qt_take T K 768 f hd).1) i
          refine q_callVv (As := [.int (nI (qv_lk (qv_for i (fun g i => qt_addW T g (qv_lk g (qt_take T K 768 f hd).1 i)) (qv_dup (qt_take T K 768 f hd).2.1 b (qt_take T K 768 f hd).1)) ((qt_take T K 768 f hd).1) i))]) (rest := []) (wsC := [(tr, .inr (3, [.ref h, .ref x0, .ref x1, .ref tn, .ref tk, .int (nI ((qt_take T K 768 f hd).2.2))])), (tn, .inr (2, [.ref h, .int (nI T)])), (tk, .inr (2, [.ref h, .int (nI K)])), (h, .inr (1, [.ref a])), (a, .inl (cJ, 12544, .inr (.inl ((qv_for i (fun g i => qt_addW T g (qv_lk g (qt_take T K 768 f hd).1 i)) (qv_dup (qt_take T K 768 f hd).2.1 b (qt_take T K 768 f hd).1))))))]) (wsR := []) (wsC' := [(tr, .inr (3, [.ref h, .ref x0, .ref x1, .ref tn, .ref tk, .int (nI ((qt_take T K 768 f hd).2.2))])), (tn, .inr (2, [.ref h, .int (nI T)])), (tk, .inr (2, [.ref h, .int (nI K)])), (h, .inr (1, [.ref a])), (a, .inl (cJ, 12544, .inr (.inl (qt_addW T ((qv_for i (fun g i => qt_addW T g (qv_lk g (qt_take T K 768 f hd).1 i)) (qv_dup (qt_take T K 768 f hd).2.1 b (qt_take T K 768 f hd).1))) (qv_lk (qv_for i (fun g i => qt_addW T g (qv_lk g (qt_take T K 768 f hd).1 i)) (qv_dup (qt_take T K 768 f hd).2.1 b (qt_take T K 768 f hd).1)) ((qt_take T K 768 f hd).1) i)))))]) (wsN := [(tr, .inr (3, [.ref h, .ref x0, .ref x1, .ref tn, .ref tk, .int (nI ((qt_take T K 768 f hd).2.2))])), (tn, .inr (2, [.ref h, .int (nI T)])), (tk, .inr (2, [.ref h, .int (nI K)])), (h, .inr (1, [.ref a])), (a, .inl (cJ, 12544, .inr (.inl (qt_addW T ((qv_for i (fun g i => qt_addW T g (qv_lk g (qt_take T K 768 f hd).1 i)) (qv_dup (qt_take T K 768 f hd).2.1 b (qt_take T K 768 f hd).1))) (qv_lk (qv_for i (fun g i => qt_addW T g (qv_lk g (qt_take T K 768 f hd).1 i)) (qv_dup (qt_take T K 768 f hd).2.1 b (qt_take T K 768 f hd).1)) ((qt_take T K 768 f hd).1) i)))))]) (isT := [0]) (isC := [0, 1, 2, 3, 4]) (isR := []) (isN := [0, 1, 2, 3, 4]) (k := 1) (ci := 3) (C := R_Tr) ⟨hx, hb, hml, hown, hts⟩ (c_Tr_addWay l D cJ tr x0 x1 tn T tk K ((qt_take T K 768 f hd).2.2) h a (qv_for i (fun g i => qt_addW T g (qv_lk g (qt_take T K 768 f hd).1 i)) (qv_dup (qt_take T K 768 f hd).2.1 b (qt_take T K 768 f hd).1)) (qv_lk (qv_for i (fun g i => qt_addW T g (qv_lk g (qt_take T K 768 f hd).1 i)) (qv_dup (qt_take T K 768 f hd).2.1 b (qt_take T K 768 f hd).1)) ((qt_take T K 768 f hd).1) i) (by omega) (by omega) (by omega) (by omega)) (tw_V ml_Tr_68 im_Tr_addWay se_Tr_addWay in_Tr cd_Tr_addWay) rfl ⟨by decide +kernel, Nat.le_of_ble_eq_true rfl, Nat.le_of_ble_eq_true rfl⟩ ⟨Nat.le_of_ble_eq_true rfl, Nat.le_of_ble_eq_true rfl⟩ hK hP hD hS hA hN rfl ⟨rfl, rfl, rfl, by decide, by decide, by decide, by decide⟩ rfl rfl rfl hl.1 rfl rfl (Nat.le_of_ble_eq_true rfl) d_Tr_own_62 (fun H locs hP hD hS => ?_)
          refine lv_iinc (v := nI (i + 1)) (lv' := [(4, .int (nI (i + 1))), (0, .ref tr), (1, .int (nI b)), (2, .int (nI 1)), (3, .int (nI ((qt_take T K 768 f hd).1)))]) hx hb d_Tr_own_65 hl (k := 4) rfl (nI_1 _) (by decide) rfl (fun ls hl => ?_)
          refine lv_goto (tgt := 42) hx hb d_Tr_own_68 (by decide) ?_
          exact ih (()) _ _ _ ⟨hP, hD, hS, lv_sub hl [1, 2, 3, 4, 0] rfl⟩
    · have c20 : (qv_wy f K b) = 0 := (q_z_eq (by omega)).mp c20
      refine lv_iload_n hx hb d_Tr_own_23 rfl (lv_at hl 1 rfl) ?_
      exact q_iret hx hb hr hlk hK hP hD hS d_Tr_own_24 (by unfold qt_own; rw [if_pos ⟨by omega, by omega⟩]) (by unfold qt_own; rw [if_pos ⟨by omega, by omega⟩])
set_option maxHeartbeats 4000000 in
set_option maxRecDepth 100000 in
theorem c_Tr_own2 (l : Launch) (D : va_G) (cJ : ClassId) (tr : Nat) (x0 : Nat) (x1 : Nat) (tn : Nat) (T : Nat) (tk : Nat) (K : Nat) (hd : Nat) (h : Nat) (a : Nat) (f : Nat → Int64) (b : Nat) (kT : T < 1000) (kK : K < 1000) (khd : hd < 784) (kb : b < 65536) : qMi l y_Tr_own b_Tr_own 5 (some .int) (rmL 6) D [(cJ, .long)] [.ref tr, .int (nI b), .int (nI 2)] [(tr, .inr (3, [.ref h, .ref x0, .ref x1, .ref tn, .ref tk, .int (nI hd)])), (tn, .inr (2, [.ref h, .int (nI T)])), (tk, .inr (2, [.ref h, .int (nI K)])), (h, .inr (1, [.ref a])), (a, .inl (cJ, 12544, .inr (.inl (f))))] [(tr, .inr (3, [.ref h, .ref x0, .ref x1, .ref tn, .ref tk, .int (nI ((qt_own T K 2 f hd b).2.2))])), (tn, .inr (2, [.ref h, .int (nI T)])), (tk, .inr (2, [.ref h, .int (nI K)])), (h, .inr (1, [.ref a])), (a, .inl (cJ, 12544, .inr (.inl ((qt_own T K 2 f hd b).2.1))))] (nI (qt_own T K 2 f hd b).1) := by
  refine q_start (Qc := qZi D _ _ _) (by decide +kernel) (Nat.le_of_ble_eq_true rfl) ?_
  intro p e s m below meth c A hx hb hr hlk hml hown hts hK hP hD hS hA hN ls hl
  have hl : lv_has ls 5 [(0, .ref tr), (1, .int (nI b)), (2, .int (nI 2))] := hl
  have hP : va_P D cls [(tr, .inr (3, [.ref h, .ref x0, .ref x1, .ref tn, .ref tk, .int (nI hd)])), (tn, .inr (2, [.ref h, .int (nI T)])), (tk, .inr (2, [.ref h, .int (nI K)])), (h, .inr (1, [.ref a])), (a, .inl (cJ, 12544, .inr (.inl (f))))] s.heap := hP
  have hD : va_D A [(tr, .inr (3, [.ref h, .ref x0, .ref x1, .ref tn, .ref tk, .int (nI hd)])), (tn, .inr (2, [.ref h, .int (nI T)])), (tk, .inr (2, [.ref h, .int (nI K)])), (h, .inr (1, [.ref a])), (a, .inl (cJ, 12544, .inr (.inl (f))))] := hD
  refine lv_aload_n hx hb d_Tr_own_0 rfl (lv_at hl 0 rfl) ?_
  refine va_get (D := D) (ci := 3) (v := .ref tn) (C := R_Tr) (T := F_Tr) (N := 6) hx hb hts i_Tr hown hK hP 0 rfl rfl 3 (by decide) (hts _ fl_Tr_34) (fun _ h9 => h9) rfl d_Tr_own_1 ?_
  refine lv_iload_n hx hb d_Tr_own_4 rfl (lv_at hl 1 rfl) ?_
  refine q_callVi (As := [.int (nI b)]) (rest := []) (wsC := [(tn, .inr (2, [.ref h, .int (nI T)])), (h, .inr (1, [.ref a])), (a, .inl (cJ, 12544, .inr (.inl (f))))]) (wsR := [(tr, .inr (3, [.ref h, .ref x0, .ref x1, .ref tn, .ref tk, .int (nI hd)])), (tk, .inr (2, [.ref h, .int (nI K)]))]) (wsC' := [(tn, .inr (2, [.ref h, .int (nI T)])), (h, .inr (1, [.ref a])), (a, .inl (cJ, 12544, .inr (.inl (f))))]) (wsN := [(tr, .inr (3, [.ref h, .ref x0, .ref x1, .ref tn, .ref tk, .int (nI hd)])), (tn, .inr (2, [.ref h, .int (nI T)])), (tk, .inr (2, [.ref h, .int (nI K)])), (h, .inr (1, [.ref a])), (a, .inl (cJ, 12544, .inr (.inl (f))))]) (isT := [0]) (isC := [1, 3, 4]) (isR := [0, 2]) (isN := [0, 2, 1, 3, 4]) (k := 1) (ci := 2) (C := R_Tb) ⟨hx, hb, hml, hown, hts⟩ (c_Tb_waysTo l D cJ tn T h a f b (by omega) (by omega)) (tw_V ml_Tr_41 im_Tb_waysTo se_Tb_waysTo in_Tb cd_Tb_waysTo) rfl ⟨by decide +kernel, Nat.le_of_ble_eq_true rfl, Nat.le_of_ble_eq_true rfl⟩ ⟨Nat.le_of_ble_eq_true rfl, Nat.le_of_ble_eq_true rfl⟩ hK hP hD hS hA hN rfl ⟨rfl, rfl, rfl, by decide, by decide, by decide, by decide⟩ rfl rfl rfl hl.1 rfl rfl (Nat.le_of_ble_eq_true rfl) d_Tr_own_5 (fun H locs hP hD hS => ?_)
  have hq1 := qv_wy_lt f T b
  refine lv_iconst (v := nI 1) hx hb d_Tr_own_8 (by decide) ?_
  refine lv_icmp_ne (tgt := 25) hx hb d_Tr_own_9 (by decide) (fun c9 => ?_) (fun c9 => ?_)
  · have c9 : ¬ (qv_wy f T b) = 1 := fun h9 => c9 ((nI_eq (by omega) (by omega)).mpr h9)
    refine lv_aload_n hx hb d_Tr_own_25 rfl (lv_at hl 0 rfl) ?_
    refine q_callVi (As := []) (rest := []) (wsC := [(tr, .inr (3, [.ref h, .ref x0, .ref x1, .ref tn, .ref tk, .int (nI hd)])), (tn, .inr (2, [.ref h, .int (nI T)])), (tk, .inr (2, [.ref h, .int (nI K)])), (h, .inr (1, [.ref a])), (a, .inl (cJ, 12544, .inr (.inl (f))))]) (wsR := []) (wsC' := [(tr, .inr (3, [.ref h, .ref x0, .ref x1, .ref tn, .ref tk, .int (nI ((qt_take T K 768 f hd).2.2))])), (tn, .inr (2, [.ref h, .int (nI T)])), (tk, .inr (2, [.ref h, .int (nI K)])), (h, .inr (1, [.ref a])), (a, .inl (cJ, 12544, .inr (.inl ((qt_take T K 768 f hd).2.1))))]) (wsN := [(tr, .inr (3, [.ref h, .ref x0, .ref x1, .ref tn, .ref tk, .int (nI ((qt_take T K 768 f hd).2.2))])), (tn, .inr (2, [.ref h, .int (nI T)])), (tk, .inr (2, [.ref h, .int (nI K)])), (h, .inr (1, [.ref a])), (a, .inl (cJ, 12544, .inr (.inl ((qt_take T K 768 f hd).2.1))))]) (isT := [0]) (isC := [0, 1, 2, 3, 4]) (isR := []) (isN := [0, 1, 2, 3, 4]) (k := 0) (ci := 3) (C := R_Tr) ⟨hx, hb, hml, hown, hts⟩ (c_Tr_take l D cJ tr x0 x1 tn T tk K hd h a f (by omega) (by omega) (by omega)) (tw_V ml_Tr_95 im_Tr_take se_Tr_take in_Tr cd_Tr_take) rfl ⟨by decide +kernel, Nat.le_of_ble_eq_true rfl, Nat.le_of_ble_eq_true rfl⟩ ⟨Nat.le_of_ble_eq_true rfl, Nat.le_of_ble_eq_true rfl⟩ hK hP hD hS hA hN rfl ⟨rfl, rfl, rfl, by decide, by decide, by decide, by decide⟩ rfl rfl rfl hl.1 rfl rfl (Nat.le_of_ble_eq_true rfl) d_Tr_own_26 (fun H locs hP hD hS => ?_)
    have hq2 := qt_take_lt T K 768 f hd khd
    refine lv_istore_n (lv' := [(3, .int (nI (qt_take T K 768 f hd).1)), (0, .ref tr), (1, .int (nI b)), (2, .int (nI 2))]) hx hb d_Tr_own_29 rfl hl (by decide) rfl (fun ls hl => ?_)
    refine lv_aload_n hx hb d_Tr_own_30 rfl (lv_at hl 1 rfl) ?_
    refine va_get (D := D) (ci := 3) (v := .ref h) (C := R_Tr) (T := F_Tr) (N := 6) hx hb hts i_Tr hown hK hP 0 rfl rfl 0 (by decide) (hts _ fl_Tr_15) (fun _ h9 => h9) rfl d_Tr_own_31 ?_
    refine lv_iload_n hx hb d_Tr_own_34 rfl (lv_at hl 2 rfl) ?_
    refine lv_iload_n hx hb d_Tr_own_35 rfl (lv_at hl 0 rfl) ?_
    refine q_callVv (As := [.int (nI b), .int (nI (qt_take T K 768 f hd).1)]) (rest := []) (wsC := [(h, .inr (1, [.ref a])), (a, .inl (cJ, 12544, .inr (.inl ((qt_take T K 768 f hd).2.1))))]) (wsR := [(tr, .inr (3, [.ref h, .ref x0, .ref x1, .ref tn, .ref tk, .int (nI ((qt_take T K 768 f hd).2.2))])), (tn, .inr (2, [.ref h, .int (nI T)])), (tk, .inr (2, [.ref h, .int (nI K)]))]) (wsC' := [(h, .inr (1, [.ref a])), (a, .inl (cJ, 12544, .inr (.inl (qv_dup ((qt_take T K 768 f hd).2.1) b ((qt_take T K 768 f hd).1)))))]) (wsN := [(tr, .inr (3, [.ref h, .ref x0, .ref x1, .ref tn, .ref tk, .int (nI ((qt_take T K 768 f hd).2.2))])), (tn, .inr (2, [.ref h, .int (nI T)])), (tk, .inr (2, [.ref h, .int (nI K)])), (h, .inr (1, [.ref a])), (a, .inl (cJ, 12544, .inr (.inl (qv_dup ((qt_take T K 768 f hd).2.1) b ((qt_take T K 768 f hd).1)))))]) (isT := [0]) (isC := [3, 4]) (isR := [0, 1, 2]) (isN := [0, 1, 2, 3, 4]) (k := 2) (ci := 1) (C := R_Im) ⟨hx, hb, hml, hown, hts⟩ (c_Im_duplicate l D cJ h a ((qt_take T K 768 f hd).2.1) b ((qt_take T K 768 f hd).1) (by omega) (by omega)) (tw_V ml_Tr_98 im_Im_duplicate se_Im_duplicate in_Im cd_Im_duplicate) rfl ⟨by decide +kernel, Nat.le_of_ble_eq_true rfl, Nat.le_of_ble_eq_true rfl⟩ ⟨Nat.le_of_ble_eq_true rfl, Nat.le_of_ble_eq_true rfl⟩ hK hP hD hS hA hN rfl ⟨rfl, rfl, rfl, by decide, by decide, by decide, by decide⟩ rfl rfl rfl hl.1 rfl rfl (Nat.le_of_ble_eq_true rfl) d_Tr_own_36 (fun H locs hP hD hS => ?_)
    refine lv_iconst (v := nI 0) hx hb d_Tr_own_39 (by decide) ?_
    refine lv_istore (lv' := [(4, .int (nI 0)), (3, .int (nI (qt_take T K 768 f hd).1)), (0, .ref tr), (1, .int (nI b)), (2, .int (nI 2))]) hx hb d_Tr_own_40 hl (by decide) rfl (fun ls hl => ?_)
    refine q_loop (pc := 42) (σ := Unit) (I := fun i u H locs ls => va_P D cls [(tr, .inr (3, [.ref h, .ref x0, .ref x1, .ref tn, .ref tk, .int (nI ((qt_take T K 768 f hd).2.2))])), (tn, .inr (2, [.ref h, .int (nI T)])), (tk, .inr (2, [.ref h, .int (nI K)])), (h, .inr (1, [.ref a])), (a, .inl (cJ, 12544, .inr (.inl (qv_for i (fun g i => qt_addW T g (qv_lk g (qt_take T K 768 f hd).1 i)) (qv_dup (qt_take T K 768 f hd).2.1 b (qt_take T K 768 f hd).1)))))] H ∧ va_D A [(tr, .inr (3, [.ref h, .ref x0, .ref x1, .ref tn, .ref tk, .int (nI ((qt_take T K 768 f hd).2.2))])), (tn, .inr (2, [.ref h, .int (nI T)])), (tk, .inr (2, [.ref h, .int (nI K)])), (h, .inr (1, [.ref a])), (a, .inl (cJ, 12544, .inr (.inl (qv_for i (fun g i => qt_addW T g (qv_lk g (qt_take T K 768 f hd).1 i)) (qv_dup (qt_take T K 768 f hd).2.1 b (qt_take T K 768 f hd).1)))))] ∧ va_S A s.heap H locs ∧ lv_has ls 5 [(0, .ref tr), (1, .int (nI b)), (2, .int (nI 2)), (3, .int (nI ((qt_take T K 768 f hd).1))), (4, .int (nI i))]) (4) ?_ ?_ (0) (()) _ _ _ (by omega) ⟨hP, hD, hS, lv_sub hl [2, 3, 4, 1, 0] rfl⟩
    · intro u H locs ls hI
      obtain ⟨hP, hD, hS, hl⟩ := hI
      refine lv_iload hx hb d_Tr_own_42 (lv_at hl 4 rfl) ?_
      refine lv_iload_n hx hb d_Tr_own_44 rfl (lv_at hl 2 rfl) ?_
      refine q_callSi (As := [.int (nI 2)]) (rest := [.int (nI 4)]) (wsC := []) (wsR := [(tr, .inr (3, [.ref h, .ref x0, .ref x1, .ref tn, .ref tk, .int (nI ((qt_take T K 768 f hd).2.2))])), (tn, .inr (2, [.ref h, .int (nI T)])), (tk, .inr (2, [.ref h, .int (nI K)])), (h, .inr (1, [.ref a])), (a, .inl (cJ, 12544, .inr (.inl (qv_for 4 (fun g i => qt_addW T g (qv_lk g (qt_take T K 768 f hd).1 i)) (qv_dup (qt_take T K 768 f hd).2.1 b (qt_take T K 768 f hd).1)))))]) (wsC' := []) (wsN := [(tr, .inr (3, [.ref h, .ref x0, .ref x1, .ref tn, .ref tk, .int (nI ((qt_take T K 768 f hd).2.2))])), (tn, .inr (2, [.ref h, .int (nI T)])), (tk, .inr (2, [.ref h, .int (nI K)])), (h, .inr (1, [.ref a])), (a, .inl (cJ, 12544, .inr (.inl (qv_for 4 (fun g i => qt_addW T g (qv_lk g (qt_take T K 768 f hd).1 i)) (qv_dup (qt_take T K 768 f hd).2.1 b (qt_take T K 768 f hd).1)))))]) (isT := []) (isC := []) (isR := [0, 1, 2, 3, 4]) (isN := [0, 1, 2, 3, 4]) (k := 1) ⟨hx, hb, hml, hown, hts⟩ (c_Tr_linksOf l D 2 (by omega)) (tw_S ml_Tr_101 st_Tr_linksOf in_Tr cd_Tr_linksOf) ⟨by decide +kernel, Nat.le_of_ble_eq_true rfl, Nat.le_of_ble_eq_true rfl⟩ ⟨Nat.le_of_ble_eq_true rfl, Nat.le_of_ble_eq_true rfl⟩ hK hP hD hS hA hN rfl ⟨rfl, rfl, rfl, by decide, by decide, by decide, by decide⟩ hl.1 rfl rfl (Nat.le_of_ble_eq_true rfl) d_Tr_own_45 (fun H locs hP hD hS => ?_)
      refine q_ti (y := nI 4) (rfl) ?_
      refine lv_icmp_ge (tgt := 71) hx hb d_Tr_own_48 (by decide) (fun c48 => ?_) (fun c48 => ?_)
      · have c48 : 4 ≤ 4 := (nI_leI (by omega) (by omega)).mp c48
        refine lv_aload_n hx hb d_Tr_own_71 rfl (lv_at hl 0 rfl) ?_
        refine lv_iload_n hx hb d_Tr_own_72 rfl (lv_at hl 1 rfl) ?_
        refine lv_iload_n hx hb d_Tr_own_73 rfl (lv_at hl 2 rfl) ?_
        refine q_callVv (As := [.int (nI b), .int (nI 2)]) (rest := []) (wsC := [(tr, .inr (3, [.ref h, .ref x0, .ref x1, .ref tn, .ref tk, .int (nI ((qt_take T K 768 f hd).2.2))])), (tn, .inr (2, [.ref h, .int (nI T)])), (tk, .inr (2, [.ref h, .int (nI K)])), (h, .inr (1, [.ref a])), (a, .inl (cJ, 12544, .inr (.inl (qv_for 4 (fun g i => qt_addW T g (qv_lk g (qt_take T K 768 f hd).1 i)) (qv_dup (qt_take T K 768 f hd).2.1 b (qt_take T K 768 f hd).1)))))]) (wsR := []) (wsC' := [(tr, .inr (3, [.ref h, .ref x0, .ref x1, .ref tn, .ref tk, .int (nI ((qt_take T K 768 f hd).2.2))])), (tn, .inr (2, [.ref h, .int (nI T)])), (tk, .inr (2, [.ref h, .int (nI K)])), (h, .inr (1, [.ref a])), (a, .inl (cJ, 12544, .inr (.inl (qt_rel T 2 (qv_for 4 (fun g i => qt_addW T g (qv_lk g (qt_take T K 768 f hd).1 i)) (qv_dup (qt_take T K 768 f hd).2.1 b (qt_take T K 768 f hd).1)) b))))]) (wsN := [(tr, .inr (3, [.ref h, .ref x0, .ref x1, .ref tn, .ref tk, .int (nI ((qt_take T K 768 f hd).2.2))])), (tn, .inr (2, [.ref h, .int (nI T)])), (tk, .inr (2, [.ref h, .int (nI K)])), (h, .inr (1, [.ref a])), (a, .inl (cJ, 12544, .inr (.inl (qt_rel T 2 (qv_for 4 (fun g i => qt_addW T g (qv_lk g (qt_take T K 768 f hd).1 i)) (qv_dup (qt_take T K 768 f hd).2.1 b (qt_take T K 768 f hd).1)) b))))]) (isT := [0]) (isC := [0, 1, 2, 3, 4]) (isR := []) (isN := [0, 1, 2, 3, 4]) (k := 2) (ci := 3) (C := R_Tr) ⟨hx, hb, hml, hown, hts⟩ (c_Tr_release2 l D cJ tr x0 x1 tn T tk K ((qt_take T K 768 f hd).2.2) h a (qv_for 4 (fun g i => qt_addW T g (qv_lk g (qt_take T K 768 f hd).1 i)) (qv_dup (qt_take T K 768 f hd).2.1 b (qt_take T K 768 f hd).1)) b (by omega) (by omega) (by omega) (by omega)) (tw_V ml_Tr_72 im_Tr_release se_Tr_release in_Tr cd_Tr_release) rfl ⟨by decide +kernel, Nat.le_of_ble_eq_true rfl, Nat.le_of_ble_eq_true rfl⟩ ⟨Nat.le_of_ble_eq_true rfl, Nat.le_of_ble_eq_true rfl⟩ hK hP hD hS hA hN rfl ⟨rfl, rfl, rfl, by decide, by decide, by decide, by decide⟩ rfl rfl rfl hl.1 rfl rfl (Nat.le_of_ble_eq_true rfl) d_Tr_own_74 (fun H locs hP hD hS => ?_)
        refine lv_iload_n hx hb d_Tr_own_77 rfl (lv_at hl 3 rfl) ?_
        exact q_iret hx hb hr hlk hK hP hD hS d_Tr_own_78 (by unfold qt_own; rw [if_neg (fun q => by have := q.1; have := q.2; omega)]) (by unfold qt_own; rw [if_neg (fun q => by have := q.1; have := q.2; omega)]; rfl)
      · have c48 : ¬ 4 ≤ 4 := fun h9 => c48 ((nI_leI (by omega) (by omega)).mpr h9)
        exfalso; omega
    · intro i u H locs ls hi hI ih
      obtain ⟨hP, hD, hS, hl⟩ := hI
      refine lv_iload hx hb d_Tr_own_42 (lv_at hl 4 rfl) ?_
      refine lv_iload_n hx hb d_Tr_own_44 rfl (lv_at hl 2 rfl) ?_
      refine q_callSi (As := [.int (nI 2)]) (rest := [.int (nI i)]) (wsC := []) (wsR := [(tr, .inr (3, [.ref h, .ref x0, .ref x1, .ref tn, .ref tk, .int (nI ((qt_take T K 768 f hd).2.2))])), (tn, .inr (2, [.ref h, .int (nI T)])), (tk, .inr (2, [.ref h, .int (nI K)])), (h, .inr (1, [.ref a])), (a, .inl (cJ, 12544, .inr (.inl (qv_for i (fun g i => qt_addW T g (qv_lk g (qt_take T K 768 f hd).1 i)) (qv_dup (qt_take T K 768 f hd).2.1 b (qt_take T K 768 f hd).1)))))]) (wsC' := []) (wsN := [(tr, .inr (3, [.ref h, .ref x0, .ref x1, .ref tn, .ref tk, .int (nI ((qt_take T K 768 f hd).2.2))])), (tn, .inr (2, [.ref h, .int (nI T)])), (tk, .inr (2, [.ref h, .int (nI K)])), (h, .inr (1, [.ref a])), (a, .inl (cJ, 12544, .inr (.inl (qv_for i (fun g i => qt_addW T g (qv_lk g (qt_take T K 768 f hd).1 i)) (qv_dup (qt_take T K 768 f hd).2.1 b (qt_take T K 768 f hd).1)))))]) (isT := []) (isC := []) (isR := [0, 1, 2, 3, 4]) (isN := [0, 1, 2, 3, 4]) (k := 1) ⟨hx, hb, hml, hown, hts⟩ (c_Tr_linksOf l D 2 (by omega)) (tw_S ml_Tr_101 st_Tr_linksOf in_Tr cd_Tr_linksOf) ⟨by decide +kernel, Nat.le_of_ble_eq_true rfl, Nat.le_of_ble_eq_true rfl⟩ ⟨Nat.le_of_ble_eq_true rfl, Nat.le_of_ble_eq_true rfl⟩ hK hP hD hS hA hN rfl ⟨rfl, rfl, rfl, by decide, by decide, by decide, by decide⟩ hl.1 rfl rfl (Nat.le_of_ble_eq_true rfl) d_Tr_own_45 (fun H locs hP hD hS => ?_)
      refine q_ti (y := nI 4) (rfl) ?_
      refine lv_icmp_ge (tgt := 71) hx hb d_Tr_own_48 (by decide) (fun c48 => ?_) (fun c48 => ?_)
      · have c48 : 4 ≤ i := (nI_leI (by omega) (by omega)).mp c48
        exfalso; omega
      · have c48 : ¬ 4 ≤ i := fun h9 => c48 ((nI_leI (by omega) (by omega)).mpr h9)
        refine lv_aload_n hx hb d_Tr_own_51 rfl (lv_at hl 0 rfl) ?_
        refine lv_aload_n hx hb d_Tr_own_52 rfl (lv_at hl 0 rfl) ?_
        refine va_get (D := D) (ci := 3) (v := .ref h) (C := R_Tr) (T := F_Tr) (N := 6) hx hb hts i_Tr hown hK hP 0 rfl rfl 0 (by decide) (hts _ fl_Tr_15) (fun _ h9 => h9) rfl d_Tr_own_53 ?_
        refine lv_iload_n hx hb d_Tr_own_56 rfl (lv_at hl 3 rfl) ?_
        refine lv_iload hx hb d_Tr_own_57 (lv_at hl 4 rfl) ?_
        refine q_callVi (As := [.int (nI ((qt_take T K 768 f hd).1)), .int (nI i)]) (rest := [.ref tr]) (wsC := [(h, .inr (1, [.ref a])), (a, .inl (cJ, 12544, .inr (.inl (qv_for i (fun g i => qt_addW T g (qv_lk g (qt_take T K 768 f hd).1 i)) (qv_dup (qt_take T K 768 f hd).2.1 b (qt_take T K 768 f hd).1)))))]) (wsR := [(tr, .inr (3, [.ref h, .ref x0, .ref x1, .ref tn, .ref tk, .int (nI ((qt_take T K 768 f hd).2.2))])), (tn, .inr (2, [.ref h, .int (nI T)])), (tk, .inr (2, [.ref h, .int (nI K)]))]) (wsC' := [(h, .inr (1, [.ref a])), (a, .inl (cJ, 12544, .inr (.inl ((qv_for i (fun g i => qt_addW T g (qv_lk g (qt_take T K 768 f hd).1 i)) (qv_dup (qt_take T K 768 f hd).2.1 b (qt_take T K 768 f hd).1))))))]) (wsN := [(tr, .inr (3, [.ref h, .ref x0, .ref x1, .ref tn, .ref tk, .int (nI ((qt_take T K 768 f hd).2.2))])), (tn, .inr (2, [.ref h, .int (nI T)])), (tk, .inr (2, [.ref h, .int (nI K)])), (h, .inr (1, [.ref a])), (a, .inl (cJ, 12544, .inr (.inl ((qv_for i (fun g i => qt_addW T g (qv_lk g (qt_take T K 768 f hd).1 i)) (qv_dup (qt_take T K 768 f hd).2.1 b (qt_take T K 768 f hd).1))))))]) (isT := [0]) (isC := [3, 4]) (isR := [0, 1, 2]) (isN := [0, 1, 2, 3, 4]) (k := 2) (ci := 1) (C := R_Im) ⟨hx, hb, hml, hown, hts⟩ (c_Im_linkAt l D cJ h a (qv_for i (fun g i => qt_addW T g (qv_lk g (qt_take T K 768 f hd).1 i)) (qv_dup (qt_take T K 768 f hd).2.1 b (qt_take T K 768 f hd).1)) ((qt_take T K 768 f hd).1) i (by omega) (by omega)) (tw_V ml_Tr_56 im_Im_linkAt se_Im_linkAt in_Im cd_Im_linkAt) rfl ⟨by decide +kernel, Nat.le_of_ble_eq_true rfl, Nat.le_of_ble_eq_true rfl⟩ ⟨Nat.le_of_ble_eq_true rfl, Nat.le_of_ble_eq_true rfl⟩ hK hP hD hS hA hN rfl ⟨rfl, rfl, rfl, by decide, by decide, by decide, by decide⟩ rfl rfl rfl hl.1 rfl rfl (Nat.le_of_ble_eq_true rfl) d_Tr_own_59 (fun H locs hP hD hS => ?_)
        have hq3 := qv_lk_lt (qv_for i (fun g i => qt_addW T g (qv_lk g (qt_take T K 768 f hd).1 i)) (qv_dup (qt_take T K 768 f hd).2.1 b (qt_take T K 768 f hd).1)) ((qt_take T K 768 f hd).1) i
        refine q_callVv (As := [.int (nI (qv_lk (qv_for i (fun g i => qt_addW T g (qv_lk g (qt_take T K 768 f hd).1 i)) (qv_dup (qt_take T K 768 f hd).2.1 b (qt_take T K 768 f hd).1)) ((qt_take T K 768 f hd).1) i))]) (rest := []) (wsC := [(tr, .inr (3, [.ref h, .ref x0, .ref x1, .ref tn, .ref tk, .int (nI ((qt_take T K 768 f hd).2.2))])), (tn, .inr (2, [.ref h, .int (nI T)])), (tk, .inr (2, [.ref h, .int (nI K)])), (h, .inr (1, [.ref a])), (a, .inl (cJ, 12544, .inr (.inl ((qv_for i (fun g i => qt_addW T g (qv_lk g (qt_take T K 768 f hd).1 i)) (qv_dup (qt_take T K 768 f hd).2.1 b (qt_take T K 768 f hd).1))))))]) (wsR := []) (wsC' := [(tr, .inr (3, [.ref h, .ref x0, .ref x1, .ref tn, .ref tk, .int (nI ((qt_take T K 768 f hd).2.2))])), (tn, .inr (2, [.ref h, .int (nI T)])), (tk, .inr (2, [.ref h, .int (nI K)])), (h, .inr (1, [.ref a])), (a, .inl (cJ, 12544, .inr (.inl (qt_addW T ((qv_for i (fun g i => qt_addW T g (qv_lk g (qt_take T K 768 f hd).1 i)) (qv_dup (qt_take T K 768 f hd).2.1 b (qt_take T K 768 f hd).1))) (qv_lk (qv_for i (fun g i => qt_addW T g (qv_lk g (qt_take T K 768 f hd).1 i)) (qv_dup (qt_take T K 768 f hd).2.1 b (qt_take T K 768 f hd).1)) ((qt_take T K 768 f hd).1) i)))))]) (wsN := [(tr, .inr (3, [.ref h, .ref x0, .ref x1, .ref tn, .ref tk, .int (nI ((qt_take T K 768 f hd).2.2))])), (tn, .inr (2, [.ref h, .int (nI T)])), (tk, .inr (2, [.ref h, .int (nI K)])), (h, .inr (1, [.ref a])), (a, .inl (cJ, 12544, .inr (.inl (qt_addW T ((qv_for i (fun g i => qt_addW T g (qv_lk g (qt_take T K 768 f hd).1 i)) (qv_dup (qt_take T K 768 f hd).2.1 b (qt_take T K 768 f hd).1))) (qv_lk (qv_for i (fun g i => qt_addW T g (qv_lk g (qt_take T K 768 f hd).1 i)) (qv_dup (qt_take T K 768 f hd).2.1 b (qt_take T K 768 f hd).1)) ((qt_take T K 768 f hd).1) i)))))]) (isT := [0]) (isC := [0, 1, 2, 3, 4]) (isR := []) (isN := [0, 1, 2, 3, 4]) (k := 1) (ci := 3) (C := R_Tr) ⟨hx, hb, hml, hown, hts⟩ (c_Tr_addWay l D cJ tr x0 x1 tn T tk K ((qt_take T K 768 f hd).2.2) h a (qv_for i (fun g i => qt_addW T g (qv_lk g (qt_take T K 768 f hd).1 i)) (qv_dup (qt_take T K 768 f hd).2.1 b (qt_take T K 768 f hd).1)) (qv_lk (qv_for i (fun g i => qt_addW T g (qv_lk g (qt_take T K 768 f hd).1 i)) (qv_dup (qt_take T K 768 f hd).2.1 b (qt_take T K 768 f hd).1)) ((qt_take T K 768 f hd).1) i) (by omega) (by omega) (by omega) (by omega)) (tw_V ml_Tr_68 im_Tr_addWay se_Tr_addWay in_Tr cd_Tr_addWay) rfl ⟨by decide +kernel, Nat.le_of_ble_eq_true rfl, Nat.le_of_ble_eq_true rfl⟩ ⟨Nat.le_of_ble_eq_true rfl, Nat.le_of_ble_eq_true rfl⟩ hK hP hD hS hA hN rfl ⟨rfl, rfl, rfl, by decide, by decide, by decide, by decide⟩ rfl rfl rfl hl.1 rfl rfl (Nat.le_of_ble_eq_true rfl) d_Tr_own_62 (fun H locs hP hD hS => ?_)
        refine lv_iinc (v := nI (i + 1)) (lv' := [(4, .int (nI (i + 1))), (0, .ref tr), (1, .int (nI b)), (2, .int (nI 2)), (3, .int (nI ((qt_take T K 768 f hd).1)))]) hx hb d_Tr_own_65 hl (k := 4) rfl (nI_1 _) (by decide) rfl (fun ls hl => ?_)
        refine lv_goto (tgt := 42) hx hb d_Tr_own_68 (by decide) ?_
        exact ih (()) _ _ _ ⟨hP, hD, hS, lv_sub hl [1, 2, 3, 4, 0] rfl⟩
  · have c9 : (qv_wy f T b) = 1 := (nI_eq (by omega) (by omega)).mp c9
    refine lv_aload_n hx hb d_Tr_own_12 rfl (lv_at hl 0 rfl) ?_
    refine va_get (D := D) (ci := 3) (v := .ref tk) (C := R_Tr) (T := F_Tr) (N := 6) hx hb hts i_Tr hown hK hP 0 rfl rfl 4 (by decide) (hts _ fl_Tr_31) (fun _ h9 => h9) rfl d_Tr_own_13 ?_
    refine lv_iload_n hx hb d_Tr_own_16 rfl (lv_at hl 1 rfl) ?_
    refine q_callVi (As := [.int (nI b)]) (rest := []) (wsC := [(tk, .inr (2, [.ref h, .int (nI K)])), (h, .inr (1, [.ref a])), (a, .inl (cJ, 12544, .inr (.inl (f))))]) (wsR := [(tr, .inr (3, [.ref h, .ref x0, .ref x1, .ref tn, .ref tk, .int (nI hd)])), (tn, .inr (2, [.ref h, .int (nI T)]))]) (wsC' := [(tk, .inr (2, [.ref h, .int (nI K)])), (h, .inr (1, [.ref a])), (a, .inl (cJ, 12544, .inr (.inl (f))))]) (wsN := [(tr, .inr (3, [.ref h, .ref x0, .ref x1, .ref tn, .ref tk, .int (nI hd)])), (tn, .inr (2, [.ref h, .int (nI T)])), (tk, .inr (2, [.ref h, .int (nI K)])), (h, .inr (1, [.ref a])), (a, .inl (cJ, 12544, .inr (.inl (f))))]) (isT := [0]) (isC := [2, 3, 4]) (isR := [0, 1]) (isN := [0, 1, 2, 3, 4]) (k := 1) (ci := 2) (C := R_Tb) ⟨hx, hb, hml, hown, hts⟩ (c_Tb_waysTo l D cJ tk K h a f b (by omega) (by omega)) (tw_V ml_Tr_41 im_Tb_waysTo se_Tb_waysTo in_Tb cd_Tb_waysTo) rfl ⟨by decide +kernel, Nat.le_of_ble_eq_true rfl, Nat.le_of_ble_eq_true rfl⟩ ⟨Nat.le_of_ble_eq_true rfl, Nat.le_of_ble_eq_true rfl⟩ hK hP hD hS hA hN rfl ⟨rfl, rfl, rfl, by decide, by decide, by decide, by decide⟩ rfl rfl rfl hl.1 rfl rfl (Nat.le_of_ble_eq_true rfl) d_Tr_own_17 (fun H locs hP hD hS => ?_)
    have hq4 := qv_wy_lt f K b
    refine lv_if_ne (tgt := 25) hx hb d_Tr_own_20 (by decide) (fun c20 => ?_) (fun c20 => ?_)
    · have c20 : ¬ (qv_wy f K b) = 0 := fun h9 => c20 ((q_z_eq (by omega)).mpr h9)
      refine lv_aload_n hx hb d_Tr_own_25 rfl (lv_at hl 0 rfl) ?_
      refine q_callVi (As := []) (rest := []) (wsC := [(tr, .inr (3, [.ref h, .ref x0, .ref x1, .ref tn, .ref tk, .int (nI hd)])), (tn, .inr (2, [.ref h, .int (nI T)])), (tk, .inr (2, [.ref h, .int (nI K)])), (h, .inr (1, [.ref a])), (a, .inl (cJ, 12544, .inr (.inl (f))))]) (wsR := []) (wsC' := [(tr, .inr (3, [.ref h, .ref x0, .ref x1, .ref tn, .ref tk, .int (nI ((qt_take T K 768 f hd).2.2))])), (tn, .inr (2, [.ref h, .int (nI T)])), (tk, .inr (2, [.ref h, .int (nI K)])), (h, .inr (1, [.ref a])), (a, .inl (cJ, 12544, .inr (.inl ((qt_take T K 768 f hd).2.1))))]) (wsN := [(tr, .inr (3, [.ref h, .ref x0, .ref x1, .ref tn, .ref tk, .int (nI ((qt_take T K 768 f hd).2.2))])), (tn, .inr (2, [.ref h, .int (nI T)])), (tk, .inr (2, [.ref h, .int (nI K)])), (h, .inr (1, [.ref a])), (a, .inl (cJ, 12544, .inr (.inl ((qt_take T K 768 f hd).2.1))))]) (isT := [0]) (isC := [0, 1, 2, 3, 4]) (isR := []) (isN := [0, 1, 2, 3, 4]) (k := 0) (ci := 3) (C := R_Tr) ⟨hx, hb, hml, hown, hts⟩ (c_Tr_take l D cJ tr x0 x1 tn T tk K hd h a f (by omega) (by omega) (by omega)) (tw_V ml_Tr_95 im_Tr_take se_Tr_take in_Tr cd_Tr_take) rfl ⟨by decide +kernel, Nat.le_of_ble_eq_true rfl, Nat.le_of_ble_eq_true rfl⟩ ⟨Nat.le_of_ble_eq_true rfl, Nat.le_of_ble_eq_true rfl⟩ hK hP hD hS hA hN rfl ⟨rfl, rfl, rfl, by decide, by decide, by decide, by decide⟩ rfl rfl rfl hl.1 rfl rfl (Nat.le_of_ble_eq_true rfl) d_Tr_own_26 (fun H locs hP hD hS => ?_)
      have hq5 := qt_take_lt T K 768 f hd khd
      refine lv_istore_n (lv' := [(3, .int (nI (qt_take T K 768 f hd).1)), (0, .ref tr), (1, .int (nI b)), (2, .int (nI 2))]) hx hb d_Tr_own_29 rfl hl (by decide) rfl (fun ls hl => ?_)
      refine lv_aload_n hx hb d_Tr_own_30 rfl (lv_at hl 1 rfl) ?_
      refine va_get (D := D) (ci := 3) (v := .ref h) (C := R_Tr) (T := F_Tr) (N := 6) hx hb hts i_Tr hown hK hP 0 rfl rfl 0 (by decide) (hts _ fl_Tr_15) (fun _ h9 => h9) rfl d_Tr_own_31 ?_
      refine lv_iload_n hx hb d_Tr_own_34 rfl (lv_at hl 2 rfl) ?_
      refine lv_iload_n hx hb d_Tr_own_35 rfl (lv_at hl 0 rfl) ?_
      refine q_callVv (As := [.int (nI b), .int (nI (qt_take T K 768 f hd).1)]) (rest := []) (wsC := [(h, .inr (1, [.ref a])), (a, .inl (cJ, 12544, .inr (.inl ((qt_take T K 768 f hd).2.1))))]) (wsR := [(tr, .inr (3, [.ref h, .ref x0, .ref x1, .ref tn, .ref tk, .int (nI ((qt_take T K 768 f hd).2.2))])), (tn, .inr (2, [.ref h, .int (nI T)])), (tk, .inr (2, [.ref h, .int (nI K)]))]) (wsC' := [(h, .inr (1, [.ref a])), (a, .inl (cJ, 12544, .inr (.inl (qv_dup ((qt_take T K 768 f hd).2.1) b ((qt_take T K 768 f hd).1)))))]) (wsN := [(tr, .inr (3, [.ref h, .ref x0, .ref x1, .ref tn, .ref tk, .int (nI ((qt_take T K 768 f hd).2.2))])), (tn, .inr (2, [.ref h, .int (nI T)])), (tk, .inr (2, [.ref h, .int (nI K)])), (h, .inr (1, [.ref a])), (a, .inl (cJ, 12544, .inr (.inl (qv_dup ((qt_take T K 768 f hd).2.1) b ((qt_take T K 768 f hd).1)))))]) (isT := [0]) (isC := [3, 4]) (isR := [0, 1, 2]) (isN := [0, 1, 2, 3, 4]) (k := 2) (ci := 1) (C := R_Im) ⟨hx, hb, hml, hown, hts⟩ (c_Im_duplicate l D cJ h a ((qt_take T K 768 f hd).2.1) b ((qt_take T K 768 f hd).1) (by omega) (by omega)) (tw_V ml_Tr_98 im_Im_duplicate se_Im_duplicate in_Im cd_Im_duplicate) rfl ⟨by decide +kernel, Nat.le_of_ble_eq_true rfl, Nat.le_of_ble_eq_true rfl⟩ ⟨Nat.le_of_ble_eq_true rfl, Nat.le_of_ble_eq_true rfl⟩ hK hP hD hS hA hN rfl ⟨rfl, rfl, rfl, by decide, by decide, by decide, by decide⟩ rfl rfl rfl hl.1 rfl rfl (Nat.le_of_ble_eq_true rfl) d_Tr_own_36 (fun H locs hP hD hS => ?_)
      refine lv_iconst (v := nI 0) hx hb d_Tr_own_39 (by decide) ?_
      refine lv_istore (lv' := [(4, .int (nI 0)), (3, .int (nI (qt_take T K 768 f hd).1)), (0, .ref tr), (1, .int (nI b)), (2, .int (nI 2))]) hx hb d_Tr_own_40 hl (by decide) rfl (fun ls hl => ?_)
      refine q_loop (pc := 42) (σ := Unit) (I := fun i u H locs ls => va_P D cls [(tr, .inr (3, [.ref h, .ref x0, .ref x1, .ref tn, .ref tk, .int (nI ((qt_take T K 768 f hd).2.2))])), (tn, .inr (2, [.ref h, .int (nI T)])), (tk, .inr (2, [.ref h, .int (nI K)])), (h, .inr (1, [.ref a])), (a, .inl (cJ, 12544, .inr (.inl (qv_for i (fun g i => qt_addW T g (qv_lk g (qt_take T K 768 f hd).1 i)) (qv_dup (qt_take T K 768 f hd).2.1 b (qt_take T K 768 f hd).1)))))] H ∧ va_D A [(tr, .inr (3, [.ref h, .ref x0, .ref x1, .ref tn, .ref tk, .int (nI ((qt_take T K 768 f hd).2.2))])), (tn, .inr (2, [.ref h, .int (nI T)])), (tk, .inr (2, [.ref h, .int (nI K)])), (h, .inr (1, [.ref a])), (a, .inl (cJ, 12544, .inr (.inl (qv_for i (fun g i => qt_addW T g (qv_lk g (qt_take T K 768 f hd).1 i)) (qv_dup (qt_take T K 768 f hd).2.1 b (qt_take T K 768 f hd).1)))))] ∧ va_S A s.heap H locs ∧ lv_has ls 5 [(0, .ref tr), (1, .int (nI b)), (2, .int (nI 2)), (3, .int (nI ((qt_take T K 768 f hd).1))), (4, .int (nI i))]) (4) ?_ ?_ (0) (()) _ _ _ (by omega) ⟨hP, hD, hS, lv_sub hl [2, 3, 4, 1, 0] rfl⟩
      · intro u H locs ls hI
        obtain ⟨hP, hD, hS, hl⟩ := hI
        refine lv_iload hx hb d_Tr_own_42 (lv_at hl 4 rfl) ?_
        refine lv_iload_n hx hb d_Tr_own_44 rfl (lv_at hl 2 rfl) ?_
        refine q_callSi (As := [.int (nI 2)]) (rest := [.int (nI 4)]) (wsC := []) (wsR := [(tr, .inr (3, [.ref h, .ref x0, .ref x1, .ref tn, .ref tk, .int (nI ((qt_take T K 768 f hd).2.2))])), (tn, .inr (2, [.ref h, .int (nI T)])), (tk, .inr (2, [.ref h, .int (nI K)])), (h, .inr (1, [.ref a])), (a, .inl (cJ, 12544, .inr (.inl (qv_for 4 (fun g i => qt_addW T g (qv_lk g (qt_take T K 768 f hd).1 i)) (qv_dup (qt_take T K 768 f hd).2.1 b (qt_take T K 768 f hd).1)))))]) (wsC' := []) (wsN := [(tr, .inr (3, [.ref h, .ref x0, .ref x1, .ref tn, .ref tk, .int (nI ((qt_take T K 768 f hd).2.2))])), (tn, .inr (2, [.ref h, .int (nI T)])), (tk, .inr (2, [.ref h, .int (nI K)])), (h, .inr (1, [.ref a])), (a, .inl (cJ, 12544, .inr (.inl (qv_for 4 (fun g i => qt_addW T g (qv_lk g (qt_take T K 768 f hd).1 i)) (qv_dup (qt_take T K 768 f hd).2.1 b (qt_take T K 768 f hd).1)))))]) (isT := []) (isC := []) (isR := [0, 1, 2, 3, 4]) (isN := [0, 1, 2, 3, 4]) (k := 1) ⟨hx, hb, hml, hown, hts⟩ (c_Tr_linksOf l D 2 (by omega)) (tw_S ml_Tr_101 st_Tr_linksOf in_Tr cd_Tr_linksOf) ⟨by decide +kernel, Nat.le_of_ble_eq_true rfl, Nat.le_of_ble_eq_true rfl⟩ ⟨Nat.le_of_ble_eq_true rfl, Nat.le_of_ble_eq_true rfl⟩ hK hP hD hS hA hN rfl ⟨rfl, rfl, rfl, by decide, by decide, by decide, by decide⟩ hl.1 rfl rfl (Nat.le_of_ble_eq_true rfl) d_Tr_own_45 (fun H locs hP hD hS => ?_)
        refine q_ti (y := nI 4) (rfl) ?_
        refine lv_icmp_ge (tgt := 71) hx hb d_Tr_own_48 (by decide) (fun c48 => ?_) (fun c48 => ?_)
        · have c48 : 4 ≤ 4 := (nI_leI (by omega) (by omega)).mp c48
          refine lv_aload_n hx hb d_Tr_own_71 rfl (lv_at hl 0 rfl) ?_
          refine lv_iload_n hx hb d_Tr_own_72 rfl (lv_at hl 1 rfl) ?_
          refine lv_iload_n hx hb d_Tr_own_73 rfl (lv_at hl 2 rfl) ?_
          refine q_callVv (As := [.int (nI b), .int (nI 2)]) (rest := []) (wsC := [(tr, .inr (3, [.ref h, .ref x0, .ref x1, .ref tn, .ref tk, .int (nI ((qt_take T K 768 f hd).2.2))])), (tn, .inr (2, [.ref h, .int (nI T)])), (tk, .inr (2, [.ref h, .int (nI K)])), (h, .inr (1, [.ref a])), (a, .inl (cJ, 12544, .inr (.inl (qv_for 4 (fun g i => qt_addW T g (qv_lk g (qt_take T K 768 f hd).1 i)) (qv_dup (qt_take T K 768 f hd).2.1 b (qt_take T K 768 f hd).1)))))]) (wsR := []) (wsC' := [(tr, .inr (3, [.ref h, .ref x0, .ref x1, .ref tn, .ref tk, .int (nI ((qt_take T K 768 f hd).2.2))])), (tn, .inr (2, [.ref h, .int (nI T)])), (tk, .inr (2, [.ref h, .int (nI K)])), (h, .inr (1, [.ref a])), (a, .inl (cJ, 12544, .inr (.inl (qt_rel T 2 (qv_for 4 (fun g i => qt_addW T g (qv_lk g (qt_take T K 768 f hd).1 i)) (qv_dup (qt_take T K 768 f hd).2.1 b (qt_take T K 768 f hd).1)) b))))]) (wsN := [(tr, .inr (3, [.ref h, .ref x0, .ref x1, .ref tn, .ref tk, .int (nI ((qt_take T K 768 f hd).2.2))])), (tn, .inr (2, [.ref h, .int (nI T)])), (tk, .inr (2, [.ref h, .int (nI K)])), (h, .inr (1, [.ref a])), (a, .inl (cJ, 12544, .inr (.inl (qt_rel T 2 (qv_for 4 (fun g i => qt_addW T g (qv_lk g (qt_take T K 768 f hd).1 i)) (qv_dup (qt_take T K 768 f hd).2.1 b (qt_take T K 768 f hd).1)) b))))]) (isT := [0]) (isC := [0, 1, 2, 3, 4]) (isR := []) (isN := [0, 1, 2, 3, 4]) (k := 2) (ci := 3) (C := R_Tr) ⟨hx, hb, hml, hown, hts⟩ (c_Tr_release2 l D cJ tr x0 x1 tn T tk K ((qt_take T K 768 f hd).2.2) h a (qv_for 4 (fun g i => qt_addW T g (qv_lk g (qt_take T K 768 f hd).1 i)) (qv_dup (qt_take T K 768 f hd).2.1 b (qt_take T K 768 f hd).1)) b (by omega) (by omega) (by omega) (by omega)) (tw_V ml_Tr_72 im_Tr_release se_Tr_release in_Tr cd_Tr_release) rfl ⟨by decide +kernel, Nat.le_of_ble_eq_true rfl, Nat.le_of_ble_eq_true rfl⟩ ⟨Nat.le_of_ble_eq_true rfl, Nat.le_of_ble_eq_true rfl⟩ hK hP hD hS hA hN rfl ⟨rfl, rfl, rfl, by decide, by decide, by decide, by decide⟩ rfl rfl rfl hl.1 rfl rfl (Nat.le_of_ble_eq_true rfl) d_Tr_own_74 (fun H locs hP hD hS => ?_)
          refine lv_iload_n hx hb d_Tr_own_77 rfl (lv_at hl 3 rfl) ?_
          exact q_iret hx hb hr hlk hK hP hD hS d_Tr_own_78 (by unfold qt_own; rw [if_neg (fun q => by have := q.1; have := q.2; omega)]) (by unfold qt_own; rw [if_neg (fun q => by have := q.1; have := q.2; omega)]; rfl)
        · have c48 : ¬ 4 ≤ 4 := fun h9 => c48 ((nI_leI (by omega) (by omega)).mpr h9)
          exfalso; omega
      · intro i u H locs ls hi hI ih
        obtain ⟨hP, hD, hS, hl⟩ := hI
        refine lv_iload hx hb d_Tr_own_42 (lv_at hl 4 rfl) ?_
        refine lv_iload_n hx hb d_Tr_own_44 rfl (lv_at hl 2 rfl) ?_
        refine q_callSi (As := [.int (nI 2)]) (rest := [.int (nI i)]) (wsC := []) (wsR := [(tr, .inr (3, [.ref h, .ref x0, .ref x1, .ref tn, .ref tk, .int (nI ((qt_take T K 768 f hd).2.2))])), (tn, .inr (2, [.ref h, .int (nI T)])), (tk, .inr (2, [.ref h, .int (nI K)])), (h, .inr (1, [.ref a])), (a, .inl (cJ, 12544, .inr (.inl (qv_for i (fun g i => qt_addW T g (qv_lk g (qt_take T K 768 f hd).1 i)) (qv_dup (qt_take T K 768 f hd).2.1 b (qt_take T K 768 f hd).1)))))]) (wsC' := []) (wsN := [(tr, .inr (3, [.ref h, .ref x0, .ref x1, .ref tn, .ref tk, .int (nI ((qt_take T K 768 f hd).2.2))])), (tn, .inr (2, [.ref h, .int (nI T)])), (tk, .inr (2, [.ref h, .int (nI K)])), (h, .inr (1, [.ref a])), (a, .inl (cJ, 12544, .inr (.inl (qv_for i (fun g i => qt_addW T g (qv_lk g (qt_take T K 768 f hd).1 i)) (qv_dup (qt_take T K 768 f hd).2.1 b (qt_take T K 768 f hd).1)))))]) (isT := []) (isC := []) (isR := [0, 1, 2, 3, 4]) (isN := [0, 1, 2, 3, 4]) (k := 1) ⟨hx, hb, hml, hown, hts⟩ (c_Tr_linksOf l D 2 (by omega)) (tw_S ml_Tr_101 st_Tr_linksOf in_Tr cd_Tr_linksOf) ⟨by decide +kernel, Nat.le_of_ble_eq_true rfl, Nat.le_of_ble_eq_true rfl⟩ ⟨Nat.le_of_ble_eq_true rfl, Nat.le_of_ble_eq_true rfl⟩ hK hP hD hS hA hN rfl ⟨rfl, rfl, rfl, by decide, by decide, by decide, by decide⟩ hl.1 rfl rfl (Nat.le_of_ble_eq_true rfl) d_Tr_own_45 (fun H locs hP hD hS => ?_)
        refine q_ti (y := nI 4) (rfl) ?_
        refine lv_icmp_ge (tgt := 71) hx hb d_Tr_own_48 (by decide) (fun c48 => ?_) (fun c48 => ?_)
        · have c48 : 4 ≤ i := (nI_leI (by omega) (by omega)).mp c48
          exfalso; omega
        · have c48 : ¬ 4 ≤ i := fun h9 => c48 ((nI_leI (by omega) (by omega)).mpr h9)
          refine lv_aload_n hx hb d_Tr_own_51 rfl (lv_at hl 0 rfl) ?_
          refine lv_aload_n hx hb d_Tr_own_52 rfl (lv_at hl 0 rfl) ?_
          refine va_get (D := D) (ci := 3) (v := .ref h) (C := R_Tr) (T := F_Tr) (N := 6) hx hb hts i_Tr hown hK hP 0 rfl rfl 0 (by decide) (hts _ fl_Tr_15) (fun _ h9 => h9) rfl d_Tr_own_53 ?_
          refine lv_iload_n hx hb d_Tr_own_56 rfl (lv_at hl 3 rfl) ?_
          refine lv_iload hx hb d_Tr_own_57 (lv_at hl 4 rfl) ?_
          refine q_callVi (As := [.int (nI ((qt_take T K 768 f hd).1)), .int (nI i)]) (rest := [.ref tr]) (wsC := [(h, .inr (1, [.ref a])), (a, .inl (cJ, 12544, .inr (.inl (qv_for i (fun g i => qt_addW T g (qv_lk g (qt_take T K 768 f hd).1 i)) (qv_dup (qt_take T K 768 f hd).2.1 b (qt_take T K 768 f hd).1)))))]) (wsR := [(tr, .inr (3, [.ref h, .ref x0, .ref x1, .ref tn, .ref tk, .int (nI ((qt_take T K 768 f hd).2.2))])), (tn, .inr (2, [.ref h, .int (nI T)])), (tk, .inr (2, [.ref h, .int (nI K)]))]) (wsC' := [(h, .inr (1, [.ref a])), (a, .inl (cJ, 12544, .inr (.inl ((qv_for i (fun g i => qt_addW T g (qv_lk g (qt_take T K 768 f hd).1 i)) (qv_dup (qt_take T K 768 f hd).2.1 b (qt_take T K 768 f hd).1))))))]) (wsN := [(tr, .inr (3, [.ref h, .ref x0, .ref x1, .ref tn, .ref tk, .int (nI ((qt_take T K 768 f hd).2.2))])), (tn, .inr (2, [.ref h, .int (nI T)])), (tk, .inr (2, [.ref h, .int (nI K)])), (h, .inr (1, [.ref a])), (a, .inl (cJ, 12544, .inr (.inl ((qv_for i (fun g i => qt_addW T g (qv_lk g (qt_take T K 768 f hd).1 i)) (qv_dup (qt_take T K 768 f hd).2.1 b (qt_take T K 768 f hd).1))))))]) (isT := [0]) (isC := [3, 4]) (isR := [0, 1, 2]) (isN := [0, 1, 2, 3, 4]) (k := 2) (ci := 1) (C := R_Im) ⟨hx, hb, hml, hown, hts⟩ (c_Im_linkAt l D cJ h a (qv_for i (fun g i => qt_addW T g (qv_lk g (qt_take T K 768 f hd).1 i)) (qv_dup (qt_take T K 768 f hd).2.1 b (qt_take T K 768 f hd).1)) ((qt_take T K 768 f hd).1) i (by omega) (by omega)) (tw_V ml_Tr_56 im_Im_linkAt se_Im_linkAt in_Im cd_Im_linkAt) rfl ⟨by decide +kernel, Nat.le_of_ble_eq_true rfl, Nat.le_of_ble_eq_true rfl⟩ ⟨Nat.le_of_ble_eq_true rfl, Nat.le_of_ble_eq_true rfl⟩ hK hP hD hS hA hN rfl ⟨rfl, rfl, rfl, by decide, by decide, by decide, by decide⟩ rfl rfl rfl hl.1 rfl rfl (Nat.le_of_ble_eq_true rfl) d_Tr_own_59 (fun H locs hP hD hS => ?_)
          have hq6 := qv_lk_lt (qv_for i (fun g i => qt_addW T g (qv_lk g (qt_take T K 768 f hd).1 i)) (qv_dup (qt_take T K 768 f hd).2.1 b (qt_take T K 768 f hd).1)) ((qt_take T K 768 f hd).1) i
          refine q_callVv (As := [.int (nI (qv_lk (qv_for i (fun g i => qt_addW T g (qv_lk g (qt_take T K 768 f hd).1 i)) (qv_dup (qt_take T K 768 f hd).2.1 b (qt_take T K 768 f hd).1)) ((qt_take T K 768 f hd).1) i))]) (rest := []) (wsC := [(tr, .inr (3, [.ref h, .ref x0, .ref x1, .ref tn, .ref tk, .int (nI ((qt_take T K 768 f hd).2.2))])), (tn, .inr (2, [.ref h, .int (nI T)])), (tk, .inr (2, [.ref h, .int (nI K)])), (h, .inr (1, [.ref a])), (a, .inl (cJ, 12544, .inr (.inl ((qv_for i (fun g i => qt_addW T g (qv_lk g (qt_take T K 768 f hd).1 i)) (qv_dup (qt_take T K 768 f hd).2.1 b (qt_take T K 768 f hd).1))))))]) (wsR := []) (wsC' := [(tr, .inr (3, [.ref h, .ref x0, .ref x1, .ref tn, .ref tk, .int (nI ((qt_take T K 768 f hd).2.2))])), (tn, .inr (2, [.ref h, .int (nI T)])), (tk, .inr (2, [.ref h, .int (nI K)])), (h, .inr (1, [.ref a])), (a, .inl (cJ, 12544, .inr (.inl (qt_addW T ((qv_for i (fun g i => qt_addW T g (qv_lk g (qt_take T K 768 f hd).1 i)) (qv_dup (qt_take T K 768 f hd).2.1 b (qt_take T K 768 f hd).1))) (qv_lk (qv_for i (fun g i => qt_addW T g (qv_lk g (qt_take T K 768 f hd).1 i)) (qv_dup (qt_take T K 768 f hd).2.1 b (qt_take T K 768 f hd).1)) ((qt_take T K 768 f hd).1) i)))))]) (wsN := [(tr, .inr (3, [.ref h, .ref x0, .ref x1, .ref tn, .ref tk, .int (nI ((qt_take T K 768 f hd).2.2))])), (tn, .inr (2, [.ref h, .int (nI T)])), (tk, .inr (2, [.ref h, .int (nI K)])), (h, .inr (1, [.ref a])), (a, .inl (cJ, 12544, .inr (.inl (qt_addW T ((qv_for i (fun g i => qt_addW T g (qv_lk g (qt_take T K 768 f hd).1 i)) (qv_dup (qt_take T K 768 f hd).2.1 b (qt_take T K 768 f hd).1))) (qv_lk (qv_for i (fun g i => qt_addW T g (qv_lk g (qt_take T K 768 f hd).1 i)) (qv_dup (qt_take T K 768 f hd).2.1 b (qt_take T K 768 f hd).1)) ((qt_take T K 768 f hd).1) i)))))]) (isT := [0]) (isC := [0, 1, 2, 3, 4]) (isR := []) (isN := [0, 1, 2, 3, 4]) (k := 1) (ci := 3) (C := R_Tr) ⟨hx, hb, hml, hown, hts⟩ (c_Tr_addWay l D cJ tr x0 x1 tn T tk K ((qt_take T K 768 f hd).2.2) h a (qv_for i (fun g i => qt_addW T g (qv_lk g (qt_take T K 768 f hd).1 i)) (qv_dup (qt_take T K 768 f hd).2.1 b (qt_take T K 768 f hd).1)) (qv_lk (qv_for i (fun g i => qt_addW T g (qv_lk g (qt_take T K 768 f hd).1 i)) (qv_dup (qt_take T K 768 f hd).2.1 b (qt_take T K 768 f hd).1)) ((qt_take T K 768 f hd).1) i) (by omega) (by omega) (by omega) (by omega)) (tw_V ml_Tr_68 im_Tr_addWay se_Tr_addWay in_Tr cd_Tr_addWay) rfl ⟨by decide +kernel, Nat.le_of_ble_eq_true rfl, Nat.le_of_ble_eq_true rfl⟩ ⟨Nat.le_of_ble_eq_true rfl, Nat.le_of_ble_eq_true rfl⟩ hK hP hD hS hA hN rfl ⟨rfl, rfl, rfl, by decide, by decide, by decide, by decide⟩ rfl rfl rfl hl.1 rfl rfl (Nat.le_of_ble_eq_true rfl) d_Tr_own_62 (fun H locs hP hD hS => ?_)
          refine lv_iinc (v := nI (i + 1)) (lv' := [(4, .int (nI (i + 1))), (0, .ref tr), (1, .int (nI b)), (2, .int (nI 2)), (3, .int (nI ((qt_take T K 768 f hd).1)))]) hx hb d_Tr_own_65 hl (k := 4) rfl (nI_1 _) (by decide) rfl (fun ls hl => ?_)
          refine lv_goto (tgt := 42) hx hb d_Tr_own_68 (by decide) ?_
          exact ih (()) _ _ _ ⟨hP, hD, hS, lv_sub hl [1, 2, 3, 4, 0] rfl⟩
    · have c20 : (qv_wy f K b) = 0 := (q_z_eq (by omega)).mp c20
      refine lv_iload_n hx hb d_Tr_own_23 rfl (lv_at hl 1 rfl) ?_
      exact q_iret hx hb hr hlk hK hP hD hS d_Tr_own_24 (by unfold qt_own; rw [if_pos ⟨by omega, by omega⟩]) (by unfold qt_own; rw [if_pos ⟨by omega, by omega⟩])
end
