section
-- ===== PART A: goes FIRST, ahead of the names: the tables' words, and 'selects' of the private methods out of them =====
/-- a private method of a class that the tables say can be made, by its rows of tables_1 -/
def lw_okq (q : MethodName × Nat) : Prop := (q.1.cls ≠ "java/lang/invoke/MethodHandle" ∧ q.1.cls ≠ "java/lang/invoke/VarHandle") ∧ Cond.instantiable q.1.cls q.2 ∈ tables_1 ∧ Cond.privateMethod q.1 ∈ tables_1 ∧ Cond.instanceMethod q.1 ∈ tables_1
theorem lw_p0 : lw_okq (⟨"FindingHouse", "settle", "(II)V"⟩, 10) := ⟨⟨by decide +kernel, by decide +kernel⟩, List.mem_of_getElem? (i := 11) (by decide +kernel), List.mem_of_getElem? (i := 198) (by decide +kernel), List.mem_of_getElem? (i := 199) (by decide +kernel)⟩
theorem lw_p1 : lw_okq (⟨"FindingHouse", "importersOf", "(I)I"⟩, 10) := ⟨⟨by decide +kernel, by decide +kernel⟩, List.mem_of_getElem? (i := 11) (by decide +kernel), List.mem_of_getElem? (i := 202) (by decide +kernel), List.mem_of_getElem? (i := 203) (by decide +kernel)⟩
theorem lw_p2 : lw_okq (⟨"FindingHouse", "work", "(I)V"⟩, 10) := ⟨⟨by decide +kernel, by decide +kernel⟩, List.mem_of_getElem? (i := 11) (by decide +kernel), List.mem_of_getElem? (i := 213) (by decide +kernel), List.mem_of_getElem? (i := 214) (by decide +kernel)⟩
theorem lw_p3 : lw_okq (⟨"FindingHouse$Checker", "unpaired", "(LFindingHouse$Sheet;)I"⟩, 2) := ⟨⟨by decide +kernel, by decide +kernel⟩, List.mem_of_getElem? (i := 99) (by decide +kernel), List.mem_of_getElem? (i := 236) (by decide +kernel), List.mem_of_getElem? (i := 237) (by decide +kernel)⟩
theorem lw_p4 : lw_okq (⟨"FindingHouse", "isLine", "(II)Z"⟩, 10) := ⟨⟨by decide +kernel, by decide +kernel⟩, List.mem_of_getElem? (i := 11) (by decide +kernel), List.mem_of_getElem? (i := 283) (by decide +kernel), List.mem_of_getElem? (i := 284) (by decide +kernel)⟩
theorem lw_p5 : lw_okq (⟨"FindingHouse$Retelling", "measure", "(LFindingHouse$Sheet;LFindingHouse$Tape;)V"⟩, 2) := ⟨⟨by decide +kernel, by decide +kernel⟩, List.mem_of_getElem? (i := 84) (by decide +kernel), List.mem_of_getElem? (i := 336) (by decide +kernel), List.mem_of_getElem? (i := 337) (by decide +kernel)⟩
theorem lw_p6 : lw_okq (⟨"FindingHouse$Retelling", "longestFrom", "(LFindingHouse$Sheet;LFindingHouse$Tape;II)I"⟩, 2) := ⟨⟨by decide +kernel, by decide +kernel⟩, List.mem_of_getElem? (i := 84) (by decide +kernel), List.mem_of_getElem? (i := 341) (by decide +kernel), List.mem_of_getElem? (i := 342) (by decide +kernel)⟩
theorem lw_p7 : lw_okq (⟨"FindingHouse$Retelling", "isGone", "(LFindingHouse$Sheet;LFindingHouse$Tape;II)Z"⟩, 2) := ⟨⟨by decide +kernel, by decide +kernel⟩, List.mem_of_getElem? (i := 84) (by decide +kernel), List.mem_of_getElem? (i := 353) (by decide +kernel), List.mem_of_getElem? (i := 354) (by decide +kernel)⟩
theorem lw_p8 : lw_okq (⟨"FindingHouse", "findingsAhead", "(I)I"⟩, 10) := ⟨⟨by decide +kernel, by decide +kernel⟩, List.mem_of_getElem? (i := 11) (by decide +kernel), List.mem_of_getElem? (i := 383) (by decide +kernel), List.mem_of_getElem? (i := 384) (by decide +kernel)⟩
theorem lw_p9 : lw_okq (⟨"FindingHouse", "countSilenced", "()I"⟩, 10) := ⟨⟨by decide +kernel, by decide +kernel⟩, List.mem_of_getElem? (i := 11) (by decide +kernel), List.mem_of_getElem? (i := 395) (by decide +kernel), List.mem_of_getElem? (i := 396) (by decide +kernel)⟩
theorem lw_p10 : lw_okq (⟨"FindingHouse", "countLines", "()I"⟩, 10) := ⟨⟨by decide +kernel, by decide +kernel⟩, List.mem_of_getElem? (i := 11) (by decide +kernel), List.mem_of_getElem? (i := 411) (by decide +kernel), List.mem_of_getElem? (i := 412) (by decide +kernel)⟩
theorem lw_p11 : lw_okq (⟨"FindingHouse", "fileOfFinding", "(I)I"⟩, 10) := ⟨⟨by decide +kernel, by decide +kernel⟩, List.mem_of_getElem? (i := 11) (by decide +kernel), List.mem_of_getElem? (i := 425) (by decide +kernel), List.mem_of_getElem? (i := 426) (by decide +kernel)⟩
theorem lw_p12 : lw_okq (⟨"FindingHouseModel", "begins", "()V"⟩, 31) := ⟨⟨by decide +kernel, by decide +kernel⟩, List.mem_of_getElem? (i := 507) (by decide +kernel), List.mem_of_getElem? (i := 628) (by decide +kernel), List.mem_of_getElem? (i := 629) (by decide +kernel)⟩
theorem lw_p13 : lw_okq (⟨"FindingHouseModel", "defs", "(I)I"⟩, 31) := ⟨⟨by decide +kernel, by decide +kernel⟩, List.mem_of_getElem? (i := 507) (by decide +kernel), List.mem_of_getElem? (i := 632) (by decide +kernel), List.mem_of_getElem? (i := 633) (by decide +kernel)⟩
theorem lw_p14 : lw_okq (⟨"FindingHouseModel", "kind", "(II)I"⟩, 31) := ⟨⟨by decide +kernel, by decide +kernel⟩, List.mem_of_getElem? (i := 507) (by decide +kernel), List.mem_of_getElem? (i := 636) (by decide +kernel), List.mem_of_getElem? (i := 637) (by decide +kernel)⟩
theorem lw_p15 : lw_okq (⟨"FindingHouseModel", "number", "(II)I"⟩, 31) := ⟨⟨by decide +kernel, by decide +kernel⟩, List.mem_of_getElem? (i := 507) (by decide +kernel), List.mem_of_getElem? (i := 640) (by decide +kernel), List.mem_of_getElem? (i := 641) (by decide +kernel)⟩
def lw_privs_1 : List (MethodName × Nat) := [(⟨"FindingHouse", "settle", "(II)V"⟩, 10), (⟨"FindingHouse", "importersOf", "(I)I"⟩, 10), (⟨"FindingHouse", "work", "(I)V"⟩, 10), (⟨"FindingHouse$Checker", "unpaired", "(LFindingHouse$Sheet;)I"⟩, 2), (⟨"FindingHouse", "isLine", "(II)Z"⟩, 10), (⟨"FindingHouse$Retelling", "measure", "(LFindingHouse$Sheet;LFindingHouse$Tape;)V"⟩, 2), (⟨"FindingHouse$Retelling", "longestFrom", "(LFindingHouse$Sheet;LFindingHouse$Tape;II)I"⟩, 2), (⟨"FindingHouse$Retelling", "isGone", "(LFindingHouse$Sheet;LFindingHouse$Tape;II)Z"⟩, 2), (⟨"FindingHouse", "findingsAhead", "(I)I"⟩, 10), (⟨"FindingHouse", "countSilenced", "()I"⟩, 10), (⟨"FindingHouse", "countLines", "()I"⟩, 10), (⟨"FindingHouse", "fileOfFinding", "(I)I"⟩, 10), (⟨"FindingHouseModel", "begins", "()V"⟩, 31), (⟨"FindingHouseModel", "defs", "(I)I"⟩, 31), (⟨"FindingHouseModel", "kind", "(II)I"⟩, 31), (⟨"FindingHouseModel", "number", "(II)I"⟩, 31)]
theorem lw_r1 : ∀ q ∈ lw_privs_1, lw_okq q := List.forall_mem_cons.mpr ⟨lw_p0, List.forall_mem_cons.mpr ⟨lw_p1, List.forall_mem_cons.mpr ⟨lw_p2, List.forall_mem_cons.mpr ⟨lw_p3, List.forall_mem_cons.mpr ⟨lw_p4, List.forall_mem_cons.mpr ⟨lw_p5, List.forall_mem_cons.mpr ⟨lw_p6, List.forall_mem_cons.mpr ⟨lw_p7, List.forall_mem_cons.mpr ⟨lw_p8, List.forall_mem_cons.mpr ⟨lw_p9, List.forall_mem_cons.mpr ⟨lw_p10, List.forall_mem_cons.mpr ⟨lw_p11, List.forall_mem_cons.mpr ⟨lw_p12, List.forall_mem_cons.mpr ⟨lw_p13, List.forall_mem_cons.mpr ⟨lw_p14, List.forall_mem_cons.mpr ⟨lw_p15, fun _ h => absurd h List.not_mem_nil⟩⟩⟩⟩⟩⟩⟩⟩⟩⟩⟩⟩⟩⟩⟩⟩
theorem lw_p16 : lw_okq (⟨"FindingHouseModel", "ends", "(II)V"⟩, 31) := ⟨⟨by decide +kernel, by decide +kernel⟩, List.mem_of_getElem? (i := 507) (by decide +kernel), List.mem_of_getElem? (i := 644) (by decide +kernel), List.mem_of_getElem? (i := 645) (by decide +kernel)⟩
theorem lw_p17 : lw_okq (⟨"FindingHouseModel", "imports", "(II)Z"⟩, 31) := ⟨⟨by decide +kernel, by decide +kernel⟩, List.mem_of_getElem? (i := 507) (by decide +kernel), List.mem_of_getElem? (i := 648) (by decide +kernel), List.mem_of_getElem? (i := 649) (by decide +kernel)⟩
theorem lw_p18 : lw_okq (⟨"FindingHouseModel", "finds", "()V"⟩, 31) := ⟨⟨by decide +kernel, by decide +kernel⟩, List.mem_of_getElem? (i := 507) (by decide +kernel), List.mem_of_getElem? (i := 652) (by decide +kernel), List.mem_of_getElem? (i := 653) (by decide +kernel)⟩
theorem lw_p19 : lw_okq (⟨"FindingHouseModel", "breaks", "(II)I"⟩, 31) := ⟨⟨by decide +kernel, by decide +kernel⟩, List.mem_of_getElem? (i := 507) (by decide +kernel), List.mem_of_getElem? (i := 656) (by decide +kernel), List.mem_of_getElem? (i := 657) (by decide +kernel)⟩
theorem lw_p20 : lw_okq (⟨"FindingHouseModel", "isSecond", "(II)Z"⟩, 31) := ⟨⟨by decide +kernel, by decide +kernel⟩, List.mem_of_getElem? (i := 507) (by decide +kernel), List.mem_of_getElem? (i := 660) (by decide +kernel), List.mem_of_getElem? (i := 661) (by decide +kernel)⟩
theorem lw_p21 : lw_okq (⟨"FindingHouseModel", "isThere", "(II)Z"⟩, 31) := ⟨⟨by decide +kernel, by decide +kernel⟩, List.mem_of_getElem? (i := 507) (by decide +kernel), List.mem_of_getElem? (i := 664) (by decide +kernel), List.mem_of_getElem? (i := 665) (by decide +kernel)⟩
theorem lw_p22 : lw_okq (⟨"FindingHouseModel", "isLone", "(II)Z"⟩, 31) := ⟨⟨by decide +kernel, by decide +kernel⟩, List.mem_of_getElem? (i := 507) (by decide +kernel), List.mem_of_getElem? (i := 668) (by decide +kernel), List.mem_of_getElem? (i := 669) (by decide +kernel)⟩
theorem lw_p23 : lw_okq (⟨"FindingHouseModel", "uses", "(I)I"⟩, 31) := ⟨⟨by decide +kernel, by decide +kernel⟩, List.mem_of_getElem? (i := 507) (by decide +kernel), List.mem_of_getElem? (i := 672) (by decide +kernel), List.mem_of_getElem? (i := 673) (by decide +kernel)⟩
theorem lw_p24 : lw_okq (⟨"FindingHouseModel", "had", "(II)I"⟩, 31) := ⟨⟨by decide +kernel, by decide +kernel⟩, List.mem_of_getElem? (i := 507) (by decide +kernel), List.mem_of_getElem? (i := 676) (by decide +kernel), List.mem_of_getElem? (i := 677) (by decide +kernel)⟩
theorem lw_p25 : lw_okq (⟨"FindingHouseModel", "logs", "(III)V"⟩, 31) := ⟨⟨by decide +kernel, by decide +kernel⟩, List.mem_of_getElem? (i := 507) (by decide +kernel), List.mem_of_getElem? (i := 681) (by decide +kernel), List.mem_of_getElem? (i := 682) (by decide +kernel)⟩
theorem lw_p26 : lw_okq (⟨"FindingHouseModel", "isLine", "(II)Z"⟩, 31) := ⟨⟨by decide +kernel, by decide +kernel⟩, List.mem_of_getElem? (i := 507) (by decide +kernel), List.mem_of_getElem? (i := 689) (by decide +kernel), List.mem_of_getElem? (i := 690) (by decide +kernel)⟩
theorem lw_p27 : lw_okq (⟨"FindingHouseModel", "commons", "(II)V"⟩, 31) := ⟨⟨by decide +kernel, by decide +kernel⟩, List.mem_of_getElem? (i := 507) (by decide +kernel), List.mem_of_getElem? (i := 713) (by decide +kernel), List.mem_of_getElem? (i := 714) (by decide +kernel)⟩
theorem lw_p28 : lw_okq (⟨"FindingHouseModel", "isFinding", "(I)Z"⟩, 31) := ⟨⟨by decide +kernel, by decide +kernel⟩, List.mem_of_getElem? (i := 507) (by decide +kernel), List.mem_of_getElem? (i := 726) (by decide +kernel), List.mem_of_getElem? (i := 727) (by decide +kernel)⟩
theorem lw_p29 : lw_okq (⟨"FindingHouseModel", "isSilent", "(I)Z"⟩, 31) := ⟨⟨by decide +kernel, by decide +kernel⟩, List.mem_of_getElem? (i := 507) (by decide +kernel), List.mem_of_getElem? (i := 734) (by decide +kernel), List.mem_of_getElem? (i := 735) (by decide +kernel)⟩
def lw_privs_2 : List (MethodName × Nat) := [(⟨"FindingHouseModel", "ends", "(II)V"⟩, 31), (⟨"FindingHouseModel", "imports", "(II)Z"⟩, 31), (⟨"FindingHouseModel", "finds", "()V"⟩, 31), (⟨"FindingHouseModel", "breaks", "(II)I"⟩, 31), (⟨"FindingHouseModel", "isSecond", "(II)Z"⟩, 31), (⟨"FindingHouseModel", "isThere", "(II)Z"⟩, 31), (⟨"FindingHouseModel", "isLone", "(II)Z"⟩, 31), (⟨"FindingHouseModel", "uses", "(I)I"⟩, 31), (⟨"FindingHouseModel", "had", "(II)I"⟩, 31), (⟨"FindingHouseModel", "logs", "(III)V"⟩, 31), (⟨"FindingHouseModel", "isLine", "(II)Z"⟩, 31), (⟨"FindingHouseModel", "commons", "(II)V"⟩, 31), (⟨"FindingHouseModel", "isFinding", "(I)Z"⟩, 31), (⟨"FindingHouseModel", "isSilent", "(I)Z"⟩, 31)]
theorem lw_r2 : ∀ q ∈ lw_privs_2, lw_okq q := List.forall_mem_cons.mpr ⟨lw_p16, List.forall_mem_cons.mpr ⟨lw_p17, List.forall_mem_cons.mpr ⟨lw_p18, List.forall_mem_cons.mpr ⟨lw_p19, List.forall_mem_cons.mpr ⟨lw_p20, List.forall_mem_cons.mpr ⟨lw_p21, List.forall_mem_cons.mpr ⟨lw_p22, List.forall_mem_cons.mpr ⟨lw_p23, List.forall_mem_cons.mpr ⟨lw_p24, List.forall_mem_cons.mpr ⟨lw_p25, List.forall_mem_cons.mpr ⟨lw_p26, List.forall_mem_cons.mpr ⟨lw_p27, List.forall_mem_cons.mpr ⟨lw_p28, List.forall_mem_cons.mpr ⟨lw_p29, fun _ h => absurd h List.not_mem_nil⟩⟩⟩⟩⟩⟩⟩⟩⟩⟩⟩⟩⟩⟩
def lw_privs : List (MethodName × Nat) := lw_privs_1 ++ (lw_privs_2)
def lw_tbl : List Cond := k2_sels lw_privs ++ tables_1
theorem lw_privs_ok : ∀ q ∈ lw_privs, lw_okq q := by
  show ∀ q ∈ lw_privs_1 ++ (lw_privs_2), lw_okq q
  exact List.forall_mem_append.mpr ⟨lw_r1, lw_r2⟩
end
section
/-- the words that pass to any later state: every method's contract speaks of them all -/
def lw_g : List Cond := lw_tbl.filter goodWord
theorem fz_mem {w : Cond} (i : Nat) (h : lw_tbl[i]? = some w) (hg : goodWord w = true) : w ∈ lw_g := List.mem_filter.mpr ⟨List.mem_of_getElem? h, hg⟩
theorem fz_in {ws : List Cond} (ps : List Nat) (hp : ws = ps.filterMap (fun i => lw_tbl[i]?)) (hg : ws.all goodWord = true) : ∀ w ∈ ws, w ∈ lw_g := by
  intro w hw
  refine List.mem_filter.mpr ⟨?_, List.all_eq_true.mp hg w hw⟩
  rw [hp] at hw
  obtain ⟨i, -, hi⟩ := List.mem_filterMap.mp hw
  exact List.mem_of_getElem? hi
def RX0 : String := "FindingHouse$Checker"
def TX0 : u_T := fun k => match k with
  | 0 => ("FindingHouse$Checker", "found", "[I", true)
  | _ => ("FindingHouse$Checker", "openLines", "[I", true)
def tyX0 : Nat → FieldType := fun k => match k with
  | 0 => .array .int
  | _ => .array .int
abbrev wsX00 : List Cond := u_ws RX0 TX0 2
theorem nmX0 : ∀ a, a < 2 → ∀ b, b < 2 → a ≠ b → (TX0 a).2.1 ≠ (TX0 b).2.1 := by decide +kernel
theorem tyX0_ok : ∀ k, k < 2 → parseFieldDescriptor (TX0 k).2.2.1 = some (tyX0 k) := by decide +kernel
abbrev cX0_init : ByteArray := prog_2_method_1_code
def yX0_init : MethodName := ⟨RX0, "<init>", "()V"⟩
abbrev cX0_check : ByteArray := prog_2_method_2_code
def yX0_check : MethodName := ⟨RX0, "check", "([LFindingHouse$Sheet;II)V"⟩
abbrev cX0_linesOf : ByteArray := prog_2_method_3_code
def yX0_linesOf : MethodName := ⟨RX0, "linesOf", "(I)I"⟩
abbrev cX0_linesWith : ByteArray := prog_2_method_4_code
def yX0_linesWith : MethodName := ⟨RX0, "linesWith", "(LFindingHouse$Sheet;II)I"⟩
abbrev cX0_repeatedDefs : ByteArray := prog_2_method_5_code
def yX0_repeatedDefs : MethodName := ⟨RX0, "repeatedDefs", "(LFindingHouse$Sheet;)I"⟩
abbrev cX0_unpaired : ByteArray := prog_2_method_6_code
def yX0_unpaired : MethodName := ⟨RX0, "unpaired", "(LFindingHouse$Sheet;)I"⟩
abbrev cX0_importsOf : ByteArray := prog_2_method_7_code
def yX0_importsOf : MethodName := ⟨RX0, "importsOf", "(LFindingHouse$Sheet;I)I"⟩
def RX1 : String := "FindingHouse$EndedLog"
def TX1 : u_T := fun k => match k with
  | 0 => ("FindingHouse$EndedLog", "count", "I", false)
  | 1 => ("FindingHouse$EndedLog", "next", "I", false)
  | 2 => ("FindingHouse$EndedLog", "rules", "[I", true)
  | 3 => ("FindingHouse$EndedLog", "ids", "[I", true)
  | 4 => ("FindingHouse$EndedLog", "sinces", "[I", true)
  | _ => ("FindingHouse$EndedLog", "ends", "[I", true)
def tyX1 : Nat → FieldType := fun k => match k with
  | 0 => .int
  | 1 => .int
  | 2 => .array .int
  | 3 => .array .int
  | 4 => .array .int
  | _ => .array .int
abbrev wsX10 : List Cond := u_ws RX1 TX1 6
theorem nmX1 : ∀ a, a < 6 → ∀ b, b < 6 → a ≠ b → (TX1 a).2.1 ≠ (TX1 b).2.1 := by decide +kernel
theorem tyX1_ok : ∀ k, k < 6 → parseFieldDescriptor (TX1 k).2.2.1 = some (tyX1 k) := by decide +kernel
abbrev cX1_init : ByteArray := prog_3_method_1_code
def yX1_init : MethodName := ⟨RX1, "<init>", "()V"⟩
abbrev cX1_size : ByteArray := prog_3_method_2_code
def yX1_size : MethodName := ⟨RX1, "size", "()I"⟩
abbrev cX1_add : ByteArray := prog_3_method_3_code
def yX1_add : MethodName := ⟨RX1, "add", "(IIII)V"⟩
abbrev cX1_placeOf : ByteArray := prog_3_method_4_code
def yX1_placeOf : MethodName := ⟨RX1, "placeOf", "(I)I"⟩
abbrev cX1_ruleAt : ByteArray := prog_3_method_5_code
def yX1_ruleAt : MethodName := ⟨RX1, "ruleAt", "(I)I"⟩
abbrev cX1_idAt : ByteArray := prog_3_method_6_code
def yX1_idAt : MethodName := ⟨RX1, "idAt", "(I)I"⟩
abbrev cX1_sinceAt : ByteArray := prog_3_method_7_code
def yX1_sinceAt : MethodName := ⟨RX1, "sinceAt", "(I)I"⟩
abbrev cX1_endAt : ByteArray := prog_3_method_8_code
def yX1_endAt : MethodName := ⟨RX1, "endAt", "(I)I"⟩
def RX2 : String := "FindingHouse$FindingRow"
def TX2 : u_T := fun k => match k with
  | 0 => ("FindingHouse$FindingRow", "count", "I", false)
  | 1 => ("FindingHouse$FindingRow", "rules", "[I", true)
  | 2 => ("FindingHouse$FindingRow", "lines", "[I", true)
  | 3 => ("FindingHouse$FindingRow", "ids", "[I", true)
  | 4 => ("FindingHouse$FindingRow", "sinces", "[I", true)
  | 5 => ("FindingHouse$FindingRow", "untils", "[I", true)
  | _ => ("FindingHouse$FindingRow", "reasons", "[I", true)
def tyX2 : Nat → FieldType := fun k => match k with
  | 0 => .int
  | 1 => .array .int
  | 2 => .array .int
  | 3 => .array .int
  | 4 => .array .int
  | 5 => .array .int
  | _ => .array .int
abbrev wsX20 : List Cond := u_ws RX2 TX2 7
theorem nmX2 : ∀ a, a < 7 → ∀ b, b < 7 → a ≠ b → (TX2 a).2.1 ≠ (TX2 b).2.1 := by decide +kernel
theorem tyX2_ok : ∀ k, k < 7 → parseFieldDescriptor (TX2 k).2.2.1 = some (tyX2 k) := by decide +kernel
abbrev cX2_init : ByteArray := prog_4_method_1_code
def yX2_init : MethodName := ⟨RX2, "<init>", "()V"⟩
abbrev cX2_size : ByteArray := prog_4_method_2_code
def yX2_size : MethodName := ⟨RX2, "size", "()I"⟩
abbrev cX2_ruleAt : ByteArray := prog_4_method_3_code
def yX2_ruleAt : MethodName := ⟨RX2, "ruleAt", "(I)I"⟩
abbrev cX2_lineAt : ByteArray := prog_4_method_4_code
def yX2_lineAt : MethodName := ⟨RX2, "lineAt", "(I)I"⟩
abbrev cX2_idAt : ByteArray := prog_4_method_5_code
def yX2_idAt : MethodName := ⟨RX2, "idAt", "(I)I"⟩
abbrev cX2_sinceAt : ByteArray := prog_4_method_6_code
def yX2_sinceAt : MethodName := ⟨RX2, "sinceAt", "(I)I"⟩
abbrev cX2_isSilenced : ByteArray := prog_4_method_7_code
def yX2_isSilenced : MethodName := ⟨RX2, "isSilenced", "(II)Z"⟩
abbrev cX2_daysLeft : ByteArray := prog_4_method_8_code
def yX2_daysLeft : MethodName := ⟨RX2, "daysLeft", "(II)I"⟩
abbrev cX2_reasonAt : ByteArray := prog_4_method_9_code
def yX2_reasonAt : MethodName := ⟨RX2, "reasonAt", "(II)I"⟩
abbrev cX2_hush : ByteArray := prog_4_method_10_code
def yX2_hush : MethodName := ⟨RX2, "hush", "(III)V"⟩
abbrev cX2_unhush : ByteArray := prog_4_method_11_code
def yX2_unhush : MethodName := ⟨RX2, "unhush", "(I)V"⟩
abbrev cX2_clear : ByteArray := prog_4_method_12_code
def yX2_clear : MethodName := ⟨RX2, "clear", "()V"⟩
abbrev cX2_add : ByteArray := prog_4_method_13_code
def yX2_add : MethodName := ⟨RX2, "add", "(IIII)V"⟩
abbrev cX2_takeOver : ByteArray := prog_4_method_14_code
def yX2_takeOver : MethodName := ⟨RX2, "takeOver", "(LFindingHouse$FindingRow;)V"⟩
abbrev cX2_placeOf : ByteArray := prog_4_method_15_code
def yX2_placeOf : MethodName := ⟨RX2, "placeOf", "(II)I"⟩
abbrev cX2_logEnded : ByteArray := prog_4_method_16_code
def yX2_logEnded : MethodName := ⟨RX2, "logEnded", "(LFindingHouse$FindingRow;ILFindingHouse$EndedLog;)V"⟩
abbrev cX2_countSilenced : ByteArray := prog_4_method_17_code
def yX2_countSilenced : MethodName := ⟨RX2, "countSilenced", "(I)I"⟩
abbrev cX2_countAfter : ByteArray := prog_4_method_18_code
def yX2_countAfter : MethodName := ⟨RX2, "countAfter", "(IZI)I"⟩
def RX3 : String := "FindingHouse$Retelling"
def TX3 : u_T := fun k => match k with
  | 0 => ("FindingHouse$Retelling", "longest", "[[I", true)
  | _ => ("FindingHouse$Retelling", "ids", "[I", true)
def tyX3 : Nat → FieldType := fun k => match k with
  | 0 => .array (.array .int)
  | _ => .array .int
abbrev wsX30 : List Cond := u_ws RX3 TX3 2
theorem nmX3 : ∀ a, a < 2 → ∀ b, b < 2 → a ≠ b → (TX3 a).2.1 ≠ (TX3 b).2.1 := by decide +kernel
theorem tyX3_ok : ∀ k, k < 2 → parseFieldDescriptor (TX3 k).2.2.1 = some (tyX3 k) := by decide +kernel
abbrev cX3_init : ByteArray := prog_5_method_1_code
def yX3_init : MethodName := ⟨RX3, "<init>", "()V"⟩
abbrev cX3_idAt : ByteArray := prog_5_method_2_code
def yX3_idAt : MethodName := ⟨RX3, "idAt", "(I)I"⟩
abbrev cX3_match : ByteArray := prog_5_method_3_code
def yX3_match : MethodName := ⟨RX3, "match", "(LFindingHouse$Sheet;LFindingHouse$Tape;I)I"⟩
abbrev cX3_isGone : ByteArray := prog_5_method_4_code
def yX3_isGone : MethodName := ⟨RX3, "isGone", "(LFindingHouse$Sheet;LFindingHouse$Tape;II)Z"⟩
abbrev cX3_measure : ByteArray := prog_5_method_5_code
def yX3_measure : MethodName := ⟨RX3, "measure", "(LFindingHouse$Sheet;LFindingHouse$Tape;)V"⟩
abbrev cX3_longestFrom : ByteArray := prog_5_method_6_code
def yX3_longestFrom : MethodName := ⟨RX3, "longestFrom", "(LFindingHouse$Sheet;LFindingHouse$Tape;II)I"⟩
def RX4 : String := "FindingHouse$Sheet"
def TX4 : u_T := fun k => match k with
  | 0 => ("FindingHouse$Sheet", "count", "I", false)
  | 1 => ("FindingHouse$Sheet", "bytes", "[I", true)
  | 2 => ("FindingHouse$Sheet", "ids", "[I", true)
  | 3 => ("FindingHouse$Sheet", "row", "LFindingHouse$FindingRow;", false)
  | _ => ("FindingHouse$Sheet", "spareRow", "LFindingHouse$FindingRow;", false)
def tyX4 : Nat → FieldType := fun k => match k with
  | 0 => .int
  | 1 => .array .int
  | 2 => .array .int
  | 3 => .object "FindingHouse$FindingRow"
  | _ => .object "FindingHouse$FindingRow"
abbrev wsX40 : List Cond := u_ws RX4 TX4 5
theorem nmX4 : ∀ a, a < 5 → ∀ b, b < 5 → a ≠ b → (TX4 a).2.1 ≠ (TX4 b).2.1 := by decide +kernel
theorem tyX4_ok : ∀ k, k < 5 → parseFieldDescriptor (TX4 k).2.2.1 = some (tyX4 k) := by decide +kernel
abbrev cX4_init : ByteArray := prog_6_method_1_code
def yX4_init : MethodName := ⟨RX4, "<init>", "()V"⟩
abbrev cX4_size : ByteArray := prog_6_method_2_code
def yX4_size : MethodName := ⟨RX4, "size", "()I"⟩
abbrev cX4_hasLine : ByteArray := prog_6_method_3_code
def yX4_hasLine : MethodName := ⟨RX4, "hasLine", "(I)Z"⟩
abbrev cX4_takesLine : ByteArray := prog_6_method_4_code
def yX4_takesLine : MethodName := ⟨RX4, "takesLine", "(I)Z"⟩
abbrev cX4_byteAt : ByteArray := prog_6_method_5_code
def yX4_byteAt : MethodName := ⟨RX4, "byteAt", "(I)I"⟩
abbrev cX4_idAt : ByteArray := prog_6_method_6_code
def yX4_idAt : MethodName := ⟨RX4, "idAt", "(I)I"⟩
abbrev cX4_kindAt : ByteArray := prog_6_method_7_code
def yX4_kindAt : MethodName := ⟨RX4, "kindAt", "(I)I"⟩
abbrev cX4_numberAt : ByteArray := prog_6_method_8_code
def yX4_numberAt : MethodName := ⟨RX4, "numberAt", "(I)I"⟩
abbrev cX4_findings : ByteArray := prog_6_method_9_code
def yX4_findings : MethodName := ⟨RX4, "findings", "()LFindingHouse$FindingRow;"⟩
abbrev cX4_insert : ByteArray := prog_6_method_10_code
def yX4_insert : MethodName := ⟨RX4, "insert", "(III)V"⟩
abbrev cX4_remove : ByteArray := prog_6_method_11_code
def yX4_remove : MethodName := ⟨RX4, "remove", "(I)V"⟩
abbrev cX4_replace : ByteArray := prog_6_method_12_code
def yX4_replace : MethodName := ⟨RX4, "replace", "(II)V"⟩
abbrev cX4_retell : ByteArray := prog_6_method_13_code
def yX4_retell : MethodName := ⟨RX4, "retell", "(LFindingHouse$Tape;LFindingHouse$Retelling;)V"⟩
abbrev cX4_numbersOf : ByteArray := prog_6_method_14_code
def yX4_numbersOf : MethodName := ⟨RX4, "numbersOf", "(I)I"⟩
abbrev cX4_importedFiles : ByteArray := prog_6_method_15_code
def yX4_importedFiles : MethodName := ⟨RX4, "importedFiles", "()I"⟩
abbrev cX4_renewFindings : ByteArray := prog_6_method_16_code
def yX4_renewFindings : MethodName := ⟨RX4, "renewFindings", "(LFindingHouse$Checker;ILFindingHouse$EndedLog;)V"⟩
def RX5 : String := "FindingHouse$Tape"
def TX5 : u_T := fun k => match k with
  | 0 => ("FindingHouse$Tape", "count", "I", false)
  | _ => ("FindingHouse$Tape", "bytes", "[I", true)
def tyX5 : Nat → FieldType := fun k => match k with
  | 0 => .int
  | _ => .array .int
abbrev wsX50 : List Cond := u_ws RX5 TX5 2
theorem nmX5 : ∀ a, a < 2 → ∀ b, b < 2 → a ≠ b → (TX5 a).2.1 ≠ (TX5 b).2.1 := by decide +kernel
theorem tyX5_ok : ∀ k, k < 2 → parseFieldDescriptor (TX5 k).2.2.1 = some (tyX5 k) := by decide +kernel
abbrev cX5_init : ByteArray := prog_7_method_1_code
def yX5_init : MethodName := ⟨RX5, "<init>", "()V"⟩
abbrev cX5_size : ByteArray := prog_7_method_2_code
def yX5_size : MethodName := ⟨RX5, "size", "()I"⟩
abbrev cX5_byteAt : ByteArray := prog_7_method_3_code
def yX5_byteAt : MethodName := ⟨RX5, "byteAt", "(I)I"⟩
abbrev cX5_append : ByteArray := prog_7_method_4_code
def yX5_append : MethodName := ⟨RX5, "append", "(I)V"⟩
abbrev cX5_shorten : ByteArray := prog_7_method_5_code
def yX5_shorten : MethodName := ⟨RX5, "shorten", "(I)V"⟩
def RX6 : String := "FindingHouse"
def TX6 : u_T := fun k => match k with
  | 0 => ("FindingHouse", "sheets", "[LFindingHouse$Sheet;", true)
  | 1 => ("FindingHouse", "tape", "LFindingHouse$Tape;", true)
  | 2 => ("FindingHouse", "retelling", "LFindingHouse$Retelling;", true)
  | 3 => ("FindingHouse", "checker", "LFindingHouse$Checker;", true)
  | 4 => ("FindingHouse", "ended", "LFindingHouse$EndedLog;", true)
  | 5 => ("FindingHouse", "changes", "I", false)
  | 6 => ("FindingHouse", "today", "I", false)
  | 7 => ("FindingHouse", "idsGiven", "I", false)
  | 8 => ("FindingHouse", "badNumbers", "I", false)
  | _ => ("FindingHouse", "workedFiles", "I", false)
def tyX6 : Nat → FieldType := fun k => match k with
  | 0 => .array (.object "FindingHouse$Sheet")
  | 1 => .object "FindingHouse$Tape"
  | 2 => .object "FindingHouse$Retelling"
  | 3 => .object "FindingHouse$Checker"
  | 4 => .object "FindingHouse$EndedLog"
  | 5 => .int
  | 6 => .int
  | 7 => .int
  | 8 => .int
  | _ => .int
abbrev wsX60 : List Cond := u_ws RX6 TX6 10
theorem nmX6 : ∀ a, a < 10 → ∀ b, b < 10 → a ≠ b → (TX6 a).2.1 ≠ (TX6 b).2.1 := by decide +kernel
theorem tyX6_ok : ∀ k, k < 10 → parseFieldDescriptor (TX6 k).2.2.1 = some (tyX6 k) := by decide +kernel
abbrev cX6_init : ByteArray := prog_1_method_1_code
def yX6_init : MethodName := ⟨RX6, "<init>", "()V"⟩
abbrev cX6_put : ByteArray := prog_1_method_2_code
def yX6_put : MethodName := ⟨RX6, "put", "(III)I"⟩
abbrev cX6_cut : ByteArray := prog_1_method_3_code
def yX6_cut : MethodName := ⟨RX6, "cut", "(II)Z"⟩
abbrev cX6_change : ByteArray := prog_1_method_4_code
def yX6_change : MethodName := ⟨RX6, "change", "(III)Z"⟩
abbrev cX6_feed : ByteArray := prog_1_method_5_code
def yX6_feed : MethodName := ⟨RX6, "feed", "(IIIII)I"⟩
abbrev cX6_end : ByteArray := prog_1_method_6_code
def yX6_end : MethodName := ⟨RX6, "end", "(I)Z"⟩
abbrev cX6_load : ByteArray := prog_1_method_7_code
def yX6_load : MethodName := ⟨RX6, "load", "(I)I"⟩
abbrev cX6_bad : ByteArray := prog_1_method_8_code
def yX6_bad : MethodName := ⟨RX6, "bad", "(I)Z"⟩
abbrev cX6_day : ByteArray := prog_1_method_9_code
def yX6_day : MethodName := ⟨RX6, "day", "()I"⟩
abbrev cX6_look : ByteArray := prog_1_method_10_code
def yX6_look : MethodName := ⟨RX6, "look", "(I)I"⟩
abbrev cX6_line : ByteArray := prog_1_method_11_code
def yX6_line : MethodName := ⟨RX6, "line", "(III)I"⟩
abbrev cX6_finding : ByteArray := prog_1_method_12_code
def yX6_finding : MethodName := ⟨RX6, "finding", "(II)I"⟩
abbrev cX6_find : ByteArray := prog_1_method_13_code
def yX6_find : MethodName := ⟨RX6, "find", "(II)I"⟩
abbrev cX6_silence : ByteArray := prog_1_method_14_code
def yX6_silence : MethodName := ⟨RX6, "silence", "(III)Z"⟩
abbrev cX6_speak : ByteArray := prog_1_method_15_code
def yX6_speak : MethodName := ⟨RX6, "speak", "(I)Z"⟩
abbrev cX6_since : ByteArray := prog_1_method_16_code
def yX6_since : MethodName := ⟨RX6, "since", "(II)I"⟩
abbrev cX6_log : ByteArray := prog_1_method_17_code
def yX6_log : MethodName := ⟨RX6, "log", "(II)I"⟩
abbrev cX6_isFile : ByteArray := prog_1_method_18_code
def yX6_isFile : MethodName := ⟨RX6, "isFile", "(I)Z"⟩
abbrev cX6_isByte : ByteArray := prog_1_method_19_code
def yX6_isByte : MethodName := ⟨RX6, "isByte", "(I)Z"⟩
abbrev cX6_isLine : ByteArray := prog_1_method_20_code
def yX6_isLine : MethodName := ⟨RX6, "isLine", "(II)Z"⟩
abbrev cX6_has : ByteArray := prog_1_method_21_code
def yX6_has : MethodName := ⟨RX6, "has", "(II)Z"⟩
abbrev cX6_settle : ByteArray := prog_1_method_22_code
def yX6_settle : MethodName := ⟨RX6, "settle", "(II)V"⟩
abbrev cX6_importersOf : ByteArray := prog_1_method_23_code
def yX6_importersOf : MethodName := ⟨RX6, "importersOf", "(I)I"⟩
abbrev cX6_work : ByteArray := prog_1_method_24_code
def yX6_work : MethodName := ⟨RX6, "work", "(I)V"⟩
abbrev cX6_findingsAhead : ByteArray := prog_1_method_25_code
def yX6_findingsAhead : MethodName := ⟨RX6, "findingsAhead", "(I)I"⟩
abbrev cX6_fileOfFinding : ByteArray := prog_1_method_26_code
def yX6_fileOfFinding : MethodName := ⟨RX6, "fileOfFinding", "(I)I"⟩
abbrev cX6_countSilenced : ByteArray := prog_1_method_27_code
def yX6_countSilenced : MethodName := ⟨RX6, "countSilenced", "()I"⟩
abbrev cX6_countLines : ByteArray := prog_1_method_28_code
def yX6_countLines : MethodName := ⟨RX6, "countLines", "()I"⟩
def RX7 : String := "FindingHouseModel"
def TX7 : u_T := fun k => match k with
  | 0 => ("FindingHouseModel", "many", "[I", true)
  | 1 => ("FindingHouseModel", "line", "[I", true)
  | 2 => ("FindingHouseModel", "id", "[I", true)
  | 3 => ("FindingHouseModel", "changes", "I", false)
  | 4 => ("FindingHouseModel", "day", "I", false)
  | 5 => ("FindingHouseModel", "ids", "I", false)
  | 6 => ("FindingHouseModel", "bad", "I", false)
  | 7 => ("FindingHouseModel", "worked", "I", false)
  | 8 => ("FindingHouseModel", "findings", "I", false)
  | 9 => ("FindingHouseModel", "hadMany", "I", false)
  | 10 => ("FindingHouseModel", "rule", "[I", true)
  | 11 => ("FindingHouseModel", "file", "[I", true)
  | 12 => ("FindingHouseModel", "at0", "[I", true)
  | 13 => ("FindingHouseModel", "of", "[I", true)
  | 14 => ("FindingHouseModel", "since", "[I", true)
  | 15 => ("FindingHouseModel", "until", "[I", true)
  | 16 => ("FindingHouseModel", "reason", "[I", true)
  | 17 => ("FindingHouseModel", "hadRule", "[I", true)
  | 18 => ("FindingHouseModel", "hadOf", "[I", true)
  | 19 => ("FindingHouseModel", "hadSince", "[I", true)
  | 20 => ("FindingHouseModel", "hadUntil", "[I", true)
  | 21 => ("FindingHouseModel", "hadReason", "[I", true)
  | 22 => ("FindingHouseModel", "logged", "I", false)
  | 23 => ("FindingHouseModel", "logRule", "[I", true)
  | 24 => ("FindingHouseModel", "logOf", "[I", true)
  | 25 => ("FindingHouseModel", "logSince", "[I", true)
  | 26 => ("FindingHouseModel", "logEnd", "[I", true)
  | 27 => ("FindingHouseModel", "tape", "[I", true)
  | 28 => ("FindingHouseModel", "common", "[I", true)
  | 29 => ("FindingHouseModel", "newId", "[I", true)
  | _ => ("FindingHouseModel", "taped", "I", false)
def tyX7 : Nat → FieldType := fun k => match k with
  | 0 => .array .int
  | 1 => .array .int
  | 2 => .array .int
  | 3 => .int
  | 4 => .int
  | 5 => .int
  | 6 => .int
  | 7 => .int
  | 8 => .int
  | 9 => .int
  | 10 => .array .int
  | 11 => .array .int
  | 12 => .array .int
  | 13 => .array .int
  | 14 => .array .int
  | 15 => .array .int
  | 16 => .array .int
  | 17 => .array .int
  | 18 => .array .int
  | 19 => .array .int
  | 20 => .array .int
  | 21 => .array .int
  | 22 => .int
  | 23 => .array .int
  | 24 => .array .int
  | 25 => .array .int
  | 26 => .array .int
  | 27 => .array .int
  | 28 => .array .int
  | 29 => .array .int
  | _ => .int
abbrev wsX70 : List Cond := u_ws RX7 TX7 31
theorem nmX7 : ∀ a, a < 31 → ∀ b, b < 31 → a ≠ b → (TX7 a).2.1 ≠ (TX7 b).2.1 := by decide +kernel
theorem tyX7_ok : ∀ k, k < 31 → parseFieldDescriptor (TX7 k).2.2.1 = some (tyX7 k) := by decide +kernel
abbrev cX7_init : ByteArray := prog_9_method_1_code
def yX7_init : MethodName := ⟨RX7, "<init>", "()V"⟩
abbrev cX7_isIn : ByteArray := prog_9_method_2_code
def yX7_isIn : MethodName := ⟨RX7, "isIn", "(III)Z"⟩
abbrev cX7_isFile : ByteArray := prog_9_method_3_code
def yX7_isFile : MethodName := ⟨RX7, "isFile", "(I)Z"⟩
abbrev cX7_isLine : ByteArray := prog_9_method_4_code
def yX7_isLine : MethodName := ⟨RX7, "isLine", "(II)Z"⟩
abbrev cX7_kind : ByteArray := prog_9_method_5_code
def yX7_kind : MethodName := ⟨RX7, "kind", "(II)I"⟩
abbrev cX7_number : ByteArray := prog_9_method_6_code
def yX7_number : MethodName := ⟨RX7, "number", "(II)I"⟩
abbrev cX7_defs : ByteArray := prog_9_method_7_code
def yX7_defs : MethodName := ⟨RX7, "defs", "(I)I"⟩
abbrev cX7_uses : ByteArray := prog_9_method_8_code
def yX7_uses : MethodName := ⟨RX7, "uses", "(I)I"⟩
abbrev cX7_imports : ByteArray := prog_9_method_9_code
def yX7_imports : MethodName := ⟨RX7, "imports", "(II)Z"⟩
abbrev cX7_isThere : ByteArray := prog_9_method_10_code
def yX7_isThere : MethodName := ⟨RX7, "isThere", "(II)Z"⟩
abbrev cX7_isSecond : ByteArray := prog_9_method_11_code
def yX7_isSecond : MethodName := ⟨RX7, "isSecond", "(II)Z"⟩
abbrev cX7_isLone : ByteArray := prog_9_method_12_code
def yX7_isLone : MethodName := ⟨RX7, "isLone", "(II)Z"⟩
abbrev cX7_breaks : ByteArray := prog_9_method_13_code
def yX7_breaks : MethodName := ⟨RX7, "breaks", "(II)I"⟩
abbrev cX7_begins : ByteArray := prog_9_method_14_code
def yX7_begins : MethodName := ⟨RX7, "begins", "()V"⟩
abbrev cX7_had : ByteArray := prog_9_method_15_code
def yX7_had : MethodName := ⟨RX7, "had", "(II)I"⟩
abbrev cX7_find : ByteArray := prog_9_method_16_code
def yX7_find : MethodName := ⟨RX7, "find", "(II)I"⟩
abbrev cX7_finds : ByteArray := prog_9_method_17_code
def yX7_finds : MethodName := ⟨RX7, "finds", "()V"⟩
abbrev cX7_logs : ByteArray := prog_9_method_18_code
def yX7_logs : MethodName := ⟨RX7, "logs", "(III)V"⟩
abbrev cX7_log : ByteArray := prog_9_method_19_code
def yX7_log : MethodName := ⟨RX7, "log", "(II)I"⟩
abbrev cX7_ends : ByteArray := prog_9_method_20_code
def yX7_ends : MethodName := ⟨RX7, "ends", "(II)V"⟩
abbrev cX7_isByte : ByteArray := prog_9_method_21_code
def yX7_isByte : MethodName := ⟨RX7, "isByte", "(I)Z"⟩
abbrev cX7_put : ByteArray := prog_9_method_22_code
def yX7_put : MethodName := ⟨RX7, "put", "(III)I"⟩
abbrev cX7_cut : ByteArray := prog_9_method_23_code
def yX7_cut : MethodName := ⟨RX7, "cut", "(II)Z"⟩
abbrev cX7_change : ByteArray := prog_9_method_24_code
def yX7_change : MethodName := ⟨RX7, "change", "(III)Z"⟩
abbrev cX7_bad : ByteArray := prog_9_method_25_code
def yX7_bad : MethodName := ⟨RX7, "bad", "(I)Z"⟩
abbrev cX7_feed : ByteArray := prog_9_method_26_code
def yX7_feed : MethodName := ⟨RX7, "feed", "(IIIII)I"⟩
abbrev cX7_end : ByteArray := prog_9_method_27_code
def yX7_end : MethodName := ⟨RX7, "end", "(I)Z"⟩
abbrev cX7_commons : ByteArray := prog_9_method_28_code
def yX7_commons : MethodName := ⟨RX7, "commons", "(II)V"⟩
abbrev cX7_load : ByteArray := prog_9_method_29_code
def yX7_load : MethodName := ⟨RX7, "load", "(I)I"⟩
abbrev cX7_day : ByteArray := prog_9_method_30_code
def yX7_day : MethodName := ⟨RX7, "day", "()I"⟩
abbrev cX7_isSilent : ByteArray := prog_9_method_31_code
def yX7_isSilent : MethodName := ⟨RX7, "isSilent", "(I)Z"⟩
abbrev cX7_isFinding : ByteArray := prog_9_method_32_code
def yX7_isFinding : MethodName := ⟨RX7, "isFinding", "(I)Z"⟩
abbrev cX7_silence : ByteArray := prog_9_method_33_code
def yX7_silence : MethodName := ⟨RX7, "silence", "(III)Z"⟩
abbrev cX7_speak : ByteArray := prog_9_method_34_code
def yX7_speak : MethodName := ⟨RX7, "speak", "(I)Z"⟩
abbrev cX7_look : ByteArray := prog_9_method_35_code
def yX7_look : MethodName := ⟨RX7, "look", "(I)I"⟩
abbrev cX7_line : ByteArray := prog_9_method_36_code
def yX7_line : MethodName := ⟨RX7, "line", "(III)I"⟩
abbrev cX7_finding : ByteArray := prog_9_method_37_code
def yX7_finding : MethodName := ⟨RX7, "finding", "(II)I"⟩
abbrev cX7_since : ByteArray := prog_9_method_38_code
def yX7_since : MethodName := ⟨RX7, "since", "(II)I"⟩
def RL : String := "FindingHouseLaw"
abbrev cL_law : ByteArray := code
def yL_law : MethodName := ⟨RL, "law", "([I)Z"⟩
abbrev vwCl : List vw_C := [(RX0, TX0, 2), (RX1, TX1, 6), (RX2, TX2, 7), (RX3, TX3, 2), (RX4, TX4, 5), (RX5, TX5, 2), (RX6, TX6, 10), (RX7, TX7, 31)]
theorem inX0 : ∀ w ∈ wsX00, w ∈ lw_g := fz_in [136, 138] (by decide +kernel) (by decide +kernel)
theorem inX1 : ∀ w ∈ wsX10, w ∈ lw_g := fz_in [153, 155, 157, 159, 161, 163] (by decide +kernel) (by decide +kernel)
theorem inX2 : ∀ w ∈ wsX20, w ∈ lw_g := fz_in [68, 70, 72, 74, 76, 78, 80] (by decide +kernel) (by decide +kernel)
theorem inX3 : ∀ w ∈ wsX30, w ∈ lw_g := fz_in [123, 125] (by decide +kernel) (by decide +kernel)
theorem inX4 : ∀ w ∈ wsX40, w ∈ lw_g := fz_in [89, 91, 93, 95, 97] (by decide +kernel) (by decide +kernel)
theorem inX5 : ∀ w ∈ wsX50, w ∈ lw_g := fz_in [108, 110] (by decide +kernel) (by decide +kernel)
theorem inX6 : ∀ w ∈ wsX60, w ∈ lw_g := fz_in [176, 178, 180, 182, 184, 186, 188, 190, 192, 194] (by decide +kernel) (by decide +kernel)
theorem inX7 : ∀ w ∈ wsX70, w ∈ lw_g := fz_in [573, 575, 577, 579, 581, 583, 585, 587, 589, 591, 593, 595, 597, 599, 601, 603, 605, 607, 609, 611, 613, 615, 617, 619, 621, 623, 625, 627, 629, 631, 633] (by decide +kernel) (by decide +kernel)
end
section
theorem dL_law_0 : decode cL_law 0 = .ok (.new 7, 3) := by decide +kernel
theorem dL_law_3 : decode cL_law 3 = .ok (.dup, 1) := by decide +kernel
theorem dL_law_4 : decode cL_law 4 = .ok (.invokespecial 9, 3) := by decide +kernel
theorem dL_law_7 : decode cL_law 7 = .ok (.astore_n 1, 1) := by decide +kernel
theorem dL_law_8 : decode cL_law 8 = .ok (.new 10, 3) := by decide +kernel
theorem dL_law_11 : decode cL_law 11 = .ok (.dup, 1) := by decide +kernel
theorem dL_law_12 : decode cL_law 12 = .ok (.invokespecial 12, 3) := by decide +kernel
theorem dL_law_15 : decode cL_law 15 = .ok (.astore_n 2, 1) := by decide +kernel
theorem dL_law_16 : decode cL_law 16 = .ok (.iconst 0, 1) := by decide +kernel
theorem dL_law_17 : decode cL_law 17 = .ok (.istore_n 3, 1) := by decide +kernel
theorem dL_law_18 : decode cL_law 18 = .ok (.iload_n 3, 1) := by decide +kernel
theorem dL_law_19 : decode cL_law 19 = .ok (.aload_n 0, 1) := by decide +kernel
theorem dL_law_20 : decode cL_law 20 = .ok (.arraylength, 1) := by decide +kernel
theorem dL_law_21 : decode cL_law 21 = .ok (.bipush 6, 2) := by decide +kernel
theorem dL_law_23 : decode cL_law 23 = .ok (.isub, 1) := by decide +kernel
theorem dL_law_24 : decode cL_law 24 = .ok (.if_icmp .gt 622, 3) := by decide +kernel
theorem dL_law_27 : decode cL_law 27 = .ok (.aload_n 0, 1) := by decide +kernel
theorem dL_law_28 : decode cL_law 28 = .ok (.iload_n 3, 1) := by decide +kernel
theorem dL_law_29 : decode cL_law 29 = .ok (.iaload, 1) := by decide +kernel
theorem dL_law_30 : decode cL_law 30 = .ok (.bipush 15, 2) := by decide +kernel
theorem dL_law_32 : decode cL_law 32 = .ok (.iand, 1) := by decide +kernel
theorem dL_law_33 : decode cL_law 33 = .ok (.tableswitch 607 0 15 #[79, 122, 155, 198, 261, 284, 307, 330, 343, 366, 409, 442, 475, 518, 541, 574], 79) := by decide +kernel
theorem dL_law_112 : decode cL_law 112 = .ok (.aload_n 1, 1) := by decide +kernel
theorem dL_law_113 : decode cL_law 113 = .ok (.aload_n 0, 1) := by decide +kernel
theorem dL_law_114 : decode cL_law 114 = .ok (.iload_n 3, 1) := by decide +kernel
theorem dL_law_115 : decode cL_law 115 = .ok (.iconst 1, 1) := by decide +kernel
theorem dL_law_116 : decode cL_law 116 = .ok (.iadd, 1) := by decide +kernel
theorem dL_law_117 : decode cL_law 117 = .ok (.iaload, 1) := by decide +kernel
theorem dL_law_118 : decode cL_law 118 = .ok (.aload_n 0, 1) := by decide +kernel
theorem dL_law_119 : decode cL_law 119 = .ok (.iload_n 3, 1) := by decide +kernel
theorem dL_law_120 : decode cL_law 120 = .ok (.iconst 2, 1) := by decide +kernel
theorem dL_law_121 : decode cL_law 121 = .ok (.iadd, 1) := by decide +kernel
theorem dL_law_122 : decode cL_law 122 = .ok (.iaload, 1) := by decide +kernel
theorem dL_law_123 : decode cL_law 123 = .ok (.aload_n 0, 1) := by decide +kernel
theorem dL_law_124 : decode cL_law 124 = .ok (.iload_n 3, 1) := by decide +kernel
theorem dL_law_125 : decode cL_law 125 = .ok (.iconst 3, 1) := by decide +kernel
theorem dL_law_126 : decode cL_law 126 = .ok (.iadd, 1) := by decide +kernel
theorem dL_law_127 : decode cL_law 127 = .ok (.iaload, 1) := by decide +kernel
theorem dL_law_128 : decode cL_law 128 = .ok (.invokevirtual 13, 3) := by decide +kernel
theorem dL_law_131 : decode cL_law 131 = .ok (.aload_n 2, 1) := by decide +kernel
theorem dL_law_132 : decode cL_law 132 = .ok (.aload_n 0, 1) := by decide +kernel
theorem dL_law_133 : decode cL_law 133 = .ok (.iload_n 3, 1) := by decide +kernel
theorem dL_law_134 : decode cL_law 134 = .ok (.iconst 1, 1) := by decide +kernel
theorem dL_law_135 : decode cL_law 135 = .ok (.iadd, 1) := by decide +kernel
theorem dL_law_136 : decode cL_law 136 = .ok (.iaload, 1) := by decide +kernel
theorem dL_law_137 : decode cL_law 137 = .ok (.aload_n 0, 1) := by decide +kernel
theorem dL_law_138 : decode cL_law 138 = .ok (.iload_n 3, 1) := by decide +kernel
theorem dL_law_139 : decode cL_law 139 = .ok (.iconst 2, 1) := by decide +kernel
theorem dL_law_140 : decode cL_law 140 = .ok (.iadd, 1) := by decide +kernel
theorem dL_law_141 : decode cL_law 141 = .ok (.iaload, 1) := by decide +kernel
theorem dL_law_142 : decode cL_law 142 = .ok (.aload_n 0, 1) := by decide +kernel
theorem dL_law_143 : decode cL_law 143 = .ok (.iload_n 3, 1) := by decide +kernel
theorem dL_law_144 : decode cL_law 144 = .ok (.iconst 3, 1) := by decide +kernel
theorem dL_law_145 : decode cL_law 145 = .ok (.iadd, 1) := by decide +kernel
theorem dL_law_146 : decode cL_law 146 = .ok (.iaload, 1) := by decide +kernel
theorem dL_law_147 : decode cL_law 147 = .ok (.invokevirtual 17, 3) := by decide +kernel
theorem dL_law_150 : decode cL_law 150 = .ok (.if_icmp .eq 490, 3) := by decide +kernel
theorem dL_law_153 : decode cL_law 153 = .ok (.iconst 0, 1) := by decide +kernel
theorem dL_law_154 : decode cL_law 154 = .ok (.ireturn, 1) := by decide +kernel
theorem dL_law_155 : decode cL_law 155 = .ok (.aload_n 1, 1) := by decide +kernel
theorem dL_law_156 : decode cL_law 156 = .ok (.aload_n 0, 1) := by decide +kernel
theorem dL_law_157 : decode cL_law 157 = .ok (.iload_n 3, 1) := by decide +kernel
theorem dL_law_158 : decode cL_law 158 = .ok (.iconst 1, 1) := by decide +kernel
theorem dL_law_159 : decode cL_law 159 = .ok (.iadd, 1) := by decide +kernel
theorem dL_law_160 : decode cL_law 160 = .ok (.iaload, 1) := by decide +kernel
theorem dL_law_161 : decode cL_law 161 = .ok (.aload_n 0, 1) := by decide +kernel
theorem dL_law_162 : decode cL_law 162 = .ok (.iload_n 3, 1) := by decide +kernel
theorem dL_law_163 : decode cL_law 163 = .ok (.iconst 2, 1) := by decide +kernel
theorem dL_law_164 : decode cL_law 164 = .ok (.iadd, 1) := by decide +kernel
theorem dL_law_165 : decode cL_law 165 = .ok (.iaload, 1) := by decide +kernel
theorem dL_law_166 : decode cL_law 166 = .ok (.invokevirtual 18, 3) := by decide +kernel
theorem dL_law_169 : decode cL_law 169 = .ok (.aload_n 2, 1) := by decide +kernel
theorem dL_law_170 : decode cL_law 170 = .ok (.aload_n 0, 1) := by decide +kernel
theorem dL_law_171 : decode cL_law 171 = .ok (.iload_n 3, 1) := by decide +kernel
theorem dL_law_172 : decode cL_law 172 = .ok (.iconst 1, 1) := by decide +kernel
theorem dL_law_173 : decode cL_law 173 = .ok (.iadd, 1) := by decide +kernel
theorem dL_law_174 : decode cL_law 174 = .ok (.iaload, 1) := by decide +kernel
theorem dL_law_175 : decode cL_law 175 = .ok (.aload_n 0, 1) := by decide +kernel
theorem dL_law_176 : decode cL_law 176 = .ok (.iload_n 3, 1) := by decide +kernel
theorem dL_law_177 : decode cL_law 177 = .ok (.iconst 2, 1) := by decide +kernel
theorem dL_law_178 : decode cL_law 178 = .ok (.iadd, 1) := by decide +kernel
theorem dL_law_179 : decode cL_law 179 = .ok (.iaload, 1) := by decide +kernel
theorem dL_law_180 : decode cL_law 180 = .ok (.invokevirtual 22, 3) := by decide +kernel
theorem dL_law_183 : decode cL_law 183 = .ok (.if_icmp .eq 457, 3) := by decide +kernel
theorem dL_law_186 : decode cL_law 186 = .ok (.iconst 0, 1) := by decide +kernel
theorem dL_law_187 : decode cL_law 187 = .ok (.ireturn, 1) := by decide +kernel
theorem dL_law_188 : decode cL_law 188 = .ok (.aload_n 1, 1) := by decide +kernel
theorem dL_law_189 : decode cL_law 189 = .ok (.aload_n 0, 1) := by decide +kernel
theorem dL_law_190 : decode cL_law 190 = .ok (.iload_n 3, 1) := by decide +kernel
theorem dL_law_191 : decode cL_law 191 = .ok (.iconst 1, 1) := by decide +kernel
theorem dL_law_192 : decode cL_law 192 = .ok (.iadd, 1) := by decide +kernel
theorem dL_law_193 : decode cL_law 193 = .ok (.iaload, 1) := by decide +kernel
theorem dL_law_194 : decode cL_law 194 = .ok (.aload_n 0, 1) := by decide +kernel
theorem dL_law_195 : decode cL_law 195 = .ok (.iload_n 3, 1) := by decide +kernel
theorem dL_law_196 : decode cL_law 196 = .ok (.iconst 2, 1) := by decide +kernel
theorem dL_law_197 : decode cL_law 197 = .ok (.iadd, 1) := by decide +kernel
theorem dL_law_198 : decode cL_law 198 = .ok (.iaload, 1) := by decide +kernel
theorem dL_law_199 : decode cL_law 199 = .ok (.aload_n 0, 1) := by decide +kernel
theorem dL_law_200 : decode cL_law 200 = .ok (.iload_n 3, 1) := by decide +kernel
theorem dL_law_201 : decode cL_law 201 = .ok (.iconst 3, 1) := by decide +kernel
theorem dL_law_202 : decode cL_law 202 = .ok (.iadd, 1) := by decide +kernel
theorem dL_law_203 : decode cL_law 203 = .ok (.iaload, 1) := by decide +kernel
theorem dL_law_204 : decode cL_law 204 = .ok (.invokevirtual 23, 3) := by decide +kernel
theorem dL_law_207 : decode cL_law 207 = .ok (.aload_n 2, 1) := by decide +kernel
theorem dL_law_208 : decode cL_law 208 = .ok (.aload_n 0, 1) := by decide +kernel
theorem dL_law_209 : decode cL_law 209 = .ok (.iload_n 3, 1) := by decide +kernel
theorem dL_law_210 : decode cL_law 210 = .ok (.iconst 1, 1) := by decide +kernel
theorem dL_law_211 : decode cL_law 211 = .ok (.iadd, 1) := by decide +kernel
theorem dL_law_212 : decode cL_law 212 = .ok (.iaload, 1) := by decide +kernel
theorem dL_law_213 : decode cL_law 213 = .ok (.aload_n 0, 1) := by decide +kernel
theorem dL_law_214 : decode cL_law 214 = .ok (.iload_n 3, 1) := by decide +kernel
theorem dL_law_215 : decode cL_law 215 = .ok (.iconst 2, 1) := by decide +kernel
theorem dL_law_216 : decode cL_law 216 = .ok (.iadd, 1) := by decide +kernel
theorem dL_law_217 : decode cL_law 217 = .ok (.iaload, 1) := by decide +kernel
theorem dL_law_218 : decode cL_law 218 = .ok (.aload_n 0, 1) := by decide +kernel
theorem dL_law_219 : decode cL_law 219 = .ok (.iload_n 3, 1) := by decide +kernel
theorem dL_law_220 : decode cL_law 220 = .ok (.iconst 3, 1) := by decide +kernel
theorem dL_law_221 : decode cL_law 221 = .ok (.iadd, 1) := by decide +kernel
theorem dL_law_222 : decode cL_law 222 = .ok (.iaload, 1) := by decide +kernel
theorem dL_law_223 : decode cL_law 223 = .ok (.invokevirtual 27, 3) := by decide +kernel
theorem dL_law_226 : decode cL_law 226 = .ok (.if_icmp .eq 414, 3) := by decide +kernel
theorem dL_law_229 : decode cL_law 229 = .ok (.iconst 0, 1) := by decide +kernel
theorem dL_law_230 : decode cL_law 230 = .ok (.ireturn, 1) := by decide +kernel
theorem dL_law_231 : decode cL_law 231 = .ok (.aload_n 1, 1) := by decide +kernel
theorem dL_law_232 : decode cL_law 232 = .ok (.aload_n 0, 1) := by decide +kernel
theorem dL_law_233 : decode cL_law 233 = .ok (.iload_n 3, 1) := by decide +kernel
theorem dL_law_234 : decode cL_law 234 = .ok (.iconst 1, 1) := by decide +kernel
theorem dL_law_235 : decode cL_law 235 = .ok (.iadd, 1) := by decide +kernel
theorem dL_law_236 : decode cL_law 236 = .ok (.iaload, 1) := by decide +kernel
theorem dL_law_237 : decode cL_law 237 = .ok (.aload_n 0, 1) := by decide +kernel
theorem dL_law_238 : decode cL_law 238 = .ok (.iload_n 3, 1) := by decide +kernel
theorem dL_law_239 : decode cL_law 239 = .ok (.iconst 2, 1) := by decide +kernel
theorem dL_law_240 : decode cL_law 240 = .ok (.iadd, 1) := by decide +kernel
theorem dL_law_241 : decode cL_law 241 = .ok (.iaload, 1) := by decide +kernel
theorem dL_law_242 : decode cL_law 242 = .ok (.aload_n 0, 1) := by decide +kernel
theorem dL_law_243 : decode cL_law 243 = .ok (.iload_n 3, 1) := by decide +kernel
theorem dL_law_244 : decode cL_law 244 = .ok (.iconst 3, 1) := by decide +kernel
theorem dL_law_245 : decode cL_law 245 = .ok (.iadd, 1) := by decide +kernel
theorem dL_law_246 : decode cL_law 246 = .ok (.iaload, 1) := by decide +kernel
theorem dL_law_247 : decode cL_law 247 = .ok (.aload_n 0, 1) := by decide +kernel
theorem dL_law_248 : decode cL_law 248 = .ok (.iload_n 3, 1) := by decide +kernel
theorem dL_law_249 : decode cL_law 249 = .ok (.iconst 4, 1) := by decide +kernel
theorem dL_law_250 : decode cL_law 250 = .ok (.iadd, 1) := by decide +kernel
theorem dL_law_251 : decode cL_law 251 = .ok (.iaload, 1) := by decide +kernel
theorem dL_law_252 : decode cL_law 252 = .ok (.aload_n 0, 1) := by decide +kernel
theorem dL_law_253 : decode cL_law 253 = .ok (.iload_n 3, 1) := by decide +kernel
theorem dL_law_254 : decode cL_law 254 = .ok (.iconst 5, 1) := by decide +kernel
theorem dL_law_255 : decode cL_law 255 = .ok (.iadd, 1) := by decide +kernel
theorem dL_law_256 : decode cL_law 256 = .ok (.iaload, 1) := by decide +kernel
theorem dL_law_257 : decode cL_law 257 = .ok (.invokevirtual 28, 3) := by decide +kernel
theorem dL_law_260 : decode cL_law 260 = .ok (.aload_n 2, 1) := by decide +kernel
theorem dL_law_261 : decode cL_law 261 = .ok (.aload_n 0, 1) := by decide +kernel
theorem dL_law_262 : decode cL_law 262 = .ok (.iload_n 3, 1) := by decide +kernel
theorem dL_law_263 : decode cL_law 263 = .ok (.iconst 1, 1) := by decide +kernel
theorem dL_law_264 : decode cL_law 264 = .ok (.iadd, 1) := by decide +kernel
theorem dL_law_265 : decode cL_law 265 = .ok (.iaload, 1) := by decide +kernel
theorem dL_law_266 : decode cL_law 266 = .ok (.aload_n 0, 1) := by decide +kernel
theorem dL_law_267 : decode cL_law 267 = .ok (.iload_n 3, 1) := by decide +kernel
theorem dL_law_268 : decode cL_law 268 = .ok (.iconst 2, 1) := by decide +kernel
theorem dL_law_269 : decode cL_law 269 = .ok (.iadd, 1) := by decide +kernel
theorem dL_law_270 : decode cL_law 270 = .ok (.iaload, 1) := by decide +kernel
theorem dL_law_271 : decode cL_law 271 = .ok (.aload_n 0, 1) := by decide +kernel
theorem dL_law_272 : decode cL_law 272 = .ok (.iload_n 3, 1) := by decide +kernel
theorem dL_law_273 : decode cL_law 273 = .ok (.iconst 3, 1) := by decide +kernel
theorem dL_law_274 : decode cL_law 274 = .ok (.iadd, 1) := by decide +kernel
theorem dL_law_275 : decode cL_law 275 = .ok (.iaload, 1) := by decide +kernel
theorem dL_law_276 : decode cL_law 276 = .ok (.aload_n 0, 1) := by decide +kernel
theorem dL_law_277 : decode cL_law 277 = .ok (.iload_n 3, 1) := by decide +kernel
theorem dL_law_278 : decode cL_law 278 = .ok (.iconst 4, 1) := by decide +kernel
theorem dL_law_279 : decode cL_law 279 = .ok (.iadd, 1) := by decide +kernel
theorem dL_law_280 : decode cL_law 280 = .ok (.iaload, 1) := by decide +kernel
theorem dL_law_281 : decode cL_law 281 = .ok (.aload_n 0, 1) := by decide +kernel
theorem dL_law_282 : decode cL_law 282 = .ok (.iload_n 3, 1) := by decide +kernel
theorem dL_law_283 : decode cL_law 283 = .ok (.iconst 5, 1) := by decide +kernel
theorem dL_law_284 : decode cL_law 284 = .ok (.iadd, 1) := by decide +kernel
theorem dL_law_285 : decode cL_law 285 = .ok (.iaload, 1) := by decide +kernel
theorem dL_law_286 : decode cL_law 286 = .ok (.invokevirtual 32, 3) := by decide +kernel
theorem dL_law_289 : decode cL_law 289 = .ok (.if_icmp .eq 351, 3) := by decide +kernel
theorem dL_law_292 : decode cL_law 292 = .ok (.iconst 0, 1) := by decide +kernel
theorem dL_law_293 : decode cL_law 293 = .ok (.ireturn, 1) := by decide +kernel
theorem dL_law_294 : decode cL_law 294 = .ok (.aload_n 1, 1) := by decide +kernel
theorem dL_law_295 : decode cL_law 295 = .ok (.aload_n 0, 1) := by decide +kernel
theorem dL_law_296 : decode cL_law 296 = .ok (.iload_n 3, 1) := by decide +kernel
theorem dL_law_297 : decode cL_law 297 = .ok (.iconst 1, 1) := by decide +kernel
theorem dL_law_298 : decode cL_law 298 = .ok (.iadd, 1) := by decide +kernel
theorem dL_law_299 : decode cL_law 299 = .ok (.iaload, 1) := by decide +kernel
theorem dL_law_300 : decode cL_law 300 = .ok (.invokevirtual 33, 3) := by decide +kernel
theorem dL_law_303 : decode cL_law 303 = .ok (.aload_n 2, 1) := by decide +kernel
theorem dL_law_304 : decode cL_law 304 = .ok (.aload_n 0, 1) := by decide +kernel
theorem dL_law_305 : decode cL_law 305 = .ok (.iload_n 3, 1) := by decide +kernel
theorem dL_law_306 : decode cL_law 306 = .ok (.iconst 1, 1) := by decide +kernel
theorem dL_law_307 : decode cL_law 307 = .ok (.iadd, 1) := by decide +kernel
theorem dL_law_308 : decode cL_law 308 = .ok (.iaload, 1) := by decide +kernel
theorem dL_law_309 : decode cL_law 309 = .ok (.invokevirtual 37, 3) := by decide +kernel
theorem dL_law_312 : decode cL_law 312 = .ok (.if_icmp .eq 328, 3) := by decide +kernel
theorem dL_law_315 : decode cL_law 315 = .ok (.iconst 0, 1) := by decide +kernel
theorem dL_law_316 : decode cL_law 316 = .ok (.ireturn, 1) := by decide +kernel
theorem dL_law_317 : decode cL_law 317 = .ok (.aload_n 1, 1) := by decide +kernel
theorem dL_law_318 : decode cL_law 318 = .ok (.aload_n 0, 1) := by decide +kernel
theorem dL_law_319 : decode cL_law 319 = .ok (.iload_n 3, 1) := by decide +kernel
theorem dL_law_320 : decode cL_law 320 = .ok (.iconst 1, 1) := by decide +kernel
theorem dL_law_321 : decode cL_law 321 = .ok (.iadd, 1) := by decide +kernel
theorem dL_law_322 : decode cL_law 322 = .ok (.iaload, 1) := by decide +kernel
theorem dL_law_323 : decode cL_law 323 = .ok (.invokevirtual 38, 3) := by decide +kernel
theorem dL_law_326 : decode cL_law 326 = .ok (.aload_n 2, 1) := by decide +kernel
theorem dL_law_327 : decode cL_law 327 = .ok (.aload_n 0, 1) := by decide +kernel
theorem dL_law_328 : decode cL_law 328 = .ok (.iload_n 3, 1) := by decide +kernel
theorem dL_law_329 : decode cL_law 329 = .ok (.iconst 1, 1) := by decide +kernel
theorem dL_law_330 : decode cL_law 330 = .ok (.iadd, 1) := by decide +kernel
theorem dL_law_331 : decode cL_law 331 = .ok (.iaload, 1) := by decide +kernel
theorem dL_law_332 : decode cL_law 332 = .ok (.invokevirtual 42, 3) := by decide +kernel
theorem dL_law_335 : decode cL_law 335 = .ok (.if_icmp .eq 305, 3) := by decide +kernel
theorem dL_law_338 : decode cL_law 338 = .ok (.iconst 0, 1) := by decide +kernel
theorem dL_law_339 : decode cL_law 339 = .ok (.ireturn, 1) := by decide +kernel
theorem dL_law_340 : decode cL_law 340 = .ok (.aload_n 1, 1) := by decide +kernel
theorem dL_law_341 : decode cL_law 341 = .ok (.aload_n 0, 1) := by decide +kernel
theorem dL_law_342 : decode cL_law 342 = .ok (.iload_n 3, 1) := by decide +kernel
theorem dL_law_343 : decode cL_law 343 = .ok (.iconst 1, 1) := by decide +kernel
theorem dL_law_344 : decode cL_law 344 = .ok (.iadd, 1) := by decide +kernel
theorem dL_law_345 : decode cL_law 345 = .ok (.iaload, 1) := by decide +kernel
theorem dL_law_346 : decode cL_law 346 = .ok (.invokevirtual 43, 3) := by decide +kernel
theorem dL_law_349 : decode cL_law 349 = .ok (.aload_n 2, 1) := by decide +kernel
theorem dL_law_350 : decode cL_law 350 = .ok (.aload_n 0, 1) := by decide +kernel
theorem dL_law_351 : decode cL_law 351 = .ok (.iload_n 3, 1) := by decide +kernel
theorem dL_law_352 : decode cL_law 352 = .ok (.iconst 1, 1) := by decide +kernel
theorem dL_law_353 : decode cL_law 353 = .ok (.iadd, 1) := by decide +kernel
theorem dL_law_354 : decode cL_law 354 = .ok (.iaload, 1) := by decide +kernel
theorem dL_law_355 : decode cL_law 355 = .ok (.invokevirtual 46, 3) := by decide +kernel
theorem dL_law_358 : decode cL_law 358 = .ok (.if_icmp .eq 282, 3) := by decide +kernel
theorem dL_law_361 : decode cL_law 361 = .ok (.iconst 0, 1) := by decide +kernel
theorem dL_law_362 : decode cL_law 362 = .ok (.ireturn, 1) := by decide +kernel
theorem dL_law_363 : decode cL_law 363 = .ok (.aload_n 1, 1) := by decide +kernel
theorem dL_law_364 : decode cL_law 364 = .ok (.invokevirtual 47, 3) := by decide +kernel
theorem dL_law_367 : decode cL_law 367 = .ok (.aload_n 2, 1) := by decide +kernel
theorem dL_law_368 : decode cL_law 368 = .ok (.invokevirtual 51, 3) := by decide +kernel
theorem dL_law_371 : decode cL_law 371 = .ok (.if_icmp .eq 269, 3) := by decide +kernel
theorem dL_law_374 : decode cL_law 374 = .ok (.iconst 0, 1) := by decide +kernel
theorem dL_law_375 : decode cL_law 375 = .ok (.ireturn, 1) := by decide +kernel
theorem dL_law_376 : decode cL_law 376 = .ok (.aload_n 1, 1) := by decide +kernel
theorem dL_law_377 : decode cL_law 377 = .ok (.aload_n 0, 1) := by decide +kernel
theorem dL_law_378 : decode cL_law 378 = .ok (.iload_n 3, 1) := by decide +kernel
theorem dL_law_379 : decode cL_law 379 = .ok (.iconst 1, 1) := by decide +kernel
theorem dL_law_380 : decode cL_law 380 = .ok (.iadd, 1) := by decide +kernel
theorem dL_law_381 : decode cL_law 381 = .ok (.iaload, 1) := by decide +kernel
theorem dL_law_382 : decode cL_law 382 = .ok (.invokevirtual 52, 3) := by decide +kernel
theorem dL_law_385 : decode cL_law 385 = .ok (.aload_n 2, 1) := by decide +kernel
theorem dL_law_386 : decode cL_law 386 = .ok (.aload_n 0, 1) := by decide +kernel
theorem dL_law_387 : decode cL_law 387 = .ok (.iload_n 3, 1) := by decide +kernel
theorem dL_law_388 : decode cL_law 388 = .ok (.iconst 1, 1) := by decide +kernel
theorem dL_law_389 : decode cL_law 389 = .ok (.iadd, 1) := by decide +kernel
theorem dL_law_390 : decode cL_law 390 = .ok (.iaload, 1) := by decide +kernel
theorem dL_law_391 : decode cL_law 391 = .ok (.invokevirtual 55, 3) := by decide +kernel
theorem dL_law_394 : decode cL_law 394 = .ok (.if_icmp .eq 246, 3) := by decide +kernel
theorem dL_law_397 : decode cL_law 397 = .ok (.iconst 0, 1) := by decide +kernel
theorem dL_law_398 : decode cL_law 398 = .ok (.ireturn, 1) := by decide +kernel
theorem dL_law_399 : decode cL_law 399 = .ok (.aload_n 1, 1) := by decide +kernel
theorem dL_law_400 : decode cL_law 400 = .ok (.aload_n 0, 1) := by decide +kernel
theorem dL_law_401 : decode cL_law 401 = .ok (.iload_n 3, 1) := by decide +kernel
theorem dL_law_402 : decode cL_law 402 = .ok (.iconst 1, 1) := by decide +kernel
theorem dL_law_403 : decode cL_law 403 = .ok (.iadd, 1) := by decide +kernel
theorem dL_law_404 : decode cL_law 404 = .ok (.iaload, 1) := by decide +kernel
theorem dL_law_405 : decode cL_law 405 = .ok (.aload_n 0, 1) := by decide +kernel
theorem dL_law_406 : decode cL_law 406 = .ok (.iload_n 3, 1) := by decide +kernel
theorem dL_law_407 : decode cL_law 407 = .ok (.iconst 2, 1) := by decide +kernel
theorem dL_law_408 : decode cL_law 408 = .ok (.iadd, 1) := by decide +kernel
theorem dL_law_409 : decode cL_law 409 = .ok (.iaload, 1) := by decide +kernel
theorem dL_law_410 : decode cL_law 410 = .ok (.aload_n 0, 1) := by decide +kernel
theorem dL_law_411 : decode cL_law 411 = .ok (.iload_n 3, 1) := by decide +kernel
theorem dL_law_412 : decode cL_law 412 = .ok (.iconst 3, 1) := by decide +kernel
theorem dL_law_413 : decode cL_law 413 = .ok (.iadd, 1) := by decide +kernel
theorem dL_law_414 : decode cL_law 414 = .ok (.iaload, 1) := by decide +kernel
theorem dL_law_415 : decode cL_law 415 = .ok (.invokevirtual 56, 3) := by decide +kernel
theorem dL_law_418 : decode cL_law 418 = .ok (.aload_n 2, 1) := by decide +kernel
theorem dL_law_419 : decode cL_law 419 = .ok (.aload_n 0, 1) := by decide +kernel
theorem dL_law_420 : decode cL_law 420 = .ok (.iload_n 3, 1) := by decide +kernel
theorem dL_law_421 : decode cL_law 421 = .ok (.iconst 1, 1) := by decide +kernel
theorem dL_law_422 : decode cL_law 422 = .ok (.iadd, 1) := by decide +kernel
theorem dL_law_423 : decode cL_law 423 = .ok (.iaload, 1) := by decide +kernel
theorem dL_law_424 : decode cL_law 424 = .ok (.aload_n 0, 1) := by decide +kernel
theorem dL_law_425 : decode cL_law 425 = .ok (.iload_n 3, 1) := by decide +kernel
theorem dL_law_426 : decode cL_law 426 = .ok (.iconst 2, 1) := by decide +kernel
theorem dL_law_427 : decode cL_law 427 = .ok (.iadd, 1) := by decide +kernel
theorem dL_law_428 : decode cL_law 428 = .ok (.iaload, 1) := by decide +kernel
theorem dL_law_429 : decode cL_law 429 = .ok (.aload_n 0, 1) := by decide +kernel
theorem dL_law_430 : decode cL_law 430 = .ok (.iload_n 3, 1) := by decide +kernel
theorem dL_law_431 : decode cL_law 431 = .ok (.iconst 3, 1) := by decide +kernel
theorem dL_law_432 : decode cL_law 432 = .ok (.iadd, 1) := by decide +kernel
theorem dL_law_433 : decode cL_law 433 = .ok (.iaload, 1) := by decide +kernel
theorem dL_law_434 : decode cL_law 434 = .ok (.invokevirtual 59, 3) := by decide +kernel
theorem dL_law_437 : decode cL_law 437 = .ok (.if_icmp .eq 203, 3) := by decide +kernel
theorem dL_law_440 : decode cL_law 440 = .ok (.iconst 0, 1) := by decide +kernel
theorem dL_law_441 : decode cL_law 441 = .ok (.ireturn, 1) := by decide +kernel
theorem dL_law_442 : decode cL_law 442 = .ok (.aload_n 1, 1) := by decide +kernel
theorem dL_law_443 : decode cL_law 443 = .ok (.aload_n 0, 1) := by decide +kernel
theorem dL_law_444 : decode cL_law 444 = .ok (.iload_n 3, 1) := by decide +kernel
theorem dL_law_445 : decode cL_law 445 = .ok (.iconst 1, 1) := by decide +kernel
theorem dL_law_446 : decode cL_law 446 = .ok (.iadd, 1) := by decide +kernel
theorem dL_law_447 : decode cL_law 447 = .ok (.iaload, 1) := by decide +kernel
theorem dL_law_448 : decode cL_law 448 = .ok (.aload_n 0, 1) := by decide +kernel
theorem dL_law_449 : decode cL_law 449 = .ok (.iload_n 3, 1) := by decide +kernel
theorem dL_law_450 : decode cL_law 450 = .ok (.iconst 2, 1) := by decide +kernel
theorem dL_law_451 : decode cL_law 451 = .ok (.iadd, 1) := by decide +kernel
theorem dL_law_452 : decode cL_law 452 = .ok (.iaload, 1) := by decide +kernel
theorem dL_law_453 : decode cL_law 453 = .ok (.invokevirtual 60, 3) := by decide +kernel
theorem dL_law_456 : decode cL_law 456 = .ok (.aload_n 2, 1) := by decide +kernel
theorem dL_law_457 : decode cL_law 457 = .ok (.aload_n 0, 1) := by decide +kernel
theorem dL_law_458 : decode cL_law 458 = .ok (.iload_n 3, 1) := by decide +kernel
theorem dL_law_459 : decode cL_law 459 = .ok (.iconst 1, 1) := by decide +kernel
theorem dL_law_460 : decode cL_law 460 = .ok (.iadd, 1) := by decide +kernel
theorem dL_law_461 : decode cL_law 461 = .ok (.iaload, 1) := by decide +kernel
theorem dL_law_462 : decode cL_law 462 = .ok (.aload_n 0, 1) := by decide +kernel
theorem dL_law_463 : decode cL_law 463 = .ok (.iload_n 3, 1) := by decide +kernel
theorem dL_law_464 : decode cL_law 464 = .ok (.iconst 2, 1) := by decide +kernel
theorem dL_law_465 : decode cL_law 465 = .ok (.iadd, 1) := by decide +kernel
theorem dL_law_466 : decode cL_law 466 = .ok (.iaload, 1) := by decide +kernel
theorem dL_law_467 : decode cL_law 467 = .ok (.invokevirtual 64, 3) := by decide +kernel
theorem dL_law_470 : decode cL_law 470 = .ok (.if_icmp .eq 170, 3) := by decide +kernel
theorem dL_law_473 : decode cL_law 473 = .ok (.iconst 0, 1) := by decide +kernel
theorem dL_law_474 : decode cL_law 474 = .ok (.ireturn, 1) := by decide +kernel
theorem dL_law_475 : decode cL_law 475 = .ok (.aload_n 1, 1) := by decide +kernel
theorem dL_law_476 : decode cL_law 476 = .ok (.aload_n 0, 1) := by decide +kernel
theorem dL_law_477 : decode cL_law 477 = .ok (.iload_n 3, 1) := by decide +kernel
theorem dL_law_478 : decode cL_law 478 = .ok (.iconst 1, 1) := by decide +kernel
theorem dL_law_479 : decode cL_law 479 = .ok (.iadd, 1) := by decide +kernel
theorem dL_law_480 : decode cL_law 480 = .ok (.iaload, 1) := by decide +kernel
theorem dL_law_481 : decode cL_law 481 = .ok (.aload_n 0, 1) := by decide +kernel
theorem dL_law_482 : decode cL_law 482 = .ok (.iload_n 3, 1) := by decide +kernel
theorem dL_law_483 : decode cL_law 483 = .ok (.iconst 2, 1) := by decide +kernel
theorem dL_law_484 : decode cL_law 484 = .ok (.iadd, 1) := by decide +kernel
theorem dL_law_485 : decode cL_law 485 = .ok (.iaload, 1) := by decide +kernel
theorem dL_law_486 : decode cL_law 486 = .ok (.invokevirtual 65, 3) := by decide +kernel
theorem dL_law_489 : decode cL_law 489 = .ok (.aload_n 2, 1) := by decide +kernel
theorem dL_law_490 : decode cL_law 490 = .ok (.aload_n 0, 1) := by decide +kernel
theorem dL_law_491 : decode cL_law 491 = .ok (.iload_n 3, 1) := by decide +kernel
theorem dL_law_492 : decode cL_law 492 = .ok (.iconst 1, 1) := by decide +kernel
theorem dL_law_493 : decode cL_law 493 = .ok (.iadd, 1) := by decide +kernel
theorem dL_law_494 : decode cL_law 494 = .ok (.iaload, 1) := by decide +kernel
theorem dL_law_495 : decode cL_law 495 = .ok (.aload_n 0, 1) := by decide +kernel
theorem dL_law_496 : decode cL_law 496 = .ok (.iload_n 3, 1) := by decide +kernel
theorem dL_law_497 : decode cL_law 497 = .ok (.iconst 2, 1) := by decide +kernel
theorem dL_law_498 : decode cL_law 498 = .ok (.iadd, 1) := by decide +kernel
theorem dL_law_499 : decode cL_law 499 = .ok (.iaload, 1) := by decide +kernel
theorem dL_law_500 : decode cL_law 500 = .ok (.invokevirtual 68, 3) := by decide +kernel
theorem dL_law_503 : decode cL_law 503 = .ok (.if_icmp .eq 137, 3) := by decide +kernel
theorem dL_law_506 : decode cL_law 506 = .ok (.iconst 0, 1) := by decide +kernel
theorem dL_law_507 : decode cL_law 507 = .ok (.ireturn, 1) := by decide +kernel
theorem dL_law_508 : decode cL_law 508 = .ok (.aload_n 1, 1) := by decide +kernel
theorem dL_law_509 : decode cL_law 509 = .ok (.aload_n 0, 1) := by decide +kernel
theorem dL_law_510 : decode cL_law 510 = .ok (.iload_n 3, 1) := by decide +kernel
theorem dL_law_511 : decode cL_law 511 = .ok (.iconst 1, 1) := by decide +kernel
theorem dL_law_512 : decode cL_law 512 = .ok (.iadd, 1) := by decide +kernel
theorem dL_law_513 : decode cL_law 513 = .ok (.iaload, 1) := by decide +kernel
theorem dL_law_514 : decode cL_law 514 = .ok (.aload_n 0, 1) := by decide +kernel
theorem dL_law_515 : decode cL_law 515 = .ok (.iload_n 3, 1) := by decide +kernel
theorem dL_law_516 : decode cL_law 516 = .ok (.iconst 2, 1) := by decide +kernel
theorem dL_law_517 : decode cL_law 517 = .ok (.iadd, 1) := by decide +kernel
theorem dL_law_518 : decode cL_law 518 = .ok (.iaload, 1) := by decide +kernel
theorem dL_law_519 : decode cL_law 519 = .ok (.aload_n 0, 1) := by decide +kernel
theorem dL_law_520 : decode cL_law 520 = .ok (.iload_n 3, 1) := by decide +kernel
theorem dL_law_521 : decode cL_law 521 = .ok (.iconst 3, 1) := by decide +kernel
theorem dL_law_522 : decode cL_law 522 = .ok (.iadd, 1) := by decide +kernel
theorem dL_law_523 : decode cL_law 523 = .ok (.iaload, 1) := by decide +kernel
theorem dL_law_524 : decode cL_law 524 = .ok (.invokevirtual 69, 3) := by decide +kernel
theorem dL_law_527 : decode cL_law 527 = .ok (.aload_n 2, 1) := by decide +kernel
theorem dL_law_528 : decode cL_law 528 = .ok (.aload_n 0, 1) := by decide +kernel
theorem dL_law_529 : decode cL_law 529 = .ok (.iload_n 3, 1) := by decide +kernel
theorem dL_law_530 : decode cL_law 530 = .ok (.iconst 1, 1) := by decide +kernel
theorem dL_law_531 : decode cL_law 531 = .ok (.iadd, 1) := by decide +kernel
theorem dL_law_532 : decode cL_law 532 = .ok (.iaload, 1) := by decide +kernel
theorem dL_law_533 : decode cL_law 533 = .ok (.aload_n 0, 1) := by decide +kernel
theorem dL_law_534 : decode cL_law 534 = .ok (.iload_n 3, 1) := by decide +kernel
theorem dL_law_535 : decode cL_law 535 = .ok (.iconst 2, 1) := by decide +kernel
theorem dL_law_536 : decode cL_law 536 = .ok (.iadd, 1) := by decide +kernel
theorem dL_law_537 : decode cL_law 537 = .ok (.iaload, 1) := by decide +kernel
theorem dL_law_538 : decode cL_law 538 = .ok (.aload_n 0, 1) := by decide +kernel
theorem dL_law_539 : decode cL_law 539 = .ok (.iload_n 3, 1) := by decide +kernel
theorem dL_law_540 : decode cL_law 540 = .ok (.iconst 3, 1) := by decide +kernel
theorem dL_law_541 : decode cL_law 541 = .ok (.iadd, 1) := by decide +kernel
theorem dL_law_542 : decode cL_law 542 = .ok (.iaload, 1) := by decide +kernel
theorem dL_law_543 : decode cL_law 543 = .ok (.invokevirtual 72, 3) := by decide +kernel
theorem dL_law_546 : decode cL_law 546 = .ok (.if_icmp .eq 94, 3) := by decide +kernel
theorem dL_law_549 : decode cL_law 549 = .ok (.iconst 0, 1) := by decide +kernel
theorem dL_law_550 : decode cL_law 550 = .ok (.ireturn, 1) := by decide +kernel
theorem dL_law_551 : decode cL_law 551 = .ok (.aload_n 1, 1) := by decide +kernel
theorem dL_law_552 : decode cL_law 552 = .ok (.aload_n 0, 1) := by decide +kernel
theorem dL_law_553 : decode cL_law 553 = .ok (.iload_n 3, 1) := by decide +kernel
theorem dL_law_554 : decode cL_law 554 = .ok (.iconst 1, 1) := by decide +kernel
theorem dL_law_555 : decode cL_law 555 = .ok (.iadd, 1) := by decide +kernel
theorem dL_law_556 : decode cL_law 556 = .ok (.iaload, 1) := by decide +kernel
theorem dL_law_557 : decode cL_law 557 = .ok (.invokevirtual 73, 3) := by decide +kernel
theorem dL_law_560 : decode cL_law 560 = .ok (.aload_n 2, 1) := by decide +kernel
theorem dL_law_561 : decode cL_law 561 = .ok (.aload_n 0, 1) := by decide +kernel
theorem dL_law_562 : decode cL_law 562 = .ok (.iload_n 3, 1) := by decide +kernel
theorem dL_law_563 : decode cL_law 563 = .ok (.iconst 1, 1) := by decide +kernel
theorem dL_law_564 : decode cL_law 564 = .ok (.iadd, 1) := by decide +kernel
theorem dL_law_565 : decode cL_law 565 = .ok (.iaload, 1) := by decide +kernel
theorem dL_law_566 : decode cL_law 566 = .ok (.invokevirtual 76, 3) := by decide +kernel
theorem dL_law_569 : decode cL_law 569 = .ok (.if_icmp .eq 71, 3) := by decide +kernel
theorem dL_law_572 : decode cL_law 572 = .ok (.iconst 0, 1) := by decide +kernel
theorem dL_law_573 : decode cL_law 573 = .ok (.ireturn, 1) := by decide +kernel
theorem dL_law_574 : decode cL_law 574 = .ok (.aload_n 1, 1) := by decide +kernel
theorem dL_law_575 : decode cL_law 575 = .ok (.aload_n 0, 1) := by decide +kernel
theorem dL_law_576 : decode cL_law 576 = .ok (.iload_n 3, 1) := by decide +kernel
theorem dL_law_577 : decode cL_law 577 = .ok (.iconst 1, 1) := by decide +kernel
theorem dL_law_578 : decode cL_law 578 = .ok (.iadd, 1) := by decide +kernel
theorem dL_law_579 : decode cL_law 579 = .ok (.iaload, 1) := by decide +kernel
theorem dL_law_580 : decode cL_law 580 = .ok (.aload_n 0, 1) := by decide +kernel
theorem dL_law_581 : decode cL_law 581 = .ok (.iload_n 3, 1) := by decide +kernel
theorem dL_law_582 : decode cL_law 582 = .ok (.iconst 2, 1) := by decide +kernel
theorem dL_law_583 : decode cL_law 583 = .ok (.iadd, 1) := by decide +kernel
theorem dL_law_584 : decode cL_law 584 = .ok (.iaload, 1) := by decide +kernel
theorem dL_law_585 : decode cL_law 585 = .ok (.invokevirtual 77, 3) := by decide +kernel
theorem dL_law_588 : decode cL_law 588 = .ok (.aload_n 2, 1) := by decide +kernel
theorem dL_law_589 : decode cL_law 589 = .ok (.aload_n 0, 1) := by decide +kernel
theorem dL_law_590 : decode cL_law 590 = .ok (.iload_n 3, 1) := by decide +kernel
theorem dL_law_591 : decode cL_law 591 = .ok (.iconst 1, 1) := by decide +kernel
theorem dL_law_592 : decode cL_law 592 = .ok (.iadd, 1) := by decide +kernel
theorem dL_law_593 : decode cL_law 593 = .ok (.iaload, 1) := by decide +kernel
theorem dL_law_594 : decode cL_law 594 = .ok (.aload_n 0, 1) := by decide +kernel
theorem dL_law_595 : decode cL_law 595 = .ok (.iload_n 3, 1) := by decide +kernel
theorem dL_law_596 : decode cL_law 596 = .ok (.iconst 2, 1) := by decide +kernel
theorem dL_law_597 : decode cL_law 597 = .ok (.iadd, 1) := by decide +kernel
theorem dL_law_598 : decode cL_law 598 = .ok (.iaload, 1) := by decide +kernel
theorem dL_law_599 : decode cL_law 599 = .ok (.invokevirtual 80, 3) := by decide +kernel
theorem dL_law_602 : decode cL_law 602 = .ok (.if_icmp .eq 38, 3) := by decide +kernel
theorem dL_law_605 : decode cL_law 605 = .ok (.iconst 0, 1) := by decide +kernel
theorem dL_law_606 : decode cL_law 606 = .ok (.ireturn, 1) := by decide +kernel
theorem dL_law_607 : decode cL_law 607 = .ok (.aload_n 1, 1) := by decide +kernel
theorem dL_law_608 : decode cL_law 608 = .ok (.aload_n 0, 1) := by decide +kernel
theorem dL_law_609 : decode cL_law 609 = .ok (.iload_n 3, 1) := by decide +kernel
theorem dL_law_610 : decode cL_law 610 = .ok (.iconst 1, 1) := by decide +kernel
theorem dL_law_611 : decode cL_law 611 = .ok (.iadd, 1) := by decide +kernel
theorem dL_law_612 : decode cL_law 612 = .ok (.iaload, 1) := by decide +kernel
theorem dL_law_613 : decode cL_law 613 = .ok (.aload_n 0, 1) := by decide +kernel
theorem dL_law_614 : decode cL_law 614 = .ok (.iload_n 3, 1) := by decide +kernel
theorem dL_law_615 : decode cL_law 615 = .ok (.iconst 2, 1) := by decide +kernel
theorem dL_law_616 : decode cL_law 616 = .ok (.iadd, 1) := by decide +kernel
theorem dL_law_617 : decode cL_law 617 = .ok (.iaload, 1) := by decide +kernel
theorem dL_law_618 : decode cL_law 618 = .ok (.invokevirtual 81, 3) := by decide +kernel
theorem dL_law_621 : decode cL_law 621 = .ok (.aload_n 2, 1) := by decide +kernel
theorem dL_law_622 : decode cL_law 622 = .ok (.aload_n 0, 1) := by decide +kernel
theorem dL_law_623 : decode cL_law 623 = .ok (.iload_n 3, 1) := by decide +kernel
theorem dL_law_624 : decode cL_law 624 = .ok (.iconst 1, 1) := by decide +kernel
theorem dL_law_625 : decode cL_law 625 = .ok (.iadd, 1) := by decide +kernel
theorem dL_law_626 : decode cL_law 626 = .ok (.iaload, 1) := by decide +kernel
theorem dL_law_627 : decode cL_law 627 = .ok (.aload_n 0, 1) := by decide +kernel
theorem dL_law_628 : decode cL_law 628 = .ok (.iload_n 3, 1) := by decide +kernel
theorem dL_law_629 : decode cL_law 629 = .ok (.iconst 2, 1) := by decide +kernel
theorem dL_law_630 : decode cL_law 630 = .ok (.iadd, 1) := by decide +kernel
theorem dL_law_631 : decode cL_law 631 = .ok (.iaload, 1) := by decide +kernel
theorem dL_law_632 : decode cL_law 632 = .ok (.invokevirtual 84, 3) := by decide +kernel
theorem dL_law_635 : decode cL_law 635 = .ok (.if_icmp .eq 5, 3) := by decide +kernel
theorem dL_law_638 : decode cL_law 638 = .ok (.iconst 0, 1) := by decide +kernel
theorem dL_law_639 : decode cL_law 639 = .ok (.ireturn, 1) := by decide +kernel
theorem dL_law_640 : decode cL_law 640 = .ok (.iinc 3 6, 3) := by decide +kernel
theorem dL_law_643 : decode cL_law 643 = .ok (.goto (-625), 3) := by decide +kernel
theorem dL_law_646 : decode cL_law 646 = .ok (.iconst 1, 1) := by decide +kernel
theorem dL_law_647 : decode cL_law 647 = .ok (.ireturn, 1) := by decide +kernel
theorem dX0_init_0 : decode cX0_init 0 = .ok (.aload_n 0, 1) := by decide +kernel
theorem dX0_init_1 : decode cX0_init 1 = .ok (.invokespecial 3, 3) := by decide +kernel
theorem dX0_init_4 : decode cX0_init 4 = .ok (.aload_n 0, 1) := by decide +kernel
theorem dX0_init_5 : decode cX0_init 5 = .ok (.iconst 5, 1) := by decide +kernel
theorem dX0_init_6 : decode cX0_init 6 = .ok (.newarray .int, 2) := by decide +kernel
theorem dX0_init_8 : decode cX0_init 8 = .ok (.putfield 9, 3) := by decide +kernel
theorem dX0_init_11 : decode cX0_init 11 = .ok (.aload_n 0, 1) := by decide +kernel
theorem dX0_init_12 : decode cX0_init 12 = .ok (.bipush 32, 2) := by decide +kernel
theorem dX0_init_14 : decode cX0_init 14 = .ok (.newarray .int, 2) := by decide +kernel
theorem dX0_init_16 : decode cX0_init 16 = .ok (.putfield 15, 3) := by decide +kernel
theorem dX0_init_19 : decode cX0_init 19 = .ok (.return_, 1) := by decide +kernel
theorem dX0_check_0 : decode cX0_check 0 = .ok (.aload_n 1, 1) := by decide +kernel
theorem dX0_check_1 : decode cX0_check 1 = .ok (.iload_n 2, 1) := by decide +kernel
theorem dX0_check_2 : decode cX0_check 2 = .ok (.aaload, 1) := by decide +kernel
theorem dX0_check_3 : decode cX0_check 3 = .ok (.astore 4, 2) := by decide +kernel
theorem dX0_check_5 : decode cX0_check 5 = .ok (.aload 4, 2) := by decide +kernel
theorem dX0_check_7 : decode cX0_check 7 = .ok (.iconst 1, 1) := by decide +kernel
theorem dX0_check_8 : decode cX0_check 8 = .ok (.invokevirtual 18, 3) := by decide +kernel
theorem dX0_check_11 : decode cX0_check 11 = .ok (.istore 5, 2) := by decide +kernel
theorem dX0_check_13 : decode cX0_check 13 = .ok (.aload 4, 2) := by decide +kernel
theorem dX0_check_15 : decode cX0_check 15 = .ok (.iconst 2, 1) := by decide +kernel
theorem dX0_check_16 : decode cX0_check 16 = .ok (.invokevirtual 18, 3) := by decide +kernel
theorem dX0_check_19 : decode cX0_check 19 = .ok (.istore 6, 2) := by decide +kernel
theorem dX0_check_21 : decode cX0_check 21 = .ok (.aload 4, 2) := by decide +kernel
theorem dX0_check_23 : decode cX0_check 23 = .ok (.invokevirtual 24, 3) := by decide +kernel
theorem dX0_check_26 : decode cX0_check 26 = .ok (.istore 7, 2) := by decide +kernel
theorem dX0_check_28 : decode cX0_check 28 = .ok (.iconst 1, 1) := by decide +kernel
theorem dX0_check_29 : decode cX0_check 29 = .ok (.iload_n 2, 1) := by decide +kernel
theorem dX0_check_30 : decode cX0_check 30 = .ok (.ishl, 1) := by decide +kernel
theorem dX0_check_31 : decode cX0_check 31 = .ok (.istore 8, 2) := by decide +kernel
theorem dX0_check_33 : decode cX0_check 33 = .ok (.iconst 0, 1) := by decide +kernel
theorem dX0_check_34 : decode cX0_check 34 = .ok (.istore 9, 2) := by decide +kernel
theorem dX0_check_36 : decode cX0_check 36 = .ok (.iload 9, 2) := by decide +kernel
theorem dX0_check_38 : decode cX0_check 38 = .ok (.bipush 6, 2) := by decide +kernel
theorem dX0_check_40 : decode cX0_check 40 = .ok (.if_icmp .ge 53, 3) := by decide +kernel
theorem dX0_check_43 : decode cX0_check 43 = .ok (.aload_n 1, 1) := by decide +kernel
theorem dX0_check_44 : decode cX0_check 44 = .ok (.iload 9, 2) := by decide +kernel
theorem dX0_check_46 : decode cX0_check 46 = .ok (.aaload, 1) := by decide +kernel
theorem dX0_check_47 : decode cX0_check 47 = .ok (.iconst 1, 1) := by decide +kernel
theorem dX0_check_48 : decode cX0_check 48 = .ok (.invokevirtual 18, 3) := by decide +kernel
theorem dX0_check_51 : decode cX0_check 51 = .ok (.istore 10, 2) := by decide +kernel
theorem dX0_check_53 : decode cX0_check 53 = .ok (.iload 7, 2) := by decide +kernel
theorem dX0_check_55 : decode cX0_check 55 = .ok (.iload 9, 2) := by decide +kernel
theorem dX0_check_57 : decode cX0_check 57 = .ok (.invokestatic 28, 3) := by decide +kernel
theorem dX0_check_60 : decode cX0_check 60 = .ok (.ifCond .eq 10, 3) := by decide +kernel
theorem dX0_check_63 : decode cX0_check 63 = .ok (.iload 5, 2) := by decide +kernel
theorem dX0_check_65 : decode cX0_check 65 = .ok (.iload 10, 2) := by decide +kernel
theorem dX0_check_67 : decode cX0_check 67 = .ok (.ior, 1) := by decide +kernel
theorem dX0_check_68 : decode cX0_check 68 = .ok (.istore 5, 2) := by decide +kernel
theorem dX0_check_70 : decode cX0_check 70 = .ok (.iload 10, 2) := by decide +kernel
theorem dX0_check_72 : decode cX0_check 72 = .ok (.iload 6, 2) := by decide +kernel
theorem dX0_check_74 : decode cX0_check 74 = .ok (.iand, 1) := by decide +kernel
theorem dX0_check_75 : decode cX0_check 75 = .ok (.ifCond .ne 12, 3) := by decide +kernel
theorem dX0_check_78 : decode cX0_check 78 = .ok (.iload 8, 2) := by decide +kernel
theorem dX0_check_80 : decode cX0_check 80 = .ok (.iconst 1, 1) := by decide +kernel
theorem dX0_check_81 : decode cX0_check 81 = .ok (.iload 9, 2) := by decide +kernel
theorem dX0_check_83 : decode cX0_check 83 = .ok (.ishl, 1) := by decide +kernel
theorem dX0_check_84 : decode cX0_check 84 = .ok (.ior, 1) := by decide +kernel
theorem dX0_check_85 : decode cX0_check 85 = .ok (.istore 8, 2) := by decide +kernel
theorem dX0_check_87 : decode cX0_check 87 = .ok (.iinc 9 1, 3) := by decide +kernel
theorem dX0_check_90 : decode cX0_check 90 = .ok (.goto (-54), 3) := by decide +kernel
theorem dX0_check_93 : decode cX0_check 93 = .ok (.aload_n 0, 1) := by decide +kernel
theorem dX0_check_94 : decode cX0_check 94 = .ok (.getfield 9, 3) := by decide +kernel
theorem dX0_check_97 : decode cX0_check 97 = .ok (.iconst 0, 1) := by decide +kernel
theorem dX0_check_98 : decode cX0_check 98 = .ok (.aload 4, 2) := by decide +kernel
theorem dX0_check_100 : decode cX0_check 100 = .ok (.iconst 2, 1) := by decide +kernel
theorem dX0_check_101 : decode cX0_check 101 = .ok (.iload 5, 2) := by decide +kernel
theorem dX0_check_103 : decode cX0_check 103 = .ok (.iconst (-1), 1) := by decide +kernel
theorem dX0_check_104 : decode cX0_check 104 = .ok (.ixor, 1) := by decide +kernel
theorem dX0_check_105 : decode cX0_check 105 = .ok (.invokestatic 32, 3) := by decide +kernel
theorem dX0_check_108 : decode cX0_check 108 = .ok (.iastore, 1) := by decide +kernel
theorem dX0_check_109 : decode cX0_check 109 = .ok (.aload_n 0, 1) := by decide +kernel
theorem dX0_check_110 : decode cX0_check 110 = .ok (.getfield 9, 3) := by decide +kernel
theorem dX0_check_113 : decode cX0_check 113 = .ok (.iconst 1, 1) := by decide +kernel
theorem dX0_check_114 : decode cX0_check 114 = .ok (.aload 4, 2) := by decide +kernel
theorem dX0_check_116 : decode cX0_check 116 = .ok (.invokestatic 36, 3) := by decide +kernel
theorem dX0_check_119 : decode cX0_check 119 = .ok (.iastore, 1) := by decide +kernel
theorem dX0_check_120 : decode cX0_check 120 = .ok (.aload_n 0, 1) := by decide +kernel
theorem dX0_check_121 : decode cX0_check 121 = .ok (.getfield 9, 3) := by decide +kernel
theorem dX0_check_124 : decode cX0_check 124 = .ok (.iconst 2, 1) := by decide +kernel
theorem dX0_check_125 : decode cX0_check 125 = .ok (.aload_n 0, 1) := by decide +kernel
theorem dX0_check_126 : decode cX0_check 126 = .ok (.aload 4, 2) := by decide +kernel
theorem dX0_check_128 : decode cX0_check 128 = .ok (.invokevirtual 40, 3) := by decide +kernel
theorem dX0_check_131 : decode cX0_check 131 = .ok (.iastore, 1) := by decide +kernel
theorem dX0_check_132 : decode cX0_check 132 = .ok (.aload_n 0, 1) := by decide +kernel
theorem dX0_check_133 : decode cX0_check 133 = .ok (.getfield 9, 3) := by decide +kernel
theorem dX0_check_136 : decode cX0_check 136 = .ok (.iconst 3, 1) := by decide +kernel
theorem dX0_check_137 : decode cX0_check 137 = .ok (.aload 4, 2) := by decide +kernel
theorem dX0_check_139 : decode cX0_check 139 = .ok (.iconst 0, 1) := by decide +kernel
theorem dX0_check_140 : decode cX0_check 140 = .ok (.iload_n 3, 1) := by decide +kernel
theorem dX0_check_141 : decode cX0_check 141 = .ok (.invokestatic 32, 3) := by decide +kernel
theorem dX0_check_144 : decode cX0_check 144 = .ok (.iastore, 1) := by decide +kernel
theorem dX0_check_145 : decode cX0_check 145 = .ok (.aload_n 0, 1) := by decide +kernel
theorem dX0_check_146 : decode cX0_check 146 = .ok (.getfield 9, 3) := by decide +kernel
theorem dX0_check_149 : decode cX0_check 149 = .ok (.iconst 4, 1) := by decide +kernel
theorem dX0_check_150 : decode cX0_check 150 = .ok (.aload 4, 2) := by decide +kernel
theorem dX0_check_152 : decode cX0_check 152 = .ok (.iload 8, 2) := by decide +kernel
theorem dX0_check_154 : decode cX0_check 154 = .ok (.invokestatic 43, 3) := by decide +kernel
theorem dX0_check_157 : decode cX0_check 157 = .ok (.iastore, 1) := by decide +kernel
theorem dX0_check_158 : decode cX0_check 158 = .ok (.return_, 1) := by decide +kernel
theorem dX0_linesOf_0 : decode cX0_linesOf 0 = .ok (.aload_n 0, 1) := by decide +kernel
theorem dX0_linesOf_1 : decode cX0_linesOf 1 = .ok (.getfield 9, 3) := by decide +kernel
theorem dX0_linesOf_4 : decode cX0_linesOf 4 = .ok (.iload_n 1, 1) := by decide +kernel
theorem dX0_linesOf_5 : decode cX0_linesOf 5 = .ok (.iaload, 1) := by decide +kernel
theorem dX0_linesOf_6 : decode cX0_linesOf 6 = .ok (.ireturn, 1) := by decide +kernel
theorem dX0_linesWith_0 : decode cX0_linesWith 0 = .ok (.iconst 0, 1) := by decide +kernel
theorem dX0_linesWith_1 : decode cX0_linesWith 1 = .ok (.istore_n 3, 1) := by decide +kernel
theorem dX0_linesWith_2 : decode cX0_linesWith 2 = .ok (.iconst 0, 1) := by decide +kernel
theorem dX0_linesWith_3 : decode cX0_linesWith 3 = .ok (.istore 4, 2) := by decide +kernel
theorem dX0_linesWith_5 : decode cX0_linesWith 5 = .ok (.iload 4, 2) := by decide +kernel
theorem dX0_linesWith_7 : decode cX0_linesWith 7 = .ok (.aload_n 0, 1) := by decide +kernel
theorem dX0_linesWith_8 : decode cX0_linesWith 8 = .ok (.invokevirtual 47, 3) := by decide +kernel
theorem dX0_linesWith_11 : decode cX0_linesWith 11 = .ok (.if_icmp .ge 39, 3) := by decide +kernel
theorem dX0_linesWith_14 : decode cX0_linesWith 14 = .ok (.aload_n 0, 1) := by decide +kernel
theorem dX0_linesWith_15 : decode cX0_linesWith 15 = .ok (.iload 4, 2) := by decide +kernel
theorem dX0_linesWith_17 : decode cX0_linesWith 17 = .ok (.invokevirtual 50, 3) := by decide +kernel
theorem dX0_linesWith_20 : decode cX0_linesWith 20 = .ok (.iload_n 1, 1) := by decide +kernel
theorem dX0_linesWith_21 : decode cX0_linesWith 21 = .ok (.if_icmp .ne 23, 3) := by decide +kernel
theorem dX0_linesWith_24 : decode cX0_linesWith 24 = .ok (.iload_n 2, 1) := by decide +kernel
theorem dX0_linesWith_25 : decode cX0_linesWith 25 = .ok (.aload_n 0, 1) := by decide +kernel
theorem dX0_linesWith_26 : decode cX0_linesWith 26 = .ok (.iload 4, 2) := by decide +kernel
theorem dX0_linesWith_28 : decode cX0_linesWith 28 = .ok (.invokevirtual 53, 3) := by decide +kernel
theorem dX0_linesWith_31 : decode cX0_linesWith 31 = .ok (.invokestatic 28, 3) := by decide +kernel
theorem dX0_linesWith_34 : decode cX0_linesWith 34 = .ok (.ifCond .eq 10, 3) := by decide +kernel
theorem dX0_linesWith_37 : decode cX0_linesWith 37 = .ok (.iload_n 3, 1) := by decide +kernel
theorem dX0_linesWith_38 : decode cX0_linesWith 38 = .ok (.iconst 1, 1) := by decide +kernel
theorem dX0_linesWith_39 : decode cX0_linesWith 39 = .ok (.iload 4, 2) := by decide +kernel
theorem dX0_linesWith_41 : decode cX0_linesWith 41 = .ok (.ishl, 1) := by decide +kernel
theorem dX0_linesWith_42 : decode cX0_linesWith 42 = .ok (.ior, 1) := by decide +kernel
theorem dX0_linesWith_43 : decode cX0_linesWith 43 = .ok (.istore_n 3, 1) := by decide +kernel
theorem dX0_linesWith_44 : decode cX0_linesWith 44 = .ok (.iinc 4 1, 3) := by decide +kernel
theorem dX0_linesWith_47 : decode cX0_linesWith 47 = .ok (.goto (-42), 3) := by decide +kernel
theorem dX0_linesWith_50 : decode cX0_linesWith 50 = .ok (.iload_n 3, 1) := by decide +kernel
theorem dX0_linesWith_51 : decode cX0_linesWith 51 = .ok (.ireturn, 1) := by decide +kernel
theorem dX0_repeatedDefs_0 : decode cX0_repeatedDefs 0 = .ok (.iconst 0, 1) := by decide +kernel
theorem dX0_repeatedDefs_1 : decode cX0_repeatedDefs 1 = .ok (.istore_n 1, 1) := by decide +kernel
theorem dX0_repeatedDefs_2 : decode cX0_repeatedDefs 2 = .ok (.iconst 0, 1) := by decide +kernel
theorem dX0_repeatedDefs_3 : decode cX0_repeatedDefs 3 = .ok (.istore_n 2, 1) := by decide +kernel
theorem dX0_repeatedDefs_4 : decode cX0_repeatedDefs 4 = .ok (.iconst 0, 1) := by decide +kernel
theorem dX0_repeatedDefs_5 : decode cX0_repeatedDefs 5 = .ok (.istore_n 3, 1) := by decide +kernel
theorem dX0_repeatedDefs_6 : decode cX0_repeatedDefs 6 = .ok (.iload_n 3, 1) := by decide +kernel
theorem dX0_repeatedDefs_7 : decode cX0_repeatedDefs 7 = .ok (.aload_n 0, 1) := by decide +kernel
theorem dX0_repeatedDefs_8 : decode cX0_repeatedDefs 8 = .ok (.invokevirtual 47, 3) := by decide +kernel
theorem dX0_repeatedDefs_11 : decode cX0_repeatedDefs 11 = .ok (.if_icmp .ge 47, 3) := by decide +kernel
theorem dX0_repeatedDefs_14 : decode cX0_repeatedDefs 14 = .ok (.aload_n 0, 1) := by decide +kernel
theorem dX0_repeatedDefs_15 : decode cX0_repeatedDefs 15 = .ok (.iload_n 3, 1) := by decide +kernel
theorem dX0_repeatedDefs_16 : decode cX0_repeatedDefs 16 = .ok (.invokevirtual 50, 3) := by decide +kernel
theorem dX0_repeatedDefs_19 : decode cX0_repeatedDefs 19 = .ok (.iconst 1, 1) := by decide +kernel
theorem dX0_repeatedDefs_20 : decode cX0_repeatedDefs 20 = .ok (.if_icmp .ne 32, 3) := by decide +kernel
theorem dX0_repeatedDefs_23 : decode cX0_repeatedDefs 23 = .ok (.aload_n 0, 1) := by decide +kernel
theorem dX0_repeatedDefs_24 : decode cX0_repeatedDefs 24 = .ok (.iload_n 3, 1) := by decide +kernel
theorem dX0_repeatedDefs_25 : decode cX0_repeatedDefs 25 = .ok (.invokevirtual 53, 3) := by decide +kernel
theorem dX0_repeatedDefs_28 : decode cX0_repeatedDefs 28 = .ok (.istore 4, 2) := by decide +kernel
theorem dX0_repeatedDefs_30 : decode cX0_repeatedDefs 30 = .ok (.iload_n 2, 1) := by decide +kernel
theorem dX0_repeatedDefs_31 : decode cX0_repeatedDefs 31 = .ok (.iload 4, 2) := by decide +kernel
theorem dX0_repeatedDefs_33 : decode cX0_repeatedDefs 33 = .ok (.invokestatic 28, 3) := by decide +kernel
theorem dX0_repeatedDefs_36 : decode cX0_repeatedDefs 36 = .ok (.ifCond .eq 9, 3) := by decide +kernel
theorem dX0_repeatedDefs_39 : decode cX0_repeatedDefs 39 = .ok (.iload_n 1, 1) := by decide +kernel
theorem dX0_repeatedDefs_40 : decode cX0_repeatedDefs 40 = .ok (.iconst 1, 1) := by decide +kernel
theorem dX0_repeatedDefs_41 : decode cX0_repeatedDefs 41 = .ok (.iload_n 3, 1) := by decide +kernel
theorem dX0_repeatedDefs_42 : decode cX0_repeatedDefs 42 = .ok (.ishl, 1) := by decide +kernel
theorem dX0_repeatedDefs_43 : decode cX0_repeatedDefs 43 = .ok (.ior, 1) := by decide +kernel
theorem dX0_repeatedDefs_44 : decode cX0_repeatedDefs 44 = .ok (.istore_n 1, 1) := by decide +kernel
theorem dX0_repeatedDefs_45 : decode cX0_repeatedDefs 45 = .ok (.iload_n 2, 1) := by decide +kernel
theorem dX0_repeatedDefs_46 : decode cX0_repeatedDefs 46 = .ok (.iconst 1, 1) := by decide +kernel
theorem dX0_repeatedDefs_47 : decode cX0_repeatedDefs 47 = .ok (.iload 4, 2) := by decide +kernel
theorem dX0_repeatedDefs_49 : decode cX0_repeatedDefs 49 = .ok (.ishl, 1) := by decide +kernel
theorem dX0_repeatedDefs_50 : decode cX0_repeatedDefs 50 = .ok (.ior, 1) := by decide +kernel
theorem dX0_repeatedDefs_51 : decode cX0_repeatedDefs 51 = .ok (.istore_n 2, 1) := by decide +kernel
theorem dX0_repeatedDefs_52 : decode cX0_repeatedDefs 52 = .ok (.iinc 3 1, 3) := by decide +kernel
theorem dX0_repeatedDefs_55 : decode cX0_repeatedDefs 55 = .ok (.goto (-49), 3) := by decide +kernel
theorem dX0_repeatedDefs_58 : decode cX0_repeatedDefs 58 = .ok (.iload_n 1, 1) := by decide +kernel
theorem dX0_repeatedDefs_59 : decode cX0_repeatedDefs 59 = .ok (.ireturn, 1) := by decide +kernel
theorem dX0_unpaired_0 : decode cX0_unpaired 0 = .ok (.iconst 0, 1) := by decide +kernel
theorem dX0_unpaired_1 : decode cX0_unpaired 1 = .ok (.istore_n 2, 1) := by decide +kernel
theorem dX0_unpaired_2 : decode cX0_unpaired 2 = .ok (.iconst 0, 1) := by decide +kernel
theorem dX0_unpaired_3 : decode cX0_unpaired 3 = .ok (.istore_n 3, 1) := by decide +kernel
theorem dX0_unpaired_4 : decode cX0_unpaired 4 = .ok (.iconst 0, 1) := by decide +kernel
theorem dX0_unpaired_5 : decode cX0_unpaired 5 = .ok (.istore 4, 2) := by decide +kernel
theorem dX0_unpaired_7 : decode cX0_unpaired 7 = .ok (.iload 4, 2) := by decide +kernel
theorem dX0_unpaired_9 : decode cX0_unpaired 9 = .ok (.aload_n 1, 1) := by decide +kernel
theorem dX0_unpaired_10 : decode cX0_unpaired 10 = .ok (.invokevirtual 47, 3) := by decide +kernel
theorem dX0_unpaired_13 : decode cX0_unpaired 13 = .ok (.if_icmp .ge 66, 3) := by decide +kernel
theorem dX0_unpaired_16 : decode cX0_unpaired 16 = .ok (.aload_n 1, 1) := by decide +kernel
theorem dX0_unpaired_17 : decode cX0_unpaired 17 = .ok (.iload 4, 2) := by decide +kernel
theorem dX0_unpaired_19 : decode cX0_unpaired 19 = .ok (.invokevirtual 50, 3) := by decide +kernel
theorem dX0_unpaired_22 : decode cX0_unpaired 22 = .ok (.istore 5, 2) := by decide +kernel
theorem dX0_unpaired_24 : decode cX0_unpaired 24 = .ok (.iload 5, 2) := by decide +kernel
theorem dX0_unpaired_26 : decode cX0_unpaired 26 = .ok (.iconst 3, 1) := by decide +kernel
theorem dX0_unpaired_27 : decode cX0_unpaired 27 = .ok (.if_icmp .ne 17, 3) := by decide +kernel
theorem dX0_unpaired_30 : decode cX0_unpaired 30 = .ok (.aload_n 0, 1) := by decide +kernel
theorem dX0_unpaired_31 : decode cX0_unpaired 31 = .ok (.getfield 15, 3) := by decide +kernel
theorem dX0_unpaired_34 : decode cX0_unpaired 34 = .ok (.iload_n 3, 1) := by decide +kernel
theorem dX0_unpaired_35 : decode cX0_unpaired 35 = .ok (.iload 4, 2) := by decide +kernel
theorem dX0_unpaired_37 : decode cX0_unpaired 37 = .ok (.iastore, 1) := by decide +kernel
theorem dX0_unpaired_38 : decode cX0_unpaired 38 = .ok (.iinc 3 1, 3) := by decide +kernel
theorem dX0_unpaired_41 : decode cX0_unpaired 41 = .ok (.goto 32, 3) := by decide +kernel
theorem dX0_unpaired_44 : decode cX0_unpaired 44 = .ok (.iload 5, 2) := by decide +kernel
theorem dX0_unpaired_46 : decode cX0_unpaired 46 = .ok (.iconst 4, 1) := by decide +kernel
theorem dX0_unpaired_47 : decode cX0_unpaired 47 = .ok (.if_icmp .ne 13, 3) := by decide +kernel
theorem dX0_unpaired_50 : decode cX0_unpaired 50 = .ok (.iload_n 3, 1) := by decide +kernel
theorem dX0_unpaired_51 : decode cX0_unpaired 51 = .ok (.ifCond .le 9, 3) := by decide +kernel
theorem dX0_unpaired_54 : decode cX0_unpaired 54 = .ok (.iinc 3 (-1), 3) := by decide +kernel
theorem dX0_unpaired_57 : decode cX0_unpaired 57 = .ok (.goto 16, 3) := by decide +kernel
theorem dX0_unpaired_60 : decode cX0_unpaired 60 = .ok (.iload 5, 2) := by decide +kernel
theorem dX0_unpaired_62 : decode cX0_unpaired 62 = .ok (.iconst 4, 1) := by decide +kernel
theorem dX0_unpaired_63 : decode cX0_unpaired 63 = .ok (.if_icmp .ne 10, 3) := by decide +kernel
theorem dX0_unpaired_66 : decode cX0_unpaired 66 = .ok (.iload_n 2, 1) := by decide +kernel
theorem dX0_unpaired_67 : decode cX0_unpaired 67 = .ok (.iconst 1, 1) := by decide +kernel
theorem dX0_unpaired_68 : decode cX0_unpaired 68 = .ok (.iload 4, 2) := by decide +kernel
theorem dX0_unpaired_70 : decode cX0_unpaired 70 = .ok (.ishl, 1) := by decide +kernel
theorem dX0_unpaired_71 : decode cX0_unpaired 71 = .ok (.ior, 1) := by decide +kernel
theorem dX0_unpaired_72 : decode cX0_unpaired 72 = .ok (.istore_n 2, 1) := by decide +kernel
theorem dX0_unpaired_73 : decode cX0_unpaired 73 = .ok (.iinc 4 1, 3) := by decide +kernel
theorem dX0_unpaired_76 : decode cX0_unpaired 76 = .ok (.goto (-69), 3) := by decide +kernel
theorem dX0_unpaired_79 : decode cX0_unpaired 79 = .ok (.iconst 0, 1) := by decide +kernel
theorem dX0_unpaired_80 : decode cX0_unpaired 80 = .ok (.istore 4, 2) := by decide +kernel
theorem dX0_unpaired_82 : decode cX0_unpaired 82 = .ok (.iload 4, 2) := by decide +kernel
theorem dX0_unpaired_84 : decode cX0_unpaired 84 = .ok (.iload_n 3, 1) := by decide +kernel
theorem dX0_unpaired_85 : decode cX0_unpaired 85 = .ok (.if_icmp .ge 21, 3) := by decide +kernel
theorem dX0_unpaired_88 : decode cX0_unpaired 88 = .ok (.iload_n 2, 1) := by decide +kernel
theorem dX0_unpaired_89 : decode cX0_unpaired 89 = .ok (.iconst 1, 1) := by decide +kernel
theorem dX0_unpaired_90 : decode cX0_unpaired 90 = .ok (.aload_n 0, 1) := by decide +kernel
theorem dX0_unpaired_91 : decode cX0_unpaired 91 = .ok (.getfield 15, 3) := by decide +kernel
theorem dX0_unpaired_94 : decode cX0_unpaired 94 = .ok (.iload 4, 2) := by decide +kernel
theorem dX0_unpaired_96 : decode cX0_unpaired 96 = .ok (.iaload, 1) := by decide +kernel
theorem dX0_unpaired_97 : decode cX0_unpaired 97 = .ok (.ishl, 1) := by decide +kernel
theorem dX0_unpaired_98 : decode cX0_unpaired 98 = .ok (.ior, 1) := by decide +kernel
theorem dX0_unpaired_99 : decode cX0_unpaired 99 = .ok (.istore_n 2, 1) := by decide +kernel
theorem dX0_unpaired_100 : decode cX0_unpaired 100 = .ok (.iinc 4 1, 3) := by decide +kernel
theorem dX0_unpaired_103 : decode cX0_unpaired 103 = .ok (.goto (-21), 3) := by decide +kernel
theorem dX0_unpaired_106 : decode cX0_unpaired 106 = .ok (.iload_n 2, 1) := by decide +kernel
theorem dX0_unpaired_107 : decode cX0_unpaired 107 = .ok (.ireturn, 1) := by decide +kernel
theorem dX0_importsOf_0 : decode cX0_importsOf 0 = .ok (.iconst 0, 1) := by decide +kernel
theorem dX0_importsOf_1 : decode cX0_importsOf 1 = .ok (.istore_n 2, 1) := by decide +kernel
theorem dX0_importsOf_2 : decode cX0_importsOf 2 = .ok (.iconst 0, 1) := by decide +kernel
theorem dX0_importsOf_3 : decode cX0_importsOf 3 = .ok (.istore_n 3, 1) := by decide +kernel
theorem dX0_importsOf_4 : decode cX0_importsOf 4 = .ok (.iload_n 3, 1) := by decide +kernel
theorem dX0_importsOf_5 : decode cX0_importsOf 5 = .ok (.aload_n 0, 1) := by decide +kernel
theorem dX0_importsOf_6 : decode cX0_importsOf 6 = .ok (.invokevirtual 47, 3) := by decide +kernel
theorem dX0_importsOf_9 : decode cX0_importsOf 9 = .ok (.if_icmp .ge 39, 3) := by decide +kernel
theorem dX0_importsOf_12 : decode cX0_importsOf 12 = .ok (.aload_n 0, 1) := by decide +kernel
theorem dX0_importsOf_13 : decode cX0_importsOf 13 = .ok (.iload_n 3, 1) := by decide +kernel
theorem dX0_importsOf_14 : decode cX0_importsOf 14 = .ok (.invokevirtual 50, 3) := by decide +kernel
theorem dX0_importsOf_17 : decode cX0_importsOf 17 = .ok (.iconst 5, 1) := by decide +kernel
theorem dX0_importsOf_18 : decode cX0_importsOf 18 = .ok (.if_icmp .ne 24, 3) := by decide +kernel
theorem dX0_importsOf_21 : decode cX0_importsOf 21 = .ok (.iload_n 1, 1) := by decide +kernel
theorem dX0_importsOf_22 : decode cX0_importsOf 22 = .ok (.aload_n 0, 1) := by decide +kernel
theorem dX0_importsOf_23 : decode cX0_importsOf 23 = .ok (.iload_n 3, 1) := by decide +kernel
theorem dX0_importsOf_24 : decode cX0_importsOf 24 = .ok (.invokevirtual 53, 3) := by decide +kernel
theorem dX0_importsOf_27 : decode cX0_importsOf 27 = .ok (.bipush 6, 2) := by decide +kernel
theorem dX0_importsOf_29 : decode cX0_importsOf 29 = .ok (.irem, 1) := by decide +kernel
theorem dX0_importsOf_30 : decode cX0_importsOf 30 = .ok (.invokestatic 28, 3) := by decide +kernel
theorem dX0_importsOf_33 : decode cX0_importsOf 33 = .ok (.ifCond .eq 9, 3) := by decide +kernel
theorem dX0_importsOf_36 : decode cX0_importsOf 36 = .ok (.iload_n 2, 1) := by decide +kernel
theorem dX0_importsOf_37 : decode cX0_importsOf 37 = .ok (.iconst 1, 1) := by decide +kernel
theorem dX0_importsOf_38 : decode cX0_importsOf 38 = .ok (.iload_n 3, 1) := by decide +kernel
theorem dX0_importsOf_39 : decode cX0_importsOf 39 = .ok (.ishl, 1) := by decide +kernel
theorem dX0_importsOf_40 : decode cX0_importsOf 40 = .ok (.ior, 1) := by decide +kernel
theorem dX0_importsOf_41 : decode cX0_importsOf 41 = .ok (.istore_n 2, 1) := by decide +kernel
theorem dX0_importsOf_42 : decode cX0_importsOf 42 = .ok (.iinc 3 1, 3) := by decide +kernel
theorem dX0_importsOf_45 : decode cX0_importsOf 45 = .ok (.goto (-41), 3) := by decide +kernel
theorem dX0_importsOf_48 : decode cX0_importsOf 48 = .ok (.iload_n 2, 1) := by decide +kernel
theorem dX0_importsOf_49 : decode cX0_importsOf 49 = .ok (.ireturn, 1) := by decide +kernel
theorem dX1_init_0 : decode cX1_init 0 = .ok (.aload_n 0, 1) := by decide +kernel
theorem dX1_init_1 : decode cX1_init 1 = .ok (.invokespecial 3, 3) := by decide +kernel
theorem dX1_init_4 : decode cX1_init 4 = .ok (.aload_n 0, 1) := by decide +kernel
theorem dX1_init_5 : decode cX1_init 5 = .ok (.bipush 60, 2) := by decide +kernel
theorem dX1_init_7 : decode cX1_init 7 = .ok (.newarray .int, 2) := by decide +kernel
theorem dX1_init_9 : decode cX1_init 9 = .ok (.putfield 9, 3) := by decide +kernel
theorem dX1_init_12 : decode cX1_init 12 = .ok (.aload_n 0, 1) := by decide +kernel
theorem dX1_init_13 : decode cX1_init 13 = .ok (.bipush 60, 2) := by decide +kernel
theorem dX1_init_15 : decode cX1_init 15 = .ok (.newarray .int, 2) := by decide +kernel
theorem dX1_init_17 : decode cX1_init 17 = .ok (.putfield 15, 3) := by decide +kernel
theorem dX1_init_20 : decode cX1_init 20 = .ok (.aload_n 0, 1) := by decide +kernel
theorem dX1_init_21 : decode cX1_init 21 = .ok (.bipush 60, 2) := by decide +kernel
theorem dX1_init_23 : decode cX1_init 23 = .ok (.newarray .int, 2) := by decide +kernel
theorem dX1_init_25 : decode cX1_init 25 = .ok (.putfield 18, 3) := by decide +kernel
theorem dX1_init_28 : decode cX1_init 28 = .ok (.aload_n 0, 1) := by decide +kernel
theorem dX1_init_29 : decode cX1_init 29 = .ok (.bipush 60, 2) := by decide +kernel
theorem dX1_init_31 : decode cX1_init 31 = .ok (.newarray .int, 2) := by decide +kernel
theorem dX1_init_33 : decode cX1_init 33 = .ok (.putfield 21, 3) := by decide +kernel
theorem dX1_init_36 : decode cX1_init 36 = .ok (.return_, 1) := by decide +kernel
theorem dX1_size_0 : decode cX1_size 0 = .ok (.aload_n 0, 1) := by decide +kernel
theorem dX1_size_1 : decode cX1_size 1 = .ok (.getfield 24, 3) := by decide +kernel
theorem dX1_size_4 : decode cX1_size 4 = .ok (.ireturn, 1) := by decide +kernel
theorem dX1_add_0 : decode cX1_add 0 = .ok (.aload_n 0, 1) := by decide +kernel
theorem dX1_add_1 : decode cX1_add 1 = .ok (.getfield 9, 3) := by decide +kernel
theorem dX1_add_4 : decode cX1_add 4 = .ok (.aload_n 0, 1) := by decide +kernel
theorem dX1_add_5 : decode cX1_add 5 = .ok (.getfield 28, 3) := by decide +kernel
theorem dX1_add_8 : decode cX1_add 8 = .ok (.iload_n 1, 1) := by decide +kernel
theorem dX1_add_9 : decode cX1_add 9 = .ok (.iastore, 1) := by decide +kernel
theorem dX1_add_10 : decode cX1_add 10 = .ok (.aload_n 0, 1) := by decide +kernel
theorem dX1_add_11 : decode cX1_add 11 = .ok (.getfield 15, 3) := by decide +kernel
theorem dX1_add_14 : decode cX1_add 14 = .ok (.aload_n 0, 1) := by decide +kernel
theorem dX1_add_15 : decode cX1_add 15 = .ok (.getfield 28, 3) := by decide +kernel
theorem dX1_add_18 : decode cX1_add 18 = .ok (.iload_n 2, 1) := by decide +kernel
theorem dX1_add_19 : decode cX1_add 19 = .ok (.iastore, 1) := by decide +kernel
theorem dX1_add_20 : decode cX1_add 20 = .ok (.aload_n 0, 1) := by decide +kernel
theorem dX1_add_21 : decode cX1_add 21 = .ok (.getfield 18, 3) := by decide +kernel
theorem dX1_add_24 : decode cX1_add 24 = .ok (.aload_n 0, 1) := by decide +kernel
theorem dX1_add_25 : decode cX1_add 25 = .ok (.getfield 28, 3) := by decide +kernel
theorem dX1_add_28 : decode cX1_add 28 = .ok (.iload_n 3, 1) := by decide +kernel
theorem dX1_add_29 : decode cX1_add 29 = .ok (.iastore, 1) := by decide +kernel
theorem dX1_add_30 : decode cX1_add 30 = .ok (.aload_n 0, 1) := by decide +kernel
theorem dX1_add_31 : decode cX1_add 31 = .ok (.getfield 21, 3) := by decide +kernel
theorem dX1_add_34 : decode cX1_add 34 = .ok (.aload_n 0, 1) := by decide +kernel
theorem dX1_add_35 : decode cX1_add 35 = .ok (.getfield 28, 3) := by decide +kernel
theorem dX1_add_38 : decode cX1_add 38 = .ok (.iload 4, 2) := by decide +kernel
theorem dX1_add_40 : decode cX1_add 40 = .ok (.iastore, 1) := by decide +kernel
theorem dX1_add_41 : decode cX1_add 41 = .ok (.aload_n 0, 1) := by decide +kernel
theorem dX1_add_42 : decode cX1_add 42 = .ok (.aload_n 0, 1) := by decide +kernel
theorem dX1_add_43 : decode cX1_add 43 = .ok (.getfield 28, 3) := by decide +kernel
theorem dX1_add_46 : decode cX1_add 46 = .ok (.iconst 1, 1) := by decide +kernel
theorem dX1_add_47 : decode cX1_add 47 = .ok (.iadd, 1) := by decide +kernel
theorem dX1_add_48 : decode cX1_add 48 = .ok (.bipush 60, 2) := by decide +kernel
theorem dX1_add_50 : decode cX1_add 50 = .ok (.if_icmp .ge 12, 3) := by decide +kernel
theorem dX1_add_53 : decode cX1_add 53 = .ok (.aload_n 0, 1) := by decide +kernel
theorem dX1_add_54 : decode cX1_add 54 = .ok (.getfield 28, 3) := by decide +kernel
theorem dX1_add_57 : decode cX1_add 57 = .ok (.iconst 1, 1) := by decide +kernel
theorem dX1_add_58 : decode cX1_add 58 = .ok (.iadd, 1) := by decide +kernel
theorem dX1_add_59 : decode cX1_add 59 = .ok (.goto 4, 3) := by decide +kernel
theorem dX1_add_62 : decode cX1_add 62 = .ok (.iconst 0, 1) := by decide +kernel
theorem dX1_add_63 : decode cX1_add 63 = .ok (.putfield 28, 3) := by decide +kernel
theorem dX1_add_66 : decode cX1_add 66 = .ok (.aload_n 0, 1) := by decide +kernel
theorem dX1_add_67 : decode cX1_add 67 = .ok (.aload_n 0, 1) := by decide +kernel
theorem dX1_add_68 : decode cX1_add 68 = .ok (.getfield 24, 3) := by decide +kernel
theorem dX1_add_71 : decode cX1_add 71 = .ok (.iconst 1, 1) := by decide +kernel
theorem dX1_add_72 : decode cX1_add 72 = .ok (.iadd, 1) := by decide +kernel
theorem dX1_add_73 : decode cX1_add 73 = .ok (.bipush 60, 2) := by decide +kernel
theorem dX1_add_75 : decode cX1_add 75 = .ok (.invokestatic 31, 3) := by decide +kernel
theorem dX1_add_78 : decode cX1_add 78 = .ok (.putfield 24, 3) := by decide +kernel
theorem dX1_add_81 : decode cX1_add 81 = .ok (.return_, 1) := by decide +kernel
theorem dX1_placeOf_0 : decode cX1_placeOf 0 = .ok (.aload_n 0, 1) := by decide +kernel
theorem dX1_placeOf_1 : decode cX1_placeOf 1 = .ok (.getfield 28, 3) := by decide +kernel
theorem dX1_placeOf_4 : decode cX1_placeOf 4 = .ok (.iconst 1, 1) := by decide +kernel
theorem dX1_placeOf_5 : decode cX1_placeOf 5 = .ok (.isub, 1) := by decide +kernel
theorem dX1_placeOf_6 : decode cX1_placeOf 6 = .ok (.iload_n 1, 1) := by decide +kernel
theorem dX1_placeOf_7 : decode cX1_placeOf 7 = .ok (.isub, 1) := by decide +kernel
theorem dX1_placeOf_8 : decode cX1_placeOf 8 = .ok (.istore_n 2, 1) := by decide +kernel
theorem dX1_placeOf_9 : decode cX1_placeOf 9 = .ok (.iload_n 2, 1) := by decide +kernel
theorem dX1_placeOf_10 : decode cX1_placeOf 10 = .ok (.ifCond .lt 7, 3) := by decide +kernel
theorem dX1_placeOf_13 : decode cX1_placeOf 13 = .ok (.iload_n 2, 1) := by decide +kernel
theorem dX1_placeOf_14 : decode cX1_placeOf 14 = .ok (.goto 7, 3) := by decide +kernel
theorem dX1_placeOf_17 : decode cX1_placeOf 17 = .ok (.iload_n 2, 1) := by decide +kernel
theorem dX1_placeOf_18 : decode cX1_placeOf 18 = .ok (.bipush 60, 2) := by decide +kernel
theorem dX1_placeOf_20 : decode cX1_placeOf 20 = .ok (.iadd, 1) := by decide +kernel
theorem dX1_placeOf_21 : decode cX1_placeOf 21 = .ok (.ireturn, 1) := by decide +kernel
theorem dX1_ruleAt_0 : decode cX1_ruleAt 0 = .ok (.aload_n 0, 1) := by decide +kernel
theorem dX1_ruleAt_1 : decode cX1_ruleAt 1 = .ok (.getfield 9, 3) := by decide +kernel
theorem dX1_ruleAt_4 : decode cX1_ruleAt 4 = .ok (.iload_n 1, 1) := by decide +kernel
theorem dX1_ruleAt_5 : decode cX1_ruleAt 5 = .ok (.iaload, 1) := by decide +kernel
theorem dX1_ruleAt_6 : decode cX1_ruleAt 6 = .ok (.ireturn, 1) := by decide +kernel
theorem dX1_idAt_0 : decode cX1_idAt 0 = .ok (.aload_n 0, 1) := by decide +kernel
theorem dX1_idAt_1 : decode cX1_idAt 1 = .ok (.getfield 15, 3) := by decide +kernel
theorem dX1_idAt_4 : decode cX1_idAt 4 = .ok (.iload_n 1, 1) := by decide +kernel
theorem dX1_idAt_5 : decode cX1_idAt 5 = .ok (.iaload, 1) := by decide +kernel
theorem dX1_idAt_6 : decode cX1_idAt 6 = .ok (.ireturn, 1) := by decide +kernel
theorem dX1_sinceAt_0 : decode cX1_sinceAt 0 = .ok (.aload_n 0, 1) := by decide +kernel
theorem dX1_sinceAt_1 : decode cX1_sinceAt 1 = .ok (.getfield 18, 3) := by decide +kernel
theorem dX1_sinceAt_4 : decode cX1_sinceAt 4 = .ok (.iload_n 1, 1) := by decide +kernel
theorem dX1_sinceAt_5 : decode cX1_sinceAt 5 = .ok (.iaload, 1) := by decide +kernel
theorem dX1_sinceAt_6 : decode cX1_sinceAt 6 = .ok (.ireturn, 1) := by decide +kernel
theorem dX1_endAt_0 : decode cX1_endAt 0 = .ok (.aload_n 0, 1) := by decide +kernel
theorem dX1_endAt_1 : decode cX1_endAt 1 = .ok (.getfield 21, 3) := by decide +kernel
theorem dX1_endAt_4 : decode cX1_endAt 4 = .ok (.iload_n 1, 1) := by decide +kernel
theorem dX1_endAt_5 : decode cX1_endAt 5 = .ok (.iaload, 1) := by decide +kernel
theorem dX1_endAt_6 : decode cX1_endAt 6 = .ok (.ireturn, 1) := by decide +kernel
theorem dX2_init_0 : decode cX2_init 0 = .ok (.aload_n 0, 1) := by decide +kernel
theorem dX2_init_1 : decode cX2_init 1 = .ok (.invokespecial 3, 3) := by decide +kernel
theorem dX2_init_4 : decode cX2_init 4 = .ok (.aload_n 0, 1) := by decide +kernel
theorem dX2_init_5 : decode cX2_init 5 = .ok (.bipush 32, 2) := by decide +kernel
theorem dX2_init_7 : decode cX2_init 7 = .ok (.newarray .int, 2) := by decide +kernel
theorem dX2_init_9 : decode cX2_init 9 = .ok (.putfield 9, 3) := by decide +kernel
theorem dX2_init_12 : decode cX2_init 12 = .ok (.aload_n 0, 1) := by decide +kernel
theorem dX2_init_13 : decode cX2_init 13 = .ok (.bipush 32, 2) := by decide +kernel
theorem dX2_init_15 : decode cX2_init 15 = .ok (.newarray .int, 2) := by decide +kernel
theorem dX2_init_17 : decode cX2_init 17 = .ok (.putfield 15, 3) := by decide +kernel
theorem dX2_init_20 : decode cX2_init 20 = .ok (.aload_n 0, 1) := by decide +kernel
theorem dX2_init_21 : decode cX2_init 21 = .ok (.bipush 32, 2) := by decide +kernel
theorem dX2_init_23 : decode cX2_init 23 = .ok (.newarray .int, 2) := by decide +kernel
theorem dX2_init_25 : decode cX2_init 25 = .ok (.putfield 18, 3) := by decide +kernel
theorem dX2_init_28 : decode cX2_init 28 = .ok (.aload_n 0, 1) := by decide +kernel
theorem dX2_init_29 : decode cX2_init 29 = .ok (.bipush 32, 2) := by decide +kernel
theorem dX2_init_31 : decode cX2_init 31 = .ok (.newarray .int, 2) := by decide +kernel
theorem dX2_init_33 : decode cX2_init 33 = .ok (.putfield 21, 3) := by decide +kernel
theorem dX2_init_36 : decode cX2_init 36 = .ok (.aload_n 0, 1) := by decide +kernel
theorem dX2_init_37 : decode cX2_init 37 = .ok (.bipush 32, 2) := by decide +kernel
theorem dX2_init_39 : decode cX2_init 39 = .ok (.newarray .int, 2) := by decide +kernel
theorem dX2_init_41 : decode cX2_init 41 = .ok (.putfield 24, 3) := by decide +kernel
theorem dX2_init_44 : decode cX2_init 44 = .ok (.aload_n 0, 1) := by decide +kernel
theorem dX2_init_45 : decode cX2_init 45 = .ok (.bipush 32, 2) := by decide +kernel
theorem dX2_init_47 : decode cX2_init 47 = .ok (.newarray .int, 2) := by decide +kernel
theorem dX2_init_49 : decode cX2_init 49 = .ok (.putfield 27, 3) := by decide +kernel
theorem dX2_init_52 : decode cX2_init 52 = .ok (.return_, 1) := by decide +kernel
theorem dX2_size_0 : decode cX2_size 0 = .ok (.aload_n 0, 1) := by decide +kernel
theorem dX2_size_1 : decode cX2_size 1 = .ok (.getfield 30, 3) := by decide +kernel
theorem dX2_size_4 : decode cX2_size 4 = .ok (.ireturn, 1) := by decide +kernel
theorem dX2_ruleAt_0 : decode cX2_ruleAt 0 = .ok (.aload_n 0, 1) := by decide +kernel
theorem dX2_ruleAt_1 : decode cX2_ruleAt 1 = .ok (.getfield 9, 3) := by decide +kernel
theorem dX2_ruleAt_4 : decode cX2_ruleAt 4 = .ok (.iload_n 1, 1) := by decide +kernel
theorem dX2_ruleAt_5 : decode cX2_ruleAt 5 = .ok (.iaload, 1) := by decide +kernel
theorem dX2_ruleAt_6 : decode cX2_ruleAt 6 = .ok (.ireturn, 1) := by decide +kernel
theorem dX2_lineAt_0 : decode cX2_lineAt 0 = .ok (.aload_n 0, 1) := by decide +kernel
theorem dX2_lineAt_1 : decode cX2_lineAt 1 = .ok (.getfield 15, 3) := by decide +kernel
theorem dX2_lineAt_4 : decode cX2_lineAt 4 = .ok (.iload_n 1, 1) := by decide +kernel
theorem dX2_lineAt_5 : decode cX2_lineAt 5 = .ok (.iaload, 1) := by decide +kernel
theorem dX2_lineAt_6 : decode cX2_lineAt 6 = .ok (.ireturn, 1) := by decide +kernel
theorem dX2_idAt_0 : decode cX2_idAt 0 = .ok (.aload_n 0, 1) := by decide +kernel
theorem dX2_idAt_1 : decode cX2_idAt 1 = .ok (.getfield 18, 3) := by decide +kernel
theorem dX2_idAt_4 : decode cX2_idAt 4 = .ok (.iload_n 1, 1) := by decide +kernel
theorem dX2_idAt_5 : decode cX2_idAt 5 = .ok (.iaload, 1) := by decide +kernel
theorem dX2_idAt_6 : decode cX2_idAt 6 = .ok (.ireturn, 1) := by decide +kernel
theorem dX2_sinceAt_0 : decode cX2_sinceAt 0 = .ok (.aload_n 0, 1) := by decide +kernel
theorem dX2_sinceAt_1 : decode cX2_sinceAt 1 = .ok (.getfield 21, 3) := by decide +kernel
theorem dX2_sinceAt_4 : decode cX2_sinceAt 4 = .ok (.iload_n 1, 1) := by decide +kernel
theorem dX2_sinceAt_5 : decode cX2_sinceAt 5 = .ok (.iaload, 1) := by decide +kernel
theorem dX2_sinceAt_6 : decode cX2_sinceAt 6 = .ok (.ireturn, 1) := by decide +kernel
theorem dX2_isSilenced_0 : decode cX2_isSilenced 0 = .ok (.aload_n 0, 1) := by decide +kernel
theorem dX2_isSilenced_1 : decode cX2_isSilenced 1 = .ok (.getfield 24, 3) := by decide +kernel
theorem dX2_isSilenced_4 : decode cX2_isSilenced 4 = .ok (.iload_n 1, 1) := by decide +kernel
theorem dX2_isSilenced_5 : decode cX2_isSilenced 5 = .ok (.iaload, 1) := by decide +kernel
theorem dX2_isSilenced_6 : decode cX2_isSilenced 6 = .ok (.iload_n 2, 1) := by decide +kernel
theorem dX2_isSilenced_7 : decode cX2_isSilenced 7 = .ok (.if_icmp .le 7, 3) := by decide +kernel
theorem dX2_isSilenced_10 : decode cX2_isSilenced 10 = .ok (.iconst 1, 1) := by decide +kernel
theorem dX2_isSilenced_11 : decode cX2_isSilenced 11 = .ok (.goto 4, 3) := by decide +kernel
theorem dX2_isSilenced_14 : decode cX2_isSilenced 14 = .ok (.iconst 0, 1) := by decide +kernel
theorem dX2_isSilenced_15 : decode cX2_isSilenced 15 = .ok (.ireturn, 1) := by decide +kernel
theorem dX2_daysLeft_0 : decode cX2_daysLeft 0 = .ok (.aload_n 0, 1) := by decide +kernel
theorem dX2_daysLeft_1 : decode cX2_daysLeft 1 = .ok (.iload_n 1, 1) := by decide +kernel
theorem dX2_daysLeft_2 : decode cX2_daysLeft 2 = .ok (.iload_n 2, 1) := by decide +kernel
theorem dX2_daysLeft_3 : decode cX2_daysLeft 3 = .ok (.invokevirtual 34, 3) := by decide +kernel
theorem dX2_daysLeft_6 : decode cX2_daysLeft 6 = .ok (.ifCond .eq 14, 3) := by decide +kernel
theorem dX2_daysLeft_9 : decode cX2_daysLeft 9 = .ok (.aload_n 0, 1) := by decide +kernel
theorem dX2_daysLeft_10 : decode cX2_daysLeft 10 = .ok (.getfield 24, 3) := by decide +kernel
theorem dX2_daysLeft_13 : decode cX2_daysLeft 13 = .ok (.iload_n 1, 1) := by decide +kernel
theorem dX2_daysLeft_14 : decode cX2_daysLeft 14 = .ok (.iaload, 1) := by decide +kernel
theorem dX2_daysLeft_15 : decode cX2_daysLeft 15 = .ok (.iload_n 2, 1) := by decide +kernel
theorem dX2_daysLeft_16 : decode cX2_daysLeft 16 = .ok (.isub, 1) := by decide +kernel
theorem dX2_daysLeft_17 : decode cX2_daysLeft 17 = .ok (.goto 4, 3) := by decide +kernel
theorem dX2_daysLeft_20 : decode cX2_daysLeft 20 = .ok (.iconst 0, 1) := by decide +kernel
theorem dX2_daysLeft_21 : decode cX2_daysLeft 21 = .ok (.ireturn, 1) := by decide +kernel
theorem dX2_reasonAt_0 : decode cX2_reasonAt 0 = .ok (.aload_n 0, 1) := by decide +kernel
theorem dX2_reasonAt_1 : decode cX2_reasonAt 1 = .ok (.iload_n 1, 1) := by decide +kernel
theorem dX2_reasonAt_2 : decode cX2_reasonAt 2 = .ok (.iload_n 2, 1) := by decide +kernel
theorem dX2_reasonAt_3 : decode cX2_reasonAt 3 = .ok (.invokevirtual 34, 3) := by decide +kernel
theorem dX2_reasonAt_6 : decode cX2_reasonAt 6 = .ok (.ifCond .eq 12, 3) := by decide +kernel
theorem dX2_reasonAt_9 : decode cX2_reasonAt 9 = .ok (.aload_n 0, 1) := by decide +kernel
theorem dX2_reasonAt_10 : decode cX2_reasonAt 10 = .ok (.getfield 27, 3) := by decide +kernel
theorem dX2_reasonAt_13 : decode cX2_reasonAt 13 = .ok (.iload_n 1, 1) := by decide +kernel
theorem dX2_reasonAt_14 : decode cX2_reasonAt 14 = .ok (.iaload, 1) := by decide +kernel
theorem dX2_reasonAt_15 : decode cX2_reasonAt 15 = .ok (.goto 4, 3) := by decide +kernel
theorem dX2_reasonAt_18 : decode cX2_reasonAt 18 = .ok (.iconst (-1), 1) := by decide +kernel
theorem dX2_reasonAt_19 : decode cX2_reasonAt 19 = .ok (.ireturn, 1) := by decide +kernel
theorem dX2_hush_0 : decode cX2_hush 0 = .ok (.aload_n 0, 1) := by decide +kernel
theorem dX2_hush_1 : decode cX2_hush 1 = .ok (.getfield 24, 3) := by decide +kernel
theorem dX2_hush_4 : decode cX2_hush 4 = .ok (.iload_n 1, 1) := by decide +kernel
theorem dX2_hush_5 : decode cX2_hush 5 = .ok (.iload_n 2, 1) := by decide +kernel
theorem dX2_hush_6 : decode cX2_hush 6 = .ok (.iastore, 1) := by decide +kernel
theorem dX2_hush_7 : decode cX2_hush 7 = .ok (.aload_n 0, 1) := by decide +kernel
theorem dX2_hush_8 : decode cX2_hush 8 = .ok (.getfield 27, 3) := by decide +kernel
theorem dX2_hush_11 : decode cX2_hush 11 = .ok (.iload_n 1, 1) := by decide +kernel
theorem dX2_hush_12 : decode cX2_hush 12 = .ok (.iload_n 3, 1) := by decide +kernel
theorem dX2_hush_13 : decode cX2_hush 13 = .ok (.iastore, 1) := by decide +kernel
theorem dX2_hush_14 : decode cX2_hush 14 = .ok (.return_, 1) := by decide +kernel
theorem dX2_unhush_0 : decode cX2_unhush 0 = .ok (.aload_n 0, 1) := by decide +kernel
theorem dX2_unhush_1 : decode cX2_unhush 1 = .ok (.getfield 24, 3) := by decide +kernel
theorem dX2_unhush_4 : decode cX2_unhush 4 = .ok (.iload_n 1, 1) := by decide +kernel
theorem dX2_unhush_5 : decode cX2_unhush 5 = .ok (.iconst 0, 1) := by decide +kernel
theorem dX2_unhush_6 : decode cX2_unhush 6 = .ok (.iastore, 1) := by decide +kernel
theorem dX2_unhush_7 : decode cX2_unhush 7 = .ok (.return_, 1) := by decide +kernel
theorem dX2_clear_0 : decode cX2_clear 0 = .ok (.aload_n 0, 1) := by decide +kernel
theorem dX2_clear_1 : decode cX2_clear 1 = .ok (.iconst 0, 1) := by decide +kernel
theorem dX2_clear_2 : decode cX2_clear 2 = .ok (.putfield 30, 3) := by decide +kernel
theorem dX2_clear_5 : decode cX2_clear 5 = .ok (.return_, 1) := by decide +kernel
theorem dX2_add_0 : decode cX2_add 0 = .ok (.aload_n 0, 1) := by decide +kernel
theorem dX2_add_1 : decode cX2_add 1 = .ok (.getfield 30, 3) := by decide +kernel
theorem dX2_add_4 : decode cX2_add 4 = .ok (.bipush 32, 2) := by decide +kernel
theorem dX2_add_6 : decode cX2_add 6 = .ok (.if_icmp .lt 4, 3) := by decide +kernel
theorem dX2_add_9 : decode cX2_add 9 = .ok (.return_, 1) := by decide +kernel
theorem dX2_add_10 : decode cX2_add 10 = .ok (.aload_n 0, 1) := by decide +kernel
theorem dX2_add_11 : decode cX2_add 11 = .ok (.getfield 9, 3) := by decide +kernel
theorem dX2_add_14 : decode cX2_add 14 = .ok (.aload_n 0, 1) := by decide +kernel
theorem dX2_add_15 : decode cX2_add 15 = .ok (.getfield 30, 3) := by decide +kernel
theorem dX2_add_18 : decode cX2_add 18 = .ok (.iload_n 1, 1) := by decide +kernel
theorem dX2_add_19 : decode cX2_add 19 = .ok (.iastore, 1) := by decide +kernel
theorem dX2_add_20 : decode cX2_add 20 = .ok (.aload_n 0, 1) := by decide +kernel
theorem dX2_add_21 : decode cX2_add 21 = .ok (.getfield 15, 3) := by decide +kernel
theorem dX2_add_24 : decode cX2_add 24 = .ok (.aload_n 0, 1) := by decide +kernel
theorem dX2_add_25 : decode cX2_add 25 = .ok (.getfield 30, 3) := by decide +kernel
theorem dX2_add_28 : decode cX2_add 28 = .ok (.iload_n 2, 1) := by decide +kernel
theorem dX2_add_29 : decode cX2_add 29 = .ok (.iastore, 1) := by decide +kernel
theorem dX2_add_30 : decode cX2_add 30 = .ok (.aload_n 0, 1) := by decide +kernel
theorem dX2_add_31 : decode cX2_add 31 = .ok (.getfield 18, 3) := by decide +kernel
theorem dX2_add_34 : decode cX2_add 34 = .ok (.aload_n 0, 1) := by decide +kernel
theorem dX2_add_35 : decode cX2_add 35 = .ok (.getfield 30, 3) := by decide +kernel
theorem dX2_add_38 : decode cX2_add 38 = .ok (.iload_n 3, 1) := by decide +kernel
theorem dX2_add_39 : decode cX2_add 39 = .ok (.iastore, 1) := by decide +kernel
theorem dX2_add_40 : decode cX2_add 40 = .ok (.aload_n 0, 1) := by decide +kernel
theorem dX2_add_41 : decode cX2_add 41 = .ok (.getfield 21, 3) := by decide +kernel
theorem dX2_add_44 : decode cX2_add 44 = .ok (.aload_n 0, 1) := by decide +kernel
theorem dX2_add_45 : decode cX2_add 45 = .ok (.getfield 30, 3) := by decide +kernel
theorem dX2_add_48 : decode cX2_add 48 = .ok (.iload 4, 2) := by decide +kernel
theorem dX2_add_50 : decode cX2_add 50 = .ok (.iastore, 1) := by decide +kernel
theorem dX2_add_51 : decode cX2_add 51 = .ok (.aload_n 0, 1) := by decide +kernel
theorem dX2_add_52 : decode cX2_add 52 = .ok (.getfield 24, 3) := by decide +kernel
theorem dX2_add_55 : decode cX2_add 55 = .ok (.aload_n 0, 1) := by decide +kernel
theorem dX2_add_56 : decode cX2_add 56 = .ok (.getfield 30, 3) := by decide +kernel
theorem dX2_add_59 : decode cX2_add 59 = .ok (.iconst 0, 1) := by decide +kernel
theorem dX2_add_60 : decode cX2_add 60 = .ok (.iastore, 1) := by decide +kernel
theorem dX2_add_61 : decode cX2_add 61 = .ok (.aload_n 0, 1) := by decide +kernel
theorem dX2_add_62 : decode cX2_add 62 = .ok (.getfield 27, 3) := by decide +kernel
theorem dX2_add_65 : decode cX2_add 65 = .ok (.aload_n 0, 1) := by decide +kernel
theorem dX2_add_66 : decode cX2_add 66 = .ok (.getfield 30, 3) := by decide +kernel
theorem dX2_add_69 : decode cX2_add 69 = .ok (.iconst (-1), 1) := by decide +kernel
theorem dX2_add_70 : decode cX2_add 70 = .ok (.iastore, 1) := by decide +kernel
theorem dX2_add_71 : decode cX2_add 71 = .ok (.aload_n 0, 1) := by decide +kernel
theorem dX2_add_72 : decode cX2_add 72 = .ok (.dup, 1) := by decide +kernel
theorem dX2_add_73 : decode cX2_add 73 = .ok (.getfield 30, 3) := by decide +kernel
theorem dX2_add_76 : decode cX2_add 76 = .ok (.iconst 1, 1) := by decide +kernel
theorem dX2_add_77 : decode cX2_add 77 = .ok (.iadd, 1) := by decide +kernel
theorem dX2_add_78 : decode cX2_add 78 = .ok (.putfield 30, 3) := by decide +kernel
theorem dX2_add_81 : decode cX2_add 81 = .ok (.return_, 1) := by decide +kernel
theorem dX2_takeOver_0 : decode cX2_takeOver 0 = .ok (.aload_n 0, 1) := by decide +kernel
theorem dX2_takeOver_1 : decode cX2_takeOver 1 = .ok (.getfield 30, 3) := by decide +kernel
theorem dX2_takeOver_4 : decode cX2_takeOver 4 = .ok (.iconst 1, 1) := by decide +kernel
theorem dX2_takeOver_5 : decode cX2_takeOver 5 = .ok (.isub, 1) := by decide +kernel
theorem dX2_takeOver_6 : decode cX2_takeOver 6 = .ok (.istore_n 2, 1) := by decide +kernel
theorem dX2_takeOver_7 : decode cX2_takeOver 7 = .ok (.iload_n 2, 1) := by decide +kernel
theorem dX2_takeOver_8 : decode cX2_takeOver 8 = .ok (.ifCond .ge 4, 3) := by decide +kernel
theorem dX2_takeOver_11 : decode cX2_takeOver 11 = .ok (.return_, 1) := by decide +kernel
theorem dX2_takeOver_12 : decode cX2_takeOver 12 = .ok (.aload_n 1, 1) := by decide +kernel
theorem dX2_takeOver_13 : decode cX2_takeOver 13 = .ok (.aload_n 0, 1) := by decide +kernel
theorem dX2_takeOver_14 : decode cX2_takeOver 14 = .ok (.getfield 9, 3) := by decide +kernel
theorem dX2_takeOver_17 : decode cX2_takeOver 17 = .ok (.iload_n 2, 1) := by decide +kernel
theorem dX2_takeOver_18 : decode cX2_takeOver 18 = .ok (.iaload, 1) := by decide +kernel
theorem dX2_takeOver_19 : decode cX2_takeOver 19 = .ok (.aload_n 0, 1) := by decide +kernel
theorem dX2_takeOver_20 : decode cX2_takeOver 20 = .ok (.getfield 18, 3) := by decide +kernel
theorem dX2_takeOver_23 : decode cX2_takeOver 23 = .ok (.iload_n 2, 1) := by decide +kernel
theorem dX2_takeOver_24 : decode cX2_takeOver 24 = .ok (.iaload, 1) := by decide +kernel
theorem dX2_takeOver_25 : decode cX2_takeOver 25 = .ok (.invokevirtual 38, 3) := by decide +kernel
theorem dX2_takeOver_28 : decode cX2_takeOver 28 = .ok (.istore_n 3, 1) := by decide +kernel
theorem dX2_takeOver_29 : decode cX2_takeOver 29 = .ok (.iload_n 3, 1) := by decide +kernel
theorem dX2_takeOver_30 : decode cX2_takeOver 30 = .ok (.iconst (-1), 1) := by decide +kernel
theorem dX2_takeOver_31 : decode cX2_takeOver 31 = .ok (.if_icmp .eq 39, 3) := by decide +kernel
theorem dX2_takeOver_34 : decode cX2_takeOver 34 = .ok (.aload_n 0, 1) := by decide +kernel
theorem dX2_takeOver_35 : decode cX2_takeOver 35 = .ok (.getfield 21, 3) := by decide +kernel
theorem dX2_takeOver_38 : decode cX2_takeOver 38 = .ok (.iload_n 2, 1) := by decide +kernel
theorem dX2_takeOver_39 : decode cX2_takeOver 39 = .ok (.aload_n 1, 1) := by decide +kernel
theorem dX2_takeOver_40 : decode cX2_takeOver 40 = .ok (.getfield 21, 3) := by decide +kernel
theorem dX2_takeOver_43 : decode cX2_takeOver 43 = .ok (.iload_n 3, 1) := by decide +kernel
theorem dX2_takeOver_44 : decode cX2_takeOver 44 = .ok (.iaload, 1) := by decide +kernel
theorem dX2_takeOver_45 : decode cX2_takeOver 45 = .ok (.iastore, 1) := by decide +kernel
theorem dX2_takeOver_46 : decode cX2_takeOver 46 = .ok (.aload_n 0, 1) := by decide +kernel
theorem dX2_takeOver_47 : decode cX2_takeOver 47 = .ok (.getfield 24, 3) := by decide +kernel
theorem dX2_takeOver_50 : decode cX2_takeOver 50 = .ok (.iload_n 2, 1) := by decide +kernel
theorem dX2_takeOver_51 : decode cX2_takeOver 51 = .ok (.aload_n 1, 1) := by decide +kernel
theorem dX2_takeOver_52 : decode cX2_takeOver 52 = .ok (.getfield 24, 3) := by decide +kernel
theorem dX2_takeOver_55 : decode cX2_takeOver 55 = .ok (.iload_n 3, 1) := by decide +kernel
theorem dX2_takeOver_56 : decode cX2_takeOver 56 = .ok (.iaload, 1) := by decide +kernel
theorem dX2_takeOver_57 : decode cX2_takeOver 57 = .ok (.iastore, 1) := by decide +kernel
theorem dX2_takeOver_58 : decode cX2_takeOver 58 = .ok (.aload_n 0, 1) := by decide +kernel
theorem dX2_takeOver_59 : decode cX2_takeOver 59 = .ok (.getfield 27, 3) := by decide +kernel
theorem dX2_takeOver_62 : decode cX2_takeOver 62 = .ok (.iload_n 2, 1) := by decide +kernel
theorem dX2_takeOver_63 : decode cX2_takeOver 63 = .ok (.aload_n 1, 1) := by decide +kernel
theorem dX2_takeOver_64 : decode cX2_takeOver 64 = .ok (.getfield 27, 3) := by decide +kernel
theorem dX2_takeOver_67 : decode cX2_takeOver 67 = .ok (.iload_n 3, 1) := by decide +kernel
theorem dX2_takeOver_68 : decode cX2_takeOver 68 = .ok (.iaload, 1) := by decide +kernel
theorem dX2_takeOver_69 : decode cX2_takeOver 69 = .ok (.iastore, 1) := by decide +kernel
theorem dX2_takeOver_70 : decode cX2_takeOver 70 = .ok (.return_, 1) := by decide +kernel
theorem dX2_placeOf_0 : decode cX2_placeOf 0 = .ok (.iconst 0, 1) := by decide +kernel
theorem dX2_placeOf_1 : decode cX2_placeOf 1 = .ok (.istore_n 3, 1) := by decide +kernel
theorem dX2_placeOf_2 : decode cX2_placeOf 2 = .ok (.iload_n 3, 1) := by decide +kernel
theorem dX2_placeOf_3 : decode cX2_placeOf 3 = .ok (.aload_n 0, 1) := by decide +kernel
theorem dX2_placeOf_4 : decode cX2_placeOf 4 = .ok (.getfield 30, 3) := by decide +kernel
theorem dX2_placeOf_7 : decode cX2_placeOf 7 = .ok (.if_icmp .ge 31, 3) := by decide +kernel
theorem dX2_placeOf_10 : decode cX2_placeOf 10 = .ok (.aload_n 0, 1) := by decide +kernel
theorem dX2_placeOf_11 : decode cX2_placeOf 11 = .ok (.getfield 9, 3) := by decide +kernel
theorem dX2_placeOf_14 : decode cX2_placeOf 14 = .ok (.iload_n 3, 1) := by decide +kernel
theorem dX2_placeOf_15 : decode cX2_placeOf 15 = .ok (.iaload, 1) := by decide +kernel
theorem dX2_placeOf_16 : decode cX2_placeOf 16 = .ok (.iload_n 1, 1) := by decide +kernel
theorem dX2_placeOf_17 : decode cX2_placeOf 17 = .ok (.if_icmp .ne 15, 3) := by decide +kernel
theorem dX2_placeOf_20 : decode cX2_placeOf 20 = .ok (.aload_n 0, 1) := by decide +kernel
theorem dX2_placeOf_21 : decode cX2_placeOf 21 = .ok (.getfield 18, 3) := by decide +kernel
theorem dX2_placeOf_24 : decode cX2_placeOf 24 = .ok (.iload_n 3, 1) := by decide +kernel
theorem dX2_placeOf_25 : decode cX2_placeOf 25 = .ok (.iaload, 1) := by decide +kernel
theorem dX2_placeOf_26 : decode cX2_placeOf 26 = .ok (.iload_n 2, 1) := by decide +kernel
theorem dX2_placeOf_27 : decode cX2_placeOf 27 = .ok (.if_icmp .ne 5, 3) := by decide +kernel
theorem dX2_placeOf_30 : decode cX2_placeOf 30 = .ok (.iload_n 3, 1) := by decide +kernel
theorem dX2_placeOf_31 : decode cX2_placeOf 31 = .ok (.ireturn, 1) := by decide +kernel
theorem dX2_placeOf_32 : decode cX2_placeOf 32 = .ok (.iinc 3 1, 3) := by decide +kernel
theorem dX2_placeOf_35 : decode cX2_placeOf 35 = .ok (.goto (-33), 3) := by decide +kernel
theorem dX2_placeOf_38 : decode cX2_placeOf 38 = .ok (.iconst (-1), 1) := by decide +kernel
theorem dX2_placeOf_39 : decode cX2_placeOf 39 = .ok (.ireturn, 1) := by decide +kernel
theorem dX2_logEnded_0 : decode cX2_logEnded 0 = .ok (.iconst 0, 1) := by decide +kernel
theorem dX2_logEnded_1 : decode cX2_logEnded 1 = .ok (.istore 4, 2) := by decide +kernel
theorem dX2_logEnded_3 : decode cX2_logEnded 3 = .ok (.iload 4, 2) := by decide +kernel
theorem dX2_logEnded_5 : decode cX2_logEnded 5 = .ok (.aload_n 0, 1) := by decide +kernel
theorem dX2_logEnded_6 : decode cX2_logEnded 6 = .ok (.getfield 30, 3) := by decide +kernel
theorem dX2_logEnded_9 : decode cX2_logEnded 9 = .ok (.if_icmp .ge 57, 3) := by decide +kernel
theorem dX2_logEnded_12 : decode cX2_logEnded 12 = .ok (.aload_n 1, 1) := by decide +kernel
theorem dX2_logEnded_13 : decode cX2_logEnded 13 = .ok (.aload_n 0, 1) := by decide +kernel
theorem dX2_logEnded_14 : decode cX2_logEnded 14 = .ok (.getfield 9, 3) := by decide +kernel
theorem dX2_logEnded_17 : decode cX2_logEnded 17 = .ok (.iload 4, 2) := by decide +kernel
theorem dX2_logEnded_19 : decode cX2_logEnded 19 = .ok (.iaload, 1) := by decide +kernel
theorem dX2_logEnded_20 : decode cX2_logEnded 20 = .ok (.aload_n 0, 1) := by decide +kernel
theorem dX2_logEnded_21 : decode cX2_logEnded 21 = .ok (.getfield 18, 3) := by decide +kernel
theorem dX2_logEnded_24 : decode cX2_logEnded 24 = .ok (.iload 4, 2) := by decide +kernel
theorem dX2_logEnded_26 : decode cX2_logEnded 26 = .ok (.iaload, 1) := by decide +kernel
theorem dX2_logEnded_27 : decode cX2_logEnded 27 = .ok (.invokevirtual 38, 3) := by decide +kernel
theorem dX2_logEnded_30 : decode cX2_logEnded 30 = .ok (.iconst (-1), 1) := by decide +kernel
theorem dX2_logEnded_31 : decode cX2_logEnded 31 = .ok (.if_icmp .ne 29, 3) := by decide +kernel
theorem dX2_logEnded_34 : decode cX2_logEnded 34 = .ok (.aload_n 3, 1) := by decide +kernel
theorem dX2_logEnded_35 : decode cX2_logEnded 35 = .ok (.aload_n 0, 1) := by decide +kernel
theorem dX2_logEnded_36 : decode cX2_logEnded 36 = .ok (.getfield 9, 3) := by decide +kernel
theorem dX2_logEnded_39 : decode cX2_logEnded 39 = .ok (.iload 4, 2) := by decide +kernel
theorem dX2_logEnded_41 : decode cX2_logEnded 41 = .ok (.iaload, 1) := by decide +kernel
theorem dX2_logEnded_42 : decode cX2_logEnded 42 = .ok (.aload_n 0, 1) := by decide +kernel
theorem dX2_logEnded_43 : decode cX2_logEnded 43 = .ok (.getfield 18, 3) := by decide +kernel
theorem dX2_logEnded_46 : decode cX2_logEnded 46 = .ok (.iload 4, 2) := by decide +kernel
theorem dX2_logEnded_48 : decode cX2_logEnded 48 = .ok (.iaload, 1) := by decide +kernel
theorem dX2_logEnded_49 : decode cX2_logEnded 49 = .ok (.aload_n 0, 1) := by decide +kernel
theorem dX2_logEnded_50 : decode cX2_logEnded 50 = .ok (.getfield 21, 3) := by decide +kernel
theorem dX2_logEnded_53 : decode cX2_logEnded 53 = .ok (.iload 4, 2) := by decide +kernel
theorem dX2_logEnded_55 : decode cX2_logEnded 55 = .ok (.iaload, 1) := by decide +kernel
theorem dX2_logEnded_56 : decode cX2_logEnded 56 = .ok (.iload_n 2, 1) := by decide +kernel
theorem dX2_logEnded_57 : decode cX2_logEnded 57 = .ok (.invokevirtual 42, 3) := by decide +kernel
theorem dX2_logEnded_60 : decode cX2_logEnded 60 = .ok (.iinc 4 1, 3) := by decide +kernel
theorem dX2_logEnded_63 : decode cX2_logEnded 63 = .ok (.goto (-60), 3) := by decide +kernel
theorem dX2_logEnded_66 : decode cX2_logEnded 66 = .ok (.return_, 1) := by decide +kernel
theorem dX2_countSilenced_0 : decode cX2_countSilenced 0 = .ok (.iconst 0, 1) := by decide +kernel
theorem dX2_countSilenced_1 : decode cX2_countSilenced 1 = .ok (.istore_n 2, 1) := by decide +kernel
theorem dX2_countSilenced_2 : decode cX2_countSilenced 2 = .ok (.iconst 0, 1) := by decide +kernel
theorem dX2_countSilenced_3 : decode cX2_countSilenced 3 = .ok (.istore_n 3, 1) := by decide +kernel
theorem dX2_countSilenced_4 : decode cX2_countSilenced 4 = .ok (.iload_n 3, 1) := by decide +kernel
theorem dX2_countSilenced_5 : decode cX2_countSilenced 5 = .ok (.aload_n 0, 1) := by decide +kernel
theorem dX2_countSilenced_6 : decode cX2_countSilenced 6 = .ok (.getfield 30, 3) := by decide +kernel
theorem dX2_countSilenced_9 : decode cX2_countSilenced 9 = .ok (.if_icmp .ge 21, 3) := by decide +kernel
theorem dX2_countSilenced_12 : decode cX2_countSilenced 12 = .ok (.aload_n 0, 1) := by decide +kernel
theorem dX2_countSilenced_13 : decode cX2_countSilenced 13 = .ok (.iload_n 3, 1) := by decide +kernel
theorem dX2_countSilenced_14 : decode cX2_countSilenced 14 = .ok (.iload_n 1, 1) := by decide +kernel
theorem dX2_countSilenced_15 : decode cX2_countSilenced 15 = .ok (.invokevirtual 34, 3) := by decide +kernel
end
section
theorem dX2_countSilenced_18 : decode cX2_countSilenced 18 = .ok (.ifCond .eq 6, 3) := by decide +kernel
theorem dX2_countSilenced_21 : decode cX2_countSilenced 21 = .ok (.iinc 2 1, 3) := by decide +kernel
theorem dX2_countSilenced_24 : decode cX2_countSilenced 24 = .ok (.iinc 3 1, 3) := by decide +kernel
theorem dX2_countSilenced_27 : decode cX2_countSilenced 27 = .ok (.goto (-23), 3) := by decide +kernel
theorem dX2_countSilenced_30 : decode cX2_countSilenced 30 = .ok (.iload_n 2, 1) := by decide +kernel
theorem dX2_countSilenced_31 : decode cX2_countSilenced 31 = .ok (.ireturn, 1) := by decide +kernel
theorem dX2_countAfter_0 : decode cX2_countAfter 0 = .ok (.iconst 0, 1) := by decide +kernel
theorem dX2_countAfter_1 : decode cX2_countAfter 1 = .ok (.istore 4, 2) := by decide +kernel
theorem dX2_countAfter_3 : decode cX2_countAfter 3 = .ok (.iconst 0, 1) := by decide +kernel
theorem dX2_countAfter_4 : decode cX2_countAfter 4 = .ok (.istore 5, 2) := by decide +kernel
theorem dX2_countAfter_6 : decode cX2_countAfter 6 = .ok (.iload 5, 2) := by decide +kernel
theorem dX2_countAfter_8 : decode cX2_countAfter 8 = .ok (.aload_n 0, 1) := by decide +kernel
theorem dX2_countAfter_9 : decode cX2_countAfter 9 = .ok (.getfield 30, 3) := by decide +kernel
theorem dX2_countAfter_12 : decode cX2_countAfter 12 = .ok (.if_icmp .ge 49, 3) := by decide +kernel
theorem dX2_countAfter_15 : decode cX2_countAfter 15 = .ok (.iload_n 2, 1) := by decide +kernel
theorem dX2_countAfter_16 : decode cX2_countAfter 16 = .ok (.ifCond .eq 13, 3) := by decide +kernel
theorem dX2_countAfter_19 : decode cX2_countAfter 19 = .ok (.aload_n 0, 1) := by decide +kernel
theorem dX2_countAfter_20 : decode cX2_countAfter 20 = .ok (.iload 5, 2) := by decide +kernel
theorem dX2_countAfter_22 : decode cX2_countAfter 22 = .ok (.iload_n 3, 1) := by decide +kernel
theorem dX2_countAfter_23 : decode cX2_countAfter 23 = .ok (.invokevirtual 34, 3) := by decide +kernel
theorem dX2_countAfter_26 : decode cX2_countAfter 26 = .ok (.ifCond .ne 7, 3) := by decide +kernel
theorem dX2_countAfter_29 : decode cX2_countAfter 29 = .ok (.iconst 1, 1) := by decide +kernel
theorem dX2_countAfter_30 : decode cX2_countAfter 30 = .ok (.goto 4, 3) := by decide +kernel
theorem dX2_countAfter_33 : decode cX2_countAfter 33 = .ok (.iconst 0, 1) := by decide +kernel
theorem dX2_countAfter_34 : decode cX2_countAfter 34 = .ok (.istore 6, 2) := by decide +kernel
theorem dX2_countAfter_36 : decode cX2_countAfter 36 = .ok (.aload_n 0, 1) := by decide +kernel
theorem dX2_countAfter_37 : decode cX2_countAfter 37 = .ok (.getfield 21, 3) := by decide +kernel
theorem dX2_countAfter_40 : decode cX2_countAfter 40 = .ok (.iload 5, 2) := by decide +kernel
theorem dX2_countAfter_42 : decode cX2_countAfter 42 = .ok (.iaload, 1) := by decide +kernel
theorem dX2_countAfter_43 : decode cX2_countAfter 43 = .ok (.iload_n 1, 1) := by decide +kernel
theorem dX2_countAfter_44 : decode cX2_countAfter 44 = .ok (.if_icmp .le 11, 3) := by decide +kernel
theorem dX2_countAfter_47 : decode cX2_countAfter 47 = .ok (.iload 6, 2) := by decide +kernel
theorem dX2_countAfter_49 : decode cX2_countAfter 49 = .ok (.ifCond .eq 6, 3) := by decide +kernel
theorem dX2_countAfter_52 : decode cX2_countAfter 52 = .ok (.iinc 4 1, 3) := by decide +kernel
theorem dX2_countAfter_55 : decode cX2_countAfter 55 = .ok (.iinc 5 1, 3) := by decide +kernel
theorem dX2_countAfter_58 : decode cX2_countAfter 58 = .ok (.goto (-52), 3) := by decide +kernel
theorem dX2_countAfter_61 : decode cX2_countAfter 61 = .ok (.iload 4, 2) := by decide +kernel
theorem dX2_countAfter_63 : decode cX2_countAfter 63 = .ok (.ireturn, 1) := by decide +kernel
theorem dX3_init_0 : decode cX3_init 0 = .ok (.aload_n 0, 1) := by decide +kernel
theorem dX3_init_1 : decode cX3_init 1 = .ok (.invokespecial 3, 3) := by decide +kernel
theorem dX3_init_4 : decode cX3_init 4 = .ok (.aload_n 0, 1) := by decide +kernel
theorem dX3_init_5 : decode cX3_init 5 = .ok (.bipush 33, 2) := by decide +kernel
theorem dX3_init_7 : decode cX3_init 7 = .ok (.bipush 33, 2) := by decide +kernel
theorem dX3_init_9 : decode cX3_init 9 = .ok (.multianewarray 9 2, 4) := by decide +kernel
theorem dX3_init_13 : decode cX3_init 13 = .ok (.putfield 11, 3) := by decide +kernel
theorem dX3_init_16 : decode cX3_init 16 = .ok (.aload_n 0, 1) := by decide +kernel
theorem dX3_init_17 : decode cX3_init 17 = .ok (.bipush 32, 2) := by decide +kernel
theorem dX3_init_19 : decode cX3_init 19 = .ok (.newarray .int, 2) := by decide +kernel
theorem dX3_init_21 : decode cX3_init 21 = .ok (.putfield 16, 3) := by decide +kernel
theorem dX3_init_24 : decode cX3_init 24 = .ok (.return_, 1) := by decide +kernel
theorem dX3_idAt_0 : decode cX3_idAt 0 = .ok (.aload_n 0, 1) := by decide +kernel
theorem dX3_idAt_1 : decode cX3_idAt 1 = .ok (.getfield 16, 3) := by decide +kernel
theorem dX3_idAt_4 : decode cX3_idAt 4 = .ok (.iload_n 1, 1) := by decide +kernel
theorem dX3_idAt_5 : decode cX3_idAt 5 = .ok (.iaload, 1) := by decide +kernel
theorem dX3_idAt_6 : decode cX3_idAt 6 = .ok (.ireturn, 1) := by decide +kernel
theorem dX3_match_0 : decode cX3_match 0 = .ok (.aload_n 2, 1) := by decide +kernel
theorem dX3_match_1 : decode cX3_match 1 = .ok (.invokevirtual 20, 3) := by decide +kernel
theorem dX3_match_4 : decode cX3_match 4 = .ok (.bipush 32, 2) := by decide +kernel
theorem dX3_match_6 : decode cX3_match 6 = .ok (.if_icmp .le 5, 3) := by decide +kernel
theorem dX3_match_9 : decode cX3_match 9 = .ok (.iconst 0, 1) := by decide +kernel
theorem dX3_match_10 : decode cX3_match 10 = .ok (.ireturn, 1) := by decide +kernel
theorem dX3_match_11 : decode cX3_match 11 = .ok (.aload_n 0, 1) := by decide +kernel
theorem dX3_match_12 : decode cX3_match 12 = .ok (.aload_n 1, 1) := by decide +kernel
theorem dX3_match_13 : decode cX3_match 13 = .ok (.aload_n 2, 1) := by decide +kernel
theorem dX3_match_14 : decode cX3_match 14 = .ok (.invokevirtual 26, 3) := by decide +kernel
theorem dX3_match_17 : decode cX3_match 17 = .ok (.iconst 0, 1) := by decide +kernel
theorem dX3_match_18 : decode cX3_match 18 = .ok (.istore 4, 2) := by decide +kernel
theorem dX3_match_20 : decode cX3_match 20 = .ok (.iconst 0, 1) := by decide +kernel
theorem dX3_match_21 : decode cX3_match 21 = .ok (.istore 5, 2) := by decide +kernel
theorem dX3_match_23 : decode cX3_match 23 = .ok (.iconst 0, 1) := by decide +kernel
theorem dX3_match_24 : decode cX3_match 24 = .ok (.istore 6, 2) := by decide +kernel
theorem dX3_match_26 : decode cX3_match 26 = .ok (.iload 6, 2) := by decide +kernel
theorem dX3_match_28 : decode cX3_match 28 = .ok (.aload_n 2, 1) := by decide +kernel
theorem dX3_match_29 : decode cX3_match 29 = .ok (.invokevirtual 20, 3) := by decide +kernel
theorem dX3_match_32 : decode cX3_match 32 = .ok (.if_icmp .ge 97, 3) := by decide +kernel
theorem dX3_match_35 : decode cX3_match 35 = .ok (.iload 5, 2) := by decide +kernel
theorem dX3_match_37 : decode cX3_match 37 = .ok (.aload_n 1, 1) := by decide +kernel
theorem dX3_match_38 : decode cX3_match 38 = .ok (.invokevirtual 30, 3) := by decide +kernel
theorem dX3_match_41 : decode cX3_match 41 = .ok (.if_icmp .ge 22, 3) := by decide +kernel
theorem dX3_match_44 : decode cX3_match 44 = .ok (.aload_n 0, 1) := by decide +kernel
theorem dX3_match_45 : decode cX3_match 45 = .ok (.aload_n 1, 1) := by decide +kernel
theorem dX3_match_46 : decode cX3_match 46 = .ok (.aload_n 2, 1) := by decide +kernel
theorem dX3_match_47 : decode cX3_match 47 = .ok (.iload 5, 2) := by decide +kernel
theorem dX3_match_49 : decode cX3_match 49 = .ok (.iload 6, 2) := by decide +kernel
theorem dX3_match_51 : decode cX3_match 51 = .ok (.invokevirtual 33, 3) := by decide +kernel
theorem dX3_match_54 : decode cX3_match 54 = .ok (.ifCond .eq 9, 3) := by decide +kernel
theorem dX3_match_57 : decode cX3_match 57 = .ok (.iinc 5 1, 3) := by decide +kernel
theorem dX3_match_60 : decode cX3_match 60 = .ok (.goto (-25), 3) := by decide +kernel
theorem dX3_match_63 : decode cX3_match 63 = .ok (.iload 5, 2) := by decide +kernel
theorem dX3_match_65 : decode cX3_match 65 = .ok (.aload_n 1, 1) := by decide +kernel
theorem dX3_match_66 : decode cX3_match 66 = .ok (.invokevirtual 30, 3) := by decide +kernel
theorem dX3_match_69 : decode cX3_match 69 = .ok (.if_icmp .ge 40, 3) := by decide +kernel
theorem dX3_match_72 : decode cX3_match 72 = .ok (.aload_n 1, 1) := by decide +kernel
theorem dX3_match_73 : decode cX3_match 73 = .ok (.iload 5, 2) := by decide +kernel
theorem dX3_match_75 : decode cX3_match 75 = .ok (.invokevirtual 37, 3) := by decide +kernel
theorem dX3_match_78 : decode cX3_match 78 = .ok (.aload_n 2, 1) := by decide +kernel
theorem dX3_match_79 : decode cX3_match 79 = .ok (.iload 6, 2) := by decide +kernel
theorem dX3_match_81 : decode cX3_match 81 = .ok (.invokevirtual 41, 3) := by decide +kernel
theorem dX3_match_84 : decode cX3_match 84 = .ok (.if_icmp .ne 25, 3) := by decide +kernel
theorem dX3_match_87 : decode cX3_match 87 = .ok (.aload_n 0, 1) := by decide +kernel
theorem dX3_match_88 : decode cX3_match 88 = .ok (.getfield 16, 3) := by decide +kernel
theorem dX3_match_91 : decode cX3_match 91 = .ok (.iload 6, 2) := by decide +kernel
theorem dX3_match_93 : decode cX3_match 93 = .ok (.aload_n 1, 1) := by decide +kernel
theorem dX3_match_94 : decode cX3_match 94 = .ok (.iload 5, 2) := by decide +kernel
theorem dX3_match_96 : decode cX3_match 96 = .ok (.invokevirtual 42, 3) := by decide +kernel
theorem dX3_match_99 : decode cX3_match 99 = .ok (.iastore, 1) := by decide +kernel
theorem dX3_match_100 : decode cX3_match 100 = .ok (.iinc 4 1, 3) := by decide +kernel
theorem dX3_match_103 : decode cX3_match 103 = .ok (.iinc 5 1, 3) := by decide +kernel
theorem dX3_match_106 : decode cX3_match 106 = .ok (.goto 17, 3) := by decide +kernel
theorem dX3_match_109 : decode cX3_match 109 = .ok (.aload_n 0, 1) := by decide +kernel
theorem dX3_match_110 : decode cX3_match 110 = .ok (.getfield 16, 3) := by decide +kernel
theorem dX3_match_113 : decode cX3_match 113 = .ok (.iload 6, 2) := by decide +kernel
theorem dX3_match_115 : decode cX3_match 115 = .ok (.iload_n 3, 1) := by decide +kernel
theorem dX3_match_116 : decode cX3_match 116 = .ok (.iload 6, 2) := by decide +kernel
theorem dX3_match_118 : decode cX3_match 118 = .ok (.iadd, 1) := by decide +kernel
theorem dX3_match_119 : decode cX3_match 119 = .ok (.iload 4, 2) := by decide +kernel
theorem dX3_match_121 : decode cX3_match 121 = .ok (.isub, 1) := by decide +kernel
theorem dX3_match_122 : decode cX3_match 122 = .ok (.iastore, 1) := by decide +kernel
theorem dX3_match_123 : decode cX3_match 123 = .ok (.iinc 6 1, 3) := by decide +kernel
theorem dX3_match_126 : decode cX3_match 126 = .ok (.goto (-100), 3) := by decide +kernel
theorem dX3_match_129 : decode cX3_match 129 = .ok (.iload 4, 2) := by decide +kernel
theorem dX3_match_131 : decode cX3_match 131 = .ok (.ireturn, 1) := by decide +kernel
theorem dX3_isGone_0 : decode cX3_isGone 0 = .ok (.aload_n 1, 1) := by decide +kernel
theorem dX3_isGone_1 : decode cX3_isGone 1 = .ok (.iload_n 3, 1) := by decide +kernel
theorem dX3_isGone_2 : decode cX3_isGone 2 = .ok (.invokevirtual 37, 3) := by decide +kernel
theorem dX3_isGone_5 : decode cX3_isGone 5 = .ok (.aload_n 2, 1) := by decide +kernel
theorem dX3_isGone_6 : decode cX3_isGone 6 = .ok (.iload 4, 2) := by decide +kernel
theorem dX3_isGone_8 : decode cX3_isGone 8 = .ok (.invokevirtual 41, 3) := by decide +kernel
theorem dX3_isGone_11 : decode cX3_isGone 11 = .ok (.if_icmp .eq 30, 3) := by decide +kernel
theorem dX3_isGone_14 : decode cX3_isGone 14 = .ok (.aload_n 0, 1) := by decide +kernel
theorem dX3_isGone_15 : decode cX3_isGone 15 = .ok (.getfield 11, 3) := by decide +kernel
theorem dX3_isGone_18 : decode cX3_isGone 18 = .ok (.iload_n 3, 1) := by decide +kernel
theorem dX3_isGone_19 : decode cX3_isGone 19 = .ok (.iconst 1, 1) := by decide +kernel
theorem dX3_isGone_20 : decode cX3_isGone 20 = .ok (.iadd, 1) := by decide +kernel
theorem dX3_isGone_21 : decode cX3_isGone 21 = .ok (.aaload, 1) := by decide +kernel
theorem dX3_isGone_22 : decode cX3_isGone 22 = .ok (.iload 4, 2) := by decide +kernel
theorem dX3_isGone_24 : decode cX3_isGone 24 = .ok (.iaload, 1) := by decide +kernel
theorem dX3_isGone_25 : decode cX3_isGone 25 = .ok (.aload_n 0, 1) := by decide +kernel
theorem dX3_isGone_26 : decode cX3_isGone 26 = .ok (.getfield 11, 3) := by decide +kernel
theorem dX3_isGone_29 : decode cX3_isGone 29 = .ok (.iload_n 3, 1) := by decide +kernel
theorem dX3_isGone_30 : decode cX3_isGone 30 = .ok (.aaload, 1) := by decide +kernel
theorem dX3_isGone_31 : decode cX3_isGone 31 = .ok (.iload 4, 2) := by decide +kernel
theorem dX3_isGone_33 : decode cX3_isGone 33 = .ok (.iaload, 1) := by decide +kernel
theorem dX3_isGone_34 : decode cX3_isGone 34 = .ok (.if_icmp .ne 7, 3) := by decide +kernel
theorem dX3_isGone_37 : decode cX3_isGone 37 = .ok (.iconst 1, 1) := by decide +kernel
theorem dX3_isGone_38 : decode cX3_isGone 38 = .ok (.goto 4, 3) := by decide +kernel
theorem dX3_isGone_41 : decode cX3_isGone 41 = .ok (.iconst 0, 1) := by decide +kernel
theorem dX3_isGone_42 : decode cX3_isGone 42 = .ok (.ireturn, 1) := by decide +kernel
theorem dX3_measure_0 : decode cX3_measure 0 = .ok (.aload_n 1, 1) := by decide +kernel
theorem dX3_measure_1 : decode cX3_measure 1 = .ok (.invokevirtual 30, 3) := by decide +kernel
theorem dX3_measure_4 : decode cX3_measure 4 = .ok (.istore_n 3, 1) := by decide +kernel
theorem dX3_measure_5 : decode cX3_measure 5 = .ok (.iload_n 3, 1) := by decide +kernel
theorem dX3_measure_6 : decode cX3_measure 6 = .ok (.ifCond .lt 44, 3) := by decide +kernel
theorem dX3_measure_9 : decode cX3_measure 9 = .ok (.aload_n 2, 1) := by decide +kernel
theorem dX3_measure_10 : decode cX3_measure 10 = .ok (.invokevirtual 20, 3) := by decide +kernel
theorem dX3_measure_13 : decode cX3_measure 13 = .ok (.istore 4, 2) := by decide +kernel
theorem dX3_measure_15 : decode cX3_measure 15 = .ok (.iload 4, 2) := by decide +kernel
theorem dX3_measure_17 : decode cX3_measure 17 = .ok (.ifCond .lt 27, 3) := by decide +kernel
theorem dX3_measure_20 : decode cX3_measure 20 = .ok (.aload_n 0, 1) := by decide +kernel
theorem dX3_measure_21 : decode cX3_measure 21 = .ok (.getfield 11, 3) := by decide +kernel
theorem dX3_measure_24 : decode cX3_measure 24 = .ok (.iload_n 3, 1) := by decide +kernel
theorem dX3_measure_25 : decode cX3_measure 25 = .ok (.aaload, 1) := by decide +kernel
theorem dX3_measure_26 : decode cX3_measure 26 = .ok (.iload 4, 2) := by decide +kernel
theorem dX3_measure_28 : decode cX3_measure 28 = .ok (.aload_n 0, 1) := by decide +kernel
theorem dX3_measure_29 : decode cX3_measure 29 = .ok (.aload_n 1, 1) := by decide +kernel
theorem dX3_measure_30 : decode cX3_measure 30 = .ok (.aload_n 2, 1) := by decide +kernel
theorem dX3_measure_31 : decode cX3_measure 31 = .ok (.iload_n 3, 1) := by decide +kernel
theorem dX3_measure_32 : decode cX3_measure 32 = .ok (.iload 4, 2) := by decide +kernel
theorem dX3_measure_34 : decode cX3_measure 34 = .ok (.invokevirtual 45, 3) := by decide +kernel
theorem dX3_measure_37 : decode cX3_measure 37 = .ok (.iastore, 1) := by decide +kernel
theorem dX3_measure_38 : decode cX3_measure 38 = .ok (.iinc 4 (-1), 3) := by decide +kernel
theorem dX3_measure_41 : decode cX3_measure 41 = .ok (.goto (-26), 3) := by decide +kernel
theorem dX3_measure_44 : decode cX3_measure 44 = .ok (.iinc 3 (-1), 3) := by decide +kernel
theorem dX3_measure_47 : decode cX3_measure 47 = .ok (.goto (-42), 3) := by decide +kernel
theorem dX3_measure_50 : decode cX3_measure 50 = .ok (.return_, 1) := by decide +kernel
theorem dX3_longestFrom_0 : decode cX3_longestFrom 0 = .ok (.iload_n 3, 1) := by decide +kernel
theorem dX3_longestFrom_1 : decode cX3_longestFrom 1 = .ok (.aload_n 1, 1) := by decide +kernel
theorem dX3_longestFrom_2 : decode cX3_longestFrom 2 = .ok (.invokevirtual 30, 3) := by decide +kernel
theorem dX3_longestFrom_5 : decode cX3_longestFrom 5 = .ok (.if_icmp .ge 12, 3) := by decide +kernel
theorem dX3_longestFrom_8 : decode cX3_longestFrom 8 = .ok (.iload 4, 2) := by decide +kernel
theorem dX3_longestFrom_10 : decode cX3_longestFrom 10 = .ok (.aload_n 2, 1) := by decide +kernel
theorem dX3_longestFrom_11 : decode cX3_longestFrom 11 = .ok (.invokevirtual 20, 3) := by decide +kernel
theorem dX3_longestFrom_14 : decode cX3_longestFrom 14 = .ok (.if_icmp .lt 5, 3) := by decide +kernel
theorem dX3_longestFrom_17 : decode cX3_longestFrom 17 = .ok (.iconst 0, 1) := by decide +kernel
theorem dX3_longestFrom_18 : decode cX3_longestFrom 18 = .ok (.ireturn, 1) := by decide +kernel
theorem dX3_longestFrom_19 : decode cX3_longestFrom 19 = .ok (.aload_n 1, 1) := by decide +kernel
theorem dX3_longestFrom_20 : decode cX3_longestFrom 20 = .ok (.iload_n 3, 1) := by decide +kernel
theorem dX3_longestFrom_21 : decode cX3_longestFrom 21 = .ok (.invokevirtual 37, 3) := by decide +kernel
theorem dX3_longestFrom_24 : decode cX3_longestFrom 24 = .ok (.aload_n 2, 1) := by decide +kernel
theorem dX3_longestFrom_25 : decode cX3_longestFrom 25 = .ok (.iload 4, 2) := by decide +kernel
theorem dX3_longestFrom_27 : decode cX3_longestFrom 27 = .ok (.invokevirtual 41, 3) := by decide +kernel
theorem dX3_longestFrom_30 : decode cX3_longestFrom 30 = .ok (.if_icmp .ne 19, 3) := by decide +kernel
theorem dX3_longestFrom_33 : decode cX3_longestFrom 33 = .ok (.iconst 1, 1) := by decide +kernel
theorem dX3_longestFrom_34 : decode cX3_longestFrom 34 = .ok (.aload_n 0, 1) := by decide +kernel
theorem dX3_longestFrom_35 : decode cX3_longestFrom 35 = .ok (.getfield 11, 3) := by decide +kernel
theorem dX3_longestFrom_38 : decode cX3_longestFrom 38 = .ok (.iload_n 3, 1) := by decide +kernel
theorem dX3_longestFrom_39 : decode cX3_longestFrom 39 = .ok (.iconst 1, 1) := by decide +kernel
theorem dX3_longestFrom_40 : decode cX3_longestFrom 40 = .ok (.iadd, 1) := by decide +kernel
theorem dX3_longestFrom_41 : decode cX3_longestFrom 41 = .ok (.aaload, 1) := by decide +kernel
theorem dX3_longestFrom_42 : decode cX3_longestFrom 42 = .ok (.iload 4, 2) := by decide +kernel
theorem dX3_longestFrom_44 : decode cX3_longestFrom 44 = .ok (.iconst 1, 1) := by decide +kernel
theorem dX3_longestFrom_45 : decode cX3_longestFrom 45 = .ok (.iadd, 1) := by decide +kernel
theorem dX3_longestFrom_46 : decode cX3_longestFrom 46 = .ok (.iaload, 1) := by decide +kernel
theorem dX3_longestFrom_47 : decode cX3_longestFrom 47 = .ok (.iadd, 1) := by decide +kernel
theorem dX3_longestFrom_48 : decode cX3_longestFrom 48 = .ok (.ireturn, 1) := by decide +kernel
theorem dX3_longestFrom_49 : decode cX3_longestFrom 49 = .ok (.aload_n 0, 1) := by decide +kernel
theorem dX3_longestFrom_50 : decode cX3_longestFrom 50 = .ok (.getfield 11, 3) := by decide +kernel
theorem dX3_longestFrom_53 : decode cX3_longestFrom 53 = .ok (.iload_n 3, 1) := by decide +kernel
theorem dX3_longestFrom_54 : decode cX3_longestFrom 54 = .ok (.iconst 1, 1) := by decide +kernel
theorem dX3_longestFrom_55 : decode cX3_longestFrom 55 = .ok (.iadd, 1) := by decide +kernel
theorem dX3_longestFrom_56 : decode cX3_longestFrom 56 = .ok (.aaload, 1) := by decide +kernel
theorem dX3_longestFrom_57 : decode cX3_longestFrom 57 = .ok (.iload 4, 2) := by decide +kernel
theorem dX3_longestFrom_59 : decode cX3_longestFrom 59 = .ok (.iaload, 1) := by decide +kernel
theorem dX3_longestFrom_60 : decode cX3_longestFrom 60 = .ok (.aload_n 0, 1) := by decide +kernel
theorem dX3_longestFrom_61 : decode cX3_longestFrom 61 = .ok (.getfield 11, 3) := by decide +kernel
theorem dX3_longestFrom_64 : decode cX3_longestFrom 64 = .ok (.iload_n 3, 1) := by decide +kernel
theorem dX3_longestFrom_65 : decode cX3_longestFrom 65 = .ok (.aaload, 1) := by decide +kernel
theorem dX3_longestFrom_66 : decode cX3_longestFrom 66 = .ok (.iload 4, 2) := by decide +kernel
theorem dX3_longestFrom_68 : decode cX3_longestFrom 68 = .ok (.iconst 1, 1) := by decide +kernel
theorem dX3_longestFrom_69 : decode cX3_longestFrom 69 = .ok (.iadd, 1) := by decide +kernel
theorem dX3_longestFrom_70 : decode cX3_longestFrom 70 = .ok (.iaload, 1) := by decide +kernel
theorem dX3_longestFrom_71 : decode cX3_longestFrom 71 = .ok (.invokestatic 49, 3) := by decide +kernel
theorem dX3_longestFrom_74 : decode cX3_longestFrom 74 = .ok (.ireturn, 1) := by decide +kernel
theorem dX4_init_0 : decode cX4_init 0 = .ok (.aload_n 0, 1) := by decide +kernel
theorem dX4_init_1 : decode cX4_init 1 = .ok (.invokespecial 3, 3) := by decide +kernel
theorem dX4_init_4 : decode cX4_init 4 = .ok (.aload_n 0, 1) := by decide +kernel
theorem dX4_init_5 : decode cX4_init 5 = .ok (.bipush 32, 2) := by decide +kernel
theorem dX4_init_7 : decode cX4_init 7 = .ok (.newarray .int, 2) := by decide +kernel
theorem dX4_init_9 : decode cX4_init 9 = .ok (.putfield 9, 3) := by decide +kernel
theorem dX4_init_12 : decode cX4_init 12 = .ok (.aload_n 0, 1) := by decide +kernel
theorem dX4_init_13 : decode cX4_init 13 = .ok (.bipush 32, 2) := by decide +kernel
theorem dX4_init_15 : decode cX4_init 15 = .ok (.newarray .int, 2) := by decide +kernel
theorem dX4_init_17 : decode cX4_init 17 = .ok (.putfield 15, 3) := by decide +kernel
theorem dX4_init_20 : decode cX4_init 20 = .ok (.aload_n 0, 1) := by decide +kernel
theorem dX4_init_21 : decode cX4_init 21 = .ok (.new 18, 3) := by decide +kernel
theorem dX4_init_24 : decode cX4_init 24 = .ok (.dup, 1) := by decide +kernel
theorem dX4_init_25 : decode cX4_init 25 = .ok (.invokespecial 20, 3) := by decide +kernel
theorem dX4_init_28 : decode cX4_init 28 = .ok (.putfield 21, 3) := by decide +kernel
theorem dX4_init_31 : decode cX4_init 31 = .ok (.aload_n 0, 1) := by decide +kernel
theorem dX4_init_32 : decode cX4_init 32 = .ok (.new 18, 3) := by decide +kernel
theorem dX4_init_35 : decode cX4_init 35 = .ok (.dup, 1) := by decide +kernel
theorem dX4_init_36 : decode cX4_init 36 = .ok (.invokespecial 20, 3) := by decide +kernel
theorem dX4_init_39 : decode cX4_init 39 = .ok (.putfield 25, 3) := by decide +kernel
theorem dX4_init_42 : decode cX4_init 42 = .ok (.return_, 1) := by decide +kernel
theorem dX4_size_0 : decode cX4_size 0 = .ok (.aload_n 0, 1) := by decide +kernel
theorem dX4_size_1 : decode cX4_size 1 = .ok (.getfield 28, 3) := by decide +kernel
theorem dX4_size_4 : decode cX4_size 4 = .ok (.ireturn, 1) := by decide +kernel
theorem dX4_hasLine_0 : decode cX4_hasLine 0 = .ok (.iload_n 1, 1) := by decide +kernel
theorem dX4_hasLine_1 : decode cX4_hasLine 1 = .ok (.ifCond .lt 15, 3) := by decide +kernel
theorem dX4_hasLine_4 : decode cX4_hasLine 4 = .ok (.iload_n 1, 1) := by decide +kernel
theorem dX4_hasLine_5 : decode cX4_hasLine 5 = .ok (.aload_n 0, 1) := by decide +kernel
theorem dX4_hasLine_6 : decode cX4_hasLine 6 = .ok (.getfield 28, 3) := by decide +kernel
theorem dX4_hasLine_9 : decode cX4_hasLine 9 = .ok (.if_icmp .ge 7, 3) := by decide +kernel
theorem dX4_hasLine_12 : decode cX4_hasLine 12 = .ok (.iconst 1, 1) := by decide +kernel
theorem dX4_hasLine_13 : decode cX4_hasLine 13 = .ok (.goto 4, 3) := by decide +kernel
theorem dX4_hasLine_16 : decode cX4_hasLine 16 = .ok (.iconst 0, 1) := by decide +kernel
theorem dX4_hasLine_17 : decode cX4_hasLine 17 = .ok (.ireturn, 1) := by decide +kernel
theorem dX4_takesLine_0 : decode cX4_takesLine 0 = .ok (.iload_n 1, 1) := by decide +kernel
theorem dX4_takesLine_1 : decode cX4_takesLine 1 = .ok (.ifCond .lt 24, 3) := by decide +kernel
theorem dX4_takesLine_4 : decode cX4_takesLine 4 = .ok (.iload_n 1, 1) := by decide +kernel
theorem dX4_takesLine_5 : decode cX4_takesLine 5 = .ok (.aload_n 0, 1) := by decide +kernel
theorem dX4_takesLine_6 : decode cX4_takesLine 6 = .ok (.getfield 28, 3) := by decide +kernel
theorem dX4_takesLine_9 : decode cX4_takesLine 9 = .ok (.if_icmp .gt 16, 3) := by decide +kernel
theorem dX4_takesLine_12 : decode cX4_takesLine 12 = .ok (.aload_n 0, 1) := by decide +kernel
theorem dX4_takesLine_13 : decode cX4_takesLine 13 = .ok (.getfield 28, 3) := by decide +kernel
theorem dX4_takesLine_16 : decode cX4_takesLine 16 = .ok (.bipush 32, 2) := by decide +kernel
theorem dX4_takesLine_18 : decode cX4_takesLine 18 = .ok (.if_icmp .ge 7, 3) := by decide +kernel
theorem dX4_takesLine_21 : decode cX4_takesLine 21 = .ok (.iconst 1, 1) := by decide +kernel
theorem dX4_takesLine_22 : decode cX4_takesLine 22 = .ok (.goto 4, 3) := by decide +kernel
theorem dX4_takesLine_25 : decode cX4_takesLine 25 = .ok (.iconst 0, 1) := by decide +kernel
theorem dX4_takesLine_26 : decode cX4_takesLine 26 = .ok (.ireturn, 1) := by decide +kernel
theorem dX4_byteAt_0 : decode cX4_byteAt 0 = .ok (.aload_n 0, 1) := by decide +kernel
theorem dX4_byteAt_1 : decode cX4_byteAt 1 = .ok (.getfield 9, 3) := by decide +kernel
theorem dX4_byteAt_4 : decode cX4_byteAt 4 = .ok (.iload_n 1, 1) := by decide +kernel
theorem dX4_byteAt_5 : decode cX4_byteAt 5 = .ok (.iaload, 1) := by decide +kernel
theorem dX4_byteAt_6 : decode cX4_byteAt 6 = .ok (.ireturn, 1) := by decide +kernel
theorem dX4_idAt_0 : decode cX4_idAt 0 = .ok (.aload_n 0, 1) := by decide +kernel
theorem dX4_idAt_1 : decode cX4_idAt 1 = .ok (.getfield 15, 3) := by decide +kernel
theorem dX4_idAt_4 : decode cX4_idAt 4 = .ok (.iload_n 1, 1) := by decide +kernel
theorem dX4_idAt_5 : decode cX4_idAt 5 = .ok (.iaload, 1) := by decide +kernel
theorem dX4_idAt_6 : decode cX4_idAt 6 = .ok (.ireturn, 1) := by decide +kernel
theorem dX4_kindAt_0 : decode cX4_kindAt 0 = .ok (.aload_n 0, 1) := by decide +kernel
theorem dX4_kindAt_1 : decode cX4_kindAt 1 = .ok (.getfield 9, 3) := by decide +kernel
theorem dX4_kindAt_4 : decode cX4_kindAt 4 = .ok (.iload_n 1, 1) := by decide +kernel
theorem dX4_kindAt_5 : decode cX4_kindAt 5 = .ok (.iaload, 1) := by decide +kernel
theorem dX4_kindAt_6 : decode cX4_kindAt 6 = .ok (.iconst 5, 1) := by decide +kernel
theorem dX4_kindAt_7 : decode cX4_kindAt 7 = .ok (.ishr, 1) := by decide +kernel
theorem dX4_kindAt_8 : decode cX4_kindAt 8 = .ok (.ireturn, 1) := by decide +kernel
theorem dX4_numberAt_0 : decode cX4_numberAt 0 = .ok (.aload_n 0, 1) := by decide +kernel
theorem dX4_numberAt_1 : decode cX4_numberAt 1 = .ok (.getfield 9, 3) := by decide +kernel
theorem dX4_numberAt_4 : decode cX4_numberAt 4 = .ok (.iload_n 1, 1) := by decide +kernel
theorem dX4_numberAt_5 : decode cX4_numberAt 5 = .ok (.iaload, 1) := by decide +kernel
theorem dX4_numberAt_6 : decode cX4_numberAt 6 = .ok (.bipush 31, 2) := by decide +kernel
theorem dX4_numberAt_8 : decode cX4_numberAt 8 = .ok (.iand, 1) := by decide +kernel
theorem dX4_numberAt_9 : decode cX4_numberAt 9 = .ok (.ireturn, 1) := by decide +kernel
theorem dX4_findings_0 : decode cX4_findings 0 = .ok (.aload_n 0, 1) := by decide +kernel
theorem dX4_findings_1 : decode cX4_findings 1 = .ok (.getfield 21, 3) := by decide +kernel
theorem dX4_findings_4 : decode cX4_findings 4 = .ok (.areturn, 1) := by decide +kernel
theorem dX4_insert_0 : decode cX4_insert 0 = .ok (.aload_n 0, 1) := by decide +kernel
theorem dX4_insert_1 : decode cX4_insert 1 = .ok (.getfield 28, 3) := by decide +kernel
theorem dX4_insert_4 : decode cX4_insert 4 = .ok (.istore 4, 2) := by decide +kernel
theorem dX4_insert_6 : decode cX4_insert 6 = .ok (.iload 4, 2) := by decide +kernel
theorem dX4_insert_8 : decode cX4_insert 8 = .ok (.iload_n 1, 1) := by decide +kernel
theorem dX4_insert_9 : decode cX4_insert 9 = .ok (.if_icmp .le 41, 3) := by decide +kernel
theorem dX4_insert_12 : decode cX4_insert 12 = .ok (.aload_n 0, 1) := by decide +kernel
theorem dX4_insert_13 : decode cX4_insert 13 = .ok (.getfield 9, 3) := by decide +kernel
theorem dX4_insert_16 : decode cX4_insert 16 = .ok (.iload 4, 2) := by decide +kernel
theorem dX4_insert_18 : decode cX4_insert 18 = .ok (.aload_n 0, 1) := by decide +kernel
theorem dX4_insert_19 : decode cX4_insert 19 = .ok (.getfield 9, 3) := by decide +kernel
theorem dX4_insert_22 : decode cX4_insert 22 = .ok (.iload 4, 2) := by decide +kernel
theorem dX4_insert_24 : decode cX4_insert 24 = .ok (.iconst 1, 1) := by decide +kernel
theorem dX4_insert_25 : decode cX4_insert 25 = .ok (.isub, 1) := by decide +kernel
theorem dX4_insert_26 : decode cX4_insert 26 = .ok (.iaload, 1) := by decide +kernel
theorem dX4_insert_27 : decode cX4_insert 27 = .ok (.iastore, 1) := by decide +kernel
theorem dX4_insert_28 : decode cX4_insert 28 = .ok (.aload_n 0, 1) := by decide +kernel
theorem dX4_insert_29 : decode cX4_insert 29 = .ok (.getfield 15, 3) := by decide +kernel
theorem dX4_insert_32 : decode cX4_insert 32 = .ok (.iload 4, 2) := by decide +kernel
theorem dX4_insert_34 : decode cX4_insert 34 = .ok (.aload_n 0, 1) := by decide +kernel
theorem dX4_insert_35 : decode cX4_insert 35 = .ok (.getfield 15, 3) := by decide +kernel
theorem dX4_insert_38 : decode cX4_insert 38 = .ok (.iload 4, 2) := by decide +kernel
theorem dX4_insert_40 : decode cX4_insert 40 = .ok (.iconst 1, 1) := by decide +kernel
theorem dX4_insert_41 : decode cX4_insert 41 = .ok (.isub, 1) := by decide +kernel
theorem dX4_insert_42 : decode cX4_insert 42 = .ok (.iaload, 1) := by decide +kernel
theorem dX4_insert_43 : decode cX4_insert 43 = .ok (.iastore, 1) := by decide +kernel
theorem dX4_insert_44 : decode cX4_insert 44 = .ok (.iinc 4 (-1), 3) := by decide +kernel
theorem dX4_insert_47 : decode cX4_insert 47 = .ok (.goto (-41), 3) := by decide +kernel
theorem dX4_insert_50 : decode cX4_insert 50 = .ok (.aload_n 0, 1) := by decide +kernel
theorem dX4_insert_51 : decode cX4_insert 51 = .ok (.getfield 9, 3) := by decide +kernel
theorem dX4_insert_54 : decode cX4_insert 54 = .ok (.iload_n 1, 1) := by decide +kernel
theorem dX4_insert_55 : decode cX4_insert 55 = .ok (.iload_n 2, 1) := by decide +kernel
theorem dX4_insert_56 : decode cX4_insert 56 = .ok (.iastore, 1) := by decide +kernel
theorem dX4_insert_57 : decode cX4_insert 57 = .ok (.aload_n 0, 1) := by decide +kernel
theorem dX4_insert_58 : decode cX4_insert 58 = .ok (.getfield 15, 3) := by decide +kernel
theorem dX4_insert_61 : decode cX4_insert 61 = .ok (.iload_n 1, 1) := by decide +kernel
theorem dX4_insert_62 : decode cX4_insert 62 = .ok (.iload_n 3, 1) := by decide +kernel
theorem dX4_insert_63 : decode cX4_insert 63 = .ok (.iastore, 1) := by decide +kernel
theorem dX4_insert_64 : decode cX4_insert 64 = .ok (.aload_n 0, 1) := by decide +kernel
theorem dX4_insert_65 : decode cX4_insert 65 = .ok (.dup, 1) := by decide +kernel
theorem dX4_insert_66 : decode cX4_insert 66 = .ok (.getfield 28, 3) := by decide +kernel
theorem dX4_insert_69 : decode cX4_insert 69 = .ok (.iconst 1, 1) := by decide +kernel
theorem dX4_insert_70 : decode cX4_insert 70 = .ok (.iadd, 1) := by decide +kernel
theorem dX4_insert_71 : decode cX4_insert 71 = .ok (.putfield 28, 3) := by decide +kernel
theorem dX4_insert_74 : decode cX4_insert 74 = .ok (.return_, 1) := by decide +kernel
theorem dX4_remove_0 : decode cX4_remove 0 = .ok (.aload_n 0, 1) := by decide +kernel
theorem dX4_remove_1 : decode cX4_remove 1 = .ok (.dup, 1) := by decide +kernel
theorem dX4_remove_2 : decode cX4_remove 2 = .ok (.getfield 28, 3) := by decide +kernel
theorem dX4_remove_5 : decode cX4_remove 5 = .ok (.iconst 1, 1) := by decide +kernel
theorem dX4_remove_6 : decode cX4_remove 6 = .ok (.isub, 1) := by decide +kernel
theorem dX4_remove_7 : decode cX4_remove 7 = .ok (.putfield 28, 3) := by decide +kernel
theorem dX4_remove_10 : decode cX4_remove 10 = .ok (.iload_n 1, 1) := by decide +kernel
theorem dX4_remove_11 : decode cX4_remove 11 = .ok (.istore_n 2, 1) := by decide +kernel
theorem dX4_remove_12 : decode cX4_remove 12 = .ok (.iload_n 2, 1) := by decide +kernel
theorem dX4_remove_13 : decode cX4_remove 13 = .ok (.aload_n 0, 1) := by decide +kernel
theorem dX4_remove_14 : decode cX4_remove 14 = .ok (.getfield 28, 3) := by decide +kernel
theorem dX4_remove_17 : decode cX4_remove 17 = .ok (.if_icmp .ge 37, 3) := by decide +kernel
theorem dX4_remove_20 : decode cX4_remove 20 = .ok (.aload_n 0, 1) := by decide +kernel
theorem dX4_remove_21 : decode cX4_remove 21 = .ok (.getfield 9, 3) := by decide +kernel
theorem dX4_remove_24 : decode cX4_remove 24 = .ok (.iload_n 2, 1) := by decide +kernel
theorem dX4_remove_25 : decode cX4_remove 25 = .ok (.aload_n 0, 1) := by decide +kernel
theorem dX4_remove_26 : decode cX4_remove 26 = .ok (.getfield 9, 3) := by decide +kernel
theorem dX4_remove_29 : decode cX4_remove 29 = .ok (.iload_n 2, 1) := by decide +kernel
theorem dX4_remove_30 : decode cX4_remove 30 = .ok (.iconst 1, 1) := by decide +kernel
theorem dX4_remove_31 : decode cX4_remove 31 = .ok (.iadd, 1) := by decide +kernel
theorem dX4_remove_32 : decode cX4_remove 32 = .ok (.iaload, 1) := by decide +kernel
theorem dX4_remove_33 : decode cX4_remove 33 = .ok (.iastore, 1) := by decide +kernel
theorem dX4_remove_34 : decode cX4_remove 34 = .ok (.aload_n 0, 1) := by decide +kernel
theorem dX4_remove_35 : decode cX4_remove 35 = .ok (.getfield 15, 3) := by decide +kernel
theorem dX4_remove_38 : decode cX4_remove 38 = .ok (.iload_n 2, 1) := by decide +kernel
theorem dX4_remove_39 : decode cX4_remove 39 = .ok (.aload_n 0, 1) := by decide +kernel
theorem dX4_remove_40 : decode cX4_remove 40 = .ok (.getfield 15, 3) := by decide +kernel
theorem dX4_remove_43 : decode cX4_remove 43 = .ok (.iload_n 2, 1) := by decide +kernel
theorem dX4_remove_44 : decode cX4_remove 44 = .ok (.iconst 1, 1) := by decide +kernel
theorem dX4_remove_45 : decode cX4_remove 45 = .ok (.iadd, 1) := by decide +kernel
theorem dX4_remove_46 : decode cX4_remove 46 = .ok (.iaload, 1) := by decide +kernel
theorem dX4_remove_47 : decode cX4_remove 47 = .ok (.iastore, 1) := by decide +kernel
theorem dX4_remove_48 : decode cX4_remove 48 = .ok (.iinc 2 1, 3) := by decide +kernel
theorem dX4_remove_51 : decode cX4_remove 51 = .ok (.goto (-39), 3) := by decide +kernel
theorem dX4_remove_54 : decode cX4_remove 54 = .ok (.return_, 1) := by decide +kernel
theorem dX4_replace_0 : decode cX4_replace 0 = .ok (.aload_n 0, 1) := by decide +kernel
theorem dX4_replace_1 : decode cX4_replace 1 = .ok (.getfield 9, 3) := by decide +kernel
theorem dX4_replace_4 : decode cX4_replace 4 = .ok (.iload_n 1, 1) := by decide +kernel
theorem dX4_replace_5 : decode cX4_replace 5 = .ok (.iload_n 2, 1) := by decide +kernel
theorem dX4_replace_6 : decode cX4_replace 6 = .ok (.iastore, 1) := by decide +kernel
theorem dX4_replace_7 : decode cX4_replace 7 = .ok (.return_, 1) := by decide +kernel
theorem dX4_retell_0 : decode cX4_retell 0 = .ok (.aload_n 0, 1) := by decide +kernel
theorem dX4_retell_1 : decode cX4_retell 1 = .ok (.aload_n 1, 1) := by decide +kernel
theorem dX4_retell_2 : decode cX4_retell 2 = .ok (.invokevirtual 32, 3) := by decide +kernel
theorem dX4_retell_5 : decode cX4_retell 5 = .ok (.putfield 28, 3) := by decide +kernel
theorem dX4_retell_8 : decode cX4_retell 8 = .ok (.iconst 0, 1) := by decide +kernel
theorem dX4_retell_9 : decode cX4_retell 9 = .ok (.istore_n 3, 1) := by decide +kernel
theorem dX4_retell_10 : decode cX4_retell 10 = .ok (.iload_n 3, 1) := by decide +kernel
theorem dX4_retell_11 : decode cX4_retell 11 = .ok (.aload_n 0, 1) := by decide +kernel
theorem dX4_retell_12 : decode cX4_retell 12 = .ok (.getfield 28, 3) := by decide +kernel
theorem dX4_retell_15 : decode cX4_retell 15 = .ok (.if_icmp .ge 31, 3) := by decide +kernel
theorem dX4_retell_18 : decode cX4_retell 18 = .ok (.aload_n 0, 1) := by decide +kernel
theorem dX4_retell_19 : decode cX4_retell 19 = .ok (.getfield 9, 3) := by decide +kernel
theorem dX4_retell_22 : decode cX4_retell 22 = .ok (.iload_n 3, 1) := by decide +kernel
theorem dX4_retell_23 : decode cX4_retell 23 = .ok (.aload_n 1, 1) := by decide +kernel
theorem dX4_retell_24 : decode cX4_retell 24 = .ok (.iload_n 3, 1) := by decide +kernel
theorem dX4_retell_25 : decode cX4_retell 25 = .ok (.invokevirtual 38, 3) := by decide +kernel
theorem dX4_retell_28 : decode cX4_retell 28 = .ok (.iastore, 1) := by decide +kernel
theorem dX4_retell_29 : decode cX4_retell 29 = .ok (.aload_n 0, 1) := by decide +kernel
theorem dX4_retell_30 : decode cX4_retell 30 = .ok (.getfield 15, 3) := by decide +kernel
theorem dX4_retell_33 : decode cX4_retell 33 = .ok (.iload_n 3, 1) := by decide +kernel
theorem dX4_retell_34 : decode cX4_retell 34 = .ok (.aload_n 2, 1) := by decide +kernel
theorem dX4_retell_35 : decode cX4_retell 35 = .ok (.iload_n 3, 1) := by decide +kernel
theorem dX4_retell_36 : decode cX4_retell 36 = .ok (.invokevirtual 42, 3) := by decide +kernel
theorem dX4_retell_39 : decode cX4_retell 39 = .ok (.iastore, 1) := by decide +kernel
theorem dX4_retell_40 : decode cX4_retell 40 = .ok (.iinc 3 1, 3) := by decide +kernel
theorem dX4_retell_43 : decode cX4_retell 43 = .ok (.goto (-33), 3) := by decide +kernel
theorem dX4_retell_46 : decode cX4_retell 46 = .ok (.return_, 1) := by decide +kernel
theorem dX4_numbersOf_0 : decode cX4_numbersOf 0 = .ok (.iconst 0, 1) := by decide +kernel
theorem dX4_numbersOf_1 : decode cX4_numbersOf 1 = .ok (.istore_n 2, 1) := by decide +kernel
theorem dX4_numbersOf_2 : decode cX4_numbersOf 2 = .ok (.iconst 0, 1) := by decide +kernel
theorem dX4_numbersOf_3 : decode cX4_numbersOf 3 = .ok (.istore_n 3, 1) := by decide +kernel
theorem dX4_numbersOf_4 : decode cX4_numbersOf 4 = .ok (.iload_n 3, 1) := by decide +kernel
theorem dX4_numbersOf_5 : decode cX4_numbersOf 5 = .ok (.aload_n 0, 1) := by decide +kernel
theorem dX4_numbersOf_6 : decode cX4_numbersOf 6 = .ok (.getfield 28, 3) := by decide +kernel
theorem dX4_numbersOf_9 : decode cX4_numbersOf 9 = .ok (.if_icmp .ge 28, 3) := by decide +kernel
theorem dX4_numbersOf_12 : decode cX4_numbersOf 12 = .ok (.aload_n 0, 1) := by decide +kernel
theorem dX4_numbersOf_13 : decode cX4_numbersOf 13 = .ok (.iload_n 3, 1) := by decide +kernel
theorem dX4_numbersOf_14 : decode cX4_numbersOf 14 = .ok (.invokevirtual 47, 3) := by decide +kernel
theorem dX4_numbersOf_17 : decode cX4_numbersOf 17 = .ok (.iload_n 1, 1) := by decide +kernel
theorem dX4_numbersOf_18 : decode cX4_numbersOf 18 = .ok (.if_icmp .ne 13, 3) := by decide +kernel
theorem dX4_numbersOf_21 : decode cX4_numbersOf 21 = .ok (.iload_n 2, 1) := by decide +kernel
theorem dX4_numbersOf_22 : decode cX4_numbersOf 22 = .ok (.iconst 1, 1) := by decide +kernel
theorem dX4_numbersOf_23 : decode cX4_numbersOf 23 = .ok (.aload_n 0, 1) := by decide +kernel
theorem dX4_numbersOf_24 : decode cX4_numbersOf 24 = .ok (.iload_n 3, 1) := by decide +kernel
theorem dX4_numbersOf_25 : decode cX4_numbersOf 25 = .ok (.invokevirtual 50, 3) := by decide +kernel
theorem dX4_numbersOf_28 : decode cX4_numbersOf 28 = .ok (.ishl, 1) := by decide +kernel
theorem dX4_numbersOf_29 : decode cX4_numbersOf 29 = .ok (.ior, 1) := by decide +kernel
theorem dX4_numbersOf_30 : decode cX4_numbersOf 30 = .ok (.istore_n 2, 1) := by decide +kernel
theorem dX4_numbersOf_31 : decode cX4_numbersOf 31 = .ok (.iinc 3 1, 3) := by decide +kernel
theorem dX4_numbersOf_34 : decode cX4_numbersOf 34 = .ok (.goto (-30), 3) := by decide +kernel
theorem dX4_numbersOf_37 : decode cX4_numbersOf 37 = .ok (.iload_n 2, 1) := by decide +kernel
theorem dX4_numbersOf_38 : decode cX4_numbersOf 38 = .ok (.ireturn, 1) := by decide +kernel
theorem dX4_importedFiles_0 : decode cX4_importedFiles 0 = .ok (.iconst 0, 1) := by decide +kernel
theorem dX4_importedFiles_1 : decode cX4_importedFiles 1 = .ok (.istore_n 1, 1) := by decide +kernel
theorem dX4_importedFiles_2 : decode cX4_importedFiles 2 = .ok (.iconst 0, 1) := by decide +kernel
theorem dX4_importedFiles_3 : decode cX4_importedFiles 3 = .ok (.istore_n 2, 1) := by decide +kernel
theorem dX4_importedFiles_4 : decode cX4_importedFiles 4 = .ok (.iload_n 2, 1) := by decide +kernel
theorem dX4_importedFiles_5 : decode cX4_importedFiles 5 = .ok (.aload_n 0, 1) := by decide +kernel
theorem dX4_importedFiles_6 : decode cX4_importedFiles 6 = .ok (.getfield 28, 3) := by decide +kernel
theorem dX4_importedFiles_9 : decode cX4_importedFiles 9 = .ok (.if_icmp .ge 31, 3) := by decide +kernel
theorem dX4_importedFiles_12 : decode cX4_importedFiles 12 = .ok (.aload_n 0, 1) := by decide +kernel
theorem dX4_importedFiles_13 : decode cX4_importedFiles 13 = .ok (.iload_n 2, 1) := by decide +kernel
theorem dX4_importedFiles_14 : decode cX4_importedFiles 14 = .ok (.invokevirtual 47, 3) := by decide +kernel
theorem dX4_importedFiles_17 : decode cX4_importedFiles 17 = .ok (.iconst 5, 1) := by decide +kernel
theorem dX4_importedFiles_18 : decode cX4_importedFiles 18 = .ok (.if_icmp .ne 16, 3) := by decide +kernel
theorem dX4_importedFiles_21 : decode cX4_importedFiles 21 = .ok (.iload_n 1, 1) := by decide +kernel
theorem dX4_importedFiles_22 : decode cX4_importedFiles 22 = .ok (.iconst 1, 1) := by decide +kernel
theorem dX4_importedFiles_23 : decode cX4_importedFiles 23 = .ok (.aload_n 0, 1) := by decide +kernel
theorem dX4_importedFiles_24 : decode cX4_importedFiles 24 = .ok (.iload_n 2, 1) := by decide +kernel
theorem dX4_importedFiles_25 : decode cX4_importedFiles 25 = .ok (.invokevirtual 50, 3) := by decide +kernel
theorem dX4_importedFiles_28 : decode cX4_importedFiles 28 = .ok (.bipush 6, 2) := by decide +kernel
theorem dX4_importedFiles_30 : decode cX4_importedFiles 30 = .ok (.irem, 1) := by decide +kernel
theorem dX4_importedFiles_31 : decode cX4_importedFiles 31 = .ok (.ishl, 1) := by decide +kernel
theorem dX4_importedFiles_32 : decode cX4_importedFiles 32 = .ok (.ior, 1) := by decide +kernel
theorem dX4_importedFiles_33 : decode cX4_importedFiles 33 = .ok (.istore_n 1, 1) := by decide +kernel
theorem dX4_importedFiles_34 : decode cX4_importedFiles 34 = .ok (.iinc 2 1, 3) := by decide +kernel
theorem dX4_importedFiles_37 : decode cX4_importedFiles 37 = .ok (.goto (-33), 3) := by decide +kernel
theorem dX4_importedFiles_40 : decode cX4_importedFiles 40 = .ok (.iload_n 1, 1) := by decide +kernel
theorem dX4_importedFiles_41 : decode cX4_importedFiles 41 = .ok (.ireturn, 1) := by decide +kernel
theorem dX4_renewFindings_0 : decode cX4_renewFindings 0 = .ok (.aload_n 0, 1) := by decide +kernel
theorem dX4_renewFindings_1 : decode cX4_renewFindings 1 = .ok (.getfield 25, 3) := by decide +kernel
theorem dX4_renewFindings_4 : decode cX4_renewFindings 4 = .ok (.astore 4, 2) := by decide +kernel
theorem dX4_renewFindings_6 : decode cX4_renewFindings 6 = .ok (.aload 4, 2) := by decide +kernel
theorem dX4_renewFindings_8 : decode cX4_renewFindings 8 = .ok (.invokevirtual 53, 3) := by decide +kernel
theorem dX4_renewFindings_11 : decode cX4_renewFindings 11 = .ok (.iconst 0, 1) := by decide +kernel
theorem dX4_renewFindings_12 : decode cX4_renewFindings 12 = .ok (.istore 5, 2) := by decide +kernel
theorem dX4_renewFindings_14 : decode cX4_renewFindings 14 = .ok (.iload 5, 2) := by decide +kernel
theorem dX4_renewFindings_16 : decode cX4_renewFindings 16 = .ok (.aload_n 0, 1) := by decide +kernel
theorem dX4_renewFindings_17 : decode cX4_renewFindings 17 = .ok (.getfield 28, 3) := by decide +kernel
theorem dX4_renewFindings_20 : decode cX4_renewFindings 20 = .ok (.if_icmp .ge 64, 3) := by decide +kernel
theorem dX4_renewFindings_23 : decode cX4_renewFindings 23 = .ok (.iconst 0, 1) := by decide +kernel
theorem dX4_renewFindings_24 : decode cX4_renewFindings 24 = .ok (.istore 6, 2) := by decide +kernel
theorem dX4_renewFindings_26 : decode cX4_renewFindings 26 = .ok (.iload 6, 2) := by decide +kernel
theorem dX4_renewFindings_28 : decode cX4_renewFindings 28 = .ok (.iconst 5, 1) := by decide +kernel
theorem dX4_renewFindings_29 : decode cX4_renewFindings 29 = .ok (.if_icmp .ge 49, 3) := by decide +kernel
theorem dX4_renewFindings_32 : decode cX4_renewFindings 32 = .ok (.aload_n 1, 1) := by decide +kernel
theorem dX4_renewFindings_33 : decode cX4_renewFindings 33 = .ok (.iload 6, 2) := by decide +kernel
theorem dX4_renewFindings_35 : decode cX4_renewFindings 35 = .ok (.invokevirtual 56, 3) := by decide +kernel
theorem dX4_renewFindings_38 : decode cX4_renewFindings 38 = .ok (.iload 5, 2) := by decide +kernel
theorem dX4_renewFindings_40 : decode cX4_renewFindings 40 = .ok (.invokestatic 61, 3) := by decide +kernel
theorem dX4_renewFindings_43 : decode cX4_renewFindings 43 = .ok (.ifCond .eq 29, 3) := by decide +kernel
theorem dX4_renewFindings_46 : decode cX4_renewFindings 46 = .ok (.aload 4, 2) := by decide +kernel
theorem dX4_renewFindings_48 : decode cX4_renewFindings 48 = .ok (.iload 6, 2) := by decide +kernel
theorem dX4_renewFindings_50 : decode cX4_renewFindings 50 = .ok (.iload 5, 2) := by decide +kernel
theorem dX4_renewFindings_52 : decode cX4_renewFindings 52 = .ok (.aload_n 0, 1) := by decide +kernel
theorem dX4_renewFindings_53 : decode cX4_renewFindings 53 = .ok (.getfield 15, 3) := by decide +kernel
theorem dX4_renewFindings_56 : decode cX4_renewFindings 56 = .ok (.iload 5, 2) := by decide +kernel
theorem dX4_renewFindings_58 : decode cX4_renewFindings 58 = .ok (.iaload, 1) := by decide +kernel
theorem dX4_renewFindings_59 : decode cX4_renewFindings 59 = .ok (.iload_n 2, 1) := by decide +kernel
theorem dX4_renewFindings_60 : decode cX4_renewFindings 60 = .ok (.invokevirtual 65, 3) := by decide +kernel
theorem dX4_renewFindings_63 : decode cX4_renewFindings 63 = .ok (.aload 4, 2) := by decide +kernel
theorem dX4_renewFindings_65 : decode cX4_renewFindings 65 = .ok (.aload_n 0, 1) := by decide +kernel
theorem dX4_renewFindings_66 : decode cX4_renewFindings 66 = .ok (.getfield 21, 3) := by decide +kernel
theorem dX4_renewFindings_69 : decode cX4_renewFindings 69 = .ok (.invokevirtual 69, 3) := by decide +kernel
theorem dX4_renewFindings_72 : decode cX4_renewFindings 72 = .ok (.iinc 6 1, 3) := by decide +kernel
theorem dX4_renewFindings_75 : decode cX4_renewFindings 75 = .ok (.goto (-49), 3) := by decide +kernel
theorem dX4_renewFindings_78 : decode cX4_renewFindings 78 = .ok (.iinc 5 1, 3) := by decide +kernel
theorem dX4_renewFindings_81 : decode cX4_renewFindings 81 = .ok (.goto (-67), 3) := by decide +kernel
theorem dX4_renewFindings_84 : decode cX4_renewFindings 84 = .ok (.aload_n 0, 1) := by decide +kernel
theorem dX4_renewFindings_85 : decode cX4_renewFindings 85 = .ok (.getfield 21, 3) := by decide +kernel
theorem dX4_renewFindings_88 : decode cX4_renewFindings 88 = .ok (.aload 4, 2) := by decide +kernel
theorem dX4_renewFindings_90 : decode cX4_renewFindings 90 = .ok (.iload_n 2, 1) := by decide +kernel
theorem dX4_renewFindings_91 : decode cX4_renewFindings 91 = .ok (.aload_n 3, 1) := by decide +kernel
theorem dX4_renewFindings_92 : decode cX4_renewFindings 92 = .ok (.invokevirtual 73, 3) := by decide +kernel
theorem dX4_renewFindings_95 : decode cX4_renewFindings 95 = .ok (.aload_n 0, 1) := by decide +kernel
theorem dX4_renewFindings_96 : decode cX4_renewFindings 96 = .ok (.aload_n 0, 1) := by decide +kernel
theorem dX4_renewFindings_97 : decode cX4_renewFindings 97 = .ok (.getfield 21, 3) := by decide +kernel
theorem dX4_renewFindings_100 : decode cX4_renewFindings 100 = .ok (.putfield 25, 3) := by decide +kernel
theorem dX4_renewFindings_103 : decode cX4_renewFindings 103 = .ok (.aload_n 0, 1) := by decide +kernel
theorem dX4_renewFindings_104 : decode cX4_renewFindings 104 = .ok (.aload 4, 2) := by decide +kernel
theorem dX4_renewFindings_106 : decode cX4_renewFindings 106 = .ok (.putfield 21, 3) := by decide +kernel
theorem dX4_renewFindings_109 : decode cX4_renewFindings 109 = .ok (.return_, 1) := by decide +kernel
theorem dX5_init_0 : decode cX5_init 0 = .ok (.aload_n 0, 1) := by decide +kernel
theorem dX5_init_1 : decode cX5_init 1 = .ok (.invokespecial 3, 3) := by decide +kernel
theorem dX5_init_4 : decode cX5_init 4 = .ok (.aload_n 0, 1) := by decide +kernel
theorem dX5_init_5 : decode cX5_init 5 = .ok (.bipush 40, 2) := by decide +kernel
theorem dX5_init_7 : decode cX5_init 7 = .ok (.newarray .int, 2) := by decide +kernel
theorem dX5_init_9 : decode cX5_init 9 = .ok (.putfield 9, 3) := by decide +kernel
theorem dX5_init_12 : decode cX5_init 12 = .ok (.return_, 1) := by decide +kernel
theorem dX5_size_0 : decode cX5_size 0 = .ok (.aload_n 0, 1) := by decide +kernel
theorem dX5_size_1 : decode cX5_size 1 = .ok (.getfield 15, 3) := by decide +kernel
theorem dX5_size_4 : decode cX5_size 4 = .ok (.ireturn, 1) := by decide +kernel
theorem dX5_byteAt_0 : decode cX5_byteAt 0 = .ok (.aload_n 0, 1) := by decide +kernel
theorem dX5_byteAt_1 : decode cX5_byteAt 1 = .ok (.getfield 9, 3) := by decide +kernel
theorem dX5_byteAt_4 : decode cX5_byteAt 4 = .ok (.iload_n 1, 1) := by decide +kernel
theorem dX5_byteAt_5 : decode cX5_byteAt 5 = .ok (.iaload, 1) := by decide +kernel
theorem dX5_byteAt_6 : decode cX5_byteAt 6 = .ok (.ireturn, 1) := by decide +kernel
theorem dX5_append_0 : decode cX5_append 0 = .ok (.bipush 24, 2) := by decide +kernel
theorem dX5_append_2 : decode cX5_append 2 = .ok (.istore_n 2, 1) := by decide +kernel
theorem dX5_append_3 : decode cX5_append 3 = .ok (.iload_n 2, 1) := by decide +kernel
theorem dX5_append_4 : decode cX5_append 4 = .ok (.ifCond .lt 44, 3) := by decide +kernel
theorem dX5_append_7 : decode cX5_append 7 = .ok (.aload_n 0, 1) := by decide +kernel
theorem dX5_append_8 : decode cX5_append 8 = .ok (.getfield 15, 3) := by decide +kernel
theorem dX5_append_11 : decode cX5_append 11 = .ok (.bipush 40, 2) := by decide +kernel
theorem dX5_append_13 : decode cX5_append 13 = .ok (.if_icmp .ge 35, 3) := by decide +kernel
theorem dX5_append_16 : decode cX5_append 16 = .ok (.aload_n 0, 1) := by decide +kernel
theorem dX5_append_17 : decode cX5_append 17 = .ok (.getfield 9, 3) := by decide +kernel
theorem dX5_append_20 : decode cX5_append 20 = .ok (.aload_n 0, 1) := by decide +kernel
theorem dX5_append_21 : decode cX5_append 21 = .ok (.getfield 15, 3) := by decide +kernel
theorem dX5_append_24 : decode cX5_append 24 = .ok (.iload_n 1, 1) := by decide +kernel
theorem dX5_append_25 : decode cX5_append 25 = .ok (.iload_n 2, 1) := by decide +kernel
theorem dX5_append_26 : decode cX5_append 26 = .ok (.iushr, 1) := by decide +kernel
theorem dX5_append_27 : decode cX5_append 27 = .ok (.sipush 255, 3) := by decide +kernel
theorem dX5_append_30 : decode cX5_append 30 = .ok (.iand, 1) := by decide +kernel
theorem dX5_append_31 : decode cX5_append 31 = .ok (.iastore, 1) := by decide +kernel
theorem dX5_append_32 : decode cX5_append 32 = .ok (.aload_n 0, 1) := by decide +kernel
theorem dX5_append_33 : decode cX5_append 33 = .ok (.dup, 1) := by decide +kernel
theorem dX5_append_34 : decode cX5_append 34 = .ok (.getfield 15, 3) := by decide +kernel
theorem dX5_append_37 : decode cX5_append 37 = .ok (.iconst 1, 1) := by decide +kernel
theorem dX5_append_38 : decode cX5_append 38 = .ok (.iadd, 1) := by decide +kernel
theorem dX5_append_39 : decode cX5_append 39 = .ok (.putfield 15, 3) := by decide +kernel
theorem dX5_append_42 : decode cX5_append 42 = .ok (.iinc 2 (-8), 3) := by decide +kernel
theorem dX5_append_45 : decode cX5_append 45 = .ok (.goto (-42), 3) := by decide +kernel
theorem dX5_append_48 : decode cX5_append 48 = .ok (.return_, 1) := by decide +kernel
theorem dX5_shorten_0 : decode cX5_shorten 0 = .ok (.aload_n 0, 1) := by decide +kernel
theorem dX5_shorten_1 : decode cX5_shorten 1 = .ok (.iload_n 1, 1) := by decide +kernel
theorem dX5_shorten_2 : decode cX5_shorten 2 = .ok (.putfield 15, 3) := by decide +kernel
theorem dX5_shorten_5 : decode cX5_shorten 5 = .ok (.return_, 1) := by decide +kernel
theorem dX6_init_0 : decode cX6_init 0 = .ok (.aload_n 0, 1) := by decide +kernel
theorem dX6_init_1 : decode cX6_init 1 = .ok (.invokespecial 1, 3) := by decide +kernel
theorem dX6_init_4 : decode cX6_init 4 = .ok (.aload_n 0, 1) := by decide +kernel
theorem dX6_init_5 : decode cX6_init 5 = .ok (.bipush 6, 2) := by decide +kernel
theorem dX6_init_7 : decode cX6_init 7 = .ok (.anewarray 9, 3) := by decide +kernel
theorem dX6_init_10 : decode cX6_init 10 = .ok (.putfield 11, 3) := by decide +kernel
theorem dX6_init_13 : decode cX6_init 13 = .ok (.iconst 0, 1) := by decide +kernel
theorem dX6_init_14 : decode cX6_init 14 = .ok (.istore_n 1, 1) := by decide +kernel
theorem dX6_init_15 : decode cX6_init 15 = .ok (.iload_n 1, 1) := by decide +kernel
theorem dX6_init_16 : decode cX6_init 16 = .ok (.bipush 6, 2) := by decide +kernel
theorem dX6_init_18 : decode cX6_init 18 = .ok (.if_icmp .ge 22, 3) := by decide +kernel
theorem dX6_init_21 : decode cX6_init 21 = .ok (.aload_n 0, 1) := by decide +kernel
theorem dX6_init_22 : decode cX6_init 22 = .ok (.getfield 11, 3) := by decide +kernel
theorem dX6_init_25 : decode cX6_init 25 = .ok (.iload_n 1, 1) := by decide +kernel
theorem dX6_init_26 : decode cX6_init 26 = .ok (.new 9, 3) := by decide +kernel
theorem dX6_init_29 : decode cX6_init 29 = .ok (.dup, 1) := by decide +kernel
theorem dX6_init_30 : decode cX6_init 30 = .ok (.invokespecial 15, 3) := by decide +kernel
theorem dX6_init_33 : decode cX6_init 33 = .ok (.aastore, 1) := by decide +kernel
theorem dX6_init_34 : decode cX6_init 34 = .ok (.iinc 1 1, 3) := by decide +kernel
theorem dX6_init_37 : decode cX6_init 37 = .ok (.goto (-22), 3) := by decide +kernel
theorem dX6_init_40 : decode cX6_init 40 = .ok (.aload_n 0, 1) := by decide +kernel
theorem dX6_init_41 : decode cX6_init 41 = .ok (.new 16, 3) := by decide +kernel
theorem dX6_init_44 : decode cX6_init 44 = .ok (.dup, 1) := by decide +kernel
theorem dX6_init_45 : decode cX6_init 45 = .ok (.invokespecial 18, 3) := by decide +kernel
theorem dX6_init_48 : decode cX6_init 48 = .ok (.putfield 19, 3) := by decide +kernel
theorem dX6_init_51 : decode cX6_init 51 = .ok (.aload_n 0, 1) := by decide +kernel
theorem dX6_init_52 : decode cX6_init 52 = .ok (.new 23, 3) := by decide +kernel
theorem dX6_init_55 : decode cX6_init 55 = .ok (.dup, 1) := by decide +kernel
theorem dX6_init_56 : decode cX6_init 56 = .ok (.invokespecial 25, 3) := by decide +kernel
theorem dX6_init_59 : decode cX6_init 59 = .ok (.putfield 26, 3) := by decide +kernel
theorem dX6_init_62 : decode cX6_init 62 = .ok (.aload_n 0, 1) := by decide +kernel
theorem dX6_init_63 : decode cX6_init 63 = .ok (.new 30, 3) := by decide +kernel
theorem dX6_init_66 : decode cX6_init 66 = .ok (.dup, 1) := by decide +kernel
theorem dX6_init_67 : decode cX6_init 67 = .ok (.invokespecial 32, 3) := by decide +kernel
theorem dX6_init_70 : decode cX6_init 70 = .ok (.putfield 33, 3) := by decide +kernel
theorem dX6_init_73 : decode cX6_init 73 = .ok (.aload_n 0, 1) := by decide +kernel
theorem dX6_init_74 : decode cX6_init 74 = .ok (.new 37, 3) := by decide +kernel
theorem dX6_init_77 : decode cX6_init 77 = .ok (.dup, 1) := by decide +kernel
theorem dX6_init_78 : decode cX6_init 78 = .ok (.invokespecial 39, 3) := by decide +kernel
theorem dX6_init_81 : decode cX6_init 81 = .ok (.putfield 40, 3) := by decide +kernel
theorem dX6_init_84 : decode cX6_init 84 = .ok (.return_, 1) := by decide +kernel
theorem dX6_put_0 : decode cX6_put 0 = .ok (.iload_n 1, 1) := by decide +kernel
theorem dX6_put_1 : decode cX6_put 1 = .ok (.invokestatic 44, 3) := by decide +kernel
theorem dX6_put_4 : decode cX6_put 4 = .ok (.ifCond .eq 23, 3) := by decide +kernel
theorem dX6_put_7 : decode cX6_put 7 = .ok (.iload_n 3, 1) := by decide +kernel
theorem dX6_put_8 : decode cX6_put 8 = .ok (.invokestatic 48, 3) := by decide +kernel
theorem dX6_put_11 : decode cX6_put 11 = .ok (.ifCond .eq 16, 3) := by decide +kernel
theorem dX6_put_14 : decode cX6_put 14 = .ok (.aload_n 0, 1) := by decide +kernel
theorem dX6_put_15 : decode cX6_put 15 = .ok (.getfield 11, 3) := by decide +kernel
theorem dX6_put_18 : decode cX6_put 18 = .ok (.iload_n 1, 1) := by decide +kernel
theorem dX6_put_19 : decode cX6_put 19 = .ok (.aaload, 1) := by decide +kernel
theorem dX6_put_20 : decode cX6_put 20 = .ok (.iload_n 2, 1) := by decide +kernel
theorem dX6_put_21 : decode cX6_put 21 = .ok (.invokevirtual 51, 3) := by decide +kernel
theorem dX6_put_24 : decode cX6_put 24 = .ok (.ifCond .ne 5, 3) := by decide +kernel
theorem dX6_put_27 : decode cX6_put 27 = .ok (.iconst (-1), 1) := by decide +kernel
theorem dX6_put_28 : decode cX6_put 28 = .ok (.ireturn, 1) := by decide +kernel
theorem dX6_put_29 : decode cX6_put 29 = .ok (.aload_n 0, 1) := by decide +kernel
theorem dX6_put_30 : decode cX6_put 30 = .ok (.getfield 11, 3) := by decide +kernel
theorem dX6_put_33 : decode cX6_put 33 = .ok (.iload_n 1, 1) := by decide +kernel
theorem dX6_put_34 : decode cX6_put 34 = .ok (.aaload, 1) := by decide +kernel
theorem dX6_put_35 : decode cX6_put 35 = .ok (.iconst 1, 1) := by decide +kernel
theorem dX6_put_36 : decode cX6_put 36 = .ok (.invokevirtual 54, 3) := by decide +kernel
theorem dX6_put_39 : decode cX6_put 39 = .ok (.istore 4, 2) := by decide +kernel
theorem dX6_put_41 : decode cX6_put 41 = .ok (.aload_n 0, 1) := by decide +kernel
theorem dX6_put_42 : decode cX6_put 42 = .ok (.getfield 58, 3) := by decide +kernel
theorem dX6_put_45 : decode cX6_put 45 = .ok (.istore 5, 2) := by decide +kernel
theorem dX6_put_47 : decode cX6_put 47 = .ok (.aload_n 0, 1) := by decide +kernel
theorem dX6_put_48 : decode cX6_put 48 = .ok (.dup, 1) := by decide +kernel
theorem dX6_put_49 : decode cX6_put 49 = .ok (.getfield 58, 3) := by decide +kernel
theorem dX6_put_52 : decode cX6_put 52 = .ok (.iconst 1, 1) := by decide +kernel
theorem dX6_put_53 : decode cX6_put 53 = .ok (.iadd, 1) := by decide +kernel
theorem dX6_put_54 : decode cX6_put 54 = .ok (.putfield 58, 3) := by decide +kernel
theorem dX6_put_57 : decode cX6_put 57 = .ok (.aload_n 0, 1) := by decide +kernel
theorem dX6_put_58 : decode cX6_put 58 = .ok (.getfield 11, 3) := by decide +kernel
theorem dX6_put_61 : decode cX6_put 61 = .ok (.iload_n 1, 1) := by decide +kernel
theorem dX6_put_62 : decode cX6_put 62 = .ok (.aaload, 1) := by decide +kernel
theorem dX6_put_63 : decode cX6_put 63 = .ok (.iload_n 2, 1) := by decide +kernel
theorem dX6_put_64 : decode cX6_put 64 = .ok (.iload_n 3, 1) := by decide +kernel
theorem dX6_put_65 : decode cX6_put 65 = .ok (.iload 5, 2) := by decide +kernel
theorem dX6_put_67 : decode cX6_put 67 = .ok (.invokevirtual 62, 3) := by decide +kernel
theorem dX6_put_70 : decode cX6_put 70 = .ok (.aload_n 0, 1) := by decide +kernel
theorem dX6_put_71 : decode cX6_put 71 = .ok (.iload_n 1, 1) := by decide +kernel
theorem dX6_put_72 : decode cX6_put 72 = .ok (.iload 4, 2) := by decide +kernel
theorem dX6_put_74 : decode cX6_put 74 = .ok (.invokevirtual 66, 3) := by decide +kernel
theorem dX6_put_77 : decode cX6_put 77 = .ok (.iload 5, 2) := by decide +kernel
theorem dX6_put_79 : decode cX6_put 79 = .ok (.ireturn, 1) := by decide +kernel
theorem dX6_cut_0 : decode cX6_cut 0 = .ok (.aload_n 0, 1) := by decide +kernel
theorem dX6_cut_1 : decode cX6_cut 1 = .ok (.iload_n 1, 1) := by decide +kernel
theorem dX6_cut_2 : decode cX6_cut 2 = .ok (.iload_n 2, 1) := by decide +kernel
theorem dX6_cut_3 : decode cX6_cut 3 = .ok (.invokevirtual 70, 3) := by decide +kernel
theorem dX6_cut_6 : decode cX6_cut 6 = .ok (.ifCond .ne 5, 3) := by decide +kernel
theorem dX6_cut_9 : decode cX6_cut 9 = .ok (.iconst 0, 1) := by decide +kernel
theorem dX6_cut_10 : decode cX6_cut 10 = .ok (.ireturn, 1) := by decide +kernel
theorem dX6_cut_11 : decode cX6_cut 11 = .ok (.aload_n 0, 1) := by decide +kernel
theorem dX6_cut_12 : decode cX6_cut 12 = .ok (.getfield 11, 3) := by decide +kernel
theorem dX6_cut_15 : decode cX6_cut 15 = .ok (.iload_n 1, 1) := by decide +kernel
theorem dX6_cut_16 : decode cX6_cut 16 = .ok (.aaload, 1) := by decide +kernel
theorem dX6_cut_17 : decode cX6_cut 17 = .ok (.iconst 1, 1) := by decide +kernel
theorem dX6_cut_18 : decode cX6_cut 18 = .ok (.invokevirtual 54, 3) := by decide +kernel
theorem dX6_cut_21 : decode cX6_cut 21 = .ok (.istore_n 3, 1) := by decide +kernel
theorem dX6_cut_22 : decode cX6_cut 22 = .ok (.aload_n 0, 1) := by decide +kernel
theorem dX6_cut_23 : decode cX6_cut 23 = .ok (.getfield 11, 3) := by decide +kernel
theorem dX6_cut_26 : decode cX6_cut 26 = .ok (.iload_n 1, 1) := by decide +kernel
theorem dX6_cut_27 : decode cX6_cut 27 = .ok (.aaload, 1) := by decide +kernel
theorem dX6_cut_28 : decode cX6_cut 28 = .ok (.iload_n 2, 1) := by decide +kernel
theorem dX6_cut_29 : decode cX6_cut 29 = .ok (.invokevirtual 74, 3) := by decide +kernel
theorem dX6_cut_32 : decode cX6_cut 32 = .ok (.aload_n 0, 1) := by decide +kernel
theorem dX6_cut_33 : decode cX6_cut 33 = .ok (.iload_n 1, 1) := by decide +kernel
theorem dX6_cut_34 : decode cX6_cut 34 = .ok (.iload_n 3, 1) := by decide +kernel
theorem dX6_cut_35 : decode cX6_cut 35 = .ok (.invokevirtual 66, 3) := by decide +kernel
theorem dX6_cut_38 : decode cX6_cut 38 = .ok (.iconst 1, 1) := by decide +kernel
theorem dX6_cut_39 : decode cX6_cut 39 = .ok (.ireturn, 1) := by decide +kernel
theorem dX6_change_0 : decode cX6_change 0 = .ok (.aload_n 0, 1) := by decide +kernel
theorem dX6_change_1 : decode cX6_change 1 = .ok (.iload_n 1, 1) := by decide +kernel
theorem dX6_change_2 : decode cX6_change 2 = .ok (.iload_n 2, 1) := by decide +kernel
theorem dX6_change_3 : decode cX6_change 3 = .ok (.invokevirtual 70, 3) := by decide +kernel
theorem dX6_change_6 : decode cX6_change 6 = .ok (.ifCond .eq 24, 3) := by decide +kernel
theorem dX6_change_9 : decode cX6_change 9 = .ok (.iload_n 3, 1) := by decide +kernel
theorem dX6_change_10 : decode cX6_change 10 = .ok (.invokestatic 48, 3) := by decide +kernel
theorem dX6_change_13 : decode cX6_change 13 = .ok (.ifCond .eq 17, 3) := by decide +kernel
theorem dX6_change_16 : decode cX6_change 16 = .ok (.aload_n 0, 1) := by decide +kernel
theorem dX6_change_17 : decode cX6_change 17 = .ok (.getfield 11, 3) := by decide +kernel
theorem dX6_change_20 : decode cX6_change 20 = .ok (.iload_n 1, 1) := by decide +kernel
theorem dX6_change_21 : decode cX6_change 21 = .ok (.aaload, 1) := by decide +kernel
theorem dX6_change_22 : decode cX6_change 22 = .ok (.iload_n 2, 1) := by decide +kernel
theorem dX6_change_23 : decode cX6_change 23 = .ok (.invokevirtual 78, 3) := by decide +kernel
theorem dX6_change_26 : decode cX6_change 26 = .ok (.iload_n 3, 1) := by decide +kernel
theorem dX6_change_27 : decode cX6_change 27 = .ok (.if_icmp .ne 5, 3) := by decide +kernel
theorem dX6_change_30 : decode cX6_change 30 = .ok (.iconst 0, 1) := by decide +kernel
theorem dX6_change_31 : decode cX6_change 31 = .ok (.ireturn, 1) := by decide +kernel
theorem dX6_change_32 : decode cX6_change 32 = .ok (.aload_n 0, 1) := by decide +kernel
theorem dX6_change_33 : decode cX6_change 33 = .ok (.getfield 11, 3) := by decide +kernel
theorem dX6_change_36 : decode cX6_change 36 = .ok (.iload_n 1, 1) := by decide +kernel
theorem dX6_change_37 : decode cX6_change 37 = .ok (.aaload, 1) := by decide +kernel
theorem dX6_change_38 : decode cX6_change 38 = .ok (.iconst 1, 1) := by decide +kernel
theorem dX6_change_39 : decode cX6_change 39 = .ok (.invokevirtual 54, 3) := by decide +kernel
theorem dX6_change_42 : decode cX6_change 42 = .ok (.istore 4, 2) := by decide +kernel
theorem dX6_change_44 : decode cX6_change 44 = .ok (.aload_n 0, 1) := by decide +kernel
theorem dX6_change_45 : decode cX6_change 45 = .ok (.getfield 11, 3) := by decide +kernel
theorem dX6_change_48 : decode cX6_change 48 = .ok (.iload_n 1, 1) := by decide +kernel
theorem dX6_change_49 : decode cX6_change 49 = .ok (.aaload, 1) := by decide +kernel
theorem dX6_change_50 : decode cX6_change 50 = .ok (.iload_n 2, 1) := by decide +kernel
theorem dX6_change_51 : decode cX6_change 51 = .ok (.iload_n 3, 1) := by decide +kernel
theorem dX6_change_52 : decode cX6_change 52 = .ok (.invokevirtual 81, 3) := by decide +kernel
theorem dX6_change_55 : decode cX6_change 55 = .ok (.aload_n 0, 1) := by decide +kernel
theorem dX6_change_56 : decode cX6_change 56 = .ok (.iload_n 1, 1) := by decide +kernel
theorem dX6_change_57 : decode cX6_change 57 = .ok (.iload 4, 2) := by decide +kernel
theorem dX6_change_59 : decode cX6_change 59 = .ok (.invokevirtual 66, 3) := by decide +kernel
theorem dX6_change_62 : decode cX6_change 62 = .ok (.iconst 1, 1) := by decide +kernel
theorem dX6_change_63 : decode cX6_change 63 = .ok (.ireturn, 1) := by decide +kernel
theorem dX6_feed_0 : decode cX6_feed 0 = .ok (.aload_n 0, 1) := by decide +kernel
theorem dX6_feed_1 : decode cX6_feed 1 = .ok (.getfield 19, 3) := by decide +kernel
theorem dX6_feed_4 : decode cX6_feed 4 = .ok (.invokevirtual 84, 3) := by decide +kernel
theorem dX6_feed_7 : decode cX6_feed 7 = .ok (.bipush 20, 2) := by decide +kernel
theorem dX6_feed_9 : decode cX6_feed 9 = .ok (.iadd, 1) := by decide +kernel
theorem dX6_feed_10 : decode cX6_feed 10 = .ok (.bipush 40, 2) := by decide +kernel
theorem dX6_feed_12 : decode cX6_feed 12 = .ok (.if_icmp .le 5, 3) := by decide +kernel
theorem dX6_feed_15 : decode cX6_feed 15 = .ok (.iconst (-1), 1) := by decide +kernel
theorem dX6_feed_16 : decode cX6_feed 16 = .ok (.ireturn, 1) := by decide +kernel
theorem dX6_feed_17 : decode cX6_feed 17 = .ok (.aload_n 0, 1) := by decide +kernel
theorem dX6_feed_18 : decode cX6_feed 18 = .ok (.getfield 19, 3) := by decide +kernel
theorem dX6_feed_21 : decode cX6_feed 21 = .ok (.iload_n 1, 1) := by decide +kernel
theorem dX6_feed_22 : decode cX6_feed 22 = .ok (.invokevirtual 88, 3) := by decide +kernel
theorem dX6_feed_25 : decode cX6_feed 25 = .ok (.aload_n 0, 1) := by decide +kernel
theorem dX6_feed_26 : decode cX6_feed 26 = .ok (.getfield 19, 3) := by decide +kernel
theorem dX6_feed_29 : decode cX6_feed 29 = .ok (.iload_n 2, 1) := by decide +kernel
theorem dX6_feed_30 : decode cX6_feed 30 = .ok (.invokevirtual 88, 3) := by decide +kernel
theorem dX6_feed_33 : decode cX6_feed 33 = .ok (.aload_n 0, 1) := by decide +kernel
theorem dX6_feed_34 : decode cX6_feed 34 = .ok (.getfield 19, 3) := by decide +kernel
theorem dX6_feed_37 : decode cX6_feed 37 = .ok (.iload_n 3, 1) := by decide +kernel
theorem dX6_feed_38 : decode cX6_feed 38 = .ok (.invokevirtual 88, 3) := by decide +kernel
theorem dX6_feed_41 : decode cX6_feed 41 = .ok (.aload_n 0, 1) := by decide +kernel
theorem dX6_feed_42 : decode cX6_feed 42 = .ok (.getfield 19, 3) := by decide +kernel
theorem dX6_feed_45 : decode cX6_feed 45 = .ok (.iload 4, 2) := by decide +kernel
theorem dX6_feed_47 : decode cX6_feed 47 = .ok (.invokevirtual 88, 3) := by decide +kernel
theorem dX6_feed_50 : decode cX6_feed 50 = .ok (.aload_n 0, 1) := by decide +kernel
theorem dX6_feed_51 : decode cX6_feed 51 = .ok (.getfield 19, 3) := by decide +kernel
theorem dX6_feed_54 : decode cX6_feed 54 = .ok (.iload 5, 2) := by decide +kernel
theorem dX6_feed_56 : decode cX6_feed 56 = .ok (.invokevirtual 88, 3) := by decide +kernel
theorem dX6_feed_59 : decode cX6_feed 59 = .ok (.aload_n 0, 1) := by decide +kernel
theorem dX6_feed_60 : decode cX6_feed 60 = .ok (.getfield 19, 3) := by decide +kernel
theorem dX6_feed_63 : decode cX6_feed 63 = .ok (.invokevirtual 84, 3) := by decide +kernel
theorem dX6_feed_66 : decode cX6_feed 66 = .ok (.ireturn, 1) := by decide +kernel
theorem dX6_end_0 : decode cX6_end 0 = .ok (.iload_n 1, 1) := by decide +kernel
theorem dX6_end_1 : decode cX6_end 1 = .ok (.ifCond .lt 14, 3) := by decide +kernel
theorem dX6_end_4 : decode cX6_end 4 = .ok (.iload_n 1, 1) := by decide +kernel
theorem dX6_end_5 : decode cX6_end 5 = .ok (.aload_n 0, 1) := by decide +kernel
theorem dX6_end_6 : decode cX6_end 6 = .ok (.getfield 19, 3) := by decide +kernel
theorem dX6_end_9 : decode cX6_end 9 = .ok (.invokevirtual 84, 3) := by decide +kernel
theorem dX6_end_12 : decode cX6_end 12 = .ok (.if_icmp .le 5, 3) := by decide +kernel
theorem dX6_end_15 : decode cX6_end 15 = .ok (.iconst 0, 1) := by decide +kernel
theorem dX6_end_16 : decode cX6_end 16 = .ok (.ireturn, 1) := by decide +kernel
theorem dX6_end_17 : decode cX6_end 17 = .ok (.aload_n 0, 1) := by decide +kernel
theorem dX6_end_18 : decode cX6_end 18 = .ok (.getfield 19, 3) := by decide +kernel
theorem dX6_end_21 : decode cX6_end 21 = .ok (.iload_n 1, 1) := by decide +kernel
theorem dX6_end_22 : decode cX6_end 22 = .ok (.invokevirtual 91, 3) := by decide +kernel
theorem dX6_end_25 : decode cX6_end 25 = .ok (.iconst 1, 1) := by decide +kernel
theorem dX6_end_26 : decode cX6_end 26 = .ok (.ireturn, 1) := by decide +kernel
theorem dX6_load_0 : decode cX6_load 0 = .ok (.aload_n 0, 1) := by decide +kernel
theorem dX6_load_1 : decode cX6_load 1 = .ok (.getfield 19, 3) := by decide +kernel
theorem dX6_load_4 : decode cX6_load 4 = .ok (.invokevirtual 84, 3) := by decide +kernel
theorem dX6_load_7 : decode cX6_load 7 = .ok (.istore_n 2, 1) := by decide +kernel
theorem dX6_load_8 : decode cX6_load 8 = .ok (.iload_n 1, 1) := by decide +kernel
theorem dX6_load_9 : decode cX6_load 9 = .ok (.invokestatic 44, 3) := by decide +kernel
theorem dX6_load_12 : decode cX6_load 12 = .ok (.ifCond .eq 9, 3) := by decide +kernel
theorem dX6_load_15 : decode cX6_load 15 = .ok (.iload_n 2, 1) := by decide +kernel
theorem dX6_load_16 : decode cX6_load 16 = .ok (.bipush 32, 2) := by decide +kernel
theorem dX6_load_18 : decode cX6_load 18 = .ok (.if_icmp .le 13, 3) := by decide +kernel
theorem dX6_load_21 : decode cX6_load 21 = .ok (.aload_n 0, 1) := by decide +kernel
theorem dX6_load_22 : decode cX6_load 22 = .ok (.getfield 19, 3) := by decide +kernel
theorem dX6_load_25 : decode cX6_load 25 = .ok (.iconst 0, 1) := by decide +kernel
theorem dX6_load_26 : decode cX6_load 26 = .ok (.invokevirtual 91, 3) := by decide +kernel
theorem dX6_load_29 : decode cX6_load 29 = .ok (.iconst (-1), 1) := by decide +kernel
theorem dX6_load_30 : decode cX6_load 30 = .ok (.ireturn, 1) := by decide +kernel
theorem dX6_load_31 : decode cX6_load 31 = .ok (.aload_n 0, 1) := by decide +kernel
theorem dX6_load_32 : decode cX6_load 32 = .ok (.getfield 11, 3) := by decide +kernel
theorem dX6_load_35 : decode cX6_load 35 = .ok (.iload_n 1, 1) := by decide +kernel
theorem dX6_load_36 : decode cX6_load 36 = .ok (.aaload, 1) := by decide +kernel
theorem dX6_load_37 : decode cX6_load 37 = .ok (.iconst 1, 1) := by decide +kernel
theorem dX6_load_38 : decode cX6_load 38 = .ok (.invokevirtual 54, 3) := by decide +kernel
theorem dX6_load_41 : decode cX6_load 41 = .ok (.istore_n 3, 1) := by decide +kernel
theorem dX6_load_42 : decode cX6_load 42 = .ok (.aload_n 0, 1) := by decide +kernel
theorem dX6_load_43 : decode cX6_load 43 = .ok (.getfield 26, 3) := by decide +kernel
theorem dX6_load_46 : decode cX6_load 46 = .ok (.aload_n 0, 1) := by decide +kernel
theorem dX6_load_47 : decode cX6_load 47 = .ok (.getfield 11, 3) := by decide +kernel
theorem dX6_load_50 : decode cX6_load 50 = .ok (.iload_n 1, 1) := by decide +kernel
theorem dX6_load_51 : decode cX6_load 51 = .ok (.aaload, 1) := by decide +kernel
theorem dX6_load_52 : decode cX6_load 52 = .ok (.aload_n 0, 1) := by decide +kernel
theorem dX6_load_53 : decode cX6_load 53 = .ok (.getfield 19, 3) := by decide +kernel
theorem dX6_load_56 : decode cX6_load 56 = .ok (.aload_n 0, 1) := by decide +kernel
theorem dX6_load_57 : decode cX6_load 57 = .ok (.getfield 58, 3) := by decide +kernel
theorem dX6_load_60 : decode cX6_load 60 = .ok (.invokevirtual 94, 3) := by decide +kernel
theorem dX6_load_63 : decode cX6_load 63 = .ok (.istore 4, 2) := by decide +kernel
theorem dX6_load_65 : decode cX6_load 65 = .ok (.aload_n 0, 1) := by decide +kernel
theorem dX6_load_66 : decode cX6_load 66 = .ok (.dup, 1) := by decide +kernel
theorem dX6_load_67 : decode cX6_load 67 = .ok (.getfield 58, 3) := by decide +kernel
theorem dX6_load_70 : decode cX6_load 70 = .ok (.iload_n 2, 1) := by decide +kernel
theorem dX6_load_71 : decode cX6_load 71 = .ok (.iload 4, 2) := by decide +kernel
theorem dX6_load_73 : decode cX6_load 73 = .ok (.isub, 1) := by decide +kernel
theorem dX6_load_74 : decode cX6_load 74 = .ok (.iadd, 1) := by decide +kernel
theorem dX6_load_75 : decode cX6_load 75 = .ok (.putfield 58, 3) := by decide +kernel
theorem dX6_load_78 : decode cX6_load 78 = .ok (.aload_n 0, 1) := by decide +kernel
theorem dX6_load_79 : decode cX6_load 79 = .ok (.getfield 11, 3) := by decide +kernel
theorem dX6_load_82 : decode cX6_load 82 = .ok (.iload_n 1, 1) := by decide +kernel
theorem dX6_load_83 : decode cX6_load 83 = .ok (.aaload, 1) := by decide +kernel
theorem dX6_load_84 : decode cX6_load 84 = .ok (.aload_n 0, 1) := by decide +kernel
theorem dX6_load_85 : decode cX6_load 85 = .ok (.getfield 19, 3) := by decide +kernel
theorem dX6_load_88 : decode cX6_load 88 = .ok (.aload_n 0, 1) := by decide +kernel
theorem dX6_load_89 : decode cX6_load 89 = .ok (.getfield 26, 3) := by decide +kernel
theorem dX6_load_92 : decode cX6_load 92 = .ok (.invokevirtual 98, 3) := by decide +kernel
theorem dX6_load_95 : decode cX6_load 95 = .ok (.aload_n 0, 1) := by decide +kernel
theorem dX6_load_96 : decode cX6_load 96 = .ok (.getfield 19, 3) := by decide +kernel
theorem dX6_load_99 : decode cX6_load 99 = .ok (.iconst 0, 1) := by decide +kernel
theorem dX6_load_100 : decode cX6_load 100 = .ok (.invokevirtual 91, 3) := by decide +kernel
theorem dX6_load_103 : decode cX6_load 103 = .ok (.aload_n 0, 1) := by decide +kernel
theorem dX6_load_104 : decode cX6_load 104 = .ok (.iload_n 1, 1) := by decide +kernel
theorem dX6_load_105 : decode cX6_load 105 = .ok (.iload_n 3, 1) := by decide +kernel
theorem dX6_load_106 : decode cX6_load 106 = .ok (.invokevirtual 66, 3) := by decide +kernel
theorem dX6_load_109 : decode cX6_load 109 = .ok (.iload 4, 2) := by decide +kernel
theorem dX6_load_111 : decode cX6_load 111 = .ok (.ireturn, 1) := by decide +kernel
theorem dX6_bad_0 : decode cX6_bad 0 = .ok (.iload_n 1, 1) := by decide +kernel
theorem dX6_bad_1 : decode cX6_bad 1 = .ok (.aload_n 0, 1) := by decide +kernel
theorem dX6_bad_2 : decode cX6_bad 2 = .ok (.getfield 102, 3) := by decide +kernel
theorem dX6_bad_5 : decode cX6_bad 5 = .ok (.if_icmp .ne 5, 3) := by decide +kernel
theorem dX6_bad_8 : decode cX6_bad 8 = .ok (.iconst 0, 1) := by decide +kernel
theorem dX6_bad_9 : decode cX6_bad 9 = .ok (.ireturn, 1) := by decide +kernel
theorem dX6_bad_10 : decode cX6_bad 10 = .ok (.iload_n 1, 1) := by decide +kernel
theorem dX6_bad_11 : decode cX6_bad 11 = .ok (.aload_n 0, 1) := by decide +kernel
theorem dX6_bad_12 : decode cX6_bad 12 = .ok (.getfield 102, 3) := by decide +kernel
theorem dX6_bad_15 : decode cX6_bad 15 = .ok (.ixor, 1) := by decide +kernel
theorem dX6_bad_16 : decode cX6_bad 16 = .ok (.istore_n 2, 1) := by decide +kernel
theorem dX6_bad_17 : decode cX6_bad 17 = .ok (.aload_n 0, 1) := by decide +kernel
theorem dX6_bad_18 : decode cX6_bad 18 = .ok (.iload_n 1, 1) := by decide +kernel
theorem dX6_bad_19 : decode cX6_bad 19 = .ok (.putfield 102, 3) := by decide +kernel
theorem dX6_bad_22 : decode cX6_bad 22 = .ok (.iconst 0, 1) := by decide +kernel
theorem dX6_bad_23 : decode cX6_bad 23 = .ok (.istore_n 3, 1) := by decide +kernel
theorem dX6_bad_24 : decode cX6_bad 24 = .ok (.iconst 0, 1) := by decide +kernel
theorem dX6_bad_25 : decode cX6_bad 25 = .ok (.istore 4, 2) := by decide +kernel
theorem dX6_bad_27 : decode cX6_bad 27 = .ok (.iload 4, 2) := by decide +kernel
theorem dX6_bad_29 : decode cX6_bad 29 = .ok (.bipush 6, 2) := by decide +kernel
theorem dX6_bad_31 : decode cX6_bad 31 = .ok (.if_icmp .ge 32, 3) := by decide +kernel
theorem dX6_bad_34 : decode cX6_bad 34 = .ok (.aload_n 0, 1) := by decide +kernel
theorem dX6_bad_35 : decode cX6_bad 35 = .ok (.getfield 11, 3) := by decide +kernel
theorem dX6_bad_38 : decode cX6_bad 38 = .ok (.iload 4, 2) := by decide +kernel
theorem dX6_bad_40 : decode cX6_bad 40 = .ok (.aaload, 1) := by decide +kernel
theorem dX6_bad_41 : decode cX6_bad 41 = .ok (.iconst 0, 1) := by decide +kernel
theorem dX6_bad_42 : decode cX6_bad 42 = .ok (.invokevirtual 54, 3) := by decide +kernel
theorem dX6_bad_45 : decode cX6_bad 45 = .ok (.iload_n 2, 1) := by decide +kernel
theorem dX6_bad_46 : decode cX6_bad 46 = .ok (.iand, 1) := by decide +kernel
theorem dX6_bad_47 : decode cX6_bad 47 = .ok (.ifCond .eq 10, 3) := by decide +kernel
theorem dX6_bad_50 : decode cX6_bad 50 = .ok (.iload_n 3, 1) := by decide +kernel
theorem dX6_bad_51 : decode cX6_bad 51 = .ok (.iconst 1, 1) := by decide +kernel
theorem dX6_bad_52 : decode cX6_bad 52 = .ok (.iload 4, 2) := by decide +kernel
theorem dX6_bad_54 : decode cX6_bad 54 = .ok (.ishl, 1) := by decide +kernel
theorem dX6_bad_55 : decode cX6_bad 55 = .ok (.ior, 1) := by decide +kernel
theorem dX6_bad_56 : decode cX6_bad 56 = .ok (.istore_n 3, 1) := by decide +kernel
theorem dX6_bad_57 : decode cX6_bad 57 = .ok (.iinc 4 1, 3) := by decide +kernel
theorem dX6_bad_60 : decode cX6_bad 60 = .ok (.goto (-33), 3) := by decide +kernel
theorem dX6_bad_63 : decode cX6_bad 63 = .ok (.aload_n 0, 1) := by decide +kernel
theorem dX6_bad_64 : decode cX6_bad 64 = .ok (.iload_n 3, 1) := by decide +kernel
theorem dX6_bad_65 : decode cX6_bad 65 = .ok (.invokevirtual 105, 3) := by decide +kernel
theorem dX6_bad_68 : decode cX6_bad 68 = .ok (.iconst 1, 1) := by decide +kernel
theorem dX6_bad_69 : decode cX6_bad 69 = .ok (.ireturn, 1) := by decide +kernel
theorem dX6_day_0 : decode cX6_day 0 = .ok (.aload_n 0, 1) := by decide +kernel
theorem dX6_day_1 : decode cX6_day 1 = .ok (.getfield 108, 3) := by decide +kernel
theorem dX6_day_4 : decode cX6_day 4 = .ok (.sipush 10000, 3) := by decide +kernel
theorem dX6_day_7 : decode cX6_day 7 = .ok (.if_icmp .lt 5, 3) := by decide +kernel
theorem dX6_day_10 : decode cX6_day 10 = .ok (.iconst (-1), 1) := by decide +kernel
theorem dX6_day_11 : decode cX6_day 11 = .ok (.ireturn, 1) := by decide +kernel
theorem dX6_day_12 : decode cX6_day 12 = .ok (.aload_n 0, 1) := by decide +kernel
theorem dX6_day_13 : decode cX6_day 13 = .ok (.dup, 1) := by decide +kernel
theorem dX6_day_14 : decode cX6_day 14 = .ok (.getfield 108, 3) := by decide +kernel
theorem dX6_day_17 : decode cX6_day 17 = .ok (.iconst 1, 1) := by decide +kernel
theorem dX6_day_18 : decode cX6_day 18 = .ok (.iadd, 1) := by decide +kernel
theorem dX6_day_19 : decode cX6_day 19 = .ok (.putfield 108, 3) := by decide +kernel
theorem dX6_day_22 : decode cX6_day 22 = .ok (.aload_n 0, 1) := by decide +kernel
theorem dX6_day_23 : decode cX6_day 23 = .ok (.getfield 108, 3) := by decide +kernel
theorem dX6_day_26 : decode cX6_day 26 = .ok (.ireturn, 1) := by decide +kernel
theorem dX6_look_0 : decode cX6_look 0 = .ok (.iload_n 1, 1) := by decide +kernel
theorem dX6_look_1 : decode cX6_look 1 = .ok (.tableswitch 101 0 8 #[51, 56, 61, 68, 73, 81, 86, 91, 96], 51) := by decide +kernel
theorem dX6_look_52 : decode cX6_look 52 = .ok (.aload_n 0, 1) := by decide +kernel
theorem dX6_look_53 : decode cX6_look 53 = .ok (.getfield 111, 3) := by decide +kernel
theorem dX6_look_56 : decode cX6_look 56 = .ok (.ireturn, 1) := by decide +kernel
theorem dX6_look_57 : decode cX6_look 57 = .ok (.aload_n 0, 1) := by decide +kernel
theorem dX6_look_58 : decode cX6_look 58 = .ok (.getfield 108, 3) := by decide +kernel
theorem dX6_look_61 : decode cX6_look 61 = .ok (.ireturn, 1) := by decide +kernel
theorem dX6_look_62 : decode cX6_look 62 = .ok (.aload_n 0, 1) := by decide +kernel
theorem dX6_look_63 : decode cX6_look 63 = .ok (.bipush 6, 2) := by decide +kernel
theorem dX6_look_65 : decode cX6_look 65 = .ok (.invokevirtual 114, 3) := by decide +kernel
theorem dX6_look_68 : decode cX6_look 68 = .ok (.ireturn, 1) := by decide +kernel
theorem dX6_look_69 : decode cX6_look 69 = .ok (.aload_n 0, 1) := by decide +kernel
theorem dX6_look_70 : decode cX6_look 70 = .ok (.invokevirtual 117, 3) := by decide +kernel
theorem dX6_look_73 : decode cX6_look 73 = .ok (.ireturn, 1) := by decide +kernel
theorem dX6_look_74 : decode cX6_look 74 = .ok (.aload_n 0, 1) := by decide +kernel
theorem dX6_look_75 : decode cX6_look 75 = .ok (.getfield 40, 3) := by decide +kernel
theorem dX6_look_78 : decode cX6_look 78 = .ok (.invokevirtual 120, 3) := by decide +kernel
theorem dX6_look_81 : decode cX6_look 81 = .ok (.ireturn, 1) := by decide +kernel
theorem dX6_look_82 : decode cX6_look 82 = .ok (.aload_n 0, 1) := by decide +kernel
theorem dX6_look_83 : decode cX6_look 83 = .ok (.getfield 121, 3) := by decide +kernel
theorem dX6_look_86 : decode cX6_look 86 = .ok (.ireturn, 1) := by decide +kernel
theorem dX6_look_87 : decode cX6_look 87 = .ok (.aload_n 0, 1) := by decide +kernel
theorem dX6_look_88 : decode cX6_look 88 = .ok (.invokevirtual 124, 3) := by decide +kernel
theorem dX6_look_91 : decode cX6_look 91 = .ok (.ireturn, 1) := by decide +kernel
theorem dX6_look_92 : decode cX6_look 92 = .ok (.aload_n 0, 1) := by decide +kernel
theorem dX6_look_93 : decode cX6_look 93 = .ok (.getfield 58, 3) := by decide +kernel
theorem dX6_look_96 : decode cX6_look 96 = .ok (.ireturn, 1) := by decide +kernel
theorem dX6_look_97 : decode cX6_look 97 = .ok (.aload_n 0, 1) := by decide +kernel
theorem dX6_look_98 : decode cX6_look 98 = .ok (.getfield 102, 3) := by decide +kernel
theorem dX6_look_101 : decode cX6_look 101 = .ok (.ireturn, 1) := by decide +kernel
theorem dX6_look_102 : decode cX6_look 102 = .ok (.iconst (-1), 1) := by decide +kernel
theorem dX6_look_103 : decode cX6_look 103 = .ok (.ireturn, 1) := by decide +kernel
theorem dX6_line_0 : decode cX6_line 0 = .ok (.aload_n 0, 1) := by decide +kernel
theorem dX6_line_1 : decode cX6_line 1 = .ok (.iload_n 1, 1) := by decide +kernel
theorem dX6_line_2 : decode cX6_line 2 = .ok (.iload_n 2, 1) := by decide +kernel
theorem dX6_line_3 : decode cX6_line 3 = .ok (.invokevirtual 70, 3) := by decide +kernel
theorem dX6_line_6 : decode cX6_line 6 = .ok (.ifCond .ne 5, 3) := by decide +kernel
theorem dX6_line_9 : decode cX6_line 9 = .ok (.iconst (-1), 1) := by decide +kernel
theorem dX6_line_10 : decode cX6_line 10 = .ok (.ireturn, 1) := by decide +kernel
theorem dX6_line_11 : decode cX6_line 11 = .ok (.iload_n 3, 1) := by decide +kernel
theorem dX6_line_12 : decode cX6_line 12 = .ok (.lookupswitch 50 #[(0, 28), (1, 39)], 28) := by decide +kernel
theorem dX6_line_40 : decode cX6_line 40 = .ok (.aload_n 0, 1) := by decide +kernel
theorem dX6_line_41 : decode cX6_line 41 = .ok (.getfield 11, 3) := by decide +kernel
theorem dX6_line_44 : decode cX6_line 44 = .ok (.iload_n 1, 1) := by decide +kernel
theorem dX6_line_45 : decode cX6_line 45 = .ok (.aaload, 1) := by decide +kernel
theorem dX6_line_46 : decode cX6_line 46 = .ok (.iload_n 2, 1) := by decide +kernel
theorem dX6_line_47 : decode cX6_line 47 = .ok (.invokevirtual 78, 3) := by decide +kernel
theorem dX6_line_50 : decode cX6_line 50 = .ok (.ireturn, 1) := by decide +kernel
theorem dX6_line_51 : decode cX6_line 51 = .ok (.aload_n 0, 1) := by decide +kernel
theorem dX6_line_52 : decode cX6_line 52 = .ok (.getfield 11, 3) := by decide +kernel
theorem dX6_line_55 : decode cX6_line 55 = .ok (.iload_n 1, 1) := by decide +kernel
theorem dX6_line_56 : decode cX6_line 56 = .ok (.aaload, 1) := by decide +kernel
theorem dX6_line_57 : decode cX6_line 57 = .ok (.iload_n 2, 1) := by decide +kernel
theorem dX6_line_58 : decode cX6_line 58 = .ok (.invokevirtual 127, 3) := by decide +kernel
theorem dX6_line_61 : decode cX6_line 61 = .ok (.ireturn, 1) := by decide +kernel
theorem dX6_line_62 : decode cX6_line 62 = .ok (.iconst (-1), 1) := by decide +kernel
theorem dX6_line_63 : decode cX6_line 63 = .ok (.ireturn, 1) := by decide +kernel
theorem dX6_finding_0 : decode cX6_finding 0 = .ok (.aload_n 0, 1) := by decide +kernel
theorem dX6_finding_1 : decode cX6_finding 1 = .ok (.iload_n 1, 1) := by decide +kernel
theorem dX6_finding_2 : decode cX6_finding 2 = .ok (.invokevirtual 130, 3) := by decide +kernel
theorem dX6_finding_5 : decode cX6_finding 5 = .ok (.istore_n 3, 1) := by decide +kernel
theorem dX6_finding_6 : decode cX6_finding 6 = .ok (.iload_n 3, 1) := by decide +kernel
theorem dX6_finding_7 : decode cX6_finding 7 = .ok (.iconst (-1), 1) := by decide +kernel
theorem dX6_finding_8 : decode cX6_finding 8 = .ok (.if_icmp .ne 5, 3) := by decide +kernel
theorem dX6_finding_11 : decode cX6_finding 11 = .ok (.iconst (-1), 1) := by decide +kernel
theorem dX6_finding_12 : decode cX6_finding 12 = .ok (.ireturn, 1) := by decide +kernel
theorem dX6_finding_13 : decode cX6_finding 13 = .ok (.aload_n 0, 1) := by decide +kernel
theorem dX6_finding_14 : decode cX6_finding 14 = .ok (.getfield 11, 3) := by decide +kernel
theorem dX6_finding_17 : decode cX6_finding 17 = .ok (.iload_n 3, 1) := by decide +kernel
theorem dX6_finding_18 : decode cX6_finding 18 = .ok (.aaload, 1) := by decide +kernel
theorem dX6_finding_19 : decode cX6_finding 19 = .ok (.invokevirtual 133, 3) := by decide +kernel
theorem dX6_finding_22 : decode cX6_finding 22 = .ok (.astore 4, 2) := by decide +kernel
theorem dX6_finding_24 : decode cX6_finding 24 = .ok (.iload_n 1, 1) := by decide +kernel
theorem dX6_finding_25 : decode cX6_finding 25 = .ok (.aload_n 0, 1) := by decide +kernel
theorem dX6_finding_26 : decode cX6_finding 26 = .ok (.iload_n 3, 1) := by decide +kernel
theorem dX6_finding_27 : decode cX6_finding 27 = .ok (.invokevirtual 114, 3) := by decide +kernel
theorem dX6_finding_30 : decode cX6_finding 30 = .ok (.isub, 1) := by decide +kernel
theorem dX6_finding_31 : decode cX6_finding 31 = .ok (.istore 5, 2) := by decide +kernel
theorem dX6_finding_33 : decode cX6_finding 33 = .ok (.iload_n 2, 1) := by decide +kernel
theorem dX6_finding_34 : decode cX6_finding 34 = .ok (.tableswitch 124 0 7 #[46, 54, 56, 64, 72, 80, 100, 112], 46) := by decide +kernel
theorem dX6_finding_80 : decode cX6_finding 80 = .ok (.aload 4, 2) := by decide +kernel
theorem dX6_finding_82 : decode cX6_finding 82 = .ok (.iload 5, 2) := by decide +kernel
theorem dX6_finding_84 : decode cX6_finding 84 = .ok (.invokevirtual 137, 3) := by decide +kernel
theorem dX6_finding_87 : decode cX6_finding 87 = .ok (.ireturn, 1) := by decide +kernel
theorem dX6_finding_88 : decode cX6_finding 88 = .ok (.iload_n 3, 1) := by decide +kernel
theorem dX6_finding_89 : decode cX6_finding 89 = .ok (.ireturn, 1) := by decide +kernel
theorem dX6_finding_90 : decode cX6_finding 90 = .ok (.aload 4, 2) := by decide +kernel
theorem dX6_finding_92 : decode cX6_finding 92 = .ok (.iload 5, 2) := by decide +kernel
theorem dX6_finding_94 : decode cX6_finding 94 = .ok (.invokevirtual 142, 3) := by decide +kernel
theorem dX6_finding_97 : decode cX6_finding 97 = .ok (.ireturn, 1) := by decide +kernel
theorem dX6_finding_98 : decode cX6_finding 98 = .ok (.aload 4, 2) := by decide +kernel
theorem dX6_finding_100 : decode cX6_finding 100 = .ok (.iload 5, 2) := by decide +kernel
theorem dX6_finding_102 : decode cX6_finding 102 = .ok (.invokevirtual 145, 3) := by decide +kernel
theorem dX6_finding_105 : decode cX6_finding 105 = .ok (.ireturn, 1) := by decide +kernel
theorem dX6_finding_106 : decode cX6_finding 106 = .ok (.aload 4, 2) := by decide +kernel
theorem dX6_finding_108 : decode cX6_finding 108 = .ok (.iload 5, 2) := by decide +kernel
theorem dX6_finding_110 : decode cX6_finding 110 = .ok (.invokevirtual 146, 3) := by decide +kernel
theorem dX6_finding_113 : decode cX6_finding 113 = .ok (.ireturn, 1) := by decide +kernel
theorem dX6_finding_114 : decode cX6_finding 114 = .ok (.aload 4, 2) := by decide +kernel
theorem dX6_finding_116 : decode cX6_finding 116 = .ok (.iload 5, 2) := by decide +kernel
theorem dX6_finding_118 : decode cX6_finding 118 = .ok (.aload_n 0, 1) := by decide +kernel
theorem dX6_finding_119 : decode cX6_finding 119 = .ok (.getfield 108, 3) := by decide +kernel
theorem dX6_finding_122 : decode cX6_finding 122 = .ok (.invokevirtual 149, 3) := by decide +kernel
theorem dX6_finding_125 : decode cX6_finding 125 = .ok (.ifCond .eq 7, 3) := by decide +kernel
theorem dX6_finding_128 : decode cX6_finding 128 = .ok (.iconst 1, 1) := by decide +kernel
theorem dX6_finding_129 : decode cX6_finding 129 = .ok (.goto 4, 3) := by decide +kernel
theorem dX6_finding_132 : decode cX6_finding 132 = .ok (.iconst 0, 1) := by decide +kernel
theorem dX6_finding_133 : decode cX6_finding 133 = .ok (.ireturn, 1) := by decide +kernel
theorem dX6_finding_134 : decode cX6_finding 134 = .ok (.aload 4, 2) := by decide +kernel
theorem dX6_finding_136 : decode cX6_finding 136 = .ok (.iload 5, 2) := by decide +kernel
theorem dX6_finding_138 : decode cX6_finding 138 = .ok (.aload_n 0, 1) := by decide +kernel
theorem dX6_finding_139 : decode cX6_finding 139 = .ok (.getfield 108, 3) := by decide +kernel
theorem dX6_finding_142 : decode cX6_finding 142 = .ok (.invokevirtual 152, 3) := by decide +kernel
theorem dX6_finding_145 : decode cX6_finding 145 = .ok (.ireturn, 1) := by decide +kernel
theorem dX6_finding_146 : decode cX6_finding 146 = .ok (.aload 4, 2) := by decide +kernel
theorem dX6_finding_148 : decode cX6_finding 148 = .ok (.iload 5, 2) := by decide +kernel
theorem dX6_finding_150 : decode cX6_finding 150 = .ok (.aload_n 0, 1) := by decide +kernel
theorem dX6_finding_151 : decode cX6_finding 151 = .ok (.getfield 108, 3) := by decide +kernel
theorem dX6_finding_154 : decode cX6_finding 154 = .ok (.invokevirtual 156, 3) := by decide +kernel
theorem dX6_finding_157 : decode cX6_finding 157 = .ok (.ireturn, 1) := by decide +kernel
theorem dX6_finding_158 : decode cX6_finding 158 = .ok (.iconst (-1), 1) := by decide +kernel
theorem dX6_finding_159 : decode cX6_finding 159 = .ok (.ireturn, 1) := by decide +kernel
theorem dX6_find_0 : decode cX6_find 0 = .ok (.iconst 0, 1) := by decide +kernel
theorem dX6_find_1 : decode cX6_find 1 = .ok (.istore_n 3, 1) := by decide +kernel
theorem dX6_find_2 : decode cX6_find 2 = .ok (.iload_n 3, 1) := by decide +kernel
theorem dX6_find_3 : decode cX6_find 3 = .ok (.bipush 6, 2) := by decide +kernel
theorem dX6_find_5 : decode cX6_find 5 = .ok (.if_icmp .ge 40, 3) := by decide +kernel
theorem dX6_find_8 : decode cX6_find 8 = .ok (.aload_n 0, 1) := by decide +kernel
theorem dX6_find_9 : decode cX6_find 9 = .ok (.getfield 11, 3) := by decide +kernel
theorem dX6_find_12 : decode cX6_find 12 = .ok (.iload_n 3, 1) := by decide +kernel
theorem dX6_find_13 : decode cX6_find 13 = .ok (.aaload, 1) := by decide +kernel
theorem dX6_find_14 : decode cX6_find 14 = .ok (.invokevirtual 133, 3) := by decide +kernel
theorem dX6_find_17 : decode cX6_find 17 = .ok (.iload_n 1, 1) := by decide +kernel
theorem dX6_find_18 : decode cX6_find 18 = .ok (.iload_n 2, 1) := by decide +kernel
theorem dX6_find_19 : decode cX6_find 19 = .ok (.invokevirtual 159, 3) := by decide +kernel
theorem dX6_find_22 : decode cX6_find 22 = .ok (.istore 4, 2) := by decide +kernel
theorem dX6_find_24 : decode cX6_find 24 = .ok (.iload 4, 2) := by decide +kernel
theorem dX6_find_26 : decode cX6_find 26 = .ok (.iconst (-1), 1) := by decide +kernel
theorem dX6_find_27 : decode cX6_find 27 = .ok (.if_icmp .eq 12, 3) := by decide +kernel
theorem dX6_find_30 : decode cX6_find 30 = .ok (.aload_n 0, 1) := by decide +kernel
theorem dX6_find_31 : decode cX6_find 31 = .ok (.iload_n 3, 1) := by decide +kernel
theorem dX6_find_32 : decode cX6_find 32 = .ok (.invokevirtual 114, 3) := by decide +kernel
theorem dX6_find_35 : decode cX6_find 35 = .ok (.iload 4, 2) := by decide +kernel
theorem dX6_find_37 : decode cX6_find 37 = .ok (.iadd, 1) := by decide +kernel
theorem dX6_find_38 : decode cX6_find 38 = .ok (.ireturn, 1) := by decide +kernel
theorem dX6_find_39 : decode cX6_find 39 = .ok (.iinc 3 1, 3) := by decide +kernel
theorem dX6_find_42 : decode cX6_find 42 = .ok (.goto (-40), 3) := by decide +kernel
theorem dX6_find_45 : decode cX6_find 45 = .ok (.iconst (-1), 1) := by decide +kernel
theorem dX6_find_46 : decode cX6_find 46 = .ok (.ireturn, 1) := by decide +kernel
theorem dX6_silence_0 : decode cX6_silence 0 = .ok (.aload_n 0, 1) := by decide +kernel
theorem dX6_silence_1 : decode cX6_silence 1 = .ok (.iload_n 1, 1) := by decide +kernel
theorem dX6_silence_2 : decode cX6_silence 2 = .ok (.invokevirtual 130, 3) := by decide +kernel
theorem dX6_silence_5 : decode cX6_silence 5 = .ok (.istore 4, 2) := by decide +kernel
theorem dX6_silence_7 : decode cX6_silence 7 = .ok (.iload_n 2, 1) := by decide +kernel
theorem dX6_silence_8 : decode cX6_silence 8 = .ok (.iconst 1, 1) := by decide +kernel
theorem dX6_silence_9 : decode cX6_silence 9 = .ok (.if_icmp .lt 13, 3) := by decide +kernel
theorem dX6_silence_12 : decode cX6_silence 12 = .ok (.iload_n 2, 1) := by decide +kernel
theorem dX6_silence_13 : decode cX6_silence 13 = .ok (.bipush 99, 2) := by decide +kernel
theorem dX6_silence_15 : decode cX6_silence 15 = .ok (.if_icmp .gt 7, 3) := by decide +kernel
theorem dX6_silence_18 : decode cX6_silence 18 = .ok (.iconst 1, 1) := by decide +kernel
theorem dX6_silence_19 : decode cX6_silence 19 = .ok (.goto 4, 3) := by decide +kernel
theorem dX6_silence_22 : decode cX6_silence 22 = .ok (.iconst 0, 1) := by decide +kernel
theorem dX6_silence_23 : decode cX6_silence 23 = .ok (.istore 5, 2) := by decide +kernel
theorem dX6_silence_25 : decode cX6_silence 25 = .ok (.iload_n 3, 1) := by decide +kernel
theorem dX6_silence_26 : decode cX6_silence 26 = .ok (.ifCond .lt 13, 3) := by decide +kernel
theorem dX6_silence_29 : decode cX6_silence 29 = .ok (.iload_n 3, 1) := by decide +kernel
theorem dX6_silence_30 : decode cX6_silence 30 = .ok (.bipush 99, 2) := by decide +kernel
theorem dX6_silence_32 : decode cX6_silence 32 = .ok (.if_icmp .gt 7, 3) := by decide +kernel
theorem dX6_silence_35 : decode cX6_silence 35 = .ok (.iconst 1, 1) := by decide +kernel
theorem dX6_silence_36 : decode cX6_silence 36 = .ok (.goto 4, 3) := by decide +kernel
theorem dX6_silence_39 : decode cX6_silence 39 = .ok (.iconst 0, 1) := by decide +kernel
theorem dX6_silence_40 : decode cX6_silence 40 = .ok (.istore 6, 2) := by decide +kernel
theorem dX6_silence_42 : decode cX6_silence 42 = .ok (.iload 4, 2) := by decide +kernel
theorem dX6_silence_44 : decode cX6_silence 44 = .ok (.iconst (-1), 1) := by decide +kernel
theorem dX6_silence_45 : decode cX6_silence 45 = .ok (.if_icmp .eq 13, 3) := by decide +kernel
theorem dX6_silence_48 : decode cX6_silence 48 = .ok (.iload 5, 2) := by decide +kernel
theorem dX6_silence_50 : decode cX6_silence 50 = .ok (.ifCond .eq 8, 3) := by decide +kernel
theorem dX6_silence_53 : decode cX6_silence 53 = .ok (.iload 6, 2) := by decide +kernel
theorem dX6_silence_55 : decode cX6_silence 55 = .ok (.ifCond .ne 5, 3) := by decide +kernel
theorem dX6_silence_58 : decode cX6_silence 58 = .ok (.iconst 0, 1) := by decide +kernel
theorem dX6_silence_59 : decode cX6_silence 59 = .ok (.ireturn, 1) := by decide +kernel
theorem dX6_silence_60 : decode cX6_silence 60 = .ok (.aload_n 0, 1) := by decide +kernel
theorem dX6_silence_61 : decode cX6_silence 61 = .ok (.getfield 11, 3) := by decide +kernel
theorem dX6_silence_64 : decode cX6_silence 64 = .ok (.iload 4, 2) := by decide +kernel
theorem dX6_silence_66 : decode cX6_silence 66 = .ok (.aaload, 1) := by decide +kernel
theorem dX6_silence_67 : decode cX6_silence 67 = .ok (.invokevirtual 133, 3) := by decide +kernel
theorem dX6_silence_70 : decode cX6_silence 70 = .ok (.iload_n 1, 1) := by decide +kernel
theorem dX6_silence_71 : decode cX6_silence 71 = .ok (.aload_n 0, 1) := by decide +kernel
theorem dX6_silence_72 : decode cX6_silence 72 = .ok (.iload 4, 2) := by decide +kernel
theorem dX6_silence_74 : decode cX6_silence 74 = .ok (.invokevirtual 114, 3) := by decide +kernel
theorem dX6_silence_77 : decode cX6_silence 77 = .ok (.isub, 1) := by decide +kernel
theorem dX6_silence_78 : decode cX6_silence 78 = .ok (.aload_n 0, 1) := by decide +kernel
theorem dX6_silence_79 : decode cX6_silence 79 = .ok (.getfield 108, 3) := by decide +kernel
theorem dX6_silence_82 : decode cX6_silence 82 = .ok (.iload_n 2, 1) := by decide +kernel
theorem dX6_silence_83 : decode cX6_silence 83 = .ok (.iadd, 1) := by decide +kernel
theorem dX6_silence_84 : decode cX6_silence 84 = .ok (.iload_n 3, 1) := by decide +kernel
theorem dX6_silence_85 : decode cX6_silence 85 = .ok (.invokevirtual 162, 3) := by decide +kernel
theorem dX6_silence_88 : decode cX6_silence 88 = .ok (.iconst 1, 1) := by decide +kernel
theorem dX6_silence_89 : decode cX6_silence 89 = .ok (.ireturn, 1) := by decide +kernel
theorem dX6_speak_0 : decode cX6_speak 0 = .ok (.aload_n 0, 1) := by decide +kernel
theorem dX6_speak_1 : decode cX6_speak 1 = .ok (.iload_n 1, 1) := by decide +kernel
theorem dX6_speak_2 : decode cX6_speak 2 = .ok (.invokevirtual 130, 3) := by decide +kernel
theorem dX6_speak_5 : decode cX6_speak 5 = .ok (.istore_n 2, 1) := by decide +kernel
theorem dX6_speak_6 : decode cX6_speak 6 = .ok (.iload_n 2, 1) := by decide +kernel
theorem dX6_speak_7 : decode cX6_speak 7 = .ok (.iconst (-1), 1) := by decide +kernel
theorem dX6_speak_8 : decode cX6_speak 8 = .ok (.if_icmp .ne 5, 3) := by decide +kernel
theorem dX6_speak_11 : decode cX6_speak 11 = .ok (.iconst 0, 1) := by decide +kernel
theorem dX6_speak_12 : decode cX6_speak 12 = .ok (.ireturn, 1) := by decide +kernel
theorem dX6_speak_13 : decode cX6_speak 13 = .ok (.aload_n 0, 1) := by decide +kernel
theorem dX6_speak_14 : decode cX6_speak 14 = .ok (.getfield 11, 3) := by decide +kernel
theorem dX6_speak_17 : decode cX6_speak 17 = .ok (.iload_n 2, 1) := by decide +kernel
theorem dX6_speak_18 : decode cX6_speak 18 = .ok (.aaload, 1) := by decide +kernel
theorem dX6_speak_19 : decode cX6_speak 19 = .ok (.invokevirtual 133, 3) := by decide +kernel
theorem dX6_speak_22 : decode cX6_speak 22 = .ok (.astore_n 3, 1) := by decide +kernel
theorem dX6_speak_23 : decode cX6_speak 23 = .ok (.iload_n 1, 1) := by decide +kernel
theorem dX6_speak_24 : decode cX6_speak 24 = .ok (.aload_n 0, 1) := by decide +kernel
theorem dX6_speak_25 : decode cX6_speak 25 = .ok (.iload_n 2, 1) := by decide +kernel
theorem dX6_speak_26 : decode cX6_speak 26 = .ok (.invokevirtual 114, 3) := by decide +kernel
theorem dX6_speak_29 : decode cX6_speak 29 = .ok (.isub, 1) := by decide +kernel
end
section
theorem dX6_speak_30 : decode cX6_speak 30 = .ok (.istore 4, 2) := by decide +kernel
theorem dX6_speak_32 : decode cX6_speak 32 = .ok (.aload_n 3, 1) := by decide +kernel
theorem dX6_speak_33 : decode cX6_speak 33 = .ok (.iload 4, 2) := by decide +kernel
theorem dX6_speak_35 : decode cX6_speak 35 = .ok (.aload_n 0, 1) := by decide +kernel
theorem dX6_speak_36 : decode cX6_speak 36 = .ok (.getfield 108, 3) := by decide +kernel
theorem dX6_speak_39 : decode cX6_speak 39 = .ok (.invokevirtual 149, 3) := by decide +kernel
theorem dX6_speak_42 : decode cX6_speak 42 = .ok (.ifCond .ne 5, 3) := by decide +kernel
theorem dX6_speak_45 : decode cX6_speak 45 = .ok (.iconst 0, 1) := by decide +kernel
theorem dX6_speak_46 : decode cX6_speak 46 = .ok (.ireturn, 1) := by decide +kernel
theorem dX6_speak_47 : decode cX6_speak 47 = .ok (.aload_n 3, 1) := by decide +kernel
theorem dX6_speak_48 : decode cX6_speak 48 = .ok (.iload 4, 2) := by decide +kernel
theorem dX6_speak_50 : decode cX6_speak 50 = .ok (.invokevirtual 165, 3) := by decide +kernel
theorem dX6_speak_53 : decode cX6_speak 53 = .ok (.iconst 1, 1) := by decide +kernel
theorem dX6_speak_54 : decode cX6_speak 54 = .ok (.ireturn, 1) := by decide +kernel
theorem dX6_since_0 : decode cX6_since 0 = .ok (.iload_n 2, 1) := by decide +kernel
theorem dX6_since_1 : decode cX6_since 1 = .ok (.ifCond .eq 10, 3) := by decide +kernel
theorem dX6_since_4 : decode cX6_since 4 = .ok (.iload_n 2, 1) := by decide +kernel
theorem dX6_since_5 : decode cX6_since 5 = .ok (.iconst 1, 1) := by decide +kernel
theorem dX6_since_6 : decode cX6_since 6 = .ok (.if_icmp .eq 5, 3) := by decide +kernel
theorem dX6_since_9 : decode cX6_since 9 = .ok (.iconst (-1), 1) := by decide +kernel
theorem dX6_since_10 : decode cX6_since 10 = .ok (.ireturn, 1) := by decide +kernel
theorem dX6_since_11 : decode cX6_since 11 = .ok (.iconst 0, 1) := by decide +kernel
theorem dX6_since_12 : decode cX6_since 12 = .ok (.istore_n 3, 1) := by decide +kernel
theorem dX6_since_13 : decode cX6_since 13 = .ok (.iconst 0, 1) := by decide +kernel
theorem dX6_since_14 : decode cX6_since 14 = .ok (.istore 4, 2) := by decide +kernel
theorem dX6_since_16 : decode cX6_since 16 = .ok (.iload 4, 2) := by decide +kernel
theorem dX6_since_18 : decode cX6_since 18 = .ok (.bipush 6, 2) := by decide +kernel
theorem dX6_since_20 : decode cX6_since 20 = .ok (.if_icmp .ge 40, 3) := by decide +kernel
theorem dX6_since_23 : decode cX6_since 23 = .ok (.iload_n 3, 1) := by decide +kernel
theorem dX6_since_24 : decode cX6_since 24 = .ok (.aload_n 0, 1) := by decide +kernel
theorem dX6_since_25 : decode cX6_since 25 = .ok (.getfield 11, 3) := by decide +kernel
theorem dX6_since_28 : decode cX6_since 28 = .ok (.iload 4, 2) := by decide +kernel
theorem dX6_since_30 : decode cX6_since 30 = .ok (.aaload, 1) := by decide +kernel
theorem dX6_since_31 : decode cX6_since 31 = .ok (.invokevirtual 133, 3) := by decide +kernel
theorem dX6_since_34 : decode cX6_since 34 = .ok (.iload_n 1, 1) := by decide +kernel
theorem dX6_since_35 : decode cX6_since 35 = .ok (.iload_n 2, 1) := by decide +kernel
theorem dX6_since_36 : decode cX6_since 36 = .ok (.iconst 1, 1) := by decide +kernel
theorem dX6_since_37 : decode cX6_since 37 = .ok (.if_icmp .ne 7, 3) := by decide +kernel
theorem dX6_since_40 : decode cX6_since 40 = .ok (.iconst 1, 1) := by decide +kernel
theorem dX6_since_41 : decode cX6_since 41 = .ok (.goto 4, 3) := by decide +kernel
theorem dX6_since_44 : decode cX6_since 44 = .ok (.iconst 0, 1) := by decide +kernel
theorem dX6_since_45 : decode cX6_since 45 = .ok (.aload_n 0, 1) := by decide +kernel
theorem dX6_since_46 : decode cX6_since 46 = .ok (.getfield 108, 3) := by decide +kernel
theorem dX6_since_49 : decode cX6_since 49 = .ok (.invokevirtual 168, 3) := by decide +kernel
theorem dX6_since_52 : decode cX6_since 52 = .ok (.iadd, 1) := by decide +kernel
theorem dX6_since_53 : decode cX6_since 53 = .ok (.istore_n 3, 1) := by decide +kernel
theorem dX6_since_54 : decode cX6_since 54 = .ok (.iinc 4 1, 3) := by decide +kernel
theorem dX6_since_57 : decode cX6_since 57 = .ok (.goto (-41), 3) := by decide +kernel
theorem dX6_since_60 : decode cX6_since 60 = .ok (.iload_n 3, 1) := by decide +kernel
theorem dX6_since_61 : decode cX6_since 61 = .ok (.ireturn, 1) := by decide +kernel
theorem dX6_log_0 : decode cX6_log 0 = .ok (.iload_n 1, 1) := by decide +kernel
theorem dX6_log_1 : decode cX6_log 1 = .ok (.ifCond .lt 14, 3) := by decide +kernel
theorem dX6_log_4 : decode cX6_log 4 = .ok (.iload_n 1, 1) := by decide +kernel
theorem dX6_log_5 : decode cX6_log 5 = .ok (.aload_n 0, 1) := by decide +kernel
theorem dX6_log_6 : decode cX6_log 6 = .ok (.getfield 40, 3) := by decide +kernel
theorem dX6_log_9 : decode cX6_log 9 = .ok (.invokevirtual 120, 3) := by decide +kernel
theorem dX6_log_12 : decode cX6_log 12 = .ok (.if_icmp .lt 5, 3) := by decide +kernel
theorem dX6_log_15 : decode cX6_log 15 = .ok (.iconst (-1), 1) := by decide +kernel
theorem dX6_log_16 : decode cX6_log 16 = .ok (.ireturn, 1) := by decide +kernel
theorem dX6_log_17 : decode cX6_log 17 = .ok (.aload_n 0, 1) := by decide +kernel
theorem dX6_log_18 : decode cX6_log 18 = .ok (.getfield 40, 3) := by decide +kernel
theorem dX6_log_21 : decode cX6_log 21 = .ok (.iload_n 1, 1) := by decide +kernel
theorem dX6_log_22 : decode cX6_log 22 = .ok (.invokevirtual 172, 3) := by decide +kernel
theorem dX6_log_25 : decode cX6_log 25 = .ok (.istore_n 3, 1) := by decide +kernel
theorem dX6_log_26 : decode cX6_log 26 = .ok (.iload_n 2, 1) := by decide +kernel
theorem dX6_log_27 : decode cX6_log 27 = .ok (.tableswitch 65 0 3 #[29, 38, 47, 56], 29) := by decide +kernel
theorem dX6_log_56 : decode cX6_log 56 = .ok (.aload_n 0, 1) := by decide +kernel
theorem dX6_log_57 : decode cX6_log 57 = .ok (.getfield 40, 3) := by decide +kernel
theorem dX6_log_60 : decode cX6_log 60 = .ok (.iload_n 3, 1) := by decide +kernel
theorem dX6_log_61 : decode cX6_log 61 = .ok (.invokevirtual 174, 3) := by decide +kernel
theorem dX6_log_64 : decode cX6_log 64 = .ok (.ireturn, 1) := by decide +kernel
theorem dX6_log_65 : decode cX6_log 65 = .ok (.aload_n 0, 1) := by decide +kernel
theorem dX6_log_66 : decode cX6_log 66 = .ok (.getfield 40, 3) := by decide +kernel
theorem dX6_log_69 : decode cX6_log 69 = .ok (.iload_n 3, 1) := by decide +kernel
theorem dX6_log_70 : decode cX6_log 70 = .ok (.invokevirtual 175, 3) := by decide +kernel
theorem dX6_log_73 : decode cX6_log 73 = .ok (.ireturn, 1) := by decide +kernel
theorem dX6_log_74 : decode cX6_log 74 = .ok (.aload_n 0, 1) := by decide +kernel
theorem dX6_log_75 : decode cX6_log 75 = .ok (.getfield 40, 3) := by decide +kernel
theorem dX6_log_78 : decode cX6_log 78 = .ok (.iload_n 3, 1) := by decide +kernel
theorem dX6_log_79 : decode cX6_log 79 = .ok (.invokevirtual 176, 3) := by decide +kernel
theorem dX6_log_82 : decode cX6_log 82 = .ok (.ireturn, 1) := by decide +kernel
theorem dX6_log_83 : decode cX6_log 83 = .ok (.aload_n 0, 1) := by decide +kernel
theorem dX6_log_84 : decode cX6_log 84 = .ok (.getfield 40, 3) := by decide +kernel
theorem dX6_log_87 : decode cX6_log 87 = .ok (.iload_n 3, 1) := by decide +kernel
theorem dX6_log_88 : decode cX6_log 88 = .ok (.invokevirtual 177, 3) := by decide +kernel
theorem dX6_log_91 : decode cX6_log 91 = .ok (.ireturn, 1) := by decide +kernel
theorem dX6_log_92 : decode cX6_log 92 = .ok (.iconst (-1), 1) := by decide +kernel
theorem dX6_log_93 : decode cX6_log 93 = .ok (.ireturn, 1) := by decide +kernel
theorem dX6_isFile_0 : decode cX6_isFile 0 = .ok (.iload_n 0, 1) := by decide +kernel
theorem dX6_isFile_1 : decode cX6_isFile 1 = .ok (.ifCond .lt 13, 3) := by decide +kernel
theorem dX6_isFile_4 : decode cX6_isFile 4 = .ok (.iload_n 0, 1) := by decide +kernel
theorem dX6_isFile_5 : decode cX6_isFile 5 = .ok (.bipush 6, 2) := by decide +kernel
theorem dX6_isFile_7 : decode cX6_isFile 7 = .ok (.if_icmp .ge 7, 3) := by decide +kernel
theorem dX6_isFile_10 : decode cX6_isFile 10 = .ok (.iconst 1, 1) := by decide +kernel
theorem dX6_isFile_11 : decode cX6_isFile 11 = .ok (.goto 4, 3) := by decide +kernel
theorem dX6_isFile_14 : decode cX6_isFile 14 = .ok (.iconst 0, 1) := by decide +kernel
theorem dX6_isFile_15 : decode cX6_isFile 15 = .ok (.ireturn, 1) := by decide +kernel
theorem dX6_isByte_0 : decode cX6_isByte 0 = .ok (.iload_n 0, 1) := by decide +kernel
theorem dX6_isByte_1 : decode cX6_isByte 1 = .ok (.ifCond .lt 14, 3) := by decide +kernel
theorem dX6_isByte_4 : decode cX6_isByte 4 = .ok (.iload_n 0, 1) := by decide +kernel
theorem dX6_isByte_5 : decode cX6_isByte 5 = .ok (.sipush 255, 3) := by decide +kernel
theorem dX6_isByte_8 : decode cX6_isByte 8 = .ok (.if_icmp .gt 7, 3) := by decide +kernel
theorem dX6_isByte_11 : decode cX6_isByte 11 = .ok (.iconst 1, 1) := by decide +kernel
theorem dX6_isByte_12 : decode cX6_isByte 12 = .ok (.goto 4, 3) := by decide +kernel
theorem dX6_isByte_15 : decode cX6_isByte 15 = .ok (.iconst 0, 1) := by decide +kernel
theorem dX6_isByte_16 : decode cX6_isByte 16 = .ok (.ireturn, 1) := by decide +kernel
theorem dX6_isLine_0 : decode cX6_isLine 0 = .ok (.iload_n 1, 1) := by decide +kernel
theorem dX6_isLine_1 : decode cX6_isLine 1 = .ok (.invokestatic 44, 3) := by decide +kernel
theorem dX6_isLine_4 : decode cX6_isLine 4 = .ok (.ifCond .eq 20, 3) := by decide +kernel
theorem dX6_isLine_7 : decode cX6_isLine 7 = .ok (.aload_n 0, 1) := by decide +kernel
theorem dX6_isLine_8 : decode cX6_isLine 8 = .ok (.getfield 11, 3) := by decide +kernel
theorem dX6_isLine_11 : decode cX6_isLine 11 = .ok (.iload_n 1, 1) := by decide +kernel
theorem dX6_isLine_12 : decode cX6_isLine 12 = .ok (.aaload, 1) := by decide +kernel
theorem dX6_isLine_13 : decode cX6_isLine 13 = .ok (.iload_n 2, 1) := by decide +kernel
theorem dX6_isLine_14 : decode cX6_isLine 14 = .ok (.invokevirtual 180, 3) := by decide +kernel
theorem dX6_isLine_17 : decode cX6_isLine 17 = .ok (.ifCond .eq 7, 3) := by decide +kernel
theorem dX6_isLine_20 : decode cX6_isLine 20 = .ok (.iconst 1, 1) := by decide +kernel
theorem dX6_isLine_21 : decode cX6_isLine 21 = .ok (.goto 4, 3) := by decide +kernel
theorem dX6_isLine_24 : decode cX6_isLine 24 = .ok (.iconst 0, 1) := by decide +kernel
theorem dX6_isLine_25 : decode cX6_isLine 25 = .ok (.ireturn, 1) := by decide +kernel
theorem dX6_has_0 : decode cX6_has 0 = .ok (.iload_n 0, 1) := by decide +kernel
theorem dX6_has_1 : decode cX6_has 1 = .ok (.iload_n 1, 1) := by decide +kernel
theorem dX6_has_2 : decode cX6_has 2 = .ok (.iushr, 1) := by decide +kernel
theorem dX6_has_3 : decode cX6_has 3 = .ok (.iconst 1, 1) := by decide +kernel
theorem dX6_has_4 : decode cX6_has 4 = .ok (.iand, 1) := by decide +kernel
theorem dX6_has_5 : decode cX6_has 5 = .ok (.iconst 1, 1) := by decide +kernel
theorem dX6_has_6 : decode cX6_has 6 = .ok (.if_icmp .ne 7, 3) := by decide +kernel
theorem dX6_has_9 : decode cX6_has 9 = .ok (.iconst 1, 1) := by decide +kernel
theorem dX6_has_10 : decode cX6_has 10 = .ok (.goto 4, 3) := by decide +kernel
theorem dX6_has_13 : decode cX6_has 13 = .ok (.iconst 0, 1) := by decide +kernel
theorem dX6_has_14 : decode cX6_has 14 = .ok (.ireturn, 1) := by decide +kernel
theorem dX6_settle_0 : decode cX6_settle 0 = .ok (.iconst 1, 1) := by decide +kernel
theorem dX6_settle_1 : decode cX6_settle 1 = .ok (.iload_n 1, 1) := by decide +kernel
theorem dX6_settle_2 : decode cX6_settle 2 = .ok (.ishl, 1) := by decide +kernel
theorem dX6_settle_3 : decode cX6_settle 3 = .ok (.istore_n 3, 1) := by decide +kernel
theorem dX6_settle_4 : decode cX6_settle 4 = .ok (.aload_n 0, 1) := by decide +kernel
theorem dX6_settle_5 : decode cX6_settle 5 = .ok (.getfield 11, 3) := by decide +kernel
theorem dX6_settle_8 : decode cX6_settle 8 = .ok (.iload_n 1, 1) := by decide +kernel
theorem dX6_settle_9 : decode cX6_settle 9 = .ok (.aaload, 1) := by decide +kernel
theorem dX6_settle_10 : decode cX6_settle 10 = .ok (.iconst 1, 1) := by decide +kernel
theorem dX6_settle_11 : decode cX6_settle 11 = .ok (.invokevirtual 54, 3) := by decide +kernel
theorem dX6_settle_14 : decode cX6_settle 14 = .ok (.iload_n 2, 1) := by decide +kernel
theorem dX6_settle_15 : decode cX6_settle 15 = .ok (.if_icmp .eq 11, 3) := by decide +kernel
theorem dX6_settle_18 : decode cX6_settle 18 = .ok (.iload_n 3, 1) := by decide +kernel
theorem dX6_settle_19 : decode cX6_settle 19 = .ok (.aload_n 0, 1) := by decide +kernel
theorem dX6_settle_20 : decode cX6_settle 20 = .ok (.iload_n 1, 1) := by decide +kernel
theorem dX6_settle_21 : decode cX6_settle 21 = .ok (.invokevirtual 183, 3) := by decide +kernel
theorem dX6_settle_24 : decode cX6_settle 24 = .ok (.ior, 1) := by decide +kernel
theorem dX6_settle_25 : decode cX6_settle 25 = .ok (.istore_n 3, 1) := by decide +kernel
theorem dX6_settle_26 : decode cX6_settle 26 = .ok (.aload_n 0, 1) := by decide +kernel
theorem dX6_settle_27 : decode cX6_settle 27 = .ok (.iload_n 3, 1) := by decide +kernel
theorem dX6_settle_28 : decode cX6_settle 28 = .ok (.invokevirtual 105, 3) := by decide +kernel
theorem dX6_settle_31 : decode cX6_settle 31 = .ok (.return_, 1) := by decide +kernel
theorem dX6_importersOf_0 : decode cX6_importersOf 0 = .ok (.iconst 0, 1) := by decide +kernel
theorem dX6_importersOf_1 : decode cX6_importersOf 1 = .ok (.istore_n 2, 1) := by decide +kernel
theorem dX6_importersOf_2 : decode cX6_importersOf 2 = .ok (.iconst 0, 1) := by decide +kernel
theorem dX6_importersOf_3 : decode cX6_importersOf 3 = .ok (.istore_n 3, 1) := by decide +kernel
theorem dX6_importersOf_4 : decode cX6_importersOf 4 = .ok (.iload_n 3, 1) := by decide +kernel
theorem dX6_importersOf_5 : decode cX6_importersOf 5 = .ok (.bipush 6, 2) := by decide +kernel
theorem dX6_importersOf_7 : decode cX6_importersOf 7 = .ok (.if_icmp .ge 31, 3) := by decide +kernel
theorem dX6_importersOf_10 : decode cX6_importersOf 10 = .ok (.aload_n 0, 1) := by decide +kernel
theorem dX6_importersOf_11 : decode cX6_importersOf 11 = .ok (.getfield 11, 3) := by decide +kernel
theorem dX6_importersOf_14 : decode cX6_importersOf 14 = .ok (.iload_n 3, 1) := by decide +kernel
theorem dX6_importersOf_15 : decode cX6_importersOf 15 = .ok (.aaload, 1) := by decide +kernel
theorem dX6_importersOf_16 : decode cX6_importersOf 16 = .ok (.invokevirtual 186, 3) := by decide +kernel
theorem dX6_importersOf_19 : decode cX6_importersOf 19 = .ok (.iload_n 1, 1) := by decide +kernel
theorem dX6_importersOf_20 : decode cX6_importersOf 20 = .ok (.invokestatic 189, 3) := by decide +kernel
theorem dX6_importersOf_23 : decode cX6_importersOf 23 = .ok (.ifCond .eq 9, 3) := by decide +kernel
theorem dX6_importersOf_26 : decode cX6_importersOf 26 = .ok (.iload_n 2, 1) := by decide +kernel
theorem dX6_importersOf_27 : decode cX6_importersOf 27 = .ok (.iconst 1, 1) := by decide +kernel
theorem dX6_importersOf_28 : decode cX6_importersOf 28 = .ok (.iload_n 3, 1) := by decide +kernel
theorem dX6_importersOf_29 : decode cX6_importersOf 29 = .ok (.ishl, 1) := by decide +kernel
theorem dX6_importersOf_30 : decode cX6_importersOf 30 = .ok (.ior, 1) := by decide +kernel
theorem dX6_importersOf_31 : decode cX6_importersOf 31 = .ok (.istore_n 2, 1) := by decide +kernel
theorem dX6_importersOf_32 : decode cX6_importersOf 32 = .ok (.iinc 3 1, 3) := by decide +kernel
theorem dX6_importersOf_35 : decode cX6_importersOf 35 = .ok (.goto (-31), 3) := by decide +kernel
theorem dX6_importersOf_38 : decode cX6_importersOf 38 = .ok (.iload_n 2, 1) := by decide +kernel
theorem dX6_importersOf_39 : decode cX6_importersOf 39 = .ok (.ireturn, 1) := by decide +kernel
theorem dX6_work_0 : decode cX6_work 0 = .ok (.aload_n 0, 1) := by decide +kernel
theorem dX6_work_1 : decode cX6_work 1 = .ok (.dup, 1) := by decide +kernel
theorem dX6_work_2 : decode cX6_work 2 = .ok (.getfield 111, 3) := by decide +kernel
theorem dX6_work_5 : decode cX6_work 5 = .ok (.iconst 1, 1) := by decide +kernel
theorem dX6_work_6 : decode cX6_work 6 = .ok (.iadd, 1) := by decide +kernel
theorem dX6_work_7 : decode cX6_work 7 = .ok (.putfield 111, 3) := by decide +kernel
theorem dX6_work_10 : decode cX6_work 10 = .ok (.aload_n 0, 1) := by decide +kernel
theorem dX6_work_11 : decode cX6_work 11 = .ok (.iload_n 1, 1) := by decide +kernel
theorem dX6_work_12 : decode cX6_work 12 = .ok (.putfield 121, 3) := by decide +kernel
theorem dX6_work_15 : decode cX6_work 15 = .ok (.iconst 0, 1) := by decide +kernel
theorem dX6_work_16 : decode cX6_work 16 = .ok (.istore_n 2, 1) := by decide +kernel
theorem dX6_work_17 : decode cX6_work 17 = .ok (.iload_n 2, 1) := by decide +kernel
theorem dX6_work_18 : decode cX6_work 18 = .ok (.bipush 6, 2) := by decide +kernel
theorem dX6_work_20 : decode cX6_work 20 = .ok (.if_icmp .ge 54, 3) := by decide +kernel
theorem dX6_work_23 : decode cX6_work 23 = .ok (.iload_n 1, 1) := by decide +kernel
theorem dX6_work_24 : decode cX6_work 24 = .ok (.iload_n 2, 1) := by decide +kernel
theorem dX6_work_25 : decode cX6_work 25 = .ok (.invokestatic 189, 3) := by decide +kernel
theorem dX6_work_28 : decode cX6_work 28 = .ok (.ifCond .eq 40, 3) := by decide +kernel
theorem dX6_work_31 : decode cX6_work 31 = .ok (.aload_n 0, 1) := by decide +kernel
theorem dX6_work_32 : decode cX6_work 32 = .ok (.getfield 33, 3) := by decide +kernel
theorem dX6_work_35 : decode cX6_work 35 = .ok (.aload_n 0, 1) := by decide +kernel
theorem dX6_work_36 : decode cX6_work 36 = .ok (.getfield 11, 3) := by decide +kernel
theorem dX6_work_39 : decode cX6_work 39 = .ok (.iload_n 2, 1) := by decide +kernel
theorem dX6_work_40 : decode cX6_work 40 = .ok (.aload_n 0, 1) := by decide +kernel
theorem dX6_work_41 : decode cX6_work 41 = .ok (.getfield 102, 3) := by decide +kernel
theorem dX6_work_44 : decode cX6_work 44 = .ok (.invokevirtual 192, 3) := by decide +kernel
theorem dX6_work_47 : decode cX6_work 47 = .ok (.aload_n 0, 1) := by decide +kernel
theorem dX6_work_48 : decode cX6_work 48 = .ok (.getfield 11, 3) := by decide +kernel
theorem dX6_work_51 : decode cX6_work 51 = .ok (.iload_n 2, 1) := by decide +kernel
theorem dX6_work_52 : decode cX6_work 52 = .ok (.aaload, 1) := by decide +kernel
theorem dX6_work_53 : decode cX6_work 53 = .ok (.aload_n 0, 1) := by decide +kernel
theorem dX6_work_54 : decode cX6_work 54 = .ok (.getfield 33, 3) := by decide +kernel
theorem dX6_work_57 : decode cX6_work 57 = .ok (.aload_n 0, 1) := by decide +kernel
theorem dX6_work_58 : decode cX6_work 58 = .ok (.getfield 111, 3) := by decide +kernel
theorem dX6_work_61 : decode cX6_work 61 = .ok (.aload_n 0, 1) := by decide +kernel
theorem dX6_work_62 : decode cX6_work 62 = .ok (.getfield 40, 3) := by decide +kernel
theorem dX6_work_65 : decode cX6_work 65 = .ok (.invokevirtual 196, 3) := by decide +kernel
theorem dX6_work_68 : decode cX6_work 68 = .ok (.iinc 2 1, 3) := by decide +kernel
theorem dX6_work_71 : decode cX6_work 71 = .ok (.goto (-54), 3) := by decide +kernel
theorem dX6_work_74 : decode cX6_work 74 = .ok (.return_, 1) := by decide +kernel
theorem dX6_findingsAhead_0 : decode cX6_findingsAhead 0 = .ok (.iconst 0, 1) := by decide +kernel
theorem dX6_findingsAhead_1 : decode cX6_findingsAhead 1 = .ok (.istore_n 2, 1) := by decide +kernel
theorem dX6_findingsAhead_2 : decode cX6_findingsAhead 2 = .ok (.iconst 0, 1) := by decide +kernel
theorem dX6_findingsAhead_3 : decode cX6_findingsAhead 3 = .ok (.istore_n 3, 1) := by decide +kernel
theorem dX6_findingsAhead_4 : decode cX6_findingsAhead 4 = .ok (.iload_n 3, 1) := by decide +kernel
theorem dX6_findingsAhead_5 : decode cX6_findingsAhead 5 = .ok (.iload_n 1, 1) := by decide +kernel
theorem dX6_findingsAhead_6 : decode cX6_findingsAhead 6 = .ok (.if_icmp .ge 30, 3) := by decide +kernel
theorem dX6_findingsAhead_9 : decode cX6_findingsAhead 9 = .ok (.iload_n 3, 1) := by decide +kernel
theorem dX6_findingsAhead_10 : decode cX6_findingsAhead 10 = .ok (.bipush 6, 2) := by decide +kernel
theorem dX6_findingsAhead_12 : decode cX6_findingsAhead 12 = .ok (.if_icmp .ge 24, 3) := by decide +kernel
theorem dX6_findingsAhead_15 : decode cX6_findingsAhead 15 = .ok (.iload_n 2, 1) := by decide +kernel
theorem dX6_findingsAhead_16 : decode cX6_findingsAhead 16 = .ok (.aload_n 0, 1) := by decide +kernel
theorem dX6_findingsAhead_17 : decode cX6_findingsAhead 17 = .ok (.getfield 11, 3) := by decide +kernel
theorem dX6_findingsAhead_20 : decode cX6_findingsAhead 20 = .ok (.iload_n 3, 1) := by decide +kernel
theorem dX6_findingsAhead_21 : decode cX6_findingsAhead 21 = .ok (.aaload, 1) := by decide +kernel
theorem dX6_findingsAhead_22 : decode cX6_findingsAhead 22 = .ok (.invokevirtual 133, 3) := by decide +kernel
theorem dX6_findingsAhead_25 : decode cX6_findingsAhead 25 = .ok (.invokevirtual 200, 3) := by decide +kernel
theorem dX6_findingsAhead_28 : decode cX6_findingsAhead 28 = .ok (.iadd, 1) := by decide +kernel
theorem dX6_findingsAhead_29 : decode cX6_findingsAhead 29 = .ok (.istore_n 2, 1) := by decide +kernel
theorem dX6_findingsAhead_30 : decode cX6_findingsAhead 30 = .ok (.iinc 3 1, 3) := by decide +kernel
theorem dX6_findingsAhead_33 : decode cX6_findingsAhead 33 = .ok (.goto (-29), 3) := by decide +kernel
theorem dX6_findingsAhead_36 : decode cX6_findingsAhead 36 = .ok (.iload_n 2, 1) := by decide +kernel
theorem dX6_findingsAhead_37 : decode cX6_findingsAhead 37 = .ok (.ireturn, 1) := by decide +kernel
theorem dX6_fileOfFinding_0 : decode cX6_fileOfFinding 0 = .ok (.iload_n 1, 1) := by decide +kernel
theorem dX6_fileOfFinding_1 : decode cX6_fileOfFinding 1 = .ok (.ifCond .ge 5, 3) := by decide +kernel
theorem dX6_fileOfFinding_4 : decode cX6_fileOfFinding 4 = .ok (.iconst (-1), 1) := by decide +kernel
theorem dX6_fileOfFinding_5 : decode cX6_fileOfFinding 5 = .ok (.ireturn, 1) := by decide +kernel
theorem dX6_fileOfFinding_6 : decode cX6_fileOfFinding 6 = .ok (.iload_n 1, 1) := by decide +kernel
theorem dX6_fileOfFinding_7 : decode cX6_fileOfFinding 7 = .ok (.istore_n 2, 1) := by decide +kernel
theorem dX6_fileOfFinding_8 : decode cX6_fileOfFinding 8 = .ok (.iconst 0, 1) := by decide +kernel
theorem dX6_fileOfFinding_9 : decode cX6_fileOfFinding 9 = .ok (.istore_n 3, 1) := by decide +kernel
theorem dX6_fileOfFinding_10 : decode cX6_fileOfFinding 10 = .ok (.iload_n 3, 1) := by decide +kernel
theorem dX6_fileOfFinding_11 : decode cX6_fileOfFinding 11 = .ok (.bipush 6, 2) := by decide +kernel
theorem dX6_fileOfFinding_13 : decode cX6_fileOfFinding 13 = .ok (.if_icmp .ge 36, 3) := by decide +kernel
theorem dX6_fileOfFinding_16 : decode cX6_fileOfFinding 16 = .ok (.aload_n 0, 1) := by decide +kernel
theorem dX6_fileOfFinding_17 : decode cX6_fileOfFinding 17 = .ok (.getfield 11, 3) := by decide +kernel
theorem dX6_fileOfFinding_20 : decode cX6_fileOfFinding 20 = .ok (.iload_n 3, 1) := by decide +kernel
theorem dX6_fileOfFinding_21 : decode cX6_fileOfFinding 21 = .ok (.aaload, 1) := by decide +kernel
theorem dX6_fileOfFinding_22 : decode cX6_fileOfFinding 22 = .ok (.invokevirtual 133, 3) := by decide +kernel
theorem dX6_fileOfFinding_25 : decode cX6_fileOfFinding 25 = .ok (.invokevirtual 200, 3) := by decide +kernel
theorem dX6_fileOfFinding_28 : decode cX6_fileOfFinding 28 = .ok (.istore 4, 2) := by decide +kernel
theorem dX6_fileOfFinding_30 : decode cX6_fileOfFinding 30 = .ok (.iload_n 2, 1) := by decide +kernel
theorem dX6_fileOfFinding_31 : decode cX6_fileOfFinding 31 = .ok (.iload 4, 2) := by decide +kernel
theorem dX6_fileOfFinding_33 : decode cX6_fileOfFinding 33 = .ok (.if_icmp .ge 5, 3) := by decide +kernel
theorem dX6_fileOfFinding_36 : decode cX6_fileOfFinding 36 = .ok (.iload_n 3, 1) := by decide +kernel
theorem dX6_fileOfFinding_37 : decode cX6_fileOfFinding 37 = .ok (.ireturn, 1) := by decide +kernel
theorem dX6_fileOfFinding_38 : decode cX6_fileOfFinding 38 = .ok (.iload_n 2, 1) := by decide +kernel
theorem dX6_fileOfFinding_39 : decode cX6_fileOfFinding 39 = .ok (.iload 4, 2) := by decide +kernel
theorem dX6_fileOfFinding_41 : decode cX6_fileOfFinding 41 = .ok (.isub, 1) := by decide +kernel
theorem dX6_fileOfFinding_42 : decode cX6_fileOfFinding 42 = .ok (.istore_n 2, 1) := by decide +kernel
theorem dX6_fileOfFinding_43 : decode cX6_fileOfFinding 43 = .ok (.iinc 3 1, 3) := by decide +kernel
theorem dX6_fileOfFinding_46 : decode cX6_fileOfFinding 46 = .ok (.goto (-36), 3) := by decide +kernel
theorem dX6_fileOfFinding_49 : decode cX6_fileOfFinding 49 = .ok (.iconst (-1), 1) := by decide +kernel
theorem dX6_fileOfFinding_50 : decode cX6_fileOfFinding 50 = .ok (.ireturn, 1) := by decide +kernel
theorem dX6_countSilenced_0 : decode cX6_countSilenced 0 = .ok (.iconst 0, 1) := by decide +kernel
theorem dX6_countSilenced_1 : decode cX6_countSilenced 1 = .ok (.istore_n 1, 1) := by decide +kernel
theorem dX6_countSilenced_2 : decode cX6_countSilenced 2 = .ok (.iconst 0, 1) := by decide +kernel
theorem dX6_countSilenced_3 : decode cX6_countSilenced 3 = .ok (.istore_n 2, 1) := by decide +kernel
theorem dX6_countSilenced_4 : decode cX6_countSilenced 4 = .ok (.iload_n 2, 1) := by decide +kernel
theorem dX6_countSilenced_5 : decode cX6_countSilenced 5 = .ok (.bipush 6, 2) := by decide +kernel
theorem dX6_countSilenced_7 : decode cX6_countSilenced 7 = .ok (.if_icmp .ge 28, 3) := by decide +kernel
theorem dX6_countSilenced_10 : decode cX6_countSilenced 10 = .ok (.iload_n 1, 1) := by decide +kernel
theorem dX6_countSilenced_11 : decode cX6_countSilenced 11 = .ok (.aload_n 0, 1) := by decide +kernel
theorem dX6_countSilenced_12 : decode cX6_countSilenced 12 = .ok (.getfield 11, 3) := by decide +kernel
theorem dX6_countSilenced_15 : decode cX6_countSilenced 15 = .ok (.iload_n 2, 1) := by decide +kernel
theorem dX6_countSilenced_16 : decode cX6_countSilenced 16 = .ok (.aaload, 1) := by decide +kernel
theorem dX6_countSilenced_17 : decode cX6_countSilenced 17 = .ok (.invokevirtual 133, 3) := by decide +kernel
theorem dX6_countSilenced_20 : decode cX6_countSilenced 20 = .ok (.aload_n 0, 1) := by decide +kernel
theorem dX6_countSilenced_21 : decode cX6_countSilenced 21 = .ok (.getfield 108, 3) := by decide +kernel
theorem dX6_countSilenced_24 : decode cX6_countSilenced 24 = .ok (.invokevirtual 201, 3) := by decide +kernel
theorem dX6_countSilenced_27 : decode cX6_countSilenced 27 = .ok (.iadd, 1) := by decide +kernel
theorem dX6_countSilenced_28 : decode cX6_countSilenced 28 = .ok (.istore_n 1, 1) := by decide +kernel
theorem dX6_countSilenced_29 : decode cX6_countSilenced 29 = .ok (.iinc 2 1, 3) := by decide +kernel
theorem dX6_countSilenced_32 : decode cX6_countSilenced 32 = .ok (.goto (-28), 3) := by decide +kernel
theorem dX6_countSilenced_35 : decode cX6_countSilenced 35 = .ok (.iload_n 1, 1) := by decide +kernel
theorem dX6_countSilenced_36 : decode cX6_countSilenced 36 = .ok (.ireturn, 1) := by decide +kernel
theorem dX6_countLines_0 : decode cX6_countLines 0 = .ok (.iconst 0, 1) := by decide +kernel
theorem dX6_countLines_1 : decode cX6_countLines 1 = .ok (.istore_n 1, 1) := by decide +kernel
theorem dX6_countLines_2 : decode cX6_countLines 2 = .ok (.iconst 0, 1) := by decide +kernel
theorem dX6_countLines_3 : decode cX6_countLines 3 = .ok (.istore_n 2, 1) := by decide +kernel
theorem dX6_countLines_4 : decode cX6_countLines 4 = .ok (.iload_n 2, 1) := by decide +kernel
theorem dX6_countLines_5 : decode cX6_countLines 5 = .ok (.bipush 6, 2) := by decide +kernel
theorem dX6_countLines_7 : decode cX6_countLines 7 = .ok (.if_icmp .ge 21, 3) := by decide +kernel
theorem dX6_countLines_10 : decode cX6_countLines 10 = .ok (.iload_n 1, 1) := by decide +kernel
theorem dX6_countLines_11 : decode cX6_countLines 11 = .ok (.aload_n 0, 1) := by decide +kernel
theorem dX6_countLines_12 : decode cX6_countLines 12 = .ok (.getfield 11, 3) := by decide +kernel
theorem dX6_countLines_15 : decode cX6_countLines 15 = .ok (.iload_n 2, 1) := by decide +kernel
theorem dX6_countLines_16 : decode cX6_countLines 16 = .ok (.aaload, 1) := by decide +kernel
theorem dX6_countLines_17 : decode cX6_countLines 17 = .ok (.invokevirtual 203, 3) := by decide +kernel
theorem dX6_countLines_20 : decode cX6_countLines 20 = .ok (.iadd, 1) := by decide +kernel
theorem dX6_countLines_21 : decode cX6_countLines 21 = .ok (.istore_n 1, 1) := by decide +kernel
theorem dX6_countLines_22 : decode cX6_countLines 22 = .ok (.iinc 2 1, 3) := by decide +kernel
theorem dX6_countLines_25 : decode cX6_countLines 25 = .ok (.goto (-21), 3) := by decide +kernel
theorem dX6_countLines_28 : decode cX6_countLines 28 = .ok (.iload_n 1, 1) := by decide +kernel
theorem dX6_countLines_29 : decode cX6_countLines 29 = .ok (.ireturn, 1) := by decide +kernel
theorem dX7_init_0 : decode cX7_init 0 = .ok (.aload_n 0, 1) := by decide +kernel
theorem dX7_init_1 : decode cX7_init 1 = .ok (.invokespecial 1, 3) := by decide +kernel
theorem dX7_init_4 : decode cX7_init 4 = .ok (.aload_n 0, 1) := by decide +kernel
theorem dX7_init_5 : decode cX7_init 5 = .ok (.bipush 6, 2) := by decide +kernel
theorem dX7_init_7 : decode cX7_init 7 = .ok (.newarray .int, 2) := by decide +kernel
theorem dX7_init_9 : decode cX7_init 9 = .ok (.putfield 7, 3) := by decide +kernel
theorem dX7_init_12 : decode cX7_init 12 = .ok (.aload_n 0, 1) := by decide +kernel
theorem dX7_init_13 : decode cX7_init 13 = .ok (.sipush 192, 3) := by decide +kernel
theorem dX7_init_16 : decode cX7_init 16 = .ok (.newarray .int, 2) := by decide +kernel
theorem dX7_init_18 : decode cX7_init 18 = .ok (.putfield 13, 3) := by decide +kernel
theorem dX7_init_21 : decode cX7_init 21 = .ok (.aload_n 0, 1) := by decide +kernel
theorem dX7_init_22 : decode cX7_init 22 = .ok (.sipush 192, 3) := by decide +kernel
theorem dX7_init_25 : decode cX7_init 25 = .ok (.newarray .int, 2) := by decide +kernel
theorem dX7_init_27 : decode cX7_init 27 = .ok (.putfield 16, 3) := by decide +kernel
theorem dX7_init_30 : decode cX7_init 30 = .ok (.aload_n 0, 1) := by decide +kernel
theorem dX7_init_31 : decode cX7_init 31 = .ok (.sipush 192, 3) := by decide +kernel
theorem dX7_init_34 : decode cX7_init 34 = .ok (.newarray .int, 2) := by decide +kernel
theorem dX7_init_36 : decode cX7_init 36 = .ok (.putfield 19, 3) := by decide +kernel
theorem dX7_init_39 : decode cX7_init 39 = .ok (.aload_n 0, 1) := by decide +kernel
theorem dX7_init_40 : decode cX7_init 40 = .ok (.sipush 192, 3) := by decide +kernel
theorem dX7_init_43 : decode cX7_init 43 = .ok (.newarray .int, 2) := by decide +kernel
theorem dX7_init_45 : decode cX7_init 45 = .ok (.putfield 22, 3) := by decide +kernel
theorem dX7_init_48 : decode cX7_init 48 = .ok (.aload_n 0, 1) := by decide +kernel
theorem dX7_init_49 : decode cX7_init 49 = .ok (.sipush 192, 3) := by decide +kernel
theorem dX7_init_52 : decode cX7_init 52 = .ok (.newarray .int, 2) := by decide +kernel
theorem dX7_init_54 : decode cX7_init 54 = .ok (.putfield 25, 3) := by decide +kernel
theorem dX7_init_57 : decode cX7_init 57 = .ok (.aload_n 0, 1) := by decide +kernel
theorem dX7_init_58 : decode cX7_init 58 = .ok (.sipush 192, 3) := by decide +kernel
theorem dX7_init_61 : decode cX7_init 61 = .ok (.newarray .int, 2) := by decide +kernel
theorem dX7_init_63 : decode cX7_init 63 = .ok (.putfield 28, 3) := by decide +kernel
theorem dX7_init_66 : decode cX7_init 66 = .ok (.aload_n 0, 1) := by decide +kernel
theorem dX7_init_67 : decode cX7_init 67 = .ok (.sipush 192, 3) := by decide +kernel
theorem dX7_init_70 : decode cX7_init 70 = .ok (.newarray .int, 2) := by decide +kernel
theorem dX7_init_72 : decode cX7_init 72 = .ok (.putfield 31, 3) := by decide +kernel
theorem dX7_init_75 : decode cX7_init 75 = .ok (.aload_n 0, 1) := by decide +kernel
theorem dX7_init_76 : decode cX7_init 76 = .ok (.sipush 192, 3) := by decide +kernel
theorem dX7_init_79 : decode cX7_init 79 = .ok (.newarray .int, 2) := by decide +kernel
theorem dX7_init_81 : decode cX7_init 81 = .ok (.putfield 34, 3) := by decide +kernel
theorem dX7_init_84 : decode cX7_init 84 = .ok (.aload_n 0, 1) := by decide +kernel
theorem dX7_init_85 : decode cX7_init 85 = .ok (.sipush 192, 3) := by decide +kernel
theorem dX7_init_88 : decode cX7_init 88 = .ok (.newarray .int, 2) := by decide +kernel
theorem dX7_init_90 : decode cX7_init 90 = .ok (.putfield 37, 3) := by decide +kernel
theorem dX7_init_93 : decode cX7_init 93 = .ok (.aload_n 0, 1) := by decide +kernel
theorem dX7_init_94 : decode cX7_init 94 = .ok (.sipush 192, 3) := by decide +kernel
theorem dX7_init_97 : decode cX7_init 97 = .ok (.newarray .int, 2) := by decide +kernel
theorem dX7_init_99 : decode cX7_init 99 = .ok (.putfield 40, 3) := by decide +kernel
theorem dX7_init_102 : decode cX7_init 102 = .ok (.aload_n 0, 1) := by decide +kernel
theorem dX7_init_103 : decode cX7_init 103 = .ok (.sipush 192, 3) := by decide +kernel
theorem dX7_init_106 : decode cX7_init 106 = .ok (.newarray .int, 2) := by decide +kernel
theorem dX7_init_108 : decode cX7_init 108 = .ok (.putfield 43, 3) := by decide +kernel
theorem dX7_init_111 : decode cX7_init 111 = .ok (.aload_n 0, 1) := by decide +kernel
theorem dX7_init_112 : decode cX7_init 112 = .ok (.sipush 192, 3) := by decide +kernel
theorem dX7_init_115 : decode cX7_init 115 = .ok (.newarray .int, 2) := by decide +kernel
theorem dX7_init_117 : decode cX7_init 117 = .ok (.putfield 46, 3) := by decide +kernel
theorem dX7_init_120 : decode cX7_init 120 = .ok (.aload_n 0, 1) := by decide +kernel
theorem dX7_init_121 : decode cX7_init 121 = .ok (.sipush 192, 3) := by decide +kernel
theorem dX7_init_124 : decode cX7_init 124 = .ok (.newarray .int, 2) := by decide +kernel
theorem dX7_init_126 : decode cX7_init 126 = .ok (.putfield 49, 3) := by decide +kernel
theorem dX7_init_129 : decode cX7_init 129 = .ok (.aload_n 0, 1) := by decide +kernel
theorem dX7_init_130 : decode cX7_init 130 = .ok (.sipush 192, 3) := by decide +kernel
theorem dX7_init_133 : decode cX7_init 133 = .ok (.newarray .int, 2) := by decide +kernel
theorem dX7_init_135 : decode cX7_init 135 = .ok (.putfield 52, 3) := by decide +kernel
theorem dX7_init_138 : decode cX7_init 138 = .ok (.aload_n 0, 1) := by decide +kernel
theorem dX7_init_139 : decode cX7_init 139 = .ok (.bipush 60, 2) := by decide +kernel
theorem dX7_init_141 : decode cX7_init 141 = .ok (.newarray .int, 2) := by decide +kernel
theorem dX7_init_143 : decode cX7_init 143 = .ok (.putfield 55, 3) := by decide +kernel
theorem dX7_init_146 : decode cX7_init 146 = .ok (.aload_n 0, 1) := by decide +kernel
theorem dX7_init_147 : decode cX7_init 147 = .ok (.bipush 60, 2) := by decide +kernel
theorem dX7_init_149 : decode cX7_init 149 = .ok (.newarray .int, 2) := by decide +kernel
theorem dX7_init_151 : decode cX7_init 151 = .ok (.putfield 58, 3) := by decide +kernel
theorem dX7_init_154 : decode cX7_init 154 = .ok (.aload_n 0, 1) := by decide +kernel
theorem dX7_init_155 : decode cX7_init 155 = .ok (.bipush 60, 2) := by decide +kernel
theorem dX7_init_157 : decode cX7_init 157 = .ok (.newarray .int, 2) := by decide +kernel
theorem dX7_init_159 : decode cX7_init 159 = .ok (.putfield 61, 3) := by decide +kernel
theorem dX7_init_162 : decode cX7_init 162 = .ok (.aload_n 0, 1) := by decide +kernel
theorem dX7_init_163 : decode cX7_init 163 = .ok (.bipush 60, 2) := by decide +kernel
theorem dX7_init_165 : decode cX7_init 165 = .ok (.newarray .int, 2) := by decide +kernel
theorem dX7_init_167 : decode cX7_init 167 = .ok (.putfield 64, 3) := by decide +kernel
theorem dX7_init_170 : decode cX7_init 170 = .ok (.aload_n 0, 1) := by decide +kernel
theorem dX7_init_171 : decode cX7_init 171 = .ok (.bipush 40, 2) := by decide +kernel
theorem dX7_init_173 : decode cX7_init 173 = .ok (.newarray .int, 2) := by decide +kernel
theorem dX7_init_175 : decode cX7_init 175 = .ok (.putfield 67, 3) := by decide +kernel
theorem dX7_init_178 : decode cX7_init 178 = .ok (.aload_n 0, 1) := by decide +kernel
theorem dX7_init_179 : decode cX7_init 179 = .ok (.sipush 1089, 3) := by decide +kernel
theorem dX7_init_182 : decode cX7_init 182 = .ok (.newarray .int, 2) := by decide +kernel
theorem dX7_init_184 : decode cX7_init 184 = .ok (.putfield 70, 3) := by decide +kernel
theorem dX7_init_187 : decode cX7_init 187 = .ok (.aload_n 0, 1) := by decide +kernel
theorem dX7_init_188 : decode cX7_init 188 = .ok (.bipush 32, 2) := by decide +kernel
theorem dX7_init_190 : decode cX7_init 190 = .ok (.newarray .int, 2) := by decide +kernel
theorem dX7_init_192 : decode cX7_init 192 = .ok (.putfield 73, 3) := by decide +kernel
theorem dX7_init_195 : decode cX7_init 195 = .ok (.return_, 1) := by decide +kernel
theorem dX7_isIn_0 : decode cX7_isIn 0 = .ok (.iload_n 0, 1) := by decide +kernel
theorem dX7_isIn_1 : decode cX7_isIn 1 = .ok (.iload_n 1, 1) := by decide +kernel
theorem dX7_isIn_2 : decode cX7_isIn 2 = .ok (.if_icmp .lt 12, 3) := by decide +kernel
theorem dX7_isIn_5 : decode cX7_isIn 5 = .ok (.iload_n 0, 1) := by decide +kernel
theorem dX7_isIn_6 : decode cX7_isIn 6 = .ok (.iload_n 2, 1) := by decide +kernel
theorem dX7_isIn_7 : decode cX7_isIn 7 = .ok (.if_icmp .gt 7, 3) := by decide +kernel
theorem dX7_isIn_10 : decode cX7_isIn 10 = .ok (.iconst 1, 1) := by decide +kernel
theorem dX7_isIn_11 : decode cX7_isIn 11 = .ok (.goto 4, 3) := by decide +kernel
theorem dX7_isIn_14 : decode cX7_isIn 14 = .ok (.iconst 0, 1) := by decide +kernel
theorem dX7_isIn_15 : decode cX7_isIn 15 = .ok (.ireturn, 1) := by decide +kernel
theorem dX7_isFile_0 : decode cX7_isFile 0 = .ok (.iload_n 0, 1) := by decide +kernel
theorem dX7_isFile_1 : decode cX7_isFile 1 = .ok (.iconst 0, 1) := by decide +kernel
theorem dX7_isFile_2 : decode cX7_isFile 2 = .ok (.iconst 5, 1) := by decide +kernel
theorem dX7_isFile_3 : decode cX7_isFile 3 = .ok (.invokestatic 76, 3) := by decide +kernel
theorem dX7_isFile_6 : decode cX7_isFile 6 = .ok (.ireturn, 1) := by decide +kernel
theorem dX7_isLine_0 : decode cX7_isLine 0 = .ok (.iload_n 1, 1) := by decide +kernel
theorem dX7_isLine_1 : decode cX7_isLine 1 = .ok (.invokestatic 80, 3) := by decide +kernel
theorem dX7_isLine_4 : decode cX7_isLine 4 = .ok (.ifCond .eq 23, 3) := by decide +kernel
theorem dX7_isLine_7 : decode cX7_isLine 7 = .ok (.iload_n 2, 1) := by decide +kernel
theorem dX7_isLine_8 : decode cX7_isLine 8 = .ok (.iconst 0, 1) := by decide +kernel
theorem dX7_isLine_9 : decode cX7_isLine 9 = .ok (.aload_n 0, 1) := by decide +kernel
theorem dX7_isLine_10 : decode cX7_isLine 10 = .ok (.getfield 7, 3) := by decide +kernel
theorem dX7_isLine_13 : decode cX7_isLine 13 = .ok (.iload_n 1, 1) := by decide +kernel
theorem dX7_isLine_14 : decode cX7_isLine 14 = .ok (.iaload, 1) := by decide +kernel
theorem dX7_isLine_15 : decode cX7_isLine 15 = .ok (.iconst 1, 1) := by decide +kernel
theorem dX7_isLine_16 : decode cX7_isLine 16 = .ok (.isub, 1) := by decide +kernel
theorem dX7_isLine_17 : decode cX7_isLine 17 = .ok (.invokestatic 76, 3) := by decide +kernel
theorem dX7_isLine_20 : decode cX7_isLine 20 = .ok (.ifCond .eq 7, 3) := by decide +kernel
theorem dX7_isLine_23 : decode cX7_isLine 23 = .ok (.iconst 1, 1) := by decide +kernel
theorem dX7_isLine_24 : decode cX7_isLine 24 = .ok (.goto 4, 3) := by decide +kernel
theorem dX7_isLine_27 : decode cX7_isLine 27 = .ok (.iconst 0, 1) := by decide +kernel
theorem dX7_isLine_28 : decode cX7_isLine 28 = .ok (.ireturn, 1) := by decide +kernel
theorem dX7_kind_0 : decode cX7_kind 0 = .ok (.aload_n 0, 1) := by decide +kernel
theorem dX7_kind_1 : decode cX7_kind 1 = .ok (.getfield 13, 3) := by decide +kernel
theorem dX7_kind_4 : decode cX7_kind 4 = .ok (.bipush 32, 2) := by decide +kernel
theorem dX7_kind_6 : decode cX7_kind 6 = .ok (.iload_n 1, 1) := by decide +kernel
theorem dX7_kind_7 : decode cX7_kind 7 = .ok (.imul, 1) := by decide +kernel
theorem dX7_kind_8 : decode cX7_kind 8 = .ok (.iload_n 2, 1) := by decide +kernel
theorem dX7_kind_9 : decode cX7_kind 9 = .ok (.iadd, 1) := by decide +kernel
theorem dX7_kind_10 : decode cX7_kind 10 = .ok (.iaload, 1) := by decide +kernel
theorem dX7_kind_11 : decode cX7_kind 11 = .ok (.iconst 5, 1) := by decide +kernel
theorem dX7_kind_12 : decode cX7_kind 12 = .ok (.ishr, 1) := by decide +kernel
theorem dX7_kind_13 : decode cX7_kind 13 = .ok (.ireturn, 1) := by decide +kernel
theorem dX7_number_0 : decode cX7_number 0 = .ok (.aload_n 0, 1) := by decide +kernel
theorem dX7_number_1 : decode cX7_number 1 = .ok (.getfield 13, 3) := by decide +kernel
theorem dX7_number_4 : decode cX7_number 4 = .ok (.bipush 32, 2) := by decide +kernel
theorem dX7_number_6 : decode cX7_number 6 = .ok (.iload_n 1, 1) := by decide +kernel
theorem dX7_number_7 : decode cX7_number 7 = .ok (.imul, 1) := by decide +kernel
theorem dX7_number_8 : decode cX7_number 8 = .ok (.iload_n 2, 1) := by decide +kernel
theorem dX7_number_9 : decode cX7_number 9 = .ok (.iadd, 1) := by decide +kernel
theorem dX7_number_10 : decode cX7_number 10 = .ok (.iaload, 1) := by decide +kernel
theorem dX7_number_11 : decode cX7_number 11 = .ok (.bipush 31, 2) := by decide +kernel
theorem dX7_number_13 : decode cX7_number 13 = .ok (.iand, 1) := by decide +kernel
theorem dX7_number_14 : decode cX7_number 14 = .ok (.ireturn, 1) := by decide +kernel
theorem dX7_defs_0 : decode cX7_defs 0 = .ok (.iconst 0, 1) := by decide +kernel
theorem dX7_defs_1 : decode cX7_defs 1 = .ok (.istore_n 2, 1) := by decide +kernel
theorem dX7_defs_2 : decode cX7_defs 2 = .ok (.iconst 0, 1) := by decide +kernel
theorem dX7_defs_3 : decode cX7_defs 3 = .ok (.istore_n 3, 1) := by decide +kernel
theorem dX7_defs_4 : decode cX7_defs 4 = .ok (.iload_n 3, 1) := by decide +kernel
theorem dX7_defs_5 : decode cX7_defs 5 = .ok (.aload_n 0, 1) := by decide +kernel
theorem dX7_defs_6 : decode cX7_defs 6 = .ok (.getfield 7, 3) := by decide +kernel
theorem dX7_defs_9 : decode cX7_defs 9 = .ok (.iload_n 1, 1) := by decide +kernel
theorem dX7_defs_10 : decode cX7_defs 10 = .ok (.iaload, 1) := by decide +kernel
theorem dX7_defs_11 : decode cX7_defs 11 = .ok (.if_icmp .ge 30, 3) := by decide +kernel
theorem dX7_defs_14 : decode cX7_defs 14 = .ok (.aload_n 0, 1) := by decide +kernel
theorem dX7_defs_15 : decode cX7_defs 15 = .ok (.iload_n 1, 1) := by decide +kernel
theorem dX7_defs_16 : decode cX7_defs 16 = .ok (.iload_n 3, 1) := by decide +kernel
theorem dX7_defs_17 : decode cX7_defs 17 = .ok (.invokevirtual 84, 3) := by decide +kernel
theorem dX7_defs_20 : decode cX7_defs 20 = .ok (.iconst 1, 1) := by decide +kernel
theorem dX7_defs_21 : decode cX7_defs 21 = .ok (.if_icmp .ne 14, 3) := by decide +kernel
theorem dX7_defs_24 : decode cX7_defs 24 = .ok (.iload_n 2, 1) := by decide +kernel
theorem dX7_defs_25 : decode cX7_defs 25 = .ok (.iconst 1, 1) := by decide +kernel
theorem dX7_defs_26 : decode cX7_defs 26 = .ok (.aload_n 0, 1) := by decide +kernel
theorem dX7_defs_27 : decode cX7_defs 27 = .ok (.iload_n 1, 1) := by decide +kernel
theorem dX7_defs_28 : decode cX7_defs 28 = .ok (.iload_n 3, 1) := by decide +kernel
theorem dX7_defs_29 : decode cX7_defs 29 = .ok (.invokevirtual 88, 3) := by decide +kernel
theorem dX7_defs_32 : decode cX7_defs 32 = .ok (.ishl, 1) := by decide +kernel
theorem dX7_defs_33 : decode cX7_defs 33 = .ok (.ior, 1) := by decide +kernel
theorem dX7_defs_34 : decode cX7_defs 34 = .ok (.istore_n 2, 1) := by decide +kernel
theorem dX7_defs_35 : decode cX7_defs 35 = .ok (.iinc 3 1, 3) := by decide +kernel
theorem dX7_defs_38 : decode cX7_defs 38 = .ok (.goto (-34), 3) := by decide +kernel
theorem dX7_defs_41 : decode cX7_defs 41 = .ok (.iload_n 2, 1) := by decide +kernel
theorem dX7_defs_42 : decode cX7_defs 42 = .ok (.ireturn, 1) := by decide +kernel
theorem dX7_uses_0 : decode cX7_uses 0 = .ok (.iconst 0, 1) := by decide +kernel
theorem dX7_uses_1 : decode cX7_uses 1 = .ok (.istore_n 2, 1) := by decide +kernel
theorem dX7_uses_2 : decode cX7_uses 2 = .ok (.iconst 0, 1) := by decide +kernel
theorem dX7_uses_3 : decode cX7_uses 3 = .ok (.istore_n 3, 1) := by decide +kernel
theorem dX7_uses_4 : decode cX7_uses 4 = .ok (.iload_n 3, 1) := by decide +kernel
theorem dX7_uses_5 : decode cX7_uses 5 = .ok (.aload_n 0, 1) := by decide +kernel
theorem dX7_uses_6 : decode cX7_uses 6 = .ok (.getfield 7, 3) := by decide +kernel
theorem dX7_uses_9 : decode cX7_uses 9 = .ok (.iload_n 1, 1) := by decide +kernel
theorem dX7_uses_10 : decode cX7_uses 10 = .ok (.iaload, 1) := by decide +kernel
theorem dX7_uses_11 : decode cX7_uses 11 = .ok (.if_icmp .ge 30, 3) := by decide +kernel
theorem dX7_uses_14 : decode cX7_uses 14 = .ok (.aload_n 0, 1) := by decide +kernel
theorem dX7_uses_15 : decode cX7_uses 15 = .ok (.iload_n 1, 1) := by decide +kernel
theorem dX7_uses_16 : decode cX7_uses 16 = .ok (.iload_n 3, 1) := by decide +kernel
theorem dX7_uses_17 : decode cX7_uses 17 = .ok (.invokevirtual 84, 3) := by decide +kernel
theorem dX7_uses_20 : decode cX7_uses 20 = .ok (.iconst 2, 1) := by decide +kernel
theorem dX7_uses_21 : decode cX7_uses 21 = .ok (.if_icmp .ne 14, 3) := by decide +kernel
theorem dX7_uses_24 : decode cX7_uses 24 = .ok (.iload_n 2, 1) := by decide +kernel
theorem dX7_uses_25 : decode cX7_uses 25 = .ok (.iconst 1, 1) := by decide +kernel
theorem dX7_uses_26 : decode cX7_uses 26 = .ok (.aload_n 0, 1) := by decide +kernel
theorem dX7_uses_27 : decode cX7_uses 27 = .ok (.iload_n 1, 1) := by decide +kernel
theorem dX7_uses_28 : decode cX7_uses 28 = .ok (.iload_n 3, 1) := by decide +kernel
theorem dX7_uses_29 : decode cX7_uses 29 = .ok (.invokevirtual 88, 3) := by decide +kernel
theorem dX7_uses_32 : decode cX7_uses 32 = .ok (.ishl, 1) := by decide +kernel
theorem dX7_uses_33 : decode cX7_uses 33 = .ok (.ior, 1) := by decide +kernel
theorem dX7_uses_34 : decode cX7_uses 34 = .ok (.istore_n 2, 1) := by decide +kernel
theorem dX7_uses_35 : decode cX7_uses 35 = .ok (.iinc 3 1, 3) := by decide +kernel
theorem dX7_uses_38 : decode cX7_uses 38 = .ok (.goto (-34), 3) := by decide +kernel
theorem dX7_uses_41 : decode cX7_uses 41 = .ok (.iload_n 2, 1) := by decide +kernel
theorem dX7_uses_42 : decode cX7_uses 42 = .ok (.ireturn, 1) := by decide +kernel
theorem dX7_imports_0 : decode cX7_imports 0 = .ok (.iconst 0, 1) := by decide +kernel
theorem dX7_imports_1 : decode cX7_imports 1 = .ok (.istore_n 3, 1) := by decide +kernel
theorem dX7_imports_2 : decode cX7_imports 2 = .ok (.iconst 0, 1) := by decide +kernel
theorem dX7_imports_3 : decode cX7_imports 3 = .ok (.istore 4, 2) := by decide +kernel
theorem dX7_imports_5 : decode cX7_imports 5 = .ok (.iload 4, 2) := by decide +kernel
theorem dX7_imports_7 : decode cX7_imports 7 = .ok (.aload_n 0, 1) := by decide +kernel
theorem dX7_imports_8 : decode cX7_imports 8 = .ok (.getfield 7, 3) := by decide +kernel
theorem dX7_imports_11 : decode cX7_imports 11 = .ok (.iload_n 1, 1) := by decide +kernel
theorem dX7_imports_12 : decode cX7_imports 12 = .ok (.iaload, 1) := by decide +kernel
theorem dX7_imports_13 : decode cX7_imports 13 = .ok (.if_icmp .ge 44, 3) := by decide +kernel
theorem dX7_imports_16 : decode cX7_imports 16 = .ok (.iload_n 3, 1) := by decide +kernel
theorem dX7_imports_17 : decode cX7_imports 17 = .ok (.ifCond .ne 28, 3) := by decide +kernel
theorem dX7_imports_20 : decode cX7_imports 20 = .ok (.aload_n 0, 1) := by decide +kernel
theorem dX7_imports_21 : decode cX7_imports 21 = .ok (.iload_n 1, 1) := by decide +kernel
theorem dX7_imports_22 : decode cX7_imports 22 = .ok (.iload 4, 2) := by decide +kernel
theorem dX7_imports_24 : decode cX7_imports 24 = .ok (.invokevirtual 84, 3) := by decide +kernel
theorem dX7_imports_27 : decode cX7_imports 27 = .ok (.iconst 5, 1) := by decide +kernel
theorem dX7_imports_28 : decode cX7_imports 28 = .ok (.if_icmp .ne 21, 3) := by decide +kernel
theorem dX7_imports_31 : decode cX7_imports 31 = .ok (.aload_n 0, 1) := by decide +kernel
theorem dX7_imports_32 : decode cX7_imports 32 = .ok (.iload_n 1, 1) := by decide +kernel
theorem dX7_imports_33 : decode cX7_imports 33 = .ok (.iload 4, 2) := by decide +kernel
theorem dX7_imports_35 : decode cX7_imports 35 = .ok (.invokevirtual 88, 3) := by decide +kernel
theorem dX7_imports_38 : decode cX7_imports 38 = .ok (.bipush 6, 2) := by decide +kernel
theorem dX7_imports_40 : decode cX7_imports 40 = .ok (.irem, 1) := by decide +kernel
theorem dX7_imports_41 : decode cX7_imports 41 = .ok (.iload_n 2, 1) := by decide +kernel
theorem dX7_imports_42 : decode cX7_imports 42 = .ok (.if_icmp .ne 7, 3) := by decide +kernel
theorem dX7_imports_45 : decode cX7_imports 45 = .ok (.iconst 1, 1) := by decide +kernel
theorem dX7_imports_46 : decode cX7_imports 46 = .ok (.goto 4, 3) := by decide +kernel
theorem dX7_imports_49 : decode cX7_imports 49 = .ok (.iconst 0, 1) := by decide +kernel
theorem dX7_imports_50 : decode cX7_imports 50 = .ok (.istore_n 3, 1) := by decide +kernel
theorem dX7_imports_51 : decode cX7_imports 51 = .ok (.iinc 4 1, 3) := by decide +kernel
theorem dX7_imports_54 : decode cX7_imports 54 = .ok (.goto (-49), 3) := by decide +kernel
theorem dX7_imports_57 : decode cX7_imports 57 = .ok (.iload_n 3, 1) := by decide +kernel
theorem dX7_imports_58 : decode cX7_imports 58 = .ok (.ireturn, 1) := by decide +kernel
theorem dX7_isThere_0 : decode cX7_isThere 0 = .ok (.aload_n 0, 1) := by decide +kernel
theorem dX7_isThere_1 : decode cX7_isThere 1 = .ok (.iload_n 1, 1) := by decide +kernel
theorem dX7_isThere_2 : decode cX7_isThere 2 = .ok (.invokevirtual 91, 3) := by decide +kernel
theorem dX7_isThere_5 : decode cX7_isThere 5 = .ok (.iload_n 2, 1) := by decide +kernel
theorem dX7_isThere_6 : decode cX7_isThere 6 = .ok (.ishr, 1) := by decide +kernel
theorem dX7_isThere_7 : decode cX7_isThere 7 = .ok (.iconst 1, 1) := by decide +kernel
theorem dX7_isThere_8 : decode cX7_isThere 8 = .ok (.iand, 1) := by decide +kernel
theorem dX7_isThere_9 : decode cX7_isThere 9 = .ok (.iconst 1, 1) := by decide +kernel
theorem dX7_isThere_10 : decode cX7_isThere 10 = .ok (.if_icmp .ne 7, 3) := by decide +kernel
theorem dX7_isThere_13 : decode cX7_isThere 13 = .ok (.iconst 1, 1) := by decide +kernel
theorem dX7_isThere_14 : decode cX7_isThere 14 = .ok (.goto 4, 3) := by decide +kernel
theorem dX7_isThere_17 : decode cX7_isThere 17 = .ok (.iconst 0, 1) := by decide +kernel
theorem dX7_isThere_18 : decode cX7_isThere 18 = .ok (.istore_n 3, 1) := by decide +kernel
theorem dX7_isThere_19 : decode cX7_isThere 19 = .ok (.iconst 0, 1) := by decide +kernel
theorem dX7_isThere_20 : decode cX7_isThere 20 = .ok (.istore 4, 2) := by decide +kernel
theorem dX7_isThere_22 : decode cX7_isThere 22 = .ok (.iload 4, 2) := by decide +kernel
theorem dX7_isThere_24 : decode cX7_isThere 24 = .ok (.bipush 6, 2) := by decide +kernel
theorem dX7_isThere_26 : decode cX7_isThere 26 = .ok (.if_icmp .ge 43, 3) := by decide +kernel
theorem dX7_isThere_29 : decode cX7_isThere 29 = .ok (.iload_n 3, 1) := by decide +kernel
theorem dX7_isThere_30 : decode cX7_isThere 30 = .ok (.ifCond .ne 27, 3) := by decide +kernel
theorem dX7_isThere_33 : decode cX7_isThere 33 = .ok (.aload_n 0, 1) := by decide +kernel
theorem dX7_isThere_34 : decode cX7_isThere 34 = .ok (.iload_n 1, 1) := by decide +kernel
theorem dX7_isThere_35 : decode cX7_isThere 35 = .ok (.iload 4, 2) := by decide +kernel
theorem dX7_isThere_37 : decode cX7_isThere 37 = .ok (.invokevirtual 95, 3) := by decide +kernel
theorem dX7_isThere_40 : decode cX7_isThere 40 = .ok (.ifCond .eq 21, 3) := by decide +kernel
theorem dX7_isThere_43 : decode cX7_isThere 43 = .ok (.aload_n 0, 1) := by decide +kernel
theorem dX7_isThere_44 : decode cX7_isThere 44 = .ok (.iload 4, 2) := by decide +kernel
theorem dX7_isThere_46 : decode cX7_isThere 46 = .ok (.invokevirtual 91, 3) := by decide +kernel
theorem dX7_isThere_49 : decode cX7_isThere 49 = .ok (.iload_n 2, 1) := by decide +kernel
theorem dX7_isThere_50 : decode cX7_isThere 50 = .ok (.ishr, 1) := by decide +kernel
theorem dX7_isThere_51 : decode cX7_isThere 51 = .ok (.iconst 1, 1) := by decide +kernel
theorem dX7_isThere_52 : decode cX7_isThere 52 = .ok (.iand, 1) := by decide +kernel
theorem dX7_isThere_53 : decode cX7_isThere 53 = .ok (.iconst 1, 1) := by decide +kernel
theorem dX7_isThere_54 : decode cX7_isThere 54 = .ok (.if_icmp .ne 7, 3) := by decide +kernel
theorem dX7_isThere_57 : decode cX7_isThere 57 = .ok (.iconst 1, 1) := by decide +kernel
theorem dX7_isThere_58 : decode cX7_isThere 58 = .ok (.goto 4, 3) := by decide +kernel
theorem dX7_isThere_61 : decode cX7_isThere 61 = .ok (.iconst 0, 1) := by decide +kernel
theorem dX7_isThere_62 : decode cX7_isThere 62 = .ok (.istore_n 3, 1) := by decide +kernel
theorem dX7_isThere_63 : decode cX7_isThere 63 = .ok (.iinc 4 1, 3) := by decide +kernel
theorem dX7_isThere_66 : decode cX7_isThere 66 = .ok (.goto (-44), 3) := by decide +kernel
theorem dX7_isThere_69 : decode cX7_isThere 69 = .ok (.iload_n 3, 1) := by decide +kernel
theorem dX7_isThere_70 : decode cX7_isThere 70 = .ok (.ireturn, 1) := by decide +kernel
theorem dX7_isSecond_0 : decode cX7_isSecond 0 = .ok (.iconst 0, 1) := by decide +kernel
theorem dX7_isSecond_1 : decode cX7_isSecond 1 = .ok (.istore_n 3, 1) := by decide +kernel
theorem dX7_isSecond_2 : decode cX7_isSecond 2 = .ok (.iconst 0, 1) := by decide +kernel
theorem dX7_isSecond_3 : decode cX7_isSecond 3 = .ok (.istore 4, 2) := by decide +kernel
theorem dX7_isSecond_5 : decode cX7_isSecond 5 = .ok (.iload 4, 2) := by decide +kernel
theorem dX7_isSecond_7 : decode cX7_isSecond 7 = .ok (.iload_n 2, 1) := by decide +kernel
theorem dX7_isSecond_8 : decode cX7_isSecond 8 = .ok (.if_icmp .ge 45, 3) := by decide +kernel
theorem dX7_isSecond_11 : decode cX7_isSecond 11 = .ok (.iload_n 3, 1) := by decide +kernel
theorem dX7_isSecond_12 : decode cX7_isSecond 12 = .ok (.ifCond .ne 29, 3) := by decide +kernel
theorem dX7_isSecond_15 : decode cX7_isSecond 15 = .ok (.aload_n 0, 1) := by decide +kernel
theorem dX7_isSecond_16 : decode cX7_isSecond 16 = .ok (.getfield 13, 3) := by decide +kernel
theorem dX7_isSecond_19 : decode cX7_isSecond 19 = .ok (.bipush 32, 2) := by decide +kernel
theorem dX7_isSecond_21 : decode cX7_isSecond 21 = .ok (.iload_n 1, 1) := by decide +kernel
theorem dX7_isSecond_22 : decode cX7_isSecond 22 = .ok (.imul, 1) := by decide +kernel
theorem dX7_isSecond_23 : decode cX7_isSecond 23 = .ok (.iload 4, 2) := by decide +kernel
theorem dX7_isSecond_25 : decode cX7_isSecond 25 = .ok (.iadd, 1) := by decide +kernel
theorem dX7_isSecond_26 : decode cX7_isSecond 26 = .ok (.iaload, 1) := by decide +kernel
theorem dX7_isSecond_27 : decode cX7_isSecond 27 = .ok (.aload_n 0, 1) := by decide +kernel
theorem dX7_isSecond_28 : decode cX7_isSecond 28 = .ok (.getfield 13, 3) := by decide +kernel
theorem dX7_isSecond_31 : decode cX7_isSecond 31 = .ok (.bipush 32, 2) := by decide +kernel
theorem dX7_isSecond_33 : decode cX7_isSecond 33 = .ok (.iload_n 1, 1) := by decide +kernel
theorem dX7_isSecond_34 : decode cX7_isSecond 34 = .ok (.imul, 1) := by decide +kernel
theorem dX7_isSecond_35 : decode cX7_isSecond 35 = .ok (.iload_n 2, 1) := by decide +kernel
theorem dX7_isSecond_36 : decode cX7_isSecond 36 = .ok (.iadd, 1) := by decide +kernel
theorem dX7_isSecond_37 : decode cX7_isSecond 37 = .ok (.iaload, 1) := by decide +kernel
theorem dX7_isSecond_38 : decode cX7_isSecond 38 = .ok (.if_icmp .ne 7, 3) := by decide +kernel
theorem dX7_isSecond_41 : decode cX7_isSecond 41 = .ok (.iconst 1, 1) := by decide +kernel
theorem dX7_isSecond_42 : decode cX7_isSecond 42 = .ok (.goto 4, 3) := by decide +kernel
theorem dX7_isSecond_45 : decode cX7_isSecond 45 = .ok (.iconst 0, 1) := by decide +kernel
theorem dX7_isSecond_46 : decode cX7_isSecond 46 = .ok (.istore_n 3, 1) := by decide +kernel
theorem dX7_isSecond_47 : decode cX7_isSecond 47 = .ok (.iinc 4 1, 3) := by decide +kernel
theorem dX7_isSecond_50 : decode cX7_isSecond 50 = .ok (.goto (-45), 3) := by decide +kernel
theorem dX7_isSecond_53 : decode cX7_isSecond 53 = .ok (.iload_n 3, 1) := by decide +kernel
theorem dX7_isSecond_54 : decode cX7_isSecond 54 = .ok (.ireturn, 1) := by decide +kernel
theorem dX7_isLone_0 : decode cX7_isLone 0 = .ok (.iconst 0, 1) := by decide +kernel
theorem dX7_isLone_1 : decode cX7_isLone 1 = .ok (.istore_n 3, 1) := by decide +kernel
theorem dX7_isLone_2 : decode cX7_isLone 2 = .ok (.aload_n 0, 1) := by decide +kernel
theorem dX7_isLone_3 : decode cX7_isLone 3 = .ok (.iload_n 1, 1) := by decide +kernel
theorem dX7_isLone_4 : decode cX7_isLone 4 = .ok (.iload_n 2, 1) := by decide +kernel
theorem dX7_isLone_5 : decode cX7_isLone 5 = .ok (.invokevirtual 84, 3) := by decide +kernel
theorem dX7_isLone_8 : decode cX7_isLone 8 = .ok (.iconst 4, 1) := by decide +kernel
theorem dX7_isLone_9 : decode cX7_isLone 9 = .ok (.if_icmp .ne 63, 3) := by decide +kernel
theorem dX7_isLone_12 : decode cX7_isLone 12 = .ok (.iconst 0, 1) := by decide +kernel
theorem dX7_isLone_13 : decode cX7_isLone 13 = .ok (.istore 4, 2) := by decide +kernel
theorem dX7_isLone_15 : decode cX7_isLone 15 = .ok (.iload 4, 2) := by decide +kernel
theorem dX7_isLone_17 : decode cX7_isLone 17 = .ok (.iload_n 2, 1) := by decide +kernel
theorem dX7_isLone_18 : decode cX7_isLone 18 = .ok (.if_icmp .ge 44, 3) := by decide +kernel
theorem dX7_isLone_21 : decode cX7_isLone 21 = .ok (.aload_n 0, 1) := by decide +kernel
theorem dX7_isLone_22 : decode cX7_isLone 22 = .ok (.iload_n 1, 1) := by decide +kernel
theorem dX7_isLone_23 : decode cX7_isLone 23 = .ok (.iload 4, 2) := by decide +kernel
theorem dX7_isLone_25 : decode cX7_isLone 25 = .ok (.invokevirtual 84, 3) := by decide +kernel
theorem dX7_isLone_28 : decode cX7_isLone 28 = .ok (.iconst 3, 1) := by decide +kernel
theorem dX7_isLone_29 : decode cX7_isLone 29 = .ok (.if_icmp .ne 9, 3) := by decide +kernel
theorem dX7_isLone_32 : decode cX7_isLone 32 = .ok (.iinc 3 1, 3) := by decide +kernel
theorem dX7_isLone_35 : decode cX7_isLone 35 = .ok (.goto 21, 3) := by decide +kernel
theorem dX7_isLone_38 : decode cX7_isLone 38 = .ok (.aload_n 0, 1) := by decide +kernel
theorem dX7_isLone_39 : decode cX7_isLone 39 = .ok (.iload_n 1, 1) := by decide +kernel
theorem dX7_isLone_40 : decode cX7_isLone 40 = .ok (.iload 4, 2) := by decide +kernel
theorem dX7_isLone_42 : decode cX7_isLone 42 = .ok (.invokevirtual 84, 3) := by decide +kernel
theorem dX7_isLone_45 : decode cX7_isLone 45 = .ok (.iconst 4, 1) := by decide +kernel
theorem dX7_isLone_46 : decode cX7_isLone 46 = .ok (.if_icmp .ne 10, 3) := by decide +kernel
theorem dX7_isLone_49 : decode cX7_isLone 49 = .ok (.iload_n 3, 1) := by decide +kernel
theorem dX7_isLone_50 : decode cX7_isLone 50 = .ok (.ifCond .le 6, 3) := by decide +kernel
theorem dX7_isLone_53 : decode cX7_isLone 53 = .ok (.iinc 3 (-1), 3) := by decide +kernel
theorem dX7_isLone_56 : decode cX7_isLone 56 = .ok (.iinc 4 1, 3) := by decide +kernel
theorem dX7_isLone_59 : decode cX7_isLone 59 = .ok (.goto (-44), 3) := by decide +kernel
theorem dX7_isLone_62 : decode cX7_isLone 62 = .ok (.iload_n 3, 1) := by decide +kernel
theorem dX7_isLone_63 : decode cX7_isLone 63 = .ok (.ifCond .ne 7, 3) := by decide +kernel
theorem dX7_isLone_66 : decode cX7_isLone 66 = .ok (.iconst 1, 1) := by decide +kernel
theorem dX7_isLone_67 : decode cX7_isLone 67 = .ok (.goto 4, 3) := by decide +kernel
theorem dX7_isLone_70 : decode cX7_isLone 70 = .ok (.iconst 0, 1) := by decide +kernel
theorem dX7_isLone_71 : decode cX7_isLone 71 = .ok (.ireturn, 1) := by decide +kernel
theorem dX7_isLone_72 : decode cX7_isLone 72 = .ok (.iload_n 2, 1) := by decide +kernel
theorem dX7_isLone_73 : decode cX7_isLone 73 = .ok (.istore 4, 2) := by decide +kernel
theorem dX7_isLone_75 : decode cX7_isLone 75 = .ok (.iload 4, 2) := by decide +kernel
theorem dX7_isLone_77 : decode cX7_isLone 77 = .ok (.aload_n 0, 1) := by decide +kernel
theorem dX7_isLone_78 : decode cX7_isLone 78 = .ok (.getfield 7, 3) := by decide +kernel
theorem dX7_isLone_81 : decode cX7_isLone 81 = .ok (.iload_n 1, 1) := by decide +kernel
theorem dX7_isLone_82 : decode cX7_isLone 82 = .ok (.iaload, 1) := by decide +kernel
theorem dX7_isLone_83 : decode cX7_isLone 83 = .ok (.if_icmp .ge 46, 3) := by decide +kernel
theorem dX7_isLone_86 : decode cX7_isLone 86 = .ok (.aload_n 0, 1) := by decide +kernel
theorem dX7_isLone_87 : decode cX7_isLone 87 = .ok (.iload_n 1, 1) := by decide +kernel
theorem dX7_isLone_88 : decode cX7_isLone 88 = .ok (.iload 4, 2) := by decide +kernel
theorem dX7_isLone_90 : decode cX7_isLone 90 = .ok (.invokevirtual 84, 3) := by decide +kernel
theorem dX7_isLone_93 : decode cX7_isLone 93 = .ok (.iconst 3, 1) := by decide +kernel
theorem dX7_isLone_94 : decode cX7_isLone 94 = .ok (.if_icmp .ne 9, 3) := by decide +kernel
theorem dX7_isLone_97 : decode cX7_isLone 97 = .ok (.iinc 3 1, 3) := by decide +kernel
theorem dX7_isLone_100 : decode cX7_isLone 100 = .ok (.goto 17, 3) := by decide +kernel
theorem dX7_isLone_103 : decode cX7_isLone 103 = .ok (.aload_n 0, 1) := by decide +kernel
theorem dX7_isLone_104 : decode cX7_isLone 104 = .ok (.iload_n 1, 1) := by decide +kernel
theorem dX7_isLone_105 : decode cX7_isLone 105 = .ok (.iload 4, 2) := by decide +kernel
theorem dX7_isLone_107 : decode cX7_isLone 107 = .ok (.invokevirtual 84, 3) := by decide +kernel
theorem dX7_isLone_110 : decode cX7_isLone 110 = .ok (.iconst 4, 1) := by decide +kernel
theorem dX7_isLone_111 : decode cX7_isLone 111 = .ok (.if_icmp .ne 6, 3) := by decide +kernel
theorem dX7_isLone_114 : decode cX7_isLone 114 = .ok (.iinc 3 (-1), 3) := by decide +kernel
theorem dX7_isLone_117 : decode cX7_isLone 117 = .ok (.iload_n 3, 1) := by decide +kernel
theorem dX7_isLone_118 : decode cX7_isLone 118 = .ok (.ifCond .ne 5, 3) := by decide +kernel
theorem dX7_isLone_121 : decode cX7_isLone 121 = .ok (.iconst 0, 1) := by decide +kernel
theorem dX7_isLone_122 : decode cX7_isLone 122 = .ok (.ireturn, 1) := by decide +kernel
theorem dX7_isLone_123 : decode cX7_isLone 123 = .ok (.iinc 4 1, 3) := by decide +kernel
theorem dX7_isLone_126 : decode cX7_isLone 126 = .ok (.goto (-51), 3) := by decide +kernel
theorem dX7_isLone_129 : decode cX7_isLone 129 = .ok (.iconst 1, 1) := by decide +kernel
theorem dX7_isLone_130 : decode cX7_isLone 130 = .ok (.ireturn, 1) := by decide +kernel
theorem dX7_breaks_0 : decode cX7_breaks 0 = .ok (.aload_n 0, 1) := by decide +kernel
theorem dX7_breaks_1 : decode cX7_breaks 1 = .ok (.iload_n 1, 1) := by decide +kernel
theorem dX7_breaks_2 : decode cX7_breaks 2 = .ok (.iload_n 2, 1) := by decide +kernel
theorem dX7_breaks_3 : decode cX7_breaks 3 = .ok (.invokevirtual 88, 3) := by decide +kernel
theorem dX7_breaks_6 : decode cX7_breaks 6 = .ok (.istore_n 3, 1) := by decide +kernel
theorem dX7_breaks_7 : decode cX7_breaks 7 = .ok (.aload_n 0, 1) := by decide +kernel
theorem dX7_breaks_8 : decode cX7_breaks 8 = .ok (.iload_n 1, 1) := by decide +kernel
theorem dX7_breaks_9 : decode cX7_breaks 9 = .ok (.iload_n 2, 1) := by decide +kernel
theorem dX7_breaks_10 : decode cX7_breaks 10 = .ok (.invokevirtual 84, 3) := by decide +kernel
theorem dX7_breaks_13 : decode cX7_breaks 13 = .ok (.tableswitch 133 0 5 #[39, 57, 72, 87, 87, 102], 39) := by decide +kernel
theorem dX7_breaks_52 : decode cX7_breaks 52 = .ok (.aload_n 0, 1) := by decide +kernel
theorem dX7_breaks_53 : decode cX7_breaks 53 = .ok (.getfield 99, 3) := by decide +kernel
theorem dX7_breaks_56 : decode cX7_breaks 56 = .ok (.iload_n 3, 1) := by decide +kernel
theorem dX7_breaks_57 : decode cX7_breaks 57 = .ok (.ishr, 1) := by decide +kernel
theorem dX7_breaks_58 : decode cX7_breaks 58 = .ok (.iconst 1, 1) := by decide +kernel
theorem dX7_breaks_59 : decode cX7_breaks 59 = .ok (.iand, 1) := by decide +kernel
theorem dX7_breaks_60 : decode cX7_breaks 60 = .ok (.iconst 1, 1) := by decide +kernel
theorem dX7_breaks_61 : decode cX7_breaks 61 = .ok (.if_icmp .ne 7, 3) := by decide +kernel
theorem dX7_breaks_64 : decode cX7_breaks 64 = .ok (.iconst 3, 1) := by decide +kernel
theorem dX7_breaks_65 : decode cX7_breaks 65 = .ok (.goto 4, 3) := by decide +kernel
theorem dX7_breaks_68 : decode cX7_breaks 68 = .ok (.iconst (-1), 1) := by decide +kernel
theorem dX7_breaks_69 : decode cX7_breaks 69 = .ok (.ireturn, 1) := by decide +kernel
theorem dX7_breaks_70 : decode cX7_breaks 70 = .ok (.aload_n 0, 1) := by decide +kernel
theorem dX7_breaks_71 : decode cX7_breaks 71 = .ok (.iload_n 1, 1) := by decide +kernel
theorem dX7_breaks_72 : decode cX7_breaks 72 = .ok (.iload_n 2, 1) := by decide +kernel
theorem dX7_breaks_73 : decode cX7_breaks 73 = .ok (.invokevirtual 103, 3) := by decide +kernel
theorem dX7_breaks_76 : decode cX7_breaks 76 = .ok (.ifCond .eq 7, 3) := by decide +kernel
theorem dX7_breaks_79 : decode cX7_breaks 79 = .ok (.iconst 1, 1) := by decide +kernel
theorem dX7_breaks_80 : decode cX7_breaks 80 = .ok (.goto 4, 3) := by decide +kernel
theorem dX7_breaks_83 : decode cX7_breaks 83 = .ok (.iconst (-1), 1) := by decide +kernel
theorem dX7_breaks_84 : decode cX7_breaks 84 = .ok (.ireturn, 1) := by decide +kernel
theorem dX7_breaks_85 : decode cX7_breaks 85 = .ok (.aload_n 0, 1) := by decide +kernel
theorem dX7_breaks_86 : decode cX7_breaks 86 = .ok (.iload_n 1, 1) := by decide +kernel
theorem dX7_breaks_87 : decode cX7_breaks 87 = .ok (.iload_n 3, 1) := by decide +kernel
theorem dX7_breaks_88 : decode cX7_breaks 88 = .ok (.invokevirtual 106, 3) := by decide +kernel
theorem dX7_breaks_91 : decode cX7_breaks 91 = .ok (.ifCond .eq 7, 3) := by decide +kernel
theorem dX7_breaks_94 : decode cX7_breaks 94 = .ok (.iconst (-1), 1) := by decide +kernel
theorem dX7_breaks_95 : decode cX7_breaks 95 = .ok (.goto 4, 3) := by decide +kernel
theorem dX7_breaks_98 : decode cX7_breaks 98 = .ok (.iconst 0, 1) := by decide +kernel
theorem dX7_breaks_99 : decode cX7_breaks 99 = .ok (.ireturn, 1) := by decide +kernel
theorem dX7_breaks_100 : decode cX7_breaks 100 = .ok (.aload_n 0, 1) := by decide +kernel
theorem dX7_breaks_101 : decode cX7_breaks 101 = .ok (.iload_n 1, 1) := by decide +kernel
theorem dX7_breaks_102 : decode cX7_breaks 102 = .ok (.iload_n 2, 1) := by decide +kernel
theorem dX7_breaks_103 : decode cX7_breaks 103 = .ok (.invokevirtual 109, 3) := by decide +kernel
theorem dX7_breaks_106 : decode cX7_breaks 106 = .ok (.ifCond .eq 7, 3) := by decide +kernel
theorem dX7_breaks_109 : decode cX7_breaks 109 = .ok (.iconst 2, 1) := by decide +kernel
theorem dX7_breaks_110 : decode cX7_breaks 110 = .ok (.goto 4, 3) := by decide +kernel
theorem dX7_breaks_113 : decode cX7_breaks 113 = .ok (.iconst (-1), 1) := by decide +kernel
theorem dX7_breaks_114 : decode cX7_breaks 114 = .ok (.ireturn, 1) := by decide +kernel
theorem dX7_breaks_115 : decode cX7_breaks 115 = .ok (.iload_n 3, 1) := by decide +kernel
theorem dX7_breaks_116 : decode cX7_breaks 116 = .ok (.bipush 6, 2) := by decide +kernel
theorem dX7_breaks_118 : decode cX7_breaks 118 = .ok (.irem, 1) := by decide +kernel
theorem dX7_breaks_119 : decode cX7_breaks 119 = .ok (.iload_n 1, 1) := by decide +kernel
theorem dX7_breaks_120 : decode cX7_breaks 120 = .ok (.if_icmp .eq 20, 3) := by decide +kernel
theorem dX7_breaks_123 : decode cX7_breaks 123 = .ok (.aload_n 0, 1) := by decide +kernel
theorem dX7_breaks_124 : decode cX7_breaks 124 = .ok (.iload_n 3, 1) := by decide +kernel
theorem dX7_breaks_125 : decode cX7_breaks 125 = .ok (.bipush 6, 2) := by decide +kernel
theorem dX7_breaks_127 : decode cX7_breaks 127 = .ok (.irem, 1) := by decide +kernel
theorem dX7_breaks_128 : decode cX7_breaks 128 = .ok (.invokevirtual 91, 3) := by decide +kernel
theorem dX7_breaks_131 : decode cX7_breaks 131 = .ok (.aload_n 0, 1) := by decide +kernel
theorem dX7_breaks_132 : decode cX7_breaks 132 = .ok (.iload_n 1, 1) := by decide +kernel
theorem dX7_breaks_133 : decode cX7_breaks 133 = .ok (.invokevirtual 112, 3) := by decide +kernel
theorem dX7_breaks_136 : decode cX7_breaks 136 = .ok (.iand, 1) := by decide +kernel
theorem dX7_breaks_137 : decode cX7_breaks 137 = .ok (.ifCond .ne 7, 3) := by decide +kernel
theorem dX7_breaks_140 : decode cX7_breaks 140 = .ok (.iconst 4, 1) := by decide +kernel
theorem dX7_breaks_141 : decode cX7_breaks 141 = .ok (.goto 4, 3) := by decide +kernel
theorem dX7_breaks_144 : decode cX7_breaks 144 = .ok (.iconst (-1), 1) := by decide +kernel
theorem dX7_breaks_145 : decode cX7_breaks 145 = .ok (.ireturn, 1) := by decide +kernel
theorem dX7_breaks_146 : decode cX7_breaks 146 = .ok (.iconst (-1), 1) := by decide +kernel
theorem dX7_breaks_147 : decode cX7_breaks 147 = .ok (.ireturn, 1) := by decide +kernel
theorem dX7_begins_0 : decode cX7_begins 0 = .ok (.aload_n 0, 1) := by decide +kernel
theorem dX7_begins_1 : decode cX7_begins 1 = .ok (.dup, 1) := by decide +kernel
theorem dX7_begins_2 : decode cX7_begins 2 = .ok (.getfield 115, 3) := by decide +kernel
theorem dX7_begins_5 : decode cX7_begins 5 = .ok (.iconst 1, 1) := by decide +kernel
theorem dX7_begins_6 : decode cX7_begins 6 = .ok (.iadd, 1) := by decide +kernel
theorem dX7_begins_7 : decode cX7_begins 7 = .ok (.putfield 115, 3) := by decide +kernel
theorem dX7_begins_10 : decode cX7_begins 10 = .ok (.aload_n 0, 1) := by decide +kernel
theorem dX7_begins_11 : decode cX7_begins 11 = .ok (.aload_n 0, 1) := by decide +kernel
theorem dX7_begins_12 : decode cX7_begins 12 = .ok (.getfield 118, 3) := by decide +kernel
theorem dX7_begins_15 : decode cX7_begins 15 = .ok (.putfield 121, 3) := by decide +kernel
theorem dX7_begins_18 : decode cX7_begins 18 = .ok (.iconst 0, 1) := by decide +kernel
theorem dX7_begins_19 : decode cX7_begins 19 = .ok (.istore_n 1, 1) := by decide +kernel
theorem dX7_begins_20 : decode cX7_begins 20 = .ok (.iload_n 1, 1) := by decide +kernel
theorem dX7_begins_21 : decode cX7_begins 21 = .ok (.aload_n 0, 1) := by decide +kernel
theorem dX7_begins_22 : decode cX7_begins 22 = .ok (.getfield 118, 3) := by decide +kernel
theorem dX7_begins_25 : decode cX7_begins 25 = .ok (.if_icmp .ge 69, 3) := by decide +kernel
theorem dX7_begins_28 : decode cX7_begins 28 = .ok (.aload_n 0, 1) := by decide +kernel
theorem dX7_begins_29 : decode cX7_begins 29 = .ok (.getfield 40, 3) := by decide +kernel
theorem dX7_begins_32 : decode cX7_begins 32 = .ok (.iload_n 1, 1) := by decide +kernel
theorem dX7_begins_33 : decode cX7_begins 33 = .ok (.aload_n 0, 1) := by decide +kernel
theorem dX7_begins_34 : decode cX7_begins 34 = .ok (.getfield 19, 3) := by decide +kernel
theorem dX7_begins_37 : decode cX7_begins 37 = .ok (.iload_n 1, 1) := by decide +kernel
theorem dX7_begins_38 : decode cX7_begins 38 = .ok (.iaload, 1) := by decide +kernel
theorem dX7_begins_39 : decode cX7_begins 39 = .ok (.iastore, 1) := by decide +kernel
theorem dX7_begins_40 : decode cX7_begins 40 = .ok (.aload_n 0, 1) := by decide +kernel
theorem dX7_begins_41 : decode cX7_begins 41 = .ok (.getfield 43, 3) := by decide +kernel
theorem dX7_begins_44 : decode cX7_begins 44 = .ok (.iload_n 1, 1) := by decide +kernel
theorem dX7_begins_45 : decode cX7_begins 45 = .ok (.aload_n 0, 1) := by decide +kernel
theorem dX7_begins_46 : decode cX7_begins 46 = .ok (.getfield 28, 3) := by decide +kernel
theorem dX7_begins_49 : decode cX7_begins 49 = .ok (.iload_n 1, 1) := by decide +kernel
theorem dX7_begins_50 : decode cX7_begins 50 = .ok (.iaload, 1) := by decide +kernel
theorem dX7_begins_51 : decode cX7_begins 51 = .ok (.iastore, 1) := by decide +kernel
theorem dX7_begins_52 : decode cX7_begins 52 = .ok (.aload_n 0, 1) := by decide +kernel
theorem dX7_begins_53 : decode cX7_begins 53 = .ok (.getfield 46, 3) := by decide +kernel
theorem dX7_begins_56 : decode cX7_begins 56 = .ok (.iload_n 1, 1) := by decide +kernel
theorem dX7_begins_57 : decode cX7_begins 57 = .ok (.aload_n 0, 1) := by decide +kernel
theorem dX7_begins_58 : decode cX7_begins 58 = .ok (.getfield 31, 3) := by decide +kernel
theorem dX7_begins_61 : decode cX7_begins 61 = .ok (.iload_n 1, 1) := by decide +kernel
theorem dX7_begins_62 : decode cX7_begins 62 = .ok (.iaload, 1) := by decide +kernel
theorem dX7_begins_63 : decode cX7_begins 63 = .ok (.iastore, 1) := by decide +kernel
theorem dX7_begins_64 : decode cX7_begins 64 = .ok (.aload_n 0, 1) := by decide +kernel
theorem dX7_begins_65 : decode cX7_begins 65 = .ok (.getfield 49, 3) := by decide +kernel
theorem dX7_begins_68 : decode cX7_begins 68 = .ok (.iload_n 1, 1) := by decide +kernel
theorem dX7_begins_69 : decode cX7_begins 69 = .ok (.aload_n 0, 1) := by decide +kernel
theorem dX7_begins_70 : decode cX7_begins 70 = .ok (.getfield 34, 3) := by decide +kernel
theorem dX7_begins_73 : decode cX7_begins 73 = .ok (.iload_n 1, 1) := by decide +kernel
theorem dX7_begins_74 : decode cX7_begins 74 = .ok (.iaload, 1) := by decide +kernel
theorem dX7_begins_75 : decode cX7_begins 75 = .ok (.iastore, 1) := by decide +kernel
theorem dX7_begins_76 : decode cX7_begins 76 = .ok (.aload_n 0, 1) := by decide +kernel
theorem dX7_begins_77 : decode cX7_begins 77 = .ok (.getfield 52, 3) := by decide +kernel
theorem dX7_begins_80 : decode cX7_begins 80 = .ok (.iload_n 1, 1) := by decide +kernel
theorem dX7_begins_81 : decode cX7_begins 81 = .ok (.aload_n 0, 1) := by decide +kernel
theorem dX7_begins_82 : decode cX7_begins 82 = .ok (.getfield 37, 3) := by decide +kernel
theorem dX7_begins_85 : decode cX7_begins 85 = .ok (.iload_n 1, 1) := by decide +kernel
theorem dX7_begins_86 : decode cX7_begins 86 = .ok (.iaload, 1) := by decide +kernel
theorem dX7_begins_87 : decode cX7_begins 87 = .ok (.iastore, 1) := by decide +kernel
theorem dX7_begins_88 : decode cX7_begins 88 = .ok (.iinc 1 1, 3) := by decide +kernel
theorem dX7_begins_91 : decode cX7_begins 91 = .ok (.goto (-71), 3) := by decide +kernel
theorem dX7_begins_94 : decode cX7_begins 94 = .ok (.return_, 1) := by decide +kernel
theorem dX7_had_0 : decode cX7_had 0 = .ok (.iconst 0, 1) := by decide +kernel
theorem dX7_had_1 : decode cX7_had 1 = .ok (.istore_n 3, 1) := by decide +kernel
theorem dX7_had_2 : decode cX7_had 2 = .ok (.iload_n 3, 1) := by decide +kernel
theorem dX7_had_3 : decode cX7_had 3 = .ok (.aload_n 0, 1) := by decide +kernel
theorem dX7_had_4 : decode cX7_had 4 = .ok (.getfield 121, 3) := by decide +kernel
theorem dX7_had_7 : decode cX7_had 7 = .ok (.if_icmp .ge 31, 3) := by decide +kernel
theorem dX7_had_10 : decode cX7_had 10 = .ok (.aload_n 0, 1) := by decide +kernel
theorem dX7_had_11 : decode cX7_had 11 = .ok (.getfield 40, 3) := by decide +kernel
theorem dX7_had_14 : decode cX7_had 14 = .ok (.iload_n 3, 1) := by decide +kernel
theorem dX7_had_15 : decode cX7_had 15 = .ok (.iaload, 1) := by decide +kernel
theorem dX7_had_16 : decode cX7_had 16 = .ok (.iload_n 1, 1) := by decide +kernel
theorem dX7_had_17 : decode cX7_had 17 = .ok (.if_icmp .ne 15, 3) := by decide +kernel
theorem dX7_had_20 : decode cX7_had 20 = .ok (.aload_n 0, 1) := by decide +kernel
theorem dX7_had_21 : decode cX7_had 21 = .ok (.getfield 43, 3) := by decide +kernel
theorem dX7_had_24 : decode cX7_had 24 = .ok (.iload_n 3, 1) := by decide +kernel
theorem dX7_had_25 : decode cX7_had 25 = .ok (.iaload, 1) := by decide +kernel
theorem dX7_had_26 : decode cX7_had 26 = .ok (.iload_n 2, 1) := by decide +kernel
theorem dX7_had_27 : decode cX7_had 27 = .ok (.if_icmp .ne 5, 3) := by decide +kernel
theorem dX7_had_30 : decode cX7_had 30 = .ok (.iload_n 3, 1) := by decide +kernel
theorem dX7_had_31 : decode cX7_had 31 = .ok (.ireturn, 1) := by decide +kernel
theorem dX7_had_32 : decode cX7_had 32 = .ok (.iinc 3 1, 3) := by decide +kernel
theorem dX7_had_35 : decode cX7_had 35 = .ok (.goto (-33), 3) := by decide +kernel
theorem dX7_had_38 : decode cX7_had 38 = .ok (.iconst (-1), 1) := by decide +kernel
theorem dX7_had_39 : decode cX7_had 39 = .ok (.ireturn, 1) := by decide +kernel
theorem dX7_find_0 : decode cX7_find 0 = .ok (.iconst 0, 1) := by decide +kernel
theorem dX7_find_1 : decode cX7_find 1 = .ok (.istore_n 3, 1) := by decide +kernel
theorem dX7_find_2 : decode cX7_find 2 = .ok (.iload_n 3, 1) := by decide +kernel
theorem dX7_find_3 : decode cX7_find 3 = .ok (.aload_n 0, 1) := by decide +kernel
theorem dX7_find_4 : decode cX7_find 4 = .ok (.getfield 118, 3) := by decide +kernel
theorem dX7_find_7 : decode cX7_find 7 = .ok (.if_icmp .ge 31, 3) := by decide +kernel
theorem dX7_find_10 : decode cX7_find 10 = .ok (.aload_n 0, 1) := by decide +kernel
theorem dX7_find_11 : decode cX7_find 11 = .ok (.getfield 19, 3) := by decide +kernel
theorem dX7_find_14 : decode cX7_find 14 = .ok (.iload_n 3, 1) := by decide +kernel
theorem dX7_find_15 : decode cX7_find 15 = .ok (.iaload, 1) := by decide +kernel
theorem dX7_find_16 : decode cX7_find 16 = .ok (.iload_n 1, 1) := by decide +kernel
theorem dX7_find_17 : decode cX7_find 17 = .ok (.if_icmp .ne 15, 3) := by decide +kernel
theorem dX7_find_20 : decode cX7_find 20 = .ok (.aload_n 0, 1) := by decide +kernel
theorem dX7_find_21 : decode cX7_find 21 = .ok (.getfield 28, 3) := by decide +kernel
theorem dX7_find_24 : decode cX7_find 24 = .ok (.iload_n 3, 1) := by decide +kernel
theorem dX7_find_25 : decode cX7_find 25 = .ok (.iaload, 1) := by decide +kernel
theorem dX7_find_26 : decode cX7_find 26 = .ok (.iload_n 2, 1) := by decide +kernel
theorem dX7_find_27 : decode cX7_find 27 = .ok (.if_icmp .ne 5, 3) := by decide +kernel
theorem dX7_find_30 : decode cX7_find 30 = .ok (.iload_n 3, 1) := by decide +kernel
theorem dX7_find_31 : decode cX7_find 31 = .ok (.ireturn, 1) := by decide +kernel
theorem dX7_find_32 : decode cX7_find 32 = .ok (.iinc 3 1, 3) := by decide +kernel
theorem dX7_find_35 : decode cX7_find 35 = .ok (.goto (-33), 3) := by decide +kernel
theorem dX7_find_38 : decode cX7_find 38 = .ok (.iconst (-1), 1) := by decide +kernel
theorem dX7_find_39 : decode cX7_find 39 = .ok (.ireturn, 1) := by decide +kernel
theorem dX7_finds_0 : decode cX7_finds 0 = .ok (.aload_n 0, 1) := by decide +kernel
theorem dX7_finds_1 : decode cX7_finds 1 = .ok (.iconst 0, 1) := by decide +kernel
theorem dX7_finds_2 : decode cX7_finds 2 = .ok (.putfield 118, 3) := by decide +kernel
theorem dX7_finds_5 : decode cX7_finds 5 = .ok (.iconst 0, 1) := by decide +kernel
theorem dX7_finds_6 : decode cX7_finds 6 = .ok (.istore_n 1, 1) := by decide +kernel
theorem dX7_finds_7 : decode cX7_finds 7 = .ok (.iload_n 1, 1) := by decide +kernel
theorem dX7_finds_8 : decode cX7_finds 8 = .ok (.bipush 6, 2) := by decide +kernel
theorem dX7_finds_10 : decode cX7_finds 10 = .ok (.if_icmp .ge 201, 3) := by decide +kernel
theorem dX7_finds_13 : decode cX7_finds 13 = .ok (.iconst 0, 1) := by decide +kernel
theorem dX7_finds_14 : decode cX7_finds 14 = .ok (.istore_n 2, 1) := by decide +kernel
theorem dX7_finds_15 : decode cX7_finds 15 = .ok (.iload_n 2, 1) := by decide +kernel
theorem dX7_finds_16 : decode cX7_finds 16 = .ok (.aload_n 0, 1) := by decide +kernel
theorem dX7_finds_17 : decode cX7_finds 17 = .ok (.getfield 7, 3) := by decide +kernel
theorem dX7_finds_20 : decode cX7_finds 20 = .ok (.iload_n 1, 1) := by decide +kernel
theorem dX7_finds_21 : decode cX7_finds 21 = .ok (.iaload, 1) := by decide +kernel
theorem dX7_finds_22 : decode cX7_finds 22 = .ok (.if_icmp .ge 183, 3) := by decide +kernel
theorem dX7_finds_25 : decode cX7_finds 25 = .ok (.aload_n 0, 1) := by decide +kernel
theorem dX7_finds_26 : decode cX7_finds 26 = .ok (.iload_n 1, 1) := by decide +kernel
theorem dX7_finds_27 : decode cX7_finds 27 = .ok (.iload_n 2, 1) := by decide +kernel
theorem dX7_finds_28 : decode cX7_finds 28 = .ok (.invokevirtual 124, 3) := by decide +kernel
theorem dX7_finds_31 : decode cX7_finds 31 = .ok (.istore_n 3, 1) := by decide +kernel
theorem dX7_finds_32 : decode cX7_finds 32 = .ok (.iload_n 3, 1) := by decide +kernel
theorem dX7_finds_33 : decode cX7_finds 33 = .ok (.iconst (-1), 1) := by decide +kernel
theorem dX7_finds_34 : decode cX7_finds 34 = .ok (.if_icmp .ne 6, 3) := by decide +kernel
theorem dX7_finds_37 : decode cX7_finds 37 = .ok (.goto 162, 3) := by decide +kernel
theorem dX7_finds_40 : decode cX7_finds 40 = .ok (.aload_n 0, 1) := by decide +kernel
theorem dX7_finds_41 : decode cX7_finds 41 = .ok (.iload_n 3, 1) := by decide +kernel
theorem dX7_finds_42 : decode cX7_finds 42 = .ok (.aload_n 0, 1) := by decide +kernel
theorem dX7_finds_43 : decode cX7_finds 43 = .ok (.getfield 16, 3) := by decide +kernel
theorem dX7_finds_46 : decode cX7_finds 46 = .ok (.bipush 32, 2) := by decide +kernel
theorem dX7_finds_48 : decode cX7_finds 48 = .ok (.iload_n 1, 1) := by decide +kernel
theorem dX7_finds_49 : decode cX7_finds 49 = .ok (.imul, 1) := by decide +kernel
theorem dX7_finds_50 : decode cX7_finds 50 = .ok (.iload_n 2, 1) := by decide +kernel
theorem dX7_finds_51 : decode cX7_finds 51 = .ok (.iadd, 1) := by decide +kernel
theorem dX7_finds_52 : decode cX7_finds 52 = .ok (.iaload, 1) := by decide +kernel
theorem dX7_finds_53 : decode cX7_finds 53 = .ok (.invokevirtual 127, 3) := by decide +kernel
theorem dX7_finds_56 : decode cX7_finds 56 = .ok (.istore 4, 2) := by decide +kernel
theorem dX7_finds_58 : decode cX7_finds 58 = .ok (.aload_n 0, 1) := by decide +kernel
theorem dX7_finds_59 : decode cX7_finds 59 = .ok (.getfield 19, 3) := by decide +kernel
theorem dX7_finds_62 : decode cX7_finds 62 = .ok (.aload_n 0, 1) := by decide +kernel
theorem dX7_finds_63 : decode cX7_finds 63 = .ok (.getfield 118, 3) := by decide +kernel
theorem dX7_finds_66 : decode cX7_finds 66 = .ok (.iload_n 3, 1) := by decide +kernel
theorem dX7_finds_67 : decode cX7_finds 67 = .ok (.iastore, 1) := by decide +kernel
theorem dX7_finds_68 : decode cX7_finds 68 = .ok (.aload_n 0, 1) := by decide +kernel
theorem dX7_finds_69 : decode cX7_finds 69 = .ok (.getfield 22, 3) := by decide +kernel
theorem dX7_finds_72 : decode cX7_finds 72 = .ok (.aload_n 0, 1) := by decide +kernel
theorem dX7_finds_73 : decode cX7_finds 73 = .ok (.getfield 118, 3) := by decide +kernel
theorem dX7_finds_76 : decode cX7_finds 76 = .ok (.iload_n 1, 1) := by decide +kernel
theorem dX7_finds_77 : decode cX7_finds 77 = .ok (.iastore, 1) := by decide +kernel
theorem dX7_finds_78 : decode cX7_finds 78 = .ok (.aload_n 0, 1) := by decide +kernel
theorem dX7_finds_79 : decode cX7_finds 79 = .ok (.getfield 25, 3) := by decide +kernel
theorem dX7_finds_82 : decode cX7_finds 82 = .ok (.aload_n 0, 1) := by decide +kernel
theorem dX7_finds_83 : decode cX7_finds 83 = .ok (.getfield 118, 3) := by decide +kernel
theorem dX7_finds_86 : decode cX7_finds 86 = .ok (.iload_n 2, 1) := by decide +kernel
theorem dX7_finds_87 : decode cX7_finds 87 = .ok (.iastore, 1) := by decide +kernel
theorem dX7_finds_88 : decode cX7_finds 88 = .ok (.aload_n 0, 1) := by decide +kernel
theorem dX7_finds_89 : decode cX7_finds 89 = .ok (.getfield 28, 3) := by decide +kernel
theorem dX7_finds_92 : decode cX7_finds 92 = .ok (.aload_n 0, 1) := by decide +kernel
theorem dX7_finds_93 : decode cX7_finds 93 = .ok (.getfield 118, 3) := by decide +kernel
theorem dX7_finds_96 : decode cX7_finds 96 = .ok (.aload_n 0, 1) := by decide +kernel
theorem dX7_finds_97 : decode cX7_finds 97 = .ok (.getfield 16, 3) := by decide +kernel
theorem dX7_finds_100 : decode cX7_finds 100 = .ok (.bipush 32, 2) := by decide +kernel
theorem dX7_finds_102 : decode cX7_finds 102 = .ok (.iload_n 1, 1) := by decide +kernel
theorem dX7_finds_103 : decode cX7_finds 103 = .ok (.imul, 1) := by decide +kernel
theorem dX7_finds_104 : decode cX7_finds 104 = .ok (.iload_n 2, 1) := by decide +kernel
theorem dX7_finds_105 : decode cX7_finds 105 = .ok (.iadd, 1) := by decide +kernel
theorem dX7_finds_106 : decode cX7_finds 106 = .ok (.iaload, 1) := by decide +kernel
theorem dX7_finds_107 : decode cX7_finds 107 = .ok (.iastore, 1) := by decide +kernel
theorem dX7_finds_108 : decode cX7_finds 108 = .ok (.aload_n 0, 1) := by decide +kernel
theorem dX7_finds_109 : decode cX7_finds 109 = .ok (.getfield 31, 3) := by decide +kernel
theorem dX7_finds_112 : decode cX7_finds 112 = .ok (.aload_n 0, 1) := by decide +kernel
theorem dX7_finds_113 : decode cX7_finds 113 = .ok (.getfield 118, 3) := by decide +kernel
theorem dX7_finds_116 : decode cX7_finds 116 = .ok (.iload 4, 2) := by decide +kernel
theorem dX7_finds_118 : decode cX7_finds 118 = .ok (.iconst (-1), 1) := by decide +kernel
theorem dX7_finds_119 : decode cX7_finds 119 = .ok (.if_icmp .ne 10, 3) := by decide +kernel
theorem dX7_finds_122 : decode cX7_finds 122 = .ok (.aload_n 0, 1) := by decide +kernel
theorem dX7_finds_123 : decode cX7_finds 123 = .ok (.getfield 115, 3) := by decide +kernel
theorem dX7_finds_126 : decode cX7_finds 126 = .ok (.goto 10, 3) := by decide +kernel
theorem dX7_finds_129 : decode cX7_finds 129 = .ok (.aload_n 0, 1) := by decide +kernel
theorem dX7_finds_130 : decode cX7_finds 130 = .ok (.getfield 46, 3) := by decide +kernel
theorem dX7_finds_133 : decode cX7_finds 133 = .ok (.iload 4, 2) := by decide +kernel
theorem dX7_finds_135 : decode cX7_finds 135 = .ok (.iaload, 1) := by decide +kernel
theorem dX7_finds_136 : decode cX7_finds 136 = .ok (.iastore, 1) := by decide +kernel
theorem dX7_finds_137 : decode cX7_finds 137 = .ok (.aload_n 0, 1) := by decide +kernel
theorem dX7_finds_138 : decode cX7_finds 138 = .ok (.getfield 34, 3) := by decide +kernel
theorem dX7_finds_141 : decode cX7_finds 141 = .ok (.aload_n 0, 1) := by decide +kernel
theorem dX7_finds_142 : decode cX7_finds 142 = .ok (.getfield 118, 3) := by decide +kernel
theorem dX7_finds_145 : decode cX7_finds 145 = .ok (.iload 4, 2) := by decide +kernel
theorem dX7_finds_147 : decode cX7_finds 147 = .ok (.iconst (-1), 1) := by decide +kernel
theorem dX7_finds_148 : decode cX7_finds 148 = .ok (.if_icmp .ne 7, 3) := by decide +kernel
theorem dX7_finds_151 : decode cX7_finds 151 = .ok (.iconst 0, 1) := by decide +kernel
theorem dX7_finds_152 : decode cX7_finds 152 = .ok (.goto 10, 3) := by decide +kernel
theorem dX7_finds_155 : decode cX7_finds 155 = .ok (.aload_n 0, 1) := by decide +kernel
theorem dX7_finds_156 : decode cX7_finds 156 = .ok (.getfield 49, 3) := by decide +kernel
theorem dX7_finds_159 : decode cX7_finds 159 = .ok (.iload 4, 2) := by decide +kernel
theorem dX7_finds_161 : decode cX7_finds 161 = .ok (.iaload, 1) := by decide +kernel
theorem dX7_finds_162 : decode cX7_finds 162 = .ok (.iastore, 1) := by decide +kernel
theorem dX7_finds_163 : decode cX7_finds 163 = .ok (.aload_n 0, 1) := by decide +kernel
theorem dX7_finds_164 : decode cX7_finds 164 = .ok (.getfield 37, 3) := by decide +kernel
theorem dX7_finds_167 : decode cX7_finds 167 = .ok (.aload_n 0, 1) := by decide +kernel
theorem dX7_finds_168 : decode cX7_finds 168 = .ok (.getfield 118, 3) := by decide +kernel
theorem dX7_finds_171 : decode cX7_finds 171 = .ok (.iload 4, 2) := by decide +kernel
theorem dX7_finds_173 : decode cX7_finds 173 = .ok (.iconst (-1), 1) := by decide +kernel
theorem dX7_finds_174 : decode cX7_finds 174 = .ok (.if_icmp .ne 7, 3) := by decide +kernel
theorem dX7_finds_177 : decode cX7_finds 177 = .ok (.iconst (-1), 1) := by decide +kernel
theorem dX7_finds_178 : decode cX7_finds 178 = .ok (.goto 10, 3) := by decide +kernel
theorem dX7_finds_181 : decode cX7_finds 181 = .ok (.aload_n 0, 1) := by decide +kernel
theorem dX7_finds_182 : decode cX7_finds 182 = .ok (.getfield 52, 3) := by decide +kernel
theorem dX7_finds_185 : decode cX7_finds 185 = .ok (.iload 4, 2) := by decide +kernel
theorem dX7_finds_187 : decode cX7_finds 187 = .ok (.iaload, 1) := by decide +kernel
theorem dX7_finds_188 : decode cX7_finds 188 = .ok (.iastore, 1) := by decide +kernel
theorem dX7_finds_189 : decode cX7_finds 189 = .ok (.aload_n 0, 1) := by decide +kernel
theorem dX7_finds_190 : decode cX7_finds 190 = .ok (.dup, 1) := by decide +kernel
theorem dX7_finds_191 : decode cX7_finds 191 = .ok (.getfield 118, 3) := by decide +kernel
theorem dX7_finds_194 : decode cX7_finds 194 = .ok (.iconst 1, 1) := by decide +kernel
theorem dX7_finds_195 : decode cX7_finds 195 = .ok (.iadd, 1) := by decide +kernel
theorem dX7_finds_196 : decode cX7_finds 196 = .ok (.putfield 118, 3) := by decide +kernel
theorem dX7_finds_199 : decode cX7_finds 199 = .ok (.iinc 2 1, 3) := by decide +kernel
theorem dX7_finds_202 : decode cX7_finds 202 = .ok (.goto (-187), 3) := by decide +kernel
theorem dX7_finds_205 : decode cX7_finds 205 = .ok (.iinc 1 1, 3) := by decide +kernel
theorem dX7_finds_208 : decode cX7_finds 208 = .ok (.goto (-201), 3) := by decide +kernel
theorem dX7_finds_211 : decode cX7_finds 211 = .ok (.iconst 0, 1) := by decide +kernel
theorem dX7_finds_212 : decode cX7_finds 212 = .ok (.istore_n 1, 1) := by decide +kernel
theorem dX7_finds_213 : decode cX7_finds 213 = .ok (.iload_n 1, 1) := by decide +kernel
theorem dX7_finds_214 : decode cX7_finds 214 = .ok (.aload_n 0, 1) := by decide +kernel
theorem dX7_finds_215 : decode cX7_finds 215 = .ok (.getfield 121, 3) := by decide +kernel
theorem dX7_finds_218 : decode cX7_finds 218 = .ok (.if_icmp .ge 51, 3) := by decide +kernel
theorem dX7_finds_221 : decode cX7_finds 221 = .ok (.aload_n 0, 1) := by decide +kernel
theorem dX7_finds_222 : decode cX7_finds 222 = .ok (.aload_n 0, 1) := by decide +kernel
theorem dX7_finds_223 : decode cX7_finds 223 = .ok (.getfield 40, 3) := by decide +kernel
theorem dX7_finds_226 : decode cX7_finds 226 = .ok (.iload_n 1, 1) := by decide +kernel
theorem dX7_finds_227 : decode cX7_finds 227 = .ok (.iaload, 1) := by decide +kernel
theorem dX7_finds_228 : decode cX7_finds 228 = .ok (.aload_n 0, 1) := by decide +kernel
theorem dX7_finds_229 : decode cX7_finds 229 = .ok (.getfield 43, 3) := by decide +kernel
theorem dX7_finds_232 : decode cX7_finds 232 = .ok (.iload_n 1, 1) := by decide +kernel
theorem dX7_finds_233 : decode cX7_finds 233 = .ok (.iaload, 1) := by decide +kernel
theorem dX7_finds_234 : decode cX7_finds 234 = .ok (.invokevirtual 130, 3) := by decide +kernel
theorem dX7_finds_237 : decode cX7_finds 237 = .ok (.iconst (-1), 1) := by decide +kernel
theorem dX7_finds_238 : decode cX7_finds 238 = .ok (.if_icmp .ne 25, 3) := by decide +kernel
theorem dX7_finds_241 : decode cX7_finds 241 = .ok (.aload_n 0, 1) := by decide +kernel
theorem dX7_finds_242 : decode cX7_finds 242 = .ok (.aload_n 0, 1) := by decide +kernel
theorem dX7_finds_243 : decode cX7_finds 243 = .ok (.getfield 40, 3) := by decide +kernel
theorem dX7_finds_246 : decode cX7_finds 246 = .ok (.iload_n 1, 1) := by decide +kernel
theorem dX7_finds_247 : decode cX7_finds 247 = .ok (.iaload, 1) := by decide +kernel
theorem dX7_finds_248 : decode cX7_finds 248 = .ok (.aload_n 0, 1) := by decide +kernel
theorem dX7_finds_249 : decode cX7_finds 249 = .ok (.getfield 43, 3) := by decide +kernel
theorem dX7_finds_252 : decode cX7_finds 252 = .ok (.iload_n 1, 1) := by decide +kernel
theorem dX7_finds_253 : decode cX7_finds 253 = .ok (.iaload, 1) := by decide +kernel
theorem dX7_finds_254 : decode cX7_finds 254 = .ok (.aload_n 0, 1) := by decide +kernel
theorem dX7_finds_255 : decode cX7_finds 255 = .ok (.getfield 46, 3) := by decide +kernel
theorem dX7_finds_258 : decode cX7_finds 258 = .ok (.iload_n 1, 1) := by decide +kernel
theorem dX7_finds_259 : decode cX7_finds 259 = .ok (.iaload, 1) := by decide +kernel
theorem dX7_finds_260 : decode cX7_finds 260 = .ok (.invokevirtual 133, 3) := by decide +kernel
theorem dX7_finds_263 : decode cX7_finds 263 = .ok (.iinc 1 1, 3) := by decide +kernel
theorem dX7_finds_266 : decode cX7_finds 266 = .ok (.goto (-53), 3) := by decide +kernel
theorem dX7_finds_269 : decode cX7_finds 269 = .ok (.return_, 1) := by decide +kernel
theorem dX7_logs_0 : decode cX7_logs 0 = .ok (.aload_n 0, 1) := by decide +kernel
theorem dX7_logs_1 : decode cX7_logs 1 = .ok (.getfield 137, 3) := by decide +kernel
theorem dX7_logs_4 : decode cX7_logs 4 = .ok (.bipush 60, 2) := by decide +kernel
theorem dX7_logs_6 : decode cX7_logs 6 = .ok (.if_icmp .ne 95, 3) := by decide +kernel
theorem dX7_logs_9 : decode cX7_logs 9 = .ok (.iconst 0, 1) := by decide +kernel
theorem dX7_logs_10 : decode cX7_logs 10 = .ok (.istore 4, 2) := by decide +kernel
theorem dX7_logs_12 : decode cX7_logs 12 = .ok (.iload 4, 2) := by decide +kernel
theorem dX7_logs_14 : decode cX7_logs 14 = .ok (.iconst 1, 1) := by decide +kernel
theorem dX7_logs_15 : decode cX7_logs 15 = .ok (.iadd, 1) := by decide +kernel
theorem dX7_logs_16 : decode cX7_logs 16 = .ok (.bipush 60, 2) := by decide +kernel
theorem dX7_logs_18 : decode cX7_logs 18 = .ok (.if_icmp .ge 73, 3) := by decide +kernel
theorem dX7_logs_21 : decode cX7_logs 21 = .ok (.aload_n 0, 1) := by decide +kernel
theorem dX7_logs_22 : decode cX7_logs 22 = .ok (.getfield 55, 3) := by decide +kernel
theorem dX7_logs_25 : decode cX7_logs 25 = .ok (.iload 4, 2) := by decide +kernel
theorem dX7_logs_27 : decode cX7_logs 27 = .ok (.aload_n 0, 1) := by decide +kernel
theorem dX7_logs_28 : decode cX7_logs 28 = .ok (.getfield 55, 3) := by decide +kernel
theorem dX7_logs_31 : decode cX7_logs 31 = .ok (.iload 4, 2) := by decide +kernel
theorem dX7_logs_33 : decode cX7_logs 33 = .ok (.iconst 1, 1) := by decide +kernel
theorem dX7_logs_34 : decode cX7_logs 34 = .ok (.iadd, 1) := by decide +kernel
theorem dX7_logs_35 : decode cX7_logs 35 = .ok (.iaload, 1) := by decide +kernel
theorem dX7_logs_36 : decode cX7_logs 36 = .ok (.iastore, 1) := by decide +kernel
theorem dX7_logs_37 : decode cX7_logs 37 = .ok (.aload_n 0, 1) := by decide +kernel
theorem dX7_logs_38 : decode cX7_logs 38 = .ok (.getfield 58, 3) := by decide +kernel
theorem dX7_logs_41 : decode cX7_logs 41 = .ok (.iload 4, 2) := by decide +kernel
theorem dX7_logs_43 : decode cX7_logs 43 = .ok (.aload_n 0, 1) := by decide +kernel
theorem dX7_logs_44 : decode cX7_logs 44 = .ok (.getfield 58, 3) := by decide +kernel
theorem dX7_logs_47 : decode cX7_logs 47 = .ok (.iload 4, 2) := by decide +kernel
theorem dX7_logs_49 : decode cX7_logs 49 = .ok (.iconst 1, 1) := by decide +kernel
theorem dX7_logs_50 : decode cX7_logs 50 = .ok (.iadd, 1) := by decide +kernel
theorem dX7_logs_51 : decode cX7_logs 51 = .ok (.iaload, 1) := by decide +kernel
theorem dX7_logs_52 : decode cX7_logs 52 = .ok (.iastore, 1) := by decide +kernel
theorem dX7_logs_53 : decode cX7_logs 53 = .ok (.aload_n 0, 1) := by decide +kernel
theorem dX7_logs_54 : decode cX7_logs 54 = .ok (.getfield 61, 3) := by decide +kernel
theorem dX7_logs_57 : decode cX7_logs 57 = .ok (.iload 4, 2) := by decide +kernel
theorem dX7_logs_59 : decode cX7_logs 59 = .ok (.aload_n 0, 1) := by decide +kernel
theorem dX7_logs_60 : decode cX7_logs 60 = .ok (.getfield 61, 3) := by decide +kernel
theorem dX7_logs_63 : decode cX7_logs 63 = .ok (.iload 4, 2) := by decide +kernel
theorem dX7_logs_65 : decode cX7_logs 65 = .ok (.iconst 1, 1) := by decide +kernel
theorem dX7_logs_66 : decode cX7_logs 66 = .ok (.iadd, 1) := by decide +kernel
theorem dX7_logs_67 : decode cX7_logs 67 = .ok (.iaload, 1) := by decide +kernel
theorem dX7_logs_68 : decode cX7_logs 68 = .ok (.iastore, 1) := by decide +kernel
theorem dX7_logs_69 : decode cX7_logs 69 = .ok (.aload_n 0, 1) := by decide +kernel
theorem dX7_logs_70 : decode cX7_logs 70 = .ok (.getfield 64, 3) := by decide +kernel
theorem dX7_logs_73 : decode cX7_logs 73 = .ok (.iload 4, 2) := by decide +kernel
theorem dX7_logs_75 : decode cX7_logs 75 = .ok (.aload_n 0, 1) := by decide +kernel
theorem dX7_logs_76 : decode cX7_logs 76 = .ok (.getfield 64, 3) := by decide +kernel
theorem dX7_logs_79 : decode cX7_logs 79 = .ok (.iload 4, 2) := by decide +kernel
theorem dX7_logs_81 : decode cX7_logs 81 = .ok (.iconst 1, 1) := by decide +kernel
theorem dX7_logs_82 : decode cX7_logs 82 = .ok (.iadd, 1) := by decide +kernel
theorem dX7_logs_83 : decode cX7_logs 83 = .ok (.iaload, 1) := by decide +kernel
theorem dX7_logs_84 : decode cX7_logs 84 = .ok (.iastore, 1) := by decide +kernel
theorem dX7_logs_85 : decode cX7_logs 85 = .ok (.iinc 4 1, 3) := by decide +kernel
theorem dX7_logs_88 : decode cX7_logs 88 = .ok (.goto (-76), 3) := by decide +kernel
theorem dX7_logs_91 : decode cX7_logs 91 = .ok (.aload_n 0, 1) := by decide +kernel
theorem dX7_logs_92 : decode cX7_logs 92 = .ok (.dup, 1) := by decide +kernel
theorem dX7_logs_93 : decode cX7_logs 93 = .ok (.getfield 137, 3) := by decide +kernel
theorem dX7_logs_96 : decode cX7_logs 96 = .ok (.iconst 1, 1) := by decide +kernel
theorem dX7_logs_97 : decode cX7_logs 97 = .ok (.isub, 1) := by decide +kernel
theorem dX7_logs_98 : decode cX7_logs 98 = .ok (.putfield 137, 3) := by decide +kernel
theorem dX7_logs_101 : decode cX7_logs 101 = .ok (.aload_n 0, 1) := by decide +kernel
theorem dX7_logs_102 : decode cX7_logs 102 = .ok (.getfield 55, 3) := by decide +kernel
theorem dX7_logs_105 : decode cX7_logs 105 = .ok (.aload_n 0, 1) := by decide +kernel
theorem dX7_logs_106 : decode cX7_logs 106 = .ok (.getfield 137, 3) := by decide +kernel
theorem dX7_logs_109 : decode cX7_logs 109 = .ok (.iload_n 1, 1) := by decide +kernel
theorem dX7_logs_110 : decode cX7_logs 110 = .ok (.iastore, 1) := by decide +kernel
theorem dX7_logs_111 : decode cX7_logs 111 = .ok (.aload_n 0, 1) := by decide +kernel
theorem dX7_logs_112 : decode cX7_logs 112 = .ok (.getfield 58, 3) := by decide +kernel
theorem dX7_logs_115 : decode cX7_logs 115 = .ok (.aload_n 0, 1) := by decide +kernel
theorem dX7_logs_116 : decode cX7_logs 116 = .ok (.getfield 137, 3) := by decide +kernel
theorem dX7_logs_119 : decode cX7_logs 119 = .ok (.iload_n 2, 1) := by decide +kernel
theorem dX7_logs_120 : decode cX7_logs 120 = .ok (.iastore, 1) := by decide +kernel
theorem dX7_logs_121 : decode cX7_logs 121 = .ok (.aload_n 0, 1) := by decide +kernel
end
section
theorem dX7_logs_122 : decode cX7_logs 122 = .ok (.getfield 61, 3) := by decide +kernel
theorem dX7_logs_125 : decode cX7_logs 125 = .ok (.aload_n 0, 1) := by decide +kernel
theorem dX7_logs_126 : decode cX7_logs 126 = .ok (.getfield 137, 3) := by decide +kernel
theorem dX7_logs_129 : decode cX7_logs 129 = .ok (.iload_n 3, 1) := by decide +kernel
theorem dX7_logs_130 : decode cX7_logs 130 = .ok (.iastore, 1) := by decide +kernel
theorem dX7_logs_131 : decode cX7_logs 131 = .ok (.aload_n 0, 1) := by decide +kernel
theorem dX7_logs_132 : decode cX7_logs 132 = .ok (.getfield 64, 3) := by decide +kernel
theorem dX7_logs_135 : decode cX7_logs 135 = .ok (.aload_n 0, 1) := by decide +kernel
theorem dX7_logs_136 : decode cX7_logs 136 = .ok (.getfield 137, 3) := by decide +kernel
theorem dX7_logs_139 : decode cX7_logs 139 = .ok (.aload_n 0, 1) := by decide +kernel
theorem dX7_logs_140 : decode cX7_logs 140 = .ok (.getfield 115, 3) := by decide +kernel
theorem dX7_logs_143 : decode cX7_logs 143 = .ok (.iastore, 1) := by decide +kernel
theorem dX7_logs_144 : decode cX7_logs 144 = .ok (.aload_n 0, 1) := by decide +kernel
theorem dX7_logs_145 : decode cX7_logs 145 = .ok (.dup, 1) := by decide +kernel
theorem dX7_logs_146 : decode cX7_logs 146 = .ok (.getfield 137, 3) := by decide +kernel
theorem dX7_logs_149 : decode cX7_logs 149 = .ok (.iconst 1, 1) := by decide +kernel
theorem dX7_logs_150 : decode cX7_logs 150 = .ok (.iadd, 1) := by decide +kernel
theorem dX7_logs_151 : decode cX7_logs 151 = .ok (.putfield 137, 3) := by decide +kernel
theorem dX7_logs_154 : decode cX7_logs 154 = .ok (.return_, 1) := by decide +kernel
theorem dX7_log_0 : decode cX7_log 0 = .ok (.iload_n 1, 1) := by decide +kernel
theorem dX7_log_1 : decode cX7_log 1 = .ok (.iconst 0, 1) := by decide +kernel
theorem dX7_log_2 : decode cX7_log 2 = .ok (.aload_n 0, 1) := by decide +kernel
theorem dX7_log_3 : decode cX7_log 3 = .ok (.getfield 137, 3) := by decide +kernel
theorem dX7_log_6 : decode cX7_log 6 = .ok (.iconst 1, 1) := by decide +kernel
theorem dX7_log_7 : decode cX7_log 7 = .ok (.isub, 1) := by decide +kernel
theorem dX7_log_8 : decode cX7_log 8 = .ok (.invokestatic 76, 3) := by decide +kernel
theorem dX7_log_11 : decode cX7_log 11 = .ok (.ifCond .ne 5, 3) := by decide +kernel
theorem dX7_log_14 : decode cX7_log 14 = .ok (.iconst (-1), 1) := by decide +kernel
theorem dX7_log_15 : decode cX7_log 15 = .ok (.ireturn, 1) := by decide +kernel
theorem dX7_log_16 : decode cX7_log 16 = .ok (.aload_n 0, 1) := by decide +kernel
theorem dX7_log_17 : decode cX7_log 17 = .ok (.getfield 137, 3) := by decide +kernel
theorem dX7_log_20 : decode cX7_log 20 = .ok (.iconst 1, 1) := by decide +kernel
theorem dX7_log_21 : decode cX7_log 21 = .ok (.isub, 1) := by decide +kernel
theorem dX7_log_22 : decode cX7_log 22 = .ok (.iload_n 1, 1) := by decide +kernel
theorem dX7_log_23 : decode cX7_log 23 = .ok (.isub, 1) := by decide +kernel
theorem dX7_log_24 : decode cX7_log 24 = .ok (.istore_n 3, 1) := by decide +kernel
theorem dX7_log_25 : decode cX7_log 25 = .ok (.iload_n 2, 1) := by decide +kernel
theorem dX7_log_26 : decode cX7_log 26 = .ok (.ifCond .ne 12, 3) := by decide +kernel
theorem dX7_log_29 : decode cX7_log 29 = .ok (.aload_n 0, 1) := by decide +kernel
theorem dX7_log_30 : decode cX7_log 30 = .ok (.getfield 55, 3) := by decide +kernel
theorem dX7_log_33 : decode cX7_log 33 = .ok (.iload_n 3, 1) := by decide +kernel
theorem dX7_log_34 : decode cX7_log 34 = .ok (.iaload, 1) := by decide +kernel
theorem dX7_log_35 : decode cX7_log 35 = .ok (.goto 46, 3) := by decide +kernel
theorem dX7_log_38 : decode cX7_log 38 = .ok (.iload_n 2, 1) := by decide +kernel
theorem dX7_log_39 : decode cX7_log 39 = .ok (.iconst 1, 1) := by decide +kernel
theorem dX7_log_40 : decode cX7_log 40 = .ok (.if_icmp .ne 12, 3) := by decide +kernel
theorem dX7_log_43 : decode cX7_log 43 = .ok (.aload_n 0, 1) := by decide +kernel
theorem dX7_log_44 : decode cX7_log 44 = .ok (.getfield 58, 3) := by decide +kernel
theorem dX7_log_47 : decode cX7_log 47 = .ok (.iload_n 3, 1) := by decide +kernel
theorem dX7_log_48 : decode cX7_log 48 = .ok (.iaload, 1) := by decide +kernel
theorem dX7_log_49 : decode cX7_log 49 = .ok (.goto 32, 3) := by decide +kernel
theorem dX7_log_52 : decode cX7_log 52 = .ok (.iload_n 2, 1) := by decide +kernel
theorem dX7_log_53 : decode cX7_log 53 = .ok (.iconst 2, 1) := by decide +kernel
theorem dX7_log_54 : decode cX7_log 54 = .ok (.if_icmp .ne 12, 3) := by decide +kernel
theorem dX7_log_57 : decode cX7_log 57 = .ok (.aload_n 0, 1) := by decide +kernel
theorem dX7_log_58 : decode cX7_log 58 = .ok (.getfield 61, 3) := by decide +kernel
theorem dX7_log_61 : decode cX7_log 61 = .ok (.iload_n 3, 1) := by decide +kernel
theorem dX7_log_62 : decode cX7_log 62 = .ok (.iaload, 1) := by decide +kernel
theorem dX7_log_63 : decode cX7_log 63 = .ok (.goto 18, 3) := by decide +kernel
theorem dX7_log_66 : decode cX7_log 66 = .ok (.iload_n 2, 1) := by decide +kernel
theorem dX7_log_67 : decode cX7_log 67 = .ok (.iconst 3, 1) := by decide +kernel
theorem dX7_log_68 : decode cX7_log 68 = .ok (.if_icmp .ne 12, 3) := by decide +kernel
theorem dX7_log_71 : decode cX7_log 71 = .ok (.aload_n 0, 1) := by decide +kernel
theorem dX7_log_72 : decode cX7_log 72 = .ok (.getfield 64, 3) := by decide +kernel
theorem dX7_log_75 : decode cX7_log 75 = .ok (.iload_n 3, 1) := by decide +kernel
theorem dX7_log_76 : decode cX7_log 76 = .ok (.iaload, 1) := by decide +kernel
theorem dX7_log_77 : decode cX7_log 77 = .ok (.goto 4, 3) := by decide +kernel
theorem dX7_log_80 : decode cX7_log 80 = .ok (.iconst (-1), 1) := by decide +kernel
theorem dX7_log_81 : decode cX7_log 81 = .ok (.ireturn, 1) := by decide +kernel
theorem dX7_ends_0 : decode cX7_ends 0 = .ok (.aload_n 0, 1) := by decide +kernel
theorem dX7_ends_1 : decode cX7_ends 1 = .ok (.iconst 1, 1) := by decide +kernel
theorem dX7_ends_2 : decode cX7_ends 2 = .ok (.iload_n 1, 1) := by decide +kernel
theorem dX7_ends_3 : decode cX7_ends 3 = .ok (.ishl, 1) := by decide +kernel
theorem dX7_ends_4 : decode cX7_ends 4 = .ok (.putfield 140, 3) := by decide +kernel
theorem dX7_ends_7 : decode cX7_ends 7 = .ok (.iconst 0, 1) := by decide +kernel
theorem dX7_ends_8 : decode cX7_ends 8 = .ok (.istore_n 3, 1) := by decide +kernel
theorem dX7_ends_9 : decode cX7_ends 9 = .ok (.iload_n 3, 1) := by decide +kernel
theorem dX7_ends_10 : decode cX7_ends 10 = .ok (.bipush 6, 2) := by decide +kernel
theorem dX7_ends_12 : decode cX7_ends 12 = .ok (.if_icmp .ge 39, 3) := by decide +kernel
theorem dX7_ends_15 : decode cX7_ends 15 = .ok (.aload_n 0, 1) := by decide +kernel
theorem dX7_ends_16 : decode cX7_ends 16 = .ok (.iload_n 1, 1) := by decide +kernel
theorem dX7_ends_17 : decode cX7_ends 17 = .ok (.invokevirtual 91, 3) := by decide +kernel
theorem dX7_ends_20 : decode cX7_ends 20 = .ok (.iload_n 2, 1) := by decide +kernel
theorem dX7_ends_21 : decode cX7_ends 21 = .ok (.if_icmp .eq 24, 3) := by decide +kernel
theorem dX7_ends_24 : decode cX7_ends 24 = .ok (.aload_n 0, 1) := by decide +kernel
theorem dX7_ends_25 : decode cX7_ends 25 = .ok (.iload_n 3, 1) := by decide +kernel
theorem dX7_ends_26 : decode cX7_ends 26 = .ok (.iload_n 1, 1) := by decide +kernel
theorem dX7_ends_27 : decode cX7_ends 27 = .ok (.invokevirtual 95, 3) := by decide +kernel
theorem dX7_ends_30 : decode cX7_ends 30 = .ok (.ifCond .eq 15, 3) := by decide +kernel
theorem dX7_ends_33 : decode cX7_ends 33 = .ok (.aload_n 0, 1) := by decide +kernel
theorem dX7_ends_34 : decode cX7_ends 34 = .ok (.dup, 1) := by decide +kernel
theorem dX7_ends_35 : decode cX7_ends 35 = .ok (.getfield 140, 3) := by decide +kernel
theorem dX7_ends_38 : decode cX7_ends 38 = .ok (.iconst 1, 1) := by decide +kernel
theorem dX7_ends_39 : decode cX7_ends 39 = .ok (.iload_n 3, 1) := by decide +kernel
theorem dX7_ends_40 : decode cX7_ends 40 = .ok (.ishl, 1) := by decide +kernel
theorem dX7_ends_41 : decode cX7_ends 41 = .ok (.ior, 1) := by decide +kernel
theorem dX7_ends_42 : decode cX7_ends 42 = .ok (.putfield 140, 3) := by decide +kernel
theorem dX7_ends_45 : decode cX7_ends 45 = .ok (.iinc 3 1, 3) := by decide +kernel
theorem dX7_ends_48 : decode cX7_ends 48 = .ok (.goto (-39), 3) := by decide +kernel
theorem dX7_ends_51 : decode cX7_ends 51 = .ok (.aload_n 0, 1) := by decide +kernel
theorem dX7_ends_52 : decode cX7_ends 52 = .ok (.invokevirtual 143, 3) := by decide +kernel
theorem dX7_ends_55 : decode cX7_ends 55 = .ok (.return_, 1) := by decide +kernel
theorem dX7_isByte_0 : decode cX7_isByte 0 = .ok (.iload_n 0, 1) := by decide +kernel
theorem dX7_isByte_1 : decode cX7_isByte 1 = .ok (.iconst 0, 1) := by decide +kernel
theorem dX7_isByte_2 : decode cX7_isByte 2 = .ok (.sipush 255, 3) := by decide +kernel
theorem dX7_isByte_5 : decode cX7_isByte 5 = .ok (.invokestatic 76, 3) := by decide +kernel
theorem dX7_isByte_8 : decode cX7_isByte 8 = .ok (.ireturn, 1) := by decide +kernel
theorem dX7_put_0 : decode cX7_put 0 = .ok (.iload_n 1, 1) := by decide +kernel
theorem dX7_put_1 : decode cX7_put 1 = .ok (.invokestatic 80, 3) := by decide +kernel
theorem dX7_put_4 : decode cX7_put 4 = .ok (.ifCond .eq 35, 3) := by decide +kernel
theorem dX7_put_7 : decode cX7_put 7 = .ok (.iload_n 2, 1) := by decide +kernel
theorem dX7_put_8 : decode cX7_put 8 = .ok (.iconst 0, 1) := by decide +kernel
theorem dX7_put_9 : decode cX7_put 9 = .ok (.aload_n 0, 1) := by decide +kernel
theorem dX7_put_10 : decode cX7_put 10 = .ok (.getfield 7, 3) := by decide +kernel
theorem dX7_put_13 : decode cX7_put 13 = .ok (.iload_n 1, 1) := by decide +kernel
theorem dX7_put_14 : decode cX7_put 14 = .ok (.iaload, 1) := by decide +kernel
theorem dX7_put_15 : decode cX7_put 15 = .ok (.invokestatic 76, 3) := by decide +kernel
theorem dX7_put_18 : decode cX7_put 18 = .ok (.ifCond .eq 21, 3) := by decide +kernel
theorem dX7_put_21 : decode cX7_put 21 = .ok (.iload_n 3, 1) := by decide +kernel
theorem dX7_put_22 : decode cX7_put 22 = .ok (.invokestatic 146, 3) := by decide +kernel
theorem dX7_put_25 : decode cX7_put 25 = .ok (.ifCond .eq 14, 3) := by decide +kernel
theorem dX7_put_28 : decode cX7_put 28 = .ok (.aload_n 0, 1) := by decide +kernel
theorem dX7_put_29 : decode cX7_put 29 = .ok (.getfield 7, 3) := by decide +kernel
theorem dX7_put_32 : decode cX7_put 32 = .ok (.iload_n 1, 1) := by decide +kernel
theorem dX7_put_33 : decode cX7_put 33 = .ok (.iaload, 1) := by decide +kernel
theorem dX7_put_34 : decode cX7_put 34 = .ok (.bipush 32, 2) := by decide +kernel
theorem dX7_put_36 : decode cX7_put 36 = .ok (.if_icmp .ne 5, 3) := by decide +kernel
theorem dX7_put_39 : decode cX7_put 39 = .ok (.iconst (-1), 1) := by decide +kernel
theorem dX7_put_40 : decode cX7_put 40 = .ok (.ireturn, 1) := by decide +kernel
theorem dX7_put_41 : decode cX7_put 41 = .ok (.aload_n 0, 1) := by decide +kernel
theorem dX7_put_42 : decode cX7_put 42 = .ok (.invokevirtual 149, 3) := by decide +kernel
theorem dX7_put_45 : decode cX7_put 45 = .ok (.aload_n 0, 1) := by decide +kernel
theorem dX7_put_46 : decode cX7_put 46 = .ok (.iload_n 1, 1) := by decide +kernel
theorem dX7_put_47 : decode cX7_put 47 = .ok (.invokevirtual 91, 3) := by decide +kernel
theorem dX7_put_50 : decode cX7_put 50 = .ok (.istore 4, 2) := by decide +kernel
theorem dX7_put_52 : decode cX7_put 52 = .ok (.aload_n 0, 1) := by decide +kernel
theorem dX7_put_53 : decode cX7_put 53 = .ok (.getfield 7, 3) := by decide +kernel
theorem dX7_put_56 : decode cX7_put 56 = .ok (.iload_n 1, 1) := by decide +kernel
theorem dX7_put_57 : decode cX7_put 57 = .ok (.iaload, 1) := by decide +kernel
theorem dX7_put_58 : decode cX7_put 58 = .ok (.istore 5, 2) := by decide +kernel
theorem dX7_put_60 : decode cX7_put 60 = .ok (.iload 5, 2) := by decide +kernel
theorem dX7_put_62 : decode cX7_put 62 = .ok (.iload_n 2, 1) := by decide +kernel
theorem dX7_put_63 : decode cX7_put 63 = .ok (.if_icmp .le 61, 3) := by decide +kernel
theorem dX7_put_66 : decode cX7_put 66 = .ok (.aload_n 0, 1) := by decide +kernel
theorem dX7_put_67 : decode cX7_put 67 = .ok (.getfield 13, 3) := by decide +kernel
theorem dX7_put_70 : decode cX7_put 70 = .ok (.bipush 32, 2) := by decide +kernel
theorem dX7_put_72 : decode cX7_put 72 = .ok (.iload_n 1, 1) := by decide +kernel
theorem dX7_put_73 : decode cX7_put 73 = .ok (.imul, 1) := by decide +kernel
theorem dX7_put_74 : decode cX7_put 74 = .ok (.iload 5, 2) := by decide +kernel
theorem dX7_put_76 : decode cX7_put 76 = .ok (.iadd, 1) := by decide +kernel
theorem dX7_put_77 : decode cX7_put 77 = .ok (.aload_n 0, 1) := by decide +kernel
theorem dX7_put_78 : decode cX7_put 78 = .ok (.getfield 13, 3) := by decide +kernel
theorem dX7_put_81 : decode cX7_put 81 = .ok (.bipush 32, 2) := by decide +kernel
theorem dX7_put_83 : decode cX7_put 83 = .ok (.iload_n 1, 1) := by decide +kernel
theorem dX7_put_84 : decode cX7_put 84 = .ok (.imul, 1) := by decide +kernel
theorem dX7_put_85 : decode cX7_put 85 = .ok (.iload 5, 2) := by decide +kernel
theorem dX7_put_87 : decode cX7_put 87 = .ok (.iadd, 1) := by decide +kernel
theorem dX7_put_88 : decode cX7_put 88 = .ok (.iconst 1, 1) := by decide +kernel
theorem dX7_put_89 : decode cX7_put 89 = .ok (.isub, 1) := by decide +kernel
theorem dX7_put_90 : decode cX7_put 90 = .ok (.iaload, 1) := by decide +kernel
theorem dX7_put_91 : decode cX7_put 91 = .ok (.iastore, 1) := by decide +kernel
theorem dX7_put_92 : decode cX7_put 92 = .ok (.aload_n 0, 1) := by decide +kernel
theorem dX7_put_93 : decode cX7_put 93 = .ok (.getfield 16, 3) := by decide +kernel
theorem dX7_put_96 : decode cX7_put 96 = .ok (.bipush 32, 2) := by decide +kernel
theorem dX7_put_98 : decode cX7_put 98 = .ok (.iload_n 1, 1) := by decide +kernel
theorem dX7_put_99 : decode cX7_put 99 = .ok (.imul, 1) := by decide +kernel
theorem dX7_put_100 : decode cX7_put 100 = .ok (.iload 5, 2) := by decide +kernel
theorem dX7_put_102 : decode cX7_put 102 = .ok (.iadd, 1) := by decide +kernel
theorem dX7_put_103 : decode cX7_put 103 = .ok (.aload_n 0, 1) := by decide +kernel
theorem dX7_put_104 : decode cX7_put 104 = .ok (.getfield 16, 3) := by decide +kernel
theorem dX7_put_107 : decode cX7_put 107 = .ok (.bipush 32, 2) := by decide +kernel
theorem dX7_put_109 : decode cX7_put 109 = .ok (.iload_n 1, 1) := by decide +kernel
theorem dX7_put_110 : decode cX7_put 110 = .ok (.imul, 1) := by decide +kernel
theorem dX7_put_111 : decode cX7_put 111 = .ok (.iload 5, 2) := by decide +kernel
theorem dX7_put_113 : decode cX7_put 113 = .ok (.iadd, 1) := by decide +kernel
theorem dX7_put_114 : decode cX7_put 114 = .ok (.iconst 1, 1) := by decide +kernel
theorem dX7_put_115 : decode cX7_put 115 = .ok (.isub, 1) := by decide +kernel
theorem dX7_put_116 : decode cX7_put 116 = .ok (.iaload, 1) := by decide +kernel
theorem dX7_put_117 : decode cX7_put 117 = .ok (.iastore, 1) := by decide +kernel
theorem dX7_put_118 : decode cX7_put 118 = .ok (.iinc 5 (-1), 3) := by decide +kernel
theorem dX7_put_121 : decode cX7_put 121 = .ok (.goto (-61), 3) := by decide +kernel
theorem dX7_put_124 : decode cX7_put 124 = .ok (.aload_n 0, 1) := by decide +kernel
theorem dX7_put_125 : decode cX7_put 125 = .ok (.getfield 13, 3) := by decide +kernel
theorem dX7_put_128 : decode cX7_put 128 = .ok (.bipush 32, 2) := by decide +kernel
theorem dX7_put_130 : decode cX7_put 130 = .ok (.iload_n 1, 1) := by decide +kernel
theorem dX7_put_131 : decode cX7_put 131 = .ok (.imul, 1) := by decide +kernel
theorem dX7_put_132 : decode cX7_put 132 = .ok (.iload_n 2, 1) := by decide +kernel
theorem dX7_put_133 : decode cX7_put 133 = .ok (.iadd, 1) := by decide +kernel
theorem dX7_put_134 : decode cX7_put 134 = .ok (.iload_n 3, 1) := by decide +kernel
theorem dX7_put_135 : decode cX7_put 135 = .ok (.iastore, 1) := by decide +kernel
theorem dX7_put_136 : decode cX7_put 136 = .ok (.aload_n 0, 1) := by decide +kernel
theorem dX7_put_137 : decode cX7_put 137 = .ok (.getfield 16, 3) := by decide +kernel
theorem dX7_put_140 : decode cX7_put 140 = .ok (.bipush 32, 2) := by decide +kernel
theorem dX7_put_142 : decode cX7_put 142 = .ok (.iload_n 1, 1) := by decide +kernel
theorem dX7_put_143 : decode cX7_put 143 = .ok (.imul, 1) := by decide +kernel
theorem dX7_put_144 : decode cX7_put 144 = .ok (.iload_n 2, 1) := by decide +kernel
theorem dX7_put_145 : decode cX7_put 145 = .ok (.iadd, 1) := by decide +kernel
theorem dX7_put_146 : decode cX7_put 146 = .ok (.aload_n 0, 1) := by decide +kernel
theorem dX7_put_147 : decode cX7_put 147 = .ok (.getfield 152, 3) := by decide +kernel
theorem dX7_put_150 : decode cX7_put 150 = .ok (.iastore, 1) := by decide +kernel
theorem dX7_put_151 : decode cX7_put 151 = .ok (.aload_n 0, 1) := by decide +kernel
theorem dX7_put_152 : decode cX7_put 152 = .ok (.dup, 1) := by decide +kernel
theorem dX7_put_153 : decode cX7_put 153 = .ok (.getfield 152, 3) := by decide +kernel
theorem dX7_put_156 : decode cX7_put 156 = .ok (.iconst 1, 1) := by decide +kernel
theorem dX7_put_157 : decode cX7_put 157 = .ok (.iadd, 1) := by decide +kernel
theorem dX7_put_158 : decode cX7_put 158 = .ok (.putfield 152, 3) := by decide +kernel
theorem dX7_put_161 : decode cX7_put 161 = .ok (.aload_n 0, 1) := by decide +kernel
theorem dX7_put_162 : decode cX7_put 162 = .ok (.getfield 7, 3) := by decide +kernel
theorem dX7_put_165 : decode cX7_put 165 = .ok (.iload_n 1, 1) := by decide +kernel
theorem dX7_put_166 : decode cX7_put 166 = .ok (.dup2, 1) := by decide +kernel
theorem dX7_put_167 : decode cX7_put 167 = .ok (.iaload, 1) := by decide +kernel
theorem dX7_put_168 : decode cX7_put 168 = .ok (.iconst 1, 1) := by decide +kernel
theorem dX7_put_169 : decode cX7_put 169 = .ok (.iadd, 1) := by decide +kernel
theorem dX7_put_170 : decode cX7_put 170 = .ok (.iastore, 1) := by decide +kernel
theorem dX7_put_171 : decode cX7_put 171 = .ok (.aload_n 0, 1) := by decide +kernel
theorem dX7_put_172 : decode cX7_put 172 = .ok (.iload_n 1, 1) := by decide +kernel
theorem dX7_put_173 : decode cX7_put 173 = .ok (.iload 4, 2) := by decide +kernel
theorem dX7_put_175 : decode cX7_put 175 = .ok (.invokevirtual 155, 3) := by decide +kernel
theorem dX7_put_178 : decode cX7_put 178 = .ok (.aload_n 0, 1) := by decide +kernel
theorem dX7_put_179 : decode cX7_put 179 = .ok (.getfield 152, 3) := by decide +kernel
theorem dX7_put_182 : decode cX7_put 182 = .ok (.iconst 1, 1) := by decide +kernel
theorem dX7_put_183 : decode cX7_put 183 = .ok (.isub, 1) := by decide +kernel
theorem dX7_put_184 : decode cX7_put 184 = .ok (.ireturn, 1) := by decide +kernel
theorem dX7_cut_0 : decode cX7_cut 0 = .ok (.aload_n 0, 1) := by decide +kernel
theorem dX7_cut_1 : decode cX7_cut 1 = .ok (.iload_n 1, 1) := by decide +kernel
theorem dX7_cut_2 : decode cX7_cut 2 = .ok (.iload_n 2, 1) := by decide +kernel
theorem dX7_cut_3 : decode cX7_cut 3 = .ok (.invokevirtual 159, 3) := by decide +kernel
theorem dX7_cut_6 : decode cX7_cut 6 = .ok (.ifCond .ne 5, 3) := by decide +kernel
theorem dX7_cut_9 : decode cX7_cut 9 = .ok (.iconst 0, 1) := by decide +kernel
theorem dX7_cut_10 : decode cX7_cut 10 = .ok (.ireturn, 1) := by decide +kernel
theorem dX7_cut_11 : decode cX7_cut 11 = .ok (.aload_n 0, 1) := by decide +kernel
theorem dX7_cut_12 : decode cX7_cut 12 = .ok (.invokevirtual 149, 3) := by decide +kernel
theorem dX7_cut_15 : decode cX7_cut 15 = .ok (.aload_n 0, 1) := by decide +kernel
theorem dX7_cut_16 : decode cX7_cut 16 = .ok (.iload_n 1, 1) := by decide +kernel
theorem dX7_cut_17 : decode cX7_cut 17 = .ok (.invokevirtual 91, 3) := by decide +kernel
theorem dX7_cut_20 : decode cX7_cut 20 = .ok (.istore_n 3, 1) := by decide +kernel
theorem dX7_cut_21 : decode cX7_cut 21 = .ok (.aload_n 0, 1) := by decide +kernel
theorem dX7_cut_22 : decode cX7_cut 22 = .ok (.getfield 7, 3) := by decide +kernel
theorem dX7_cut_25 : decode cX7_cut 25 = .ok (.iload_n 1, 1) := by decide +kernel
theorem dX7_cut_26 : decode cX7_cut 26 = .ok (.dup2, 1) := by decide +kernel
theorem dX7_cut_27 : decode cX7_cut 27 = .ok (.iaload, 1) := by decide +kernel
theorem dX7_cut_28 : decode cX7_cut 28 = .ok (.iconst 1, 1) := by decide +kernel
theorem dX7_cut_29 : decode cX7_cut 29 = .ok (.isub, 1) := by decide +kernel
theorem dX7_cut_30 : decode cX7_cut 30 = .ok (.iastore, 1) := by decide +kernel
theorem dX7_cut_31 : decode cX7_cut 31 = .ok (.iload_n 2, 1) := by decide +kernel
theorem dX7_cut_32 : decode cX7_cut 32 = .ok (.istore 4, 2) := by decide +kernel
theorem dX7_cut_34 : decode cX7_cut 34 = .ok (.iload 4, 2) := by decide +kernel
theorem dX7_cut_36 : decode cX7_cut 36 = .ok (.aload_n 0, 1) := by decide +kernel
theorem dX7_cut_37 : decode cX7_cut 37 = .ok (.getfield 7, 3) := by decide +kernel
theorem dX7_cut_40 : decode cX7_cut 40 = .ok (.iload_n 1, 1) := by decide +kernel
theorem dX7_cut_41 : decode cX7_cut 41 = .ok (.iaload, 1) := by decide +kernel
theorem dX7_cut_42 : decode cX7_cut 42 = .ok (.if_icmp .ge 61, 3) := by decide +kernel
theorem dX7_cut_45 : decode cX7_cut 45 = .ok (.aload_n 0, 1) := by decide +kernel
theorem dX7_cut_46 : decode cX7_cut 46 = .ok (.getfield 13, 3) := by decide +kernel
theorem dX7_cut_49 : decode cX7_cut 49 = .ok (.bipush 32, 2) := by decide +kernel
theorem dX7_cut_51 : decode cX7_cut 51 = .ok (.iload_n 1, 1) := by decide +kernel
theorem dX7_cut_52 : decode cX7_cut 52 = .ok (.imul, 1) := by decide +kernel
theorem dX7_cut_53 : decode cX7_cut 53 = .ok (.iload 4, 2) := by decide +kernel
theorem dX7_cut_55 : decode cX7_cut 55 = .ok (.iadd, 1) := by decide +kernel
theorem dX7_cut_56 : decode cX7_cut 56 = .ok (.aload_n 0, 1) := by decide +kernel
theorem dX7_cut_57 : decode cX7_cut 57 = .ok (.getfield 13, 3) := by decide +kernel
theorem dX7_cut_60 : decode cX7_cut 60 = .ok (.bipush 32, 2) := by decide +kernel
theorem dX7_cut_62 : decode cX7_cut 62 = .ok (.iload_n 1, 1) := by decide +kernel
theorem dX7_cut_63 : decode cX7_cut 63 = .ok (.imul, 1) := by decide +kernel
theorem dX7_cut_64 : decode cX7_cut 64 = .ok (.iload 4, 2) := by decide +kernel
theorem dX7_cut_66 : decode cX7_cut 66 = .ok (.iadd, 1) := by decide +kernel
theorem dX7_cut_67 : decode cX7_cut 67 = .ok (.iconst 1, 1) := by decide +kernel
theorem dX7_cut_68 : decode cX7_cut 68 = .ok (.iadd, 1) := by decide +kernel
theorem dX7_cut_69 : decode cX7_cut 69 = .ok (.iaload, 1) := by decide +kernel
theorem dX7_cut_70 : decode cX7_cut 70 = .ok (.iastore, 1) := by decide +kernel
theorem dX7_cut_71 : decode cX7_cut 71 = .ok (.aload_n 0, 1) := by decide +kernel
theorem dX7_cut_72 : decode cX7_cut 72 = .ok (.getfield 16, 3) := by decide +kernel
theorem dX7_cut_75 : decode cX7_cut 75 = .ok (.bipush 32, 2) := by decide +kernel
theorem dX7_cut_77 : decode cX7_cut 77 = .ok (.iload_n 1, 1) := by decide +kernel
theorem dX7_cut_78 : decode cX7_cut 78 = .ok (.imul, 1) := by decide +kernel
theorem dX7_cut_79 : decode cX7_cut 79 = .ok (.iload 4, 2) := by decide +kernel
theorem dX7_cut_81 : decode cX7_cut 81 = .ok (.iadd, 1) := by decide +kernel
theorem dX7_cut_82 : decode cX7_cut 82 = .ok (.aload_n 0, 1) := by decide +kernel
theorem dX7_cut_83 : decode cX7_cut 83 = .ok (.getfield 16, 3) := by decide +kernel
theorem dX7_cut_86 : decode cX7_cut 86 = .ok (.bipush 32, 2) := by decide +kernel
theorem dX7_cut_88 : decode cX7_cut 88 = .ok (.iload_n 1, 1) := by decide +kernel
theorem dX7_cut_89 : decode cX7_cut 89 = .ok (.imul, 1) := by decide +kernel
theorem dX7_cut_90 : decode cX7_cut 90 = .ok (.iload 4, 2) := by decide +kernel
theorem dX7_cut_92 : decode cX7_cut 92 = .ok (.iadd, 1) := by decide +kernel
theorem dX7_cut_93 : decode cX7_cut 93 = .ok (.iconst 1, 1) := by decide +kernel
theorem dX7_cut_94 : decode cX7_cut 94 = .ok (.iadd, 1) := by decide +kernel
theorem dX7_cut_95 : decode cX7_cut 95 = .ok (.iaload, 1) := by decide +kernel
theorem dX7_cut_96 : decode cX7_cut 96 = .ok (.iastore, 1) := by decide +kernel
theorem dX7_cut_97 : decode cX7_cut 97 = .ok (.iinc 4 1, 3) := by decide +kernel
theorem dX7_cut_100 : decode cX7_cut 100 = .ok (.goto (-66), 3) := by decide +kernel
theorem dX7_cut_103 : decode cX7_cut 103 = .ok (.aload_n 0, 1) := by decide +kernel
theorem dX7_cut_104 : decode cX7_cut 104 = .ok (.iload_n 1, 1) := by decide +kernel
theorem dX7_cut_105 : decode cX7_cut 105 = .ok (.iload_n 3, 1) := by decide +kernel
theorem dX7_cut_106 : decode cX7_cut 106 = .ok (.invokevirtual 155, 3) := by decide +kernel
theorem dX7_cut_109 : decode cX7_cut 109 = .ok (.iconst 1, 1) := by decide +kernel
theorem dX7_cut_110 : decode cX7_cut 110 = .ok (.ireturn, 1) := by decide +kernel
theorem dX7_change_0 : decode cX7_change 0 = .ok (.aload_n 0, 1) := by decide +kernel
theorem dX7_change_1 : decode cX7_change 1 = .ok (.iload_n 1, 1) := by decide +kernel
theorem dX7_change_2 : decode cX7_change 2 = .ok (.iload_n 2, 1) := by decide +kernel
theorem dX7_change_3 : decode cX7_change 3 = .ok (.invokevirtual 159, 3) := by decide +kernel
theorem dX7_change_6 : decode cX7_change 6 = .ok (.ifCond .eq 25, 3) := by decide +kernel
theorem dX7_change_9 : decode cX7_change 9 = .ok (.iload_n 3, 1) := by decide +kernel
theorem dX7_change_10 : decode cX7_change 10 = .ok (.invokestatic 146, 3) := by decide +kernel
theorem dX7_change_13 : decode cX7_change 13 = .ok (.ifCond .eq 18, 3) := by decide +kernel
theorem dX7_change_16 : decode cX7_change 16 = .ok (.aload_n 0, 1) := by decide +kernel
theorem dX7_change_17 : decode cX7_change 17 = .ok (.getfield 13, 3) := by decide +kernel
theorem dX7_change_20 : decode cX7_change 20 = .ok (.bipush 32, 2) := by decide +kernel
theorem dX7_change_22 : decode cX7_change 22 = .ok (.iload_n 1, 1) := by decide +kernel
theorem dX7_change_23 : decode cX7_change 23 = .ok (.imul, 1) := by decide +kernel
theorem dX7_change_24 : decode cX7_change 24 = .ok (.iload_n 2, 1) := by decide +kernel
theorem dX7_change_25 : decode cX7_change 25 = .ok (.iadd, 1) := by decide +kernel
theorem dX7_change_26 : decode cX7_change 26 = .ok (.iaload, 1) := by decide +kernel
theorem dX7_change_27 : decode cX7_change 27 = .ok (.iload_n 3, 1) := by decide +kernel
theorem dX7_change_28 : decode cX7_change 28 = .ok (.if_icmp .ne 5, 3) := by decide +kernel
theorem dX7_change_31 : decode cX7_change 31 = .ok (.iconst 0, 1) := by decide +kernel
theorem dX7_change_32 : decode cX7_change 32 = .ok (.ireturn, 1) := by decide +kernel
theorem dX7_change_33 : decode cX7_change 33 = .ok (.aload_n 0, 1) := by decide +kernel
theorem dX7_change_34 : decode cX7_change 34 = .ok (.invokevirtual 149, 3) := by decide +kernel
theorem dX7_change_37 : decode cX7_change 37 = .ok (.aload_n 0, 1) := by decide +kernel
theorem dX7_change_38 : decode cX7_change 38 = .ok (.iload_n 1, 1) := by decide +kernel
theorem dX7_change_39 : decode cX7_change 39 = .ok (.invokevirtual 91, 3) := by decide +kernel
theorem dX7_change_42 : decode cX7_change 42 = .ok (.istore 4, 2) := by decide +kernel
theorem dX7_change_44 : decode cX7_change 44 = .ok (.aload_n 0, 1) := by decide +kernel
theorem dX7_change_45 : decode cX7_change 45 = .ok (.getfield 13, 3) := by decide +kernel
theorem dX7_change_48 : decode cX7_change 48 = .ok (.bipush 32, 2) := by decide +kernel
theorem dX7_change_50 : decode cX7_change 50 = .ok (.iload_n 1, 1) := by decide +kernel
theorem dX7_change_51 : decode cX7_change 51 = .ok (.imul, 1) := by decide +kernel
theorem dX7_change_52 : decode cX7_change 52 = .ok (.iload_n 2, 1) := by decide +kernel
theorem dX7_change_53 : decode cX7_change 53 = .ok (.iadd, 1) := by decide +kernel
theorem dX7_change_54 : decode cX7_change 54 = .ok (.iload_n 3, 1) := by decide +kernel
theorem dX7_change_55 : decode cX7_change 55 = .ok (.iastore, 1) := by decide +kernel
theorem dX7_change_56 : decode cX7_change 56 = .ok (.aload_n 0, 1) := by decide +kernel
theorem dX7_change_57 : decode cX7_change 57 = .ok (.iload_n 1, 1) := by decide +kernel
theorem dX7_change_58 : decode cX7_change 58 = .ok (.iload 4, 2) := by decide +kernel
theorem dX7_change_60 : decode cX7_change 60 = .ok (.invokevirtual 155, 3) := by decide +kernel
theorem dX7_change_63 : decode cX7_change 63 = .ok (.iconst 1, 1) := by decide +kernel
theorem dX7_change_64 : decode cX7_change 64 = .ok (.ireturn, 1) := by decide +kernel
theorem dX7_bad_0 : decode cX7_bad 0 = .ok (.iload_n 1, 1) := by decide +kernel
theorem dX7_bad_1 : decode cX7_bad 1 = .ok (.aload_n 0, 1) := by decide +kernel
theorem dX7_bad_2 : decode cX7_bad 2 = .ok (.getfield 99, 3) := by decide +kernel
theorem dX7_bad_5 : decode cX7_bad 5 = .ok (.if_icmp .ne 5, 3) := by decide +kernel
theorem dX7_bad_8 : decode cX7_bad 8 = .ok (.iconst 0, 1) := by decide +kernel
theorem dX7_bad_9 : decode cX7_bad 9 = .ok (.ireturn, 1) := by decide +kernel
theorem dX7_bad_10 : decode cX7_bad 10 = .ok (.aload_n 0, 1) := by decide +kernel
theorem dX7_bad_11 : decode cX7_bad 11 = .ok (.invokevirtual 149, 3) := by decide +kernel
theorem dX7_bad_14 : decode cX7_bad 14 = .ok (.iload_n 1, 1) := by decide +kernel
theorem dX7_bad_15 : decode cX7_bad 15 = .ok (.aload_n 0, 1) := by decide +kernel
theorem dX7_bad_16 : decode cX7_bad 16 = .ok (.getfield 99, 3) := by decide +kernel
theorem dX7_bad_19 : decode cX7_bad 19 = .ok (.ixor, 1) := by decide +kernel
theorem dX7_bad_20 : decode cX7_bad 20 = .ok (.istore_n 2, 1) := by decide +kernel
theorem dX7_bad_21 : decode cX7_bad 21 = .ok (.aload_n 0, 1) := by decide +kernel
theorem dX7_bad_22 : decode cX7_bad 22 = .ok (.iload_n 1, 1) := by decide +kernel
theorem dX7_bad_23 : decode cX7_bad 23 = .ok (.putfield 99, 3) := by decide +kernel
theorem dX7_bad_26 : decode cX7_bad 26 = .ok (.aload_n 0, 1) := by decide +kernel
theorem dX7_bad_27 : decode cX7_bad 27 = .ok (.iconst 0, 1) := by decide +kernel
theorem dX7_bad_28 : decode cX7_bad 28 = .ok (.putfield 140, 3) := by decide +kernel
theorem dX7_bad_31 : decode cX7_bad 31 = .ok (.iconst 0, 1) := by decide +kernel
theorem dX7_bad_32 : decode cX7_bad 32 = .ok (.istore_n 3, 1) := by decide +kernel
theorem dX7_bad_33 : decode cX7_bad 33 = .ok (.iload_n 3, 1) := by decide +kernel
theorem dX7_bad_34 : decode cX7_bad 34 = .ok (.bipush 6, 2) := by decide +kernel
theorem dX7_bad_36 : decode cX7_bad 36 = .ok (.if_icmp .ge 66, 3) := by decide +kernel
theorem dX7_bad_39 : decode cX7_bad 39 = .ok (.iconst 0, 1) := by decide +kernel
theorem dX7_bad_40 : decode cX7_bad 40 = .ok (.istore 4, 2) := by decide +kernel
theorem dX7_bad_42 : decode cX7_bad 42 = .ok (.iload 4, 2) := by decide +kernel
theorem dX7_bad_44 : decode cX7_bad 44 = .ok (.aload_n 0, 1) := by decide +kernel
theorem dX7_bad_45 : decode cX7_bad 45 = .ok (.getfield 7, 3) := by decide +kernel
theorem dX7_bad_48 : decode cX7_bad 48 = .ok (.iload_n 3, 1) := by decide +kernel
theorem dX7_bad_49 : decode cX7_bad 49 = .ok (.iaload, 1) := by decide +kernel
theorem dX7_bad_50 : decode cX7_bad 50 = .ok (.if_icmp .ge 46, 3) := by decide +kernel
theorem dX7_bad_53 : decode cX7_bad 53 = .ok (.aload_n 0, 1) := by decide +kernel
theorem dX7_bad_54 : decode cX7_bad 54 = .ok (.iload_n 3, 1) := by decide +kernel
theorem dX7_bad_55 : decode cX7_bad 55 = .ok (.iload 4, 2) := by decide +kernel
theorem dX7_bad_57 : decode cX7_bad 57 = .ok (.invokevirtual 84, 3) := by decide +kernel
theorem dX7_bad_60 : decode cX7_bad 60 = .ok (.ifCond .ne 30, 3) := by decide +kernel
theorem dX7_bad_63 : decode cX7_bad 63 = .ok (.iload_n 2, 1) := by decide +kernel
theorem dX7_bad_64 : decode cX7_bad 64 = .ok (.aload_n 0, 1) := by decide +kernel
theorem dX7_bad_65 : decode cX7_bad 65 = .ok (.iload_n 3, 1) := by decide +kernel
theorem dX7_bad_66 : decode cX7_bad 66 = .ok (.iload 4, 2) := by decide +kernel
theorem dX7_bad_68 : decode cX7_bad 68 = .ok (.invokevirtual 88, 3) := by decide +kernel
theorem dX7_bad_71 : decode cX7_bad 71 = .ok (.ishr, 1) := by decide +kernel
theorem dX7_bad_72 : decode cX7_bad 72 = .ok (.iconst 1, 1) := by decide +kernel
theorem dX7_bad_73 : decode cX7_bad 73 = .ok (.iand, 1) := by decide +kernel
theorem dX7_bad_74 : decode cX7_bad 74 = .ok (.iconst 1, 1) := by decide +kernel
theorem dX7_bad_75 : decode cX7_bad 75 = .ok (.if_icmp .ne 15, 3) := by decide +kernel
theorem dX7_bad_78 : decode cX7_bad 78 = .ok (.aload_n 0, 1) := by decide +kernel
theorem dX7_bad_79 : decode cX7_bad 79 = .ok (.dup, 1) := by decide +kernel
theorem dX7_bad_80 : decode cX7_bad 80 = .ok (.getfield 140, 3) := by decide +kernel
theorem dX7_bad_83 : decode cX7_bad 83 = .ok (.iconst 1, 1) := by decide +kernel
theorem dX7_bad_84 : decode cX7_bad 84 = .ok (.iload_n 3, 1) := by decide +kernel
theorem dX7_bad_85 : decode cX7_bad 85 = .ok (.ishl, 1) := by decide +kernel
theorem dX7_bad_86 : decode cX7_bad 86 = .ok (.ior, 1) := by decide +kernel
theorem dX7_bad_87 : decode cX7_bad 87 = .ok (.putfield 140, 3) := by decide +kernel
theorem dX7_bad_90 : decode cX7_bad 90 = .ok (.iinc 4 1, 3) := by decide +kernel
theorem dX7_bad_93 : decode cX7_bad 93 = .ok (.goto (-51), 3) := by decide +kernel
theorem dX7_bad_96 : decode cX7_bad 96 = .ok (.iinc 3 1, 3) := by decide +kernel
theorem dX7_bad_99 : decode cX7_bad 99 = .ok (.goto (-66), 3) := by decide +kernel
theorem dX7_bad_102 : decode cX7_bad 102 = .ok (.aload_n 0, 1) := by decide +kernel
theorem dX7_bad_103 : decode cX7_bad 103 = .ok (.invokevirtual 143, 3) := by decide +kernel
theorem dX7_bad_106 : decode cX7_bad 106 = .ok (.iconst 1, 1) := by decide +kernel
theorem dX7_bad_107 : decode cX7_bad 107 = .ok (.ireturn, 1) := by decide +kernel
theorem dX7_feed_0 : decode cX7_feed 0 = .ok (.aload_n 0, 1) := by decide +kernel
theorem dX7_feed_1 : decode cX7_feed 1 = .ok (.getfield 162, 3) := by decide +kernel
theorem dX7_feed_4 : decode cX7_feed 4 = .ok (.bipush 20, 2) := by decide +kernel
theorem dX7_feed_6 : decode cX7_feed 6 = .ok (.iadd, 1) := by decide +kernel
theorem dX7_feed_7 : decode cX7_feed 7 = .ok (.bipush 40, 2) := by decide +kernel
theorem dX7_feed_9 : decode cX7_feed 9 = .ok (.if_icmp .le 5, 3) := by decide +kernel
theorem dX7_feed_12 : decode cX7_feed 12 = .ok (.iconst (-1), 1) := by decide +kernel
theorem dX7_feed_13 : decode cX7_feed 13 = .ok (.ireturn, 1) := by decide +kernel
theorem dX7_feed_14 : decode cX7_feed 14 = .ok (.iconst 0, 1) := by decide +kernel
theorem dX7_feed_15 : decode cX7_feed 15 = .ok (.istore 6, 2) := by decide +kernel
theorem dX7_feed_17 : decode cX7_feed 17 = .ok (.iload 6, 2) := by decide +kernel
theorem dX7_feed_19 : decode cX7_feed 19 = .ok (.bipush 20, 2) := by decide +kernel
theorem dX7_feed_21 : decode cX7_feed 21 = .ok (.if_icmp .ge 93, 3) := by decide +kernel
theorem dX7_feed_24 : decode cX7_feed 24 = .ok (.iload 6, 2) := by decide +kernel
theorem dX7_feed_26 : decode cX7_feed 26 = .ok (.iconst 4, 1) := by decide +kernel
theorem dX7_feed_27 : decode cX7_feed 27 = .ok (.if_icmp .ge 7, 3) := by decide +kernel
theorem dX7_feed_30 : decode cX7_feed 30 = .ok (.iload_n 1, 1) := by decide +kernel
theorem dX7_feed_31 : decode cX7_feed 31 = .ok (.goto 39, 3) := by decide +kernel
theorem dX7_feed_34 : decode cX7_feed 34 = .ok (.iload 6, 2) := by decide +kernel
theorem dX7_feed_36 : decode cX7_feed 36 = .ok (.bipush 8, 2) := by decide +kernel
theorem dX7_feed_38 : decode cX7_feed 38 = .ok (.if_icmp .ge 7, 3) := by decide +kernel
theorem dX7_feed_41 : decode cX7_feed 41 = .ok (.iload_n 2, 1) := by decide +kernel
theorem dX7_feed_42 : decode cX7_feed 42 = .ok (.goto 28, 3) := by decide +kernel
theorem dX7_feed_45 : decode cX7_feed 45 = .ok (.iload 6, 2) := by decide +kernel
theorem dX7_feed_47 : decode cX7_feed 47 = .ok (.bipush 12, 2) := by decide +kernel
theorem dX7_feed_49 : decode cX7_feed 49 = .ok (.if_icmp .ge 7, 3) := by decide +kernel
theorem dX7_feed_52 : decode cX7_feed 52 = .ok (.iload_n 3, 1) := by decide +kernel
theorem dX7_feed_53 : decode cX7_feed 53 = .ok (.goto 17, 3) := by decide +kernel
theorem dX7_feed_56 : decode cX7_feed 56 = .ok (.iload 6, 2) := by decide +kernel
theorem dX7_feed_58 : decode cX7_feed 58 = .ok (.bipush 16, 2) := by decide +kernel
theorem dX7_feed_60 : decode cX7_feed 60 = .ok (.if_icmp .ge 8, 3) := by decide +kernel
theorem dX7_feed_63 : decode cX7_feed 63 = .ok (.iload 4, 2) := by decide +kernel
theorem dX7_feed_65 : decode cX7_feed 65 = .ok (.goto 5, 3) := by decide +kernel
theorem dX7_feed_68 : decode cX7_feed 68 = .ok (.iload 5, 2) := by decide +kernel
theorem dX7_feed_70 : decode cX7_feed 70 = .ok (.istore 7, 2) := by decide +kernel
theorem dX7_feed_72 : decode cX7_feed 72 = .ok (.aload_n 0, 1) := by decide +kernel
theorem dX7_feed_73 : decode cX7_feed 73 = .ok (.getfield 67, 3) := by decide +kernel
theorem dX7_feed_76 : decode cX7_feed 76 = .ok (.aload_n 0, 1) := by decide +kernel
theorem dX7_feed_77 : decode cX7_feed 77 = .ok (.getfield 162, 3) := by decide +kernel
theorem dX7_feed_80 : decode cX7_feed 80 = .ok (.iload 7, 2) := by decide +kernel
theorem dX7_feed_82 : decode cX7_feed 82 = .ok (.bipush 24, 2) := by decide +kernel
theorem dX7_feed_84 : decode cX7_feed 84 = .ok (.bipush 8, 2) := by decide +kernel
theorem dX7_feed_86 : decode cX7_feed 86 = .ok (.iload 6, 2) := by decide +kernel
theorem dX7_feed_88 : decode cX7_feed 88 = .ok (.iconst 4, 1) := by decide +kernel
theorem dX7_feed_89 : decode cX7_feed 89 = .ok (.irem, 1) := by decide +kernel
theorem dX7_feed_90 : decode cX7_feed 90 = .ok (.imul, 1) := by decide +kernel
theorem dX7_feed_91 : decode cX7_feed 91 = .ok (.isub, 1) := by decide +kernel
theorem dX7_feed_92 : decode cX7_feed 92 = .ok (.ishr, 1) := by decide +kernel
theorem dX7_feed_93 : decode cX7_feed 93 = .ok (.sipush 255, 3) := by decide +kernel
theorem dX7_feed_96 : decode cX7_feed 96 = .ok (.iand, 1) := by decide +kernel
theorem dX7_feed_97 : decode cX7_feed 97 = .ok (.iastore, 1) := by decide +kernel
theorem dX7_feed_98 : decode cX7_feed 98 = .ok (.aload_n 0, 1) := by decide +kernel
theorem dX7_feed_99 : decode cX7_feed 99 = .ok (.dup, 1) := by decide +kernel
theorem dX7_feed_100 : decode cX7_feed 100 = .ok (.getfield 162, 3) := by decide +kernel
theorem dX7_feed_103 : decode cX7_feed 103 = .ok (.iconst 1, 1) := by decide +kernel
theorem dX7_feed_104 : decode cX7_feed 104 = .ok (.iadd, 1) := by decide +kernel
theorem dX7_feed_105 : decode cX7_feed 105 = .ok (.putfield 162, 3) := by decide +kernel
theorem dX7_feed_108 : decode cX7_feed 108 = .ok (.iinc 6 1, 3) := by decide +kernel
theorem dX7_feed_111 : decode cX7_feed 111 = .ok (.goto (-94), 3) := by decide +kernel
theorem dX7_feed_114 : decode cX7_feed 114 = .ok (.aload_n 0, 1) := by decide +kernel
theorem dX7_feed_115 : decode cX7_feed 115 = .ok (.getfield 162, 3) := by decide +kernel
theorem dX7_feed_118 : decode cX7_feed 118 = .ok (.ireturn, 1) := by decide +kernel
theorem dX7_end_0 : decode cX7_end 0 = .ok (.iload_n 1, 1) := by decide +kernel
theorem dX7_end_1 : decode cX7_end 1 = .ok (.iconst 0, 1) := by decide +kernel
theorem dX7_end_2 : decode cX7_end 2 = .ok (.aload_n 0, 1) := by decide +kernel
theorem dX7_end_3 : decode cX7_end 3 = .ok (.getfield 162, 3) := by decide +kernel
theorem dX7_end_6 : decode cX7_end 6 = .ok (.invokestatic 76, 3) := by decide +kernel
theorem dX7_end_9 : decode cX7_end 9 = .ok (.ifCond .ne 5, 3) := by decide +kernel
theorem dX7_end_12 : decode cX7_end 12 = .ok (.iconst 0, 1) := by decide +kernel
theorem dX7_end_13 : decode cX7_end 13 = .ok (.ireturn, 1) := by decide +kernel
theorem dX7_end_14 : decode cX7_end 14 = .ok (.aload_n 0, 1) := by decide +kernel
theorem dX7_end_15 : decode cX7_end 15 = .ok (.iload_n 1, 1) := by decide +kernel
theorem dX7_end_16 : decode cX7_end 16 = .ok (.putfield 162, 3) := by decide +kernel
theorem dX7_end_19 : decode cX7_end 19 = .ok (.iconst 1, 1) := by decide +kernel
theorem dX7_end_20 : decode cX7_end 20 = .ok (.ireturn, 1) := by decide +kernel
theorem dX7_commons_0 : decode cX7_commons 0 = .ok (.aload_n 0, 1) := by decide +kernel
theorem dX7_commons_1 : decode cX7_commons 1 = .ok (.getfield 7, 3) := by decide +kernel
theorem dX7_commons_4 : decode cX7_commons 4 = .ok (.iload_n 1, 1) := by decide +kernel
theorem dX7_commons_5 : decode cX7_commons 5 = .ok (.iaload, 1) := by decide +kernel
theorem dX7_commons_6 : decode cX7_commons 6 = .ok (.istore_n 3, 1) := by decide +kernel
theorem dX7_commons_7 : decode cX7_commons 7 = .ok (.iload_n 3, 1) := by decide +kernel
theorem dX7_commons_8 : decode cX7_commons 8 = .ok (.ifCond .lt 135, 3) := by decide +kernel
theorem dX7_commons_11 : decode cX7_commons 11 = .ok (.iload_n 2, 1) := by decide +kernel
theorem dX7_commons_12 : decode cX7_commons 12 = .ok (.istore 4, 2) := by decide +kernel
theorem dX7_commons_14 : decode cX7_commons 14 = .ok (.iload 4, 2) := by decide +kernel
theorem dX7_commons_16 : decode cX7_commons 16 = .ok (.ifCond .lt 121, 3) := by decide +kernel
theorem dX7_commons_19 : decode cX7_commons 19 = .ok (.iconst 0, 1) := by decide +kernel
theorem dX7_commons_20 : decode cX7_commons 20 = .ok (.istore 5, 2) := by decide +kernel
theorem dX7_commons_22 : decode cX7_commons 22 = .ok (.iload_n 3, 1) := by decide +kernel
theorem dX7_commons_23 : decode cX7_commons 23 = .ok (.aload_n 0, 1) := by decide +kernel
theorem dX7_commons_24 : decode cX7_commons 24 = .ok (.getfield 7, 3) := by decide +kernel
theorem dX7_commons_27 : decode cX7_commons 27 = .ok (.iload_n 1, 1) := by decide +kernel
theorem dX7_commons_28 : decode cX7_commons 28 = .ok (.iaload, 1) := by decide +kernel
theorem dX7_commons_29 : decode cX7_commons 29 = .ok (.if_icmp .ge 88, 3) := by decide +kernel
theorem dX7_commons_32 : decode cX7_commons 32 = .ok (.iload 4, 2) := by decide +kernel
theorem dX7_commons_34 : decode cX7_commons 34 = .ok (.iload_n 2, 1) := by decide +kernel
theorem dX7_commons_35 : decode cX7_commons 35 = .ok (.if_icmp .ge 82, 3) := by decide +kernel
theorem dX7_commons_38 : decode cX7_commons 38 = .ok (.aload_n 0, 1) := by decide +kernel
theorem dX7_commons_39 : decode cX7_commons 39 = .ok (.getfield 70, 3) := by decide +kernel
theorem dX7_commons_42 : decode cX7_commons 42 = .ok (.bipush 33, 2) := by decide +kernel
theorem dX7_commons_44 : decode cX7_commons 44 = .ok (.iload_n 3, 1) := by decide +kernel
theorem dX7_commons_45 : decode cX7_commons 45 = .ok (.iconst 1, 1) := by decide +kernel
theorem dX7_commons_46 : decode cX7_commons 46 = .ok (.iadd, 1) := by decide +kernel
theorem dX7_commons_47 : decode cX7_commons 47 = .ok (.imul, 1) := by decide +kernel
theorem dX7_commons_48 : decode cX7_commons 48 = .ok (.iload 4, 2) := by decide +kernel
theorem dX7_commons_50 : decode cX7_commons 50 = .ok (.iadd, 1) := by decide +kernel
theorem dX7_commons_51 : decode cX7_commons 51 = .ok (.iaload, 1) := by decide +kernel
theorem dX7_commons_52 : decode cX7_commons 52 = .ok (.aload_n 0, 1) := by decide +kernel
theorem dX7_commons_53 : decode cX7_commons 53 = .ok (.getfield 70, 3) := by decide +kernel
theorem dX7_commons_56 : decode cX7_commons 56 = .ok (.bipush 33, 2) := by decide +kernel
theorem dX7_commons_58 : decode cX7_commons 58 = .ok (.iload_n 3, 1) := by decide +kernel
theorem dX7_commons_59 : decode cX7_commons 59 = .ok (.imul, 1) := by decide +kernel
theorem dX7_commons_60 : decode cX7_commons 60 = .ok (.iload 4, 2) := by decide +kernel
theorem dX7_commons_62 : decode cX7_commons 62 = .ok (.iadd, 1) := by decide +kernel
theorem dX7_commons_63 : decode cX7_commons 63 = .ok (.iconst 1, 1) := by decide +kernel
theorem dX7_commons_64 : decode cX7_commons 64 = .ok (.iadd, 1) := by decide +kernel
theorem dX7_commons_65 : decode cX7_commons 65 = .ok (.iaload, 1) := by decide +kernel
theorem dX7_commons_66 : decode cX7_commons 66 = .ok (.invokestatic 165, 3) := by decide +kernel
theorem dX7_commons_69 : decode cX7_commons 69 = .ok (.istore 5, 2) := by decide +kernel
theorem dX7_commons_71 : decode cX7_commons 71 = .ok (.aload_n 0, 1) := by decide +kernel
theorem dX7_commons_72 : decode cX7_commons 72 = .ok (.getfield 13, 3) := by decide +kernel
theorem dX7_commons_75 : decode cX7_commons 75 = .ok (.bipush 32, 2) := by decide +kernel
theorem dX7_commons_77 : decode cX7_commons 77 = .ok (.iload_n 1, 1) := by decide +kernel
theorem dX7_commons_78 : decode cX7_commons 78 = .ok (.imul, 1) := by decide +kernel
theorem dX7_commons_79 : decode cX7_commons 79 = .ok (.iload_n 3, 1) := by decide +kernel
theorem dX7_commons_80 : decode cX7_commons 80 = .ok (.iadd, 1) := by decide +kernel
theorem dX7_commons_81 : decode cX7_commons 81 = .ok (.iaload, 1) := by decide +kernel
theorem dX7_commons_82 : decode cX7_commons 82 = .ok (.aload_n 0, 1) := by decide +kernel
theorem dX7_commons_83 : decode cX7_commons 83 = .ok (.getfield 67, 3) := by decide +kernel
theorem dX7_commons_86 : decode cX7_commons 86 = .ok (.iload 4, 2) := by decide +kernel
theorem dX7_commons_88 : decode cX7_commons 88 = .ok (.iaload, 1) := by decide +kernel
theorem dX7_commons_89 : decode cX7_commons 89 = .ok (.if_icmp .ne 28, 3) := by decide +kernel
theorem dX7_commons_92 : decode cX7_commons 92 = .ok (.iload 5, 2) := by decide +kernel
theorem dX7_commons_94 : decode cX7_commons 94 = .ok (.iconst 1, 1) := by decide +kernel
theorem dX7_commons_95 : decode cX7_commons 95 = .ok (.aload_n 0, 1) := by decide +kernel
theorem dX7_commons_96 : decode cX7_commons 96 = .ok (.getfield 70, 3) := by decide +kernel
theorem dX7_commons_99 : decode cX7_commons 99 = .ok (.bipush 33, 2) := by decide +kernel
theorem dX7_commons_101 : decode cX7_commons 101 = .ok (.iload_n 3, 1) := by decide +kernel
theorem dX7_commons_102 : decode cX7_commons 102 = .ok (.iconst 1, 1) := by decide +kernel
theorem dX7_commons_103 : decode cX7_commons 103 = .ok (.iadd, 1) := by decide +kernel
theorem dX7_commons_104 : decode cX7_commons 104 = .ok (.imul, 1) := by decide +kernel
theorem dX7_commons_105 : decode cX7_commons 105 = .ok (.iload 4, 2) := by decide +kernel
theorem dX7_commons_107 : decode cX7_commons 107 = .ok (.iadd, 1) := by decide +kernel
theorem dX7_commons_108 : decode cX7_commons 108 = .ok (.iconst 1, 1) := by decide +kernel
theorem dX7_commons_109 : decode cX7_commons 109 = .ok (.iadd, 1) := by decide +kernel
theorem dX7_commons_110 : decode cX7_commons 110 = .ok (.iaload, 1) := by decide +kernel
theorem dX7_commons_111 : decode cX7_commons 111 = .ok (.iadd, 1) := by decide +kernel
theorem dX7_commons_112 : decode cX7_commons 112 = .ok (.invokestatic 165, 3) := by decide +kernel
theorem dX7_commons_115 : decode cX7_commons 115 = .ok (.istore 5, 2) := by decide +kernel
theorem dX7_commons_117 : decode cX7_commons 117 = .ok (.aload_n 0, 1) := by decide +kernel
theorem dX7_commons_118 : decode cX7_commons 118 = .ok (.getfield 70, 3) := by decide +kernel
theorem dX7_commons_121 : decode cX7_commons 121 = .ok (.bipush 33, 2) := by decide +kernel
theorem dX7_commons_123 : decode cX7_commons 123 = .ok (.iload_n 3, 1) := by decide +kernel
theorem dX7_commons_124 : decode cX7_commons 124 = .ok (.imul, 1) := by decide +kernel
theorem dX7_commons_125 : decode cX7_commons 125 = .ok (.iload 4, 2) := by decide +kernel
theorem dX7_commons_127 : decode cX7_commons 127 = .ok (.iadd, 1) := by decide +kernel
theorem dX7_commons_128 : decode cX7_commons 128 = .ok (.iload 5, 2) := by decide +kernel
theorem dX7_commons_130 : decode cX7_commons 130 = .ok (.iastore, 1) := by decide +kernel
theorem dX7_commons_131 : decode cX7_commons 131 = .ok (.iinc 4 (-1), 3) := by decide +kernel
theorem dX7_commons_134 : decode cX7_commons 134 = .ok (.goto (-120), 3) := by decide +kernel
theorem dX7_commons_137 : decode cX7_commons 137 = .ok (.iinc 3 (-1), 3) := by decide +kernel
theorem dX7_commons_140 : decode cX7_commons 140 = .ok (.goto (-133), 3) := by decide +kernel
theorem dX7_commons_143 : decode cX7_commons 143 = .ok (.return_, 1) := by decide +kernel
theorem dX7_load_0 : decode cX7_load 0 = .ok (.aload_n 0, 1) := by decide +kernel
theorem dX7_load_1 : decode cX7_load 1 = .ok (.getfield 162, 3) := by decide +kernel
theorem dX7_load_4 : decode cX7_load 4 = .ok (.istore_n 2, 1) := by decide +kernel
theorem dX7_load_5 : decode cX7_load 5 = .ok (.aload_n 0, 1) := by decide +kernel
theorem dX7_load_6 : decode cX7_load 6 = .ok (.iconst 0, 1) := by decide +kernel
theorem dX7_load_7 : decode cX7_load 7 = .ok (.putfield 162, 3) := by decide +kernel
theorem dX7_load_10 : decode cX7_load 10 = .ok (.iload_n 1, 1) := by decide +kernel
theorem dX7_load_11 : decode cX7_load 11 = .ok (.invokestatic 80, 3) := by decide +kernel
theorem dX7_load_14 : decode cX7_load 14 = .ok (.ifCond .eq 9, 3) := by decide +kernel
theorem dX7_load_17 : decode cX7_load 17 = .ok (.iload_n 2, 1) := by decide +kernel
theorem dX7_load_18 : decode cX7_load 18 = .ok (.bipush 32, 2) := by decide +kernel
theorem dX7_load_20 : decode cX7_load 20 = .ok (.if_icmp .le 5, 3) := by decide +kernel
theorem dX7_load_23 : decode cX7_load 23 = .ok (.iconst (-1), 1) := by decide +kernel
theorem dX7_load_24 : decode cX7_load 24 = .ok (.ireturn, 1) := by decide +kernel
theorem dX7_load_25 : decode cX7_load 25 = .ok (.aload_n 0, 1) := by decide +kernel
theorem dX7_load_26 : decode cX7_load 26 = .ok (.invokevirtual 149, 3) := by decide +kernel
theorem dX7_load_29 : decode cX7_load 29 = .ok (.aload_n 0, 1) := by decide +kernel
theorem dX7_load_30 : decode cX7_load 30 = .ok (.iload_n 1, 1) := by decide +kernel
theorem dX7_load_31 : decode cX7_load 31 = .ok (.invokevirtual 91, 3) := by decide +kernel
theorem dX7_load_34 : decode cX7_load 34 = .ok (.istore_n 3, 1) := by decide +kernel
theorem dX7_load_35 : decode cX7_load 35 = .ok (.aload_n 0, 1) := by decide +kernel
theorem dX7_load_36 : decode cX7_load 36 = .ok (.iload_n 1, 1) := by decide +kernel
theorem dX7_load_37 : decode cX7_load 37 = .ok (.iload_n 2, 1) := by decide +kernel
theorem dX7_load_38 : decode cX7_load 38 = .ok (.invokevirtual 170, 3) := by decide +kernel
theorem dX7_load_41 : decode cX7_load 41 = .ok (.iconst 0, 1) := by decide +kernel
theorem dX7_load_42 : decode cX7_load 42 = .ok (.istore 4, 2) := by decide +kernel
theorem dX7_load_44 : decode cX7_load 44 = .ok (.iload 4, 2) := by decide +kernel
theorem dX7_load_46 : decode cX7_load 46 = .ok (.iload_n 2, 1) := by decide +kernel
theorem dX7_load_47 : decode cX7_load 47 = .ok (.if_icmp .ge 17, 3) := by decide +kernel
theorem dX7_load_50 : decode cX7_load 50 = .ok (.aload_n 0, 1) := by decide +kernel
theorem dX7_load_51 : decode cX7_load 51 = .ok (.getfield 73, 3) := by decide +kernel
theorem dX7_load_54 : decode cX7_load 54 = .ok (.iload 4, 2) := by decide +kernel
theorem dX7_load_56 : decode cX7_load 56 = .ok (.iconst (-1), 1) := by decide +kernel
theorem dX7_load_57 : decode cX7_load 57 = .ok (.iastore, 1) := by decide +kernel
theorem dX7_load_58 : decode cX7_load 58 = .ok (.iinc 4 1, 3) := by decide +kernel
theorem dX7_load_61 : decode cX7_load 61 = .ok (.goto (-17), 3) := by decide +kernel
theorem dX7_load_64 : decode cX7_load 64 = .ok (.iconst 0, 1) := by decide +kernel
theorem dX7_load_65 : decode cX7_load 65 = .ok (.istore 4, 2) := by decide +kernel
theorem dX7_load_67 : decode cX7_load 67 = .ok (.iconst 0, 1) := by decide +kernel
theorem dX7_load_68 : decode cX7_load 68 = .ok (.istore 5, 2) := by decide +kernel
theorem dX7_load_70 : decode cX7_load 70 = .ok (.iconst 0, 1) := by decide +kernel
theorem dX7_load_71 : decode cX7_load 71 = .ok (.istore 6, 2) := by decide +kernel
theorem dX7_load_73 : decode cX7_load 73 = .ok (.iload 4, 2) := by decide +kernel
theorem dX7_load_75 : decode cX7_load 75 = .ok (.aload_n 0, 1) := by decide +kernel
theorem dX7_load_76 : decode cX7_load 76 = .ok (.getfield 7, 3) := by decide +kernel
theorem dX7_load_79 : decode cX7_load 79 = .ok (.iload_n 1, 1) := by decide +kernel
theorem dX7_load_80 : decode cX7_load 80 = .ok (.iaload, 1) := by decide +kernel
theorem dX7_load_81 : decode cX7_load 81 = .ok (.if_icmp .ge 133, 3) := by decide +kernel
theorem dX7_load_84 : decode cX7_load 84 = .ok (.iload 5, 2) := by decide +kernel
theorem dX7_load_86 : decode cX7_load 86 = .ok (.iload_n 2, 1) := by decide +kernel
theorem dX7_load_87 : decode cX7_load 87 = .ok (.if_icmp .ge 127, 3) := by decide +kernel
theorem dX7_load_90 : decode cX7_load 90 = .ok (.aload_n 0, 1) := by decide +kernel
theorem dX7_load_91 : decode cX7_load 91 = .ok (.getfield 70, 3) := by decide +kernel
theorem dX7_load_94 : decode cX7_load 94 = .ok (.bipush 33, 2) := by decide +kernel
theorem dX7_load_96 : decode cX7_load 96 = .ok (.iload 4, 2) := by decide +kernel
theorem dX7_load_98 : decode cX7_load 98 = .ok (.imul, 1) := by decide +kernel
theorem dX7_load_99 : decode cX7_load 99 = .ok (.iload 5, 2) := by decide +kernel
theorem dX7_load_101 : decode cX7_load 101 = .ok (.iadd, 1) := by decide +kernel
theorem dX7_load_102 : decode cX7_load 102 = .ok (.iaload, 1) := by decide +kernel
theorem dX7_load_103 : decode cX7_load 103 = .ok (.istore 7, 2) := by decide +kernel
theorem dX7_load_105 : decode cX7_load 105 = .ok (.aload_n 0, 1) := by decide +kernel
theorem dX7_load_106 : decode cX7_load 106 = .ok (.getfield 13, 3) := by decide +kernel
theorem dX7_load_109 : decode cX7_load 109 = .ok (.bipush 32, 2) := by decide +kernel
theorem dX7_load_111 : decode cX7_load 111 = .ok (.iload_n 1, 1) := by decide +kernel
theorem dX7_load_112 : decode cX7_load 112 = .ok (.imul, 1) := by decide +kernel
theorem dX7_load_113 : decode cX7_load 113 = .ok (.iload 4, 2) := by decide +kernel
theorem dX7_load_115 : decode cX7_load 115 = .ok (.iadd, 1) := by decide +kernel
theorem dX7_load_116 : decode cX7_load 116 = .ok (.iaload, 1) := by decide +kernel
theorem dX7_load_117 : decode cX7_load 117 = .ok (.aload_n 0, 1) := by decide +kernel
theorem dX7_load_118 : decode cX7_load 118 = .ok (.getfield 67, 3) := by decide +kernel
theorem dX7_load_121 : decode cX7_load 121 = .ok (.iload 5, 2) := by decide +kernel
theorem dX7_load_123 : decode cX7_load 123 = .ok (.iaload, 1) := by decide +kernel
theorem dX7_load_124 : decode cX7_load 124 = .ok (.if_icmp .ne 58, 3) := by decide +kernel
theorem dX7_load_127 : decode cX7_load 127 = .ok (.iload 7, 2) := by decide +kernel
theorem dX7_load_129 : decode cX7_load 129 = .ok (.iconst 1, 1) := by decide +kernel
theorem dX7_load_130 : decode cX7_load 130 = .ok (.aload_n 0, 1) := by decide +kernel
theorem dX7_load_131 : decode cX7_load 131 = .ok (.getfield 70, 3) := by decide +kernel
theorem dX7_load_134 : decode cX7_load 134 = .ok (.bipush 33, 2) := by decide +kernel
theorem dX7_load_136 : decode cX7_load 136 = .ok (.iload 4, 2) := by decide +kernel
theorem dX7_load_138 : decode cX7_load 138 = .ok (.iconst 1, 1) := by decide +kernel
theorem dX7_load_139 : decode cX7_load 139 = .ok (.iadd, 1) := by decide +kernel
theorem dX7_load_140 : decode cX7_load 140 = .ok (.imul, 1) := by decide +kernel
theorem dX7_load_141 : decode cX7_load 141 = .ok (.iload 5, 2) := by decide +kernel
theorem dX7_load_143 : decode cX7_load 143 = .ok (.iadd, 1) := by decide +kernel
theorem dX7_load_144 : decode cX7_load 144 = .ok (.iconst 1, 1) := by decide +kernel
theorem dX7_load_145 : decode cX7_load 145 = .ok (.iadd, 1) := by decide +kernel
theorem dX7_load_146 : decode cX7_load 146 = .ok (.iaload, 1) := by decide +kernel
theorem dX7_load_147 : decode cX7_load 147 = .ok (.iadd, 1) := by decide +kernel
theorem dX7_load_148 : decode cX7_load 148 = .ok (.if_icmp .ne 34, 3) := by decide +kernel
theorem dX7_load_151 : decode cX7_load 151 = .ok (.aload_n 0, 1) := by decide +kernel
theorem dX7_load_152 : decode cX7_load 152 = .ok (.getfield 73, 3) := by decide +kernel
theorem dX7_load_155 : decode cX7_load 155 = .ok (.iload 5, 2) := by decide +kernel
theorem dX7_load_157 : decode cX7_load 157 = .ok (.aload_n 0, 1) := by decide +kernel
theorem dX7_load_158 : decode cX7_load 158 = .ok (.getfield 16, 3) := by decide +kernel
theorem dX7_load_161 : decode cX7_load 161 = .ok (.bipush 32, 2) := by decide +kernel
theorem dX7_load_163 : decode cX7_load 163 = .ok (.iload_n 1, 1) := by decide +kernel
theorem dX7_load_164 : decode cX7_load 164 = .ok (.imul, 1) := by decide +kernel
theorem dX7_load_165 : decode cX7_load 165 = .ok (.iload 4, 2) := by decide +kernel
theorem dX7_load_167 : decode cX7_load 167 = .ok (.iadd, 1) := by decide +kernel
theorem dX7_load_168 : decode cX7_load 168 = .ok (.iaload, 1) := by decide +kernel
theorem dX7_load_169 : decode cX7_load 169 = .ok (.iastore, 1) := by decide +kernel
theorem dX7_load_170 : decode cX7_load 170 = .ok (.iinc 6 1, 3) := by decide +kernel
theorem dX7_load_173 : decode cX7_load 173 = .ok (.iinc 4 1, 3) := by decide +kernel
theorem dX7_load_176 : decode cX7_load 176 = .ok (.iinc 5 1, 3) := by decide +kernel
theorem dX7_load_179 : decode cX7_load 179 = .ok (.goto 32, 3) := by decide +kernel
theorem dX7_load_182 : decode cX7_load 182 = .ok (.aload_n 0, 1) := by decide +kernel
theorem dX7_load_183 : decode cX7_load 183 = .ok (.getfield 70, 3) := by decide +kernel
theorem dX7_load_186 : decode cX7_load 186 = .ok (.bipush 33, 2) := by decide +kernel
theorem dX7_load_188 : decode cX7_load 188 = .ok (.iload 4, 2) := by decide +kernel
theorem dX7_load_190 : decode cX7_load 190 = .ok (.iconst 1, 1) := by decide +kernel
theorem dX7_load_191 : decode cX7_load 191 = .ok (.iadd, 1) := by decide +kernel
theorem dX7_load_192 : decode cX7_load 192 = .ok (.imul, 1) := by decide +kernel
theorem dX7_load_193 : decode cX7_load 193 = .ok (.iload 5, 2) := by decide +kernel
theorem dX7_load_195 : decode cX7_load 195 = .ok (.iadd, 1) := by decide +kernel
theorem dX7_load_196 : decode cX7_load 196 = .ok (.iaload, 1) := by decide +kernel
theorem dX7_load_197 : decode cX7_load 197 = .ok (.iload 7, 2) := by decide +kernel
theorem dX7_load_199 : decode cX7_load 199 = .ok (.if_icmp .ne 9, 3) := by decide +kernel
theorem dX7_load_202 : decode cX7_load 202 = .ok (.iinc 4 1, 3) := by decide +kernel
theorem dX7_load_205 : decode cX7_load 205 = .ok (.goto 6, 3) := by decide +kernel
theorem dX7_load_208 : decode cX7_load 208 = .ok (.iinc 5 1, 3) := by decide +kernel
theorem dX7_load_211 : decode cX7_load 211 = .ok (.goto (-138), 3) := by decide +kernel
theorem dX7_load_214 : decode cX7_load 214 = .ok (.iconst 0, 1) := by decide +kernel
theorem dX7_load_215 : decode cX7_load 215 = .ok (.istore 7, 2) := by decide +kernel
theorem dX7_load_217 : decode cX7_load 217 = .ok (.iload 7, 2) := by decide +kernel
theorem dX7_load_219 : decode cX7_load 219 = .ok (.iload_n 2, 1) := by decide +kernel
theorem dX7_load_220 : decode cX7_load 220 = .ok (.if_icmp .ge 79, 3) := by decide +kernel
theorem dX7_load_223 : decode cX7_load 223 = .ok (.aload_n 0, 1) := by decide +kernel
theorem dX7_load_224 : decode cX7_load 224 = .ok (.getfield 73, 3) := by decide +kernel
theorem dX7_load_227 : decode cX7_load 227 = .ok (.iload 7, 2) := by decide +kernel
theorem dX7_load_229 : decode cX7_load 229 = .ok (.iaload, 1) := by decide +kernel
theorem dX7_load_230 : decode cX7_load 230 = .ok (.iconst (-1), 1) := by decide +kernel
theorem dX7_load_231 : decode cX7_load 231 = .ok (.if_icmp .ne 24, 3) := by decide +kernel
theorem dX7_load_234 : decode cX7_load 234 = .ok (.aload_n 0, 1) := by decide +kernel
theorem dX7_load_235 : decode cX7_load 235 = .ok (.getfield 73, 3) := by decide +kernel
theorem dX7_load_238 : decode cX7_load 238 = .ok (.iload 7, 2) := by decide +kernel
theorem dX7_load_240 : decode cX7_load 240 = .ok (.aload_n 0, 1) := by decide +kernel
theorem dX7_load_241 : decode cX7_load 241 = .ok (.getfield 152, 3) := by decide +kernel
theorem dX7_load_244 : decode cX7_load 244 = .ok (.iastore, 1) := by decide +kernel
theorem dX7_load_245 : decode cX7_load 245 = .ok (.aload_n 0, 1) := by decide +kernel
theorem dX7_load_246 : decode cX7_load 246 = .ok (.dup, 1) := by decide +kernel
theorem dX7_load_247 : decode cX7_load 247 = .ok (.getfield 152, 3) := by decide +kernel
theorem dX7_load_250 : decode cX7_load 250 = .ok (.iconst 1, 1) := by decide +kernel
theorem dX7_load_251 : decode cX7_load 251 = .ok (.iadd, 1) := by decide +kernel
theorem dX7_load_252 : decode cX7_load 252 = .ok (.putfield 152, 3) := by decide +kernel
theorem dX7_load_255 : decode cX7_load 255 = .ok (.aload_n 0, 1) := by decide +kernel
theorem dX7_load_256 : decode cX7_load 256 = .ok (.getfield 13, 3) := by decide +kernel
theorem dX7_load_259 : decode cX7_load 259 = .ok (.bipush 32, 2) := by decide +kernel
theorem dX7_load_261 : decode cX7_load 261 = .ok (.iload_n 1, 1) := by decide +kernel
theorem dX7_load_262 : decode cX7_load 262 = .ok (.imul, 1) := by decide +kernel
theorem dX7_load_263 : decode cX7_load 263 = .ok (.iload 7, 2) := by decide +kernel
theorem dX7_load_265 : decode cX7_load 265 = .ok (.iadd, 1) := by decide +kernel
theorem dX7_load_266 : decode cX7_load 266 = .ok (.aload_n 0, 1) := by decide +kernel
theorem dX7_load_267 : decode cX7_load 267 = .ok (.getfield 67, 3) := by decide +kernel
theorem dX7_load_270 : decode cX7_load 270 = .ok (.iload 7, 2) := by decide +kernel
theorem dX7_load_272 : decode cX7_load 272 = .ok (.iaload, 1) := by decide +kernel
theorem dX7_load_273 : decode cX7_load 273 = .ok (.iastore, 1) := by decide +kernel
theorem dX7_load_274 : decode cX7_load 274 = .ok (.aload_n 0, 1) := by decide +kernel
theorem dX7_load_275 : decode cX7_load 275 = .ok (.getfield 16, 3) := by decide +kernel
theorem dX7_load_278 : decode cX7_load 278 = .ok (.bipush 32, 2) := by decide +kernel
theorem dX7_load_280 : decode cX7_load 280 = .ok (.iload_n 1, 1) := by decide +kernel
theorem dX7_load_281 : decode cX7_load 281 = .ok (.imul, 1) := by decide +kernel
theorem dX7_load_282 : decode cX7_load 282 = .ok (.iload 7, 2) := by decide +kernel
theorem dX7_load_284 : decode cX7_load 284 = .ok (.iadd, 1) := by decide +kernel
theorem dX7_load_285 : decode cX7_load 285 = .ok (.aload_n 0, 1) := by decide +kernel
theorem dX7_load_286 : decode cX7_load 286 = .ok (.getfield 73, 3) := by decide +kernel
theorem dX7_load_289 : decode cX7_load 289 = .ok (.iload 7, 2) := by decide +kernel
theorem dX7_load_291 : decode cX7_load 291 = .ok (.iaload, 1) := by decide +kernel
theorem dX7_load_292 : decode cX7_load 292 = .ok (.iastore, 1) := by decide +kernel
theorem dX7_load_293 : decode cX7_load 293 = .ok (.iinc 7 1, 3) := by decide +kernel
theorem dX7_load_296 : decode cX7_load 296 = .ok (.goto (-79), 3) := by decide +kernel
theorem dX7_load_299 : decode cX7_load 299 = .ok (.aload_n 0, 1) := by decide +kernel
theorem dX7_load_300 : decode cX7_load 300 = .ok (.getfield 7, 3) := by decide +kernel
theorem dX7_load_303 : decode cX7_load 303 = .ok (.iload_n 1, 1) := by decide +kernel
theorem dX7_load_304 : decode cX7_load 304 = .ok (.iload_n 2, 1) := by decide +kernel
theorem dX7_load_305 : decode cX7_load 305 = .ok (.iastore, 1) := by decide +kernel
theorem dX7_load_306 : decode cX7_load 306 = .ok (.aload_n 0, 1) := by decide +kernel
theorem dX7_load_307 : decode cX7_load 307 = .ok (.iload_n 1, 1) := by decide +kernel
theorem dX7_load_308 : decode cX7_load 308 = .ok (.iload_n 3, 1) := by decide +kernel
theorem dX7_load_309 : decode cX7_load 309 = .ok (.invokevirtual 155, 3) := by decide +kernel
theorem dX7_load_312 : decode cX7_load 312 = .ok (.iload 6, 2) := by decide +kernel
theorem dX7_load_314 : decode cX7_load 314 = .ok (.ireturn, 1) := by decide +kernel
theorem dX7_day_0 : decode cX7_day 0 = .ok (.aload_n 0, 1) := by decide +kernel
theorem dX7_day_1 : decode cX7_day 1 = .ok (.getfield 173, 3) := by decide +kernel
theorem dX7_day_4 : decode cX7_day 4 = .ok (.sipush 10000, 3) := by decide +kernel
theorem dX7_day_7 : decode cX7_day 7 = .ok (.if_icmp .ne 5, 3) := by decide +kernel
theorem dX7_day_10 : decode cX7_day 10 = .ok (.iconst (-1), 1) := by decide +kernel
theorem dX7_day_11 : decode cX7_day 11 = .ok (.ireturn, 1) := by decide +kernel
theorem dX7_day_12 : decode cX7_day 12 = .ok (.aload_n 0, 1) := by decide +kernel
theorem dX7_day_13 : decode cX7_day 13 = .ok (.dup, 1) := by decide +kernel
theorem dX7_day_14 : decode cX7_day 14 = .ok (.getfield 173, 3) := by decide +kernel
theorem dX7_day_17 : decode cX7_day 17 = .ok (.iconst 1, 1) := by decide +kernel
theorem dX7_day_18 : decode cX7_day 18 = .ok (.iadd, 1) := by decide +kernel
theorem dX7_day_19 : decode cX7_day 19 = .ok (.putfield 173, 3) := by decide +kernel
theorem dX7_day_22 : decode cX7_day 22 = .ok (.aload_n 0, 1) := by decide +kernel
theorem dX7_day_23 : decode cX7_day 23 = .ok (.getfield 173, 3) := by decide +kernel
theorem dX7_day_26 : decode cX7_day 26 = .ok (.ireturn, 1) := by decide +kernel
theorem dX7_isSilent_0 : decode cX7_isSilent 0 = .ok (.aload_n 0, 1) := by decide +kernel
theorem dX7_isSilent_1 : decode cX7_isSilent 1 = .ok (.getfield 173, 3) := by decide +kernel
theorem dX7_isSilent_4 : decode cX7_isSilent 4 = .ok (.aload_n 0, 1) := by decide +kernel
theorem dX7_isSilent_5 : decode cX7_isSilent 5 = .ok (.getfield 34, 3) := by decide +kernel
theorem dX7_isSilent_8 : decode cX7_isSilent 8 = .ok (.iload_n 1, 1) := by decide +kernel
theorem dX7_isSilent_9 : decode cX7_isSilent 9 = .ok (.iaload, 1) := by decide +kernel
theorem dX7_isSilent_10 : decode cX7_isSilent 10 = .ok (.if_icmp .ge 7, 3) := by decide +kernel
theorem dX7_isSilent_13 : decode cX7_isSilent 13 = .ok (.iconst 1, 1) := by decide +kernel
theorem dX7_isSilent_14 : decode cX7_isSilent 14 = .ok (.goto 4, 3) := by decide +kernel
theorem dX7_isSilent_17 : decode cX7_isSilent 17 = .ok (.iconst 0, 1) := by decide +kernel
theorem dX7_isSilent_18 : decode cX7_isSilent 18 = .ok (.ireturn, 1) := by decide +kernel
theorem dX7_isFinding_0 : decode cX7_isFinding 0 = .ok (.iload_n 1, 1) := by decide +kernel
theorem dX7_isFinding_1 : decode cX7_isFinding 1 = .ok (.iconst 0, 1) := by decide +kernel
theorem dX7_isFinding_2 : decode cX7_isFinding 2 = .ok (.aload_n 0, 1) := by decide +kernel
theorem dX7_isFinding_3 : decode cX7_isFinding 3 = .ok (.getfield 118, 3) := by decide +kernel
theorem dX7_isFinding_6 : decode cX7_isFinding 6 = .ok (.iconst 1, 1) := by decide +kernel
theorem dX7_isFinding_7 : decode cX7_isFinding 7 = .ok (.isub, 1) := by decide +kernel
theorem dX7_isFinding_8 : decode cX7_isFinding 8 = .ok (.invokestatic 76, 3) := by decide +kernel
theorem dX7_isFinding_11 : decode cX7_isFinding 11 = .ok (.ireturn, 1) := by decide +kernel
theorem dX7_silence_0 : decode cX7_silence 0 = .ok (.aload_n 0, 1) := by decide +kernel
theorem dX7_silence_1 : decode cX7_silence 1 = .ok (.iload_n 1, 1) := by decide +kernel
theorem dX7_silence_2 : decode cX7_silence 2 = .ok (.invokevirtual 176, 3) := by decide +kernel
theorem dX7_silence_5 : decode cX7_silence 5 = .ok (.ifCond .eq 23, 3) := by decide +kernel
theorem dX7_silence_8 : decode cX7_silence 8 = .ok (.iload_n 2, 1) := by decide +kernel
theorem dX7_silence_9 : decode cX7_silence 9 = .ok (.iconst 1, 1) := by decide +kernel
theorem dX7_silence_10 : decode cX7_silence 10 = .ok (.bipush 99, 2) := by decide +kernel
theorem dX7_silence_12 : decode cX7_silence 12 = .ok (.invokestatic 76, 3) := by decide +kernel
theorem dX7_silence_15 : decode cX7_silence 15 = .ok (.ifCond .eq 13, 3) := by decide +kernel
theorem dX7_silence_18 : decode cX7_silence 18 = .ok (.iload_n 3, 1) := by decide +kernel
theorem dX7_silence_19 : decode cX7_silence 19 = .ok (.iconst 0, 1) := by decide +kernel
theorem dX7_silence_20 : decode cX7_silence 20 = .ok (.bipush 99, 2) := by decide +kernel
theorem dX7_silence_22 : decode cX7_silence 22 = .ok (.invokestatic 76, 3) := by decide +kernel
theorem dX7_silence_25 : decode cX7_silence 25 = .ok (.ifCond .ne 5, 3) := by decide +kernel
theorem dX7_silence_28 : decode cX7_silence 28 = .ok (.iconst 0, 1) := by decide +kernel
theorem dX7_silence_29 : decode cX7_silence 29 = .ok (.ireturn, 1) := by decide +kernel
theorem dX7_silence_30 : decode cX7_silence 30 = .ok (.aload_n 0, 1) := by decide +kernel
theorem dX7_silence_31 : decode cX7_silence 31 = .ok (.getfield 34, 3) := by decide +kernel
theorem dX7_silence_34 : decode cX7_silence 34 = .ok (.iload_n 1, 1) := by decide +kernel
theorem dX7_silence_35 : decode cX7_silence 35 = .ok (.aload_n 0, 1) := by decide +kernel
theorem dX7_silence_36 : decode cX7_silence 36 = .ok (.getfield 173, 3) := by decide +kernel
theorem dX7_silence_39 : decode cX7_silence 39 = .ok (.iload_n 2, 1) := by decide +kernel
theorem dX7_silence_40 : decode cX7_silence 40 = .ok (.iadd, 1) := by decide +kernel
theorem dX7_silence_41 : decode cX7_silence 41 = .ok (.iastore, 1) := by decide +kernel
theorem dX7_silence_42 : decode cX7_silence 42 = .ok (.aload_n 0, 1) := by decide +kernel
theorem dX7_silence_43 : decode cX7_silence 43 = .ok (.getfield 37, 3) := by decide +kernel
theorem dX7_silence_46 : decode cX7_silence 46 = .ok (.iload_n 1, 1) := by decide +kernel
theorem dX7_silence_47 : decode cX7_silence 47 = .ok (.iload_n 3, 1) := by decide +kernel
theorem dX7_silence_48 : decode cX7_silence 48 = .ok (.iastore, 1) := by decide +kernel
theorem dX7_silence_49 : decode cX7_silence 49 = .ok (.iconst 1, 1) := by decide +kernel
theorem dX7_silence_50 : decode cX7_silence 50 = .ok (.ireturn, 1) := by decide +kernel
theorem dX7_speak_0 : decode cX7_speak 0 = .ok (.aload_n 0, 1) := by decide +kernel
theorem dX7_speak_1 : decode cX7_speak 1 = .ok (.iload_n 1, 1) := by decide +kernel
theorem dX7_speak_2 : decode cX7_speak 2 = .ok (.invokevirtual 176, 3) := by decide +kernel
theorem dX7_speak_5 : decode cX7_speak 5 = .ok (.ifCond .eq 11, 3) := by decide +kernel
theorem dX7_speak_8 : decode cX7_speak 8 = .ok (.aload_n 0, 1) := by decide +kernel
theorem dX7_speak_9 : decode cX7_speak 9 = .ok (.iload_n 1, 1) := by decide +kernel
theorem dX7_speak_10 : decode cX7_speak 10 = .ok (.invokevirtual 179, 3) := by decide +kernel
theorem dX7_speak_13 : decode cX7_speak 13 = .ok (.ifCond .ne 5, 3) := by decide +kernel
theorem dX7_speak_16 : decode cX7_speak 16 = .ok (.iconst 0, 1) := by decide +kernel
theorem dX7_speak_17 : decode cX7_speak 17 = .ok (.ireturn, 1) := by decide +kernel
theorem dX7_speak_18 : decode cX7_speak 18 = .ok (.aload_n 0, 1) := by decide +kernel
theorem dX7_speak_19 : decode cX7_speak 19 = .ok (.getfield 34, 3) := by decide +kernel
theorem dX7_speak_22 : decode cX7_speak 22 = .ok (.iload_n 1, 1) := by decide +kernel
theorem dX7_speak_23 : decode cX7_speak 23 = .ok (.iconst 0, 1) := by decide +kernel
theorem dX7_speak_24 : decode cX7_speak 24 = .ok (.iastore, 1) := by decide +kernel
theorem dX7_speak_25 : decode cX7_speak 25 = .ok (.iconst 1, 1) := by decide +kernel
theorem dX7_speak_26 : decode cX7_speak 26 = .ok (.ireturn, 1) := by decide +kernel
theorem dX7_look_0 : decode cX7_look 0 = .ok (.iconst 0, 1) := by decide +kernel
theorem dX7_look_1 : decode cX7_look 1 = .ok (.istore_n 2, 1) := by decide +kernel
theorem dX7_look_2 : decode cX7_look 2 = .ok (.iload_n 1, 1) := by decide +kernel
theorem dX7_look_3 : decode cX7_look 3 = .ok (.tableswitch 143 0 8 #[49, 54, 59, 64, 98, 103, 108, 133, 138], 49) := by decide +kernel
theorem dX7_look_52 : decode cX7_look 52 = .ok (.aload_n 0, 1) := by decide +kernel
theorem dX7_look_53 : decode cX7_look 53 = .ok (.getfield 115, 3) := by decide +kernel
theorem dX7_look_56 : decode cX7_look 56 = .ok (.ireturn, 1) := by decide +kernel
theorem dX7_look_57 : decode cX7_look 57 = .ok (.aload_n 0, 1) := by decide +kernel
theorem dX7_look_58 : decode cX7_look 58 = .ok (.getfield 173, 3) := by decide +kernel
theorem dX7_look_61 : decode cX7_look 61 = .ok (.ireturn, 1) := by decide +kernel
theorem dX7_look_62 : decode cX7_look 62 = .ok (.aload_n 0, 1) := by decide +kernel
theorem dX7_look_63 : decode cX7_look 63 = .ok (.getfield 118, 3) := by decide +kernel
theorem dX7_look_66 : decode cX7_look 66 = .ok (.ireturn, 1) := by decide +kernel
theorem dX7_look_67 : decode cX7_look 67 = .ok (.iconst 0, 1) := by decide +kernel
theorem dX7_look_68 : decode cX7_look 68 = .ok (.istore_n 3, 1) := by decide +kernel
theorem dX7_look_69 : decode cX7_look 69 = .ok (.iload_n 3, 1) := by decide +kernel
theorem dX7_look_70 : decode cX7_look 70 = .ok (.aload_n 0, 1) := by decide +kernel
theorem dX7_look_71 : decode cX7_look 71 = .ok (.getfield 118, 3) := by decide +kernel
theorem dX7_look_74 : decode cX7_look 74 = .ok (.if_icmp .ge 25, 3) := by decide +kernel
theorem dX7_look_77 : decode cX7_look 77 = .ok (.iload_n 2, 1) := by decide +kernel
theorem dX7_look_78 : decode cX7_look 78 = .ok (.aload_n 0, 1) := by decide +kernel
theorem dX7_look_79 : decode cX7_look 79 = .ok (.iload_n 3, 1) := by decide +kernel
theorem dX7_look_80 : decode cX7_look 80 = .ok (.invokevirtual 179, 3) := by decide +kernel
theorem dX7_look_83 : decode cX7_look 83 = .ok (.ifCond .eq 7, 3) := by decide +kernel
theorem dX7_look_86 : decode cX7_look 86 = .ok (.iconst 1, 1) := by decide +kernel
theorem dX7_look_87 : decode cX7_look 87 = .ok (.goto 4, 3) := by decide +kernel
theorem dX7_look_90 : decode cX7_look 90 = .ok (.iconst 0, 1) := by decide +kernel
theorem dX7_look_91 : decode cX7_look 91 = .ok (.iadd, 1) := by decide +kernel
theorem dX7_look_92 : decode cX7_look 92 = .ok (.istore_n 2, 1) := by decide +kernel
theorem dX7_look_93 : decode cX7_look 93 = .ok (.iinc 3 1, 3) := by decide +kernel
theorem dX7_look_96 : decode cX7_look 96 = .ok (.goto (-27), 3) := by decide +kernel
theorem dX7_look_99 : decode cX7_look 99 = .ok (.iload_n 2, 1) := by decide +kernel
theorem dX7_look_100 : decode cX7_look 100 = .ok (.ireturn, 1) := by decide +kernel
theorem dX7_look_101 : decode cX7_look 101 = .ok (.aload_n 0, 1) := by decide +kernel
theorem dX7_look_102 : decode cX7_look 102 = .ok (.getfield 137, 3) := by decide +kernel
theorem dX7_look_105 : decode cX7_look 105 = .ok (.ireturn, 1) := by decide +kernel
theorem dX7_look_106 : decode cX7_look 106 = .ok (.aload_n 0, 1) := by decide +kernel
theorem dX7_look_107 : decode cX7_look 107 = .ok (.getfield 140, 3) := by decide +kernel
theorem dX7_look_110 : decode cX7_look 110 = .ok (.ireturn, 1) := by decide +kernel
theorem dX7_look_111 : decode cX7_look 111 = .ok (.iconst 0, 1) := by decide +kernel
theorem dX7_look_112 : decode cX7_look 112 = .ok (.istore_n 3, 1) := by decide +kernel
theorem dX7_look_113 : decode cX7_look 113 = .ok (.iload_n 3, 1) := by decide +kernel
theorem dX7_look_114 : decode cX7_look 114 = .ok (.bipush 6, 2) := by decide +kernel
theorem dX7_look_116 : decode cX7_look 116 = .ok (.if_icmp .ge 18, 3) := by decide +kernel
theorem dX7_look_119 : decode cX7_look 119 = .ok (.iload_n 2, 1) := by decide +kernel
theorem dX7_look_120 : decode cX7_look 120 = .ok (.aload_n 0, 1) := by decide +kernel
theorem dX7_look_121 : decode cX7_look 121 = .ok (.getfield 7, 3) := by decide +kernel
theorem dX7_look_124 : decode cX7_look 124 = .ok (.iload_n 3, 1) := by decide +kernel
theorem dX7_look_125 : decode cX7_look 125 = .ok (.iaload, 1) := by decide +kernel
theorem dX7_look_126 : decode cX7_look 126 = .ok (.iadd, 1) := by decide +kernel
theorem dX7_look_127 : decode cX7_look 127 = .ok (.istore_n 2, 1) := by decide +kernel
theorem dX7_look_128 : decode cX7_look 128 = .ok (.iinc 3 1, 3) := by decide +kernel
theorem dX7_look_131 : decode cX7_look 131 = .ok (.goto (-18), 3) := by decide +kernel
theorem dX7_look_134 : decode cX7_look 134 = .ok (.iload_n 2, 1) := by decide +kernel
theorem dX7_look_135 : decode cX7_look 135 = .ok (.ireturn, 1) := by decide +kernel
theorem dX7_look_136 : decode cX7_look 136 = .ok (.aload_n 0, 1) := by decide +kernel
theorem dX7_look_137 : decode cX7_look 137 = .ok (.getfield 152, 3) := by decide +kernel
theorem dX7_look_140 : decode cX7_look 140 = .ok (.ireturn, 1) := by decide +kernel
theorem dX7_look_141 : decode cX7_look 141 = .ok (.aload_n 0, 1) := by decide +kernel
theorem dX7_look_142 : decode cX7_look 142 = .ok (.getfield 99, 3) := by decide +kernel
theorem dX7_look_145 : decode cX7_look 145 = .ok (.ireturn, 1) := by decide +kernel
theorem dX7_look_146 : decode cX7_look 146 = .ok (.iconst (-1), 1) := by decide +kernel
theorem dX7_look_147 : decode cX7_look 147 = .ok (.ireturn, 1) := by decide +kernel
theorem dX7_line_0 : decode cX7_line 0 = .ok (.aload_n 0, 1) := by decide +kernel
theorem dX7_line_1 : decode cX7_line 1 = .ok (.iload_n 1, 1) := by decide +kernel
theorem dX7_line_2 : decode cX7_line 2 = .ok (.iload_n 2, 1) := by decide +kernel
theorem dX7_line_3 : decode cX7_line 3 = .ok (.invokevirtual 159, 3) := by decide +kernel
theorem dX7_line_6 : decode cX7_line 6 = .ok (.ifCond .ne 7, 3) := by decide +kernel
theorem dX7_line_9 : decode cX7_line 9 = .ok (.iconst (-1), 1) := by decide +kernel
theorem dX7_line_10 : decode cX7_line 10 = .ok (.goto 41, 3) := by decide +kernel
theorem dX7_line_13 : decode cX7_line 13 = .ok (.iload_n 3, 1) := by decide +kernel
theorem dX7_line_14 : decode cX7_line 14 = .ok (.ifCond .ne 17, 3) := by decide +kernel
theorem dX7_line_17 : decode cX7_line 17 = .ok (.aload_n 0, 1) := by decide +kernel
theorem dX7_line_18 : decode cX7_line 18 = .ok (.getfield 13, 3) := by decide +kernel
theorem dX7_line_21 : decode cX7_line 21 = .ok (.bipush 32, 2) := by decide +kernel
theorem dX7_line_23 : decode cX7_line 23 = .ok (.iload_n 1, 1) := by decide +kernel
theorem dX7_line_24 : decode cX7_line 24 = .ok (.imul, 1) := by decide +kernel
theorem dX7_line_25 : decode cX7_line 25 = .ok (.iload_n 2, 1) := by decide +kernel
theorem dX7_line_26 : decode cX7_line 26 = .ok (.iadd, 1) := by decide +kernel
theorem dX7_line_27 : decode cX7_line 27 = .ok (.iaload, 1) := by decide +kernel
theorem dX7_line_28 : decode cX7_line 28 = .ok (.goto 23, 3) := by decide +kernel
theorem dX7_line_31 : decode cX7_line 31 = .ok (.iload_n 3, 1) := by decide +kernel
theorem dX7_line_32 : decode cX7_line 32 = .ok (.iconst 1, 1) := by decide +kernel
theorem dX7_line_33 : decode cX7_line 33 = .ok (.if_icmp .ne 17, 3) := by decide +kernel
theorem dX7_line_36 : decode cX7_line 36 = .ok (.aload_n 0, 1) := by decide +kernel
theorem dX7_line_37 : decode cX7_line 37 = .ok (.getfield 16, 3) := by decide +kernel
theorem dX7_line_40 : decode cX7_line 40 = .ok (.bipush 32, 2) := by decide +kernel
theorem dX7_line_42 : decode cX7_line 42 = .ok (.iload_n 1, 1) := by decide +kernel
theorem dX7_line_43 : decode cX7_line 43 = .ok (.imul, 1) := by decide +kernel
theorem dX7_line_44 : decode cX7_line 44 = .ok (.iload_n 2, 1) := by decide +kernel
theorem dX7_line_45 : decode cX7_line 45 = .ok (.iadd, 1) := by decide +kernel
theorem dX7_line_46 : decode cX7_line 46 = .ok (.iaload, 1) := by decide +kernel
theorem dX7_line_47 : decode cX7_line 47 = .ok (.goto 4, 3) := by decide +kernel
theorem dX7_line_50 : decode cX7_line 50 = .ok (.iconst (-1), 1) := by decide +kernel
theorem dX7_line_51 : decode cX7_line 51 = .ok (.ireturn, 1) := by decide +kernel
theorem dX7_finding_0 : decode cX7_finding 0 = .ok (.aload_n 0, 1) := by decide +kernel
theorem dX7_finding_1 : decode cX7_finding 1 = .ok (.iload_n 1, 1) := by decide +kernel
theorem dX7_finding_2 : decode cX7_finding 2 = .ok (.invokevirtual 176, 3) := by decide +kernel
theorem dX7_finding_5 : decode cX7_finding 5 = .ok (.ifCond .ne 5, 3) := by decide +kernel
theorem dX7_finding_8 : decode cX7_finding 8 = .ok (.iconst (-1), 1) := by decide +kernel
theorem dX7_finding_9 : decode cX7_finding 9 = .ok (.ireturn, 1) := by decide +kernel
theorem dX7_finding_10 : decode cX7_finding 10 = .ok (.iload_n 2, 1) := by decide +kernel
theorem dX7_finding_11 : decode cX7_finding 11 = .ok (.tableswitch 137 0 7 #[45, 52, 59, 66, 73, 80, 94, 118], 45) := by decide +kernel
theorem dX7_finding_56 : decode cX7_finding 56 = .ok (.aload_n 0, 1) := by decide +kernel
theorem dX7_finding_57 : decode cX7_finding 57 = .ok (.getfield 19, 3) := by decide +kernel
theorem dX7_finding_60 : decode cX7_finding 60 = .ok (.iload_n 1, 1) := by decide +kernel
theorem dX7_finding_61 : decode cX7_finding 61 = .ok (.iaload, 1) := by decide +kernel
theorem dX7_finding_62 : decode cX7_finding 62 = .ok (.ireturn, 1) := by decide +kernel
theorem dX7_finding_63 : decode cX7_finding 63 = .ok (.aload_n 0, 1) := by decide +kernel
theorem dX7_finding_64 : decode cX7_finding 64 = .ok (.getfield 22, 3) := by decide +kernel
theorem dX7_finding_67 : decode cX7_finding 67 = .ok (.iload_n 1, 1) := by decide +kernel
theorem dX7_finding_68 : decode cX7_finding 68 = .ok (.iaload, 1) := by decide +kernel
theorem dX7_finding_69 : decode cX7_finding 69 = .ok (.ireturn, 1) := by decide +kernel
theorem dX7_finding_70 : decode cX7_finding 70 = .ok (.aload_n 0, 1) := by decide +kernel
theorem dX7_finding_71 : decode cX7_finding 71 = .ok (.getfield 25, 3) := by decide +kernel
theorem dX7_finding_74 : decode cX7_finding 74 = .ok (.iload_n 1, 1) := by decide +kernel
theorem dX7_finding_75 : decode cX7_finding 75 = .ok (.iaload, 1) := by decide +kernel
theorem dX7_finding_76 : decode cX7_finding 76 = .ok (.ireturn, 1) := by decide +kernel
theorem dX7_finding_77 : decode cX7_finding 77 = .ok (.aload_n 0, 1) := by decide +kernel
theorem dX7_finding_78 : decode cX7_finding 78 = .ok (.getfield 28, 3) := by decide +kernel
theorem dX7_finding_81 : decode cX7_finding 81 = .ok (.iload_n 1, 1) := by decide +kernel
theorem dX7_finding_82 : decode cX7_finding 82 = .ok (.iaload, 1) := by decide +kernel
theorem dX7_finding_83 : decode cX7_finding 83 = .ok (.ireturn, 1) := by decide +kernel
theorem dX7_finding_84 : decode cX7_finding 84 = .ok (.aload_n 0, 1) := by decide +kernel
theorem dX7_finding_85 : decode cX7_finding 85 = .ok (.getfield 31, 3) := by decide +kernel
theorem dX7_finding_88 : decode cX7_finding 88 = .ok (.iload_n 1, 1) := by decide +kernel
theorem dX7_finding_89 : decode cX7_finding 89 = .ok (.iaload, 1) := by decide +kernel
theorem dX7_finding_90 : decode cX7_finding 90 = .ok (.ireturn, 1) := by decide +kernel
theorem dX7_finding_91 : decode cX7_finding 91 = .ok (.aload_n 0, 1) := by decide +kernel
theorem dX7_finding_92 : decode cX7_finding 92 = .ok (.iload_n 1, 1) := by decide +kernel
theorem dX7_finding_93 : decode cX7_finding 93 = .ok (.invokevirtual 179, 3) := by decide +kernel
theorem dX7_finding_96 : decode cX7_finding 96 = .ok (.ifCond .eq 7, 3) := by decide +kernel
theorem dX7_finding_99 : decode cX7_finding 99 = .ok (.iconst 1, 1) := by decide +kernel
theorem dX7_finding_100 : decode cX7_finding 100 = .ok (.goto 4, 3) := by decide +kernel
theorem dX7_finding_103 : decode cX7_finding 103 = .ok (.iconst 0, 1) := by decide +kernel
theorem dX7_finding_104 : decode cX7_finding 104 = .ok (.ireturn, 1) := by decide +kernel
theorem dX7_finding_105 : decode cX7_finding 105 = .ok (.aload_n 0, 1) := by decide +kernel
theorem dX7_finding_106 : decode cX7_finding 106 = .ok (.iload_n 1, 1) := by decide +kernel
theorem dX7_finding_107 : decode cX7_finding 107 = .ok (.invokevirtual 179, 3) := by decide +kernel
theorem dX7_finding_110 : decode cX7_finding 110 = .ok (.ifCond .eq 17, 3) := by decide +kernel
theorem dX7_finding_113 : decode cX7_finding 113 = .ok (.aload_n 0, 1) := by decide +kernel
theorem dX7_finding_114 : decode cX7_finding 114 = .ok (.getfield 34, 3) := by decide +kernel
theorem dX7_finding_117 : decode cX7_finding 117 = .ok (.iload_n 1, 1) := by decide +kernel
theorem dX7_finding_118 : decode cX7_finding 118 = .ok (.iaload, 1) := by decide +kernel
theorem dX7_finding_119 : decode cX7_finding 119 = .ok (.aload_n 0, 1) := by decide +kernel
theorem dX7_finding_120 : decode cX7_finding 120 = .ok (.getfield 173, 3) := by decide +kernel
theorem dX7_finding_123 : decode cX7_finding 123 = .ok (.isub, 1) := by decide +kernel
theorem dX7_finding_124 : decode cX7_finding 124 = .ok (.goto 4, 3) := by decide +kernel
theorem dX7_finding_127 : decode cX7_finding 127 = .ok (.iconst 0, 1) := by decide +kernel
theorem dX7_finding_128 : decode cX7_finding 128 = .ok (.ireturn, 1) := by decide +kernel
theorem dX7_finding_129 : decode cX7_finding 129 = .ok (.aload_n 0, 1) := by decide +kernel
theorem dX7_finding_130 : decode cX7_finding 130 = .ok (.iload_n 1, 1) := by decide +kernel
theorem dX7_finding_131 : decode cX7_finding 131 = .ok (.invokevirtual 179, 3) := by decide +kernel
theorem dX7_finding_134 : decode cX7_finding 134 = .ok (.ifCond .eq 12, 3) := by decide +kernel
theorem dX7_finding_137 : decode cX7_finding 137 = .ok (.aload_n 0, 1) := by decide +kernel
theorem dX7_finding_138 : decode cX7_finding 138 = .ok (.getfield 37, 3) := by decide +kernel
theorem dX7_finding_141 : decode cX7_finding 141 = .ok (.iload_n 1, 1) := by decide +kernel
theorem dX7_finding_142 : decode cX7_finding 142 = .ok (.iaload, 1) := by decide +kernel
theorem dX7_finding_143 : decode cX7_finding 143 = .ok (.goto 4, 3) := by decide +kernel
theorem dX7_finding_146 : decode cX7_finding 146 = .ok (.iconst (-1), 1) := by decide +kernel
theorem dX7_finding_147 : decode cX7_finding 147 = .ok (.ireturn, 1) := by decide +kernel
theorem dX7_finding_148 : decode cX7_finding 148 = .ok (.iconst (-1), 1) := by decide +kernel
theorem dX7_finding_149 : decode cX7_finding 149 = .ok (.ireturn, 1) := by decide +kernel
theorem dX7_since_0 : decode cX7_since 0 = .ok (.iload_n 2, 1) := by decide +kernel
theorem dX7_since_1 : decode cX7_since 1 = .ok (.iconst 0, 1) := by decide +kernel
theorem dX7_since_2 : decode cX7_since 2 = .ok (.iconst 1, 1) := by decide +kernel
theorem dX7_since_3 : decode cX7_since 3 = .ok (.invokestatic 76, 3) := by decide +kernel
theorem dX7_since_6 : decode cX7_since 6 = .ok (.ifCond .ne 5, 3) := by decide +kernel
theorem dX7_since_9 : decode cX7_since 9 = .ok (.iconst (-1), 1) := by decide +kernel
theorem dX7_since_10 : decode cX7_since 10 = .ok (.ireturn, 1) := by decide +kernel
theorem dX7_since_11 : decode cX7_since 11 = .ok (.iconst 0, 1) := by decide +kernel
theorem dX7_since_12 : decode cX7_since 12 = .ok (.istore_n 3, 1) := by decide +kernel
theorem dX7_since_13 : decode cX7_since 13 = .ok (.iconst 0, 1) := by decide +kernel
theorem dX7_since_14 : decode cX7_since 14 = .ok (.istore 4, 2) := by decide +kernel
theorem dX7_since_16 : decode cX7_since 16 = .ok (.iload 4, 2) := by decide +kernel
theorem dX7_since_18 : decode cX7_since 18 = .ok (.aload_n 0, 1) := by decide +kernel
theorem dX7_since_19 : decode cX7_since 19 = .ok (.getfield 118, 3) := by decide +kernel
theorem dX7_since_22 : decode cX7_since 22 = .ok (.if_icmp .ge 41, 3) := by decide +kernel
theorem dX7_since_25 : decode cX7_since 25 = .ok (.iload_n 3, 1) := by decide +kernel
theorem dX7_since_26 : decode cX7_since 26 = .ok (.aload_n 0, 1) := by decide +kernel
theorem dX7_since_27 : decode cX7_since 27 = .ok (.getfield 31, 3) := by decide +kernel
theorem dX7_since_30 : decode cX7_since 30 = .ok (.iload 4, 2) := by decide +kernel
theorem dX7_since_32 : decode cX7_since 32 = .ok (.iaload, 1) := by decide +kernel
theorem dX7_since_33 : decode cX7_since 33 = .ok (.iload_n 1, 1) := by decide +kernel
theorem dX7_since_34 : decode cX7_since 34 = .ok (.if_icmp .le 20, 3) := by decide +kernel
theorem dX7_since_37 : decode cX7_since 37 = .ok (.iload_n 2, 1) := by decide +kernel
theorem dX7_since_38 : decode cX7_since 38 = .ok (.ifCond .eq 12, 3) := by decide +kernel
theorem dX7_since_41 : decode cX7_since 41 = .ok (.aload_n 0, 1) := by decide +kernel
theorem dX7_since_42 : decode cX7_since 42 = .ok (.iload 4, 2) := by decide +kernel
theorem dX7_since_44 : decode cX7_since 44 = .ok (.invokevirtual 179, 3) := by decide +kernel
theorem dX7_since_47 : decode cX7_since 47 = .ok (.ifCond .ne 7, 3) := by decide +kernel
theorem dX7_since_50 : decode cX7_since 50 = .ok (.iconst 1, 1) := by decide +kernel
theorem dX7_since_51 : decode cX7_since 51 = .ok (.goto 4, 3) := by decide +kernel
theorem dX7_since_54 : decode cX7_since 54 = .ok (.iconst 0, 1) := by decide +kernel
theorem dX7_since_55 : decode cX7_since 55 = .ok (.iadd, 1) := by decide +kernel
theorem dX7_since_56 : decode cX7_since 56 = .ok (.istore_n 3, 1) := by decide +kernel
theorem dX7_since_57 : decode cX7_since 57 = .ok (.iinc 4 1, 3) := by decide +kernel
theorem dX7_since_60 : decode cX7_since 60 = .ok (.goto (-44), 3) := by decide +kernel
theorem dX7_since_63 : decode cX7_since 63 = .ok (.iload_n 3, 1) := by decide +kernel
theorem dX7_since_64 : decode cX7_since 64 = .ok (.ireturn, 1) := by decide +kernel
end
section
/-! OWN KIT: a world is a function from addresses to cells; every method is walked against a pure function over it. -/
/-- a cell: an int array (length, contents), an array of references (its kind, length, contents), an object (class, fields) -/
abbrev Ent : Type := (Nat × (Nat → Int32)) ⊕ ((Nat × Nat × (Nat → Option Nat)) ⊕ (Nat × List Value))
abbrev Fw : Type := Nat → Option Ent
def fz_E (dA : Nat → ClassId) (e : Ent) : va_E := match e with
  | .inl q => .inl (dA 0, q.1, .inl q.2)
  | .inr (.inl q) => .inl (dA (q.1 + 1), q.2.1, .inr (.inr (.inr (.inr q.2.2))))
  | .inr (.inr o) => .inr o
def fup (w : Fw) (a : Nat) (e : Ent) : Fw := fun q => if q = a then some e else w q
/-- the heap holds the world, and all its cells may be written -/
def Rp (D : va_G) (dA : Nat → ClassId) (A : Nat → Prop) (w : Fw) (H : Heap) : Prop := ∀ (a : Nat) (e : Ent), w a = some e → va_at D vwCl (a, fz_E dA e) H ∧ A a
abbrev fz_tys (dA : Nat → ClassId) : List (ClassId × FieldType) := [(dA 0, .int), (dA 1, .object RX4), (dA 2, .array .int)]
abbrev yhas : MethodName := yX6_has
def Kp (D : va_G) (dA : Nat → ClassId) (U : State) : Prop := va_K D vwCl (fz_tys dA) U ∧ va_Nw (.methodLinkNest RX0 28 yX6_has RX6) U ∧ va_Nw (.methodLinkNest RX4 61 yX6_has RX6) U
theorem Kp.warm {D : va_G} {dA : Nat → ClassId} {s U : State} (h : Kp D dA s) (hW : s.WarmedH U.vm) : Kp D dA U := ⟨va_K.moved hW.alike h.1, va_Nw.warmM hW h.2.1, va_Nw.warmM hW h.2.2⟩
theorem Kp.same {D : va_G} {dA : Nat → ClassId} {s U : State} (h : Kp D dA s) (hv : s.vm = U.vm) : Kp D dA U := ⟨va_K.moved (hv ▸ Vm.Alike.refl s.vm) h.1, va_Nw.same rfl hv h.2.1, va_Nw.same rfl hv h.2.2⟩
-- reads and writes of a world
def gI (w : Fw) (a ci k : Nat) : Option Int32 := match w a with
  | some (.inr (.inr (c, fs))) => if c = ci then (match fs[k]? with | some (.int v) => some v | _ => none) else none
  | _ => none
def gR (w : Fw) (a ci k : Nat) : Option Nat := match w a with
  | some (.inr (.inr (c, fs))) => if c = ci then (match fs[k]? with | some (.ref v) => some v | _ => none) else none
  | _ => none
def pF (w : Fw) (a ci k : Nat) (v : Value) : Option Fw := match w a with
  | some (.inr (.inr (c, fs))) => if c = ci ∧ k < fs.length then some (fup w a (.inr (.inr (c, fs.set k v)))) else none
  | _ => none
def lI (w : Fw) (a : Nat) (i : Int32) : Option Int32 := match w a with
  | some (.inl (n, f)) => if i < 0 ∨ n ≤ i.toNatClampNeg then none else some (f i.toNatClampNeg)
  | _ => none
def sI (w : Fw) (a : Nat) (i x : Int32) : Option Fw := match w a with
  | some (.inl (n, f)) => if i < 0 ∨ n ≤ i.toNatClampNeg then none else some (fup w a (.inl (n, upd f i.toNatClampNeg x)))
  | _ => none
def lR (w : Fw) (kd a : Nat) (i : Int32) : Option Nat := match w a with
  | some (.inr (.inl (k, n, f))) => if k = kd then (if i < 0 ∨ n ≤ i.toNatClampNeg then none else f i.toNatClampNeg) else none
  | _ => none
def isO (w : Fw) (a ci : Nat) : Option Unit := match w a with
  | some (.inr (.inr (c, _))) => if c = ci then some () else none
  | _ => none
def dv (y : Int32) : Option Unit := if y = 0 then none else some ()
def zb (x : Int32) : Option Int32 := if x = 0 ∨ x = 1 then some x else none
theorem zb_some {x r : Int32} (h : zb x = some r) : (x = 0 ∨ x = 1) ∧ x = r := by
  unfold zb at h
  split at h
  · next hc => cases h; exact ⟨hc, rfl⟩
  · cases h
theorem gI_some {w : Fw} {a ci k : Nat} {v : Int32} (h : gI w a ci k = some v) : ∃ fs, w a = some (.inr (.inr (ci, fs))) ∧ fs[k]? = some (.int v) := by
  unfold gI at h
  split at h
  · next c fs e =>
    split at h
    · next hc =>
      subst hc
      split at h
      · next x ex => cases h; exact ⟨fs, e, ex⟩
      · cases h
    · cases h
  · cases h
theorem gR_some {w : Fw} {a ci k v : Nat} (h : gR w a ci k = some v) : ∃ fs, w a = some (.inr (.inr (ci, fs))) ∧ fs[k]? = some (.ref v) := by
  unfold gR at h
  split at h
  · next c fs e =>
    split at h
    · next hc =>
      subst hc
      split at h
      · next x ex => cases h; exact ⟨fs, e, ex⟩
      · cases h
    · cases h
  · cases h
theorem pF_some {w w' : Fw} {a ci k : Nat} {v : Value} (h : pF w a ci k v = some w') : ∃ fs, w a = some (.inr (.inr (ci, fs))) ∧ k < fs.length ∧ w' = fup w a (.inr (.inr (ci, fs.set k v))) := by
  unfold pF at h
  split at h
  · next c fs e =>
    split at h
    · next hc =>
      obtain ⟨hc, hk⟩ := hc
      subst hc
      cases h
      exact ⟨fs, e, hk, rfl⟩
    · cases h
  · cases h
theorem lI_some {w : Fw} {a : Nat} {i v : Int32} (h : lI w a i = some v) : ∃ n f, w a = some (.inl (n, f)) ∧ vp_in i n ∧ v = f i.toNatClampNeg := by
  unfold lI at h
  split at h
  · next n f e =>
    split at h
    · cases h
    · next hc => cases h; exact ⟨n, f, e, hc, rfl⟩
  · cases h
theorem sI_some {w w' : Fw} {a : Nat} {i x : Int32} (h : sI w a i x = some w') : ∃ n f, w a = some (.inl (n, f)) ∧ vp_in i n ∧ w' = fup w a (.inl (n, upd f i.toNatClampNeg x)) := by
  unfold sI at h
  split at h
  · next n f e =>
    split at h
    · cases h
    · next hc => cases h; exact ⟨n, f, e, hc, rfl⟩
  · cases h
theorem lR_some {w : Fw} {kd a v : Nat} {i : Int32} (h : lR w kd a i = some v) : ∃ n f, w a = some (.inr (.inl (kd, n, f))) ∧ vp_in i n ∧ f i.toNatClampNeg = some v := by
  unfold lR at h
  split at h
  · next k n f e =>
    split at h
    · next hk =>
      subst hk
      split at h
      · cases h
      · next hc => exact ⟨n, f, e, hc, h⟩
    · cases h
  · cases h
theorem isO_some {w : Fw} {a ci : Nat} {u : Unit} (h : isO w a ci = some u) : ∃ fs, w a = some (.inr (.inr (ci, fs))) := by
  unfold isO at h
  split at h
  · next c fs e =>
    split at h
    · next hc => subst hc; exact ⟨fs, e⟩
    · cases h
  · cases h
theorem dv_some {y : Int32} {u : Unit} (h : dv y = some u) : ¬ y = 0 := by
  unfold dv at h
  split at h
  · cases h
  · assumption
theorem bd {α β : Type} {o : Option α} {f : α → Option β} {r : β} (h : o.bind f = some r) : ∃ x, o = some x ∧ f x = some r := Option.bind_eq_some_iff.mp h
theorem fz_P1 {D : va_G} {dA : Nat → ClassId} {A : Nat → Prop} {w : Fw} {H : Heap} {a : Nat} {e : Ent} (h : Rp D dA A w H) (hw : w a = some e) : va_P D vwCl [(a, fz_E dA e)] H := by
  intro k q hk
  have hz : k < 1 := (List.getElem?_eq_some_iff.mp hk).1
  rw [show k = 0 by omega] at hk
  cases hk
  exact (h a e hw).1
theorem Rp.set {D : va_G} {dA : Nat → ClassId} {A : Nat → Prop} {w : Fw} {H H1 : Heap} {a : Nat} {e0 e : Ent} (h : Rp D dA A w H) (hw : w a = some e0) (he : va_at D vwCl (a, fz_E dA e) H1) (oq : ∀ q : Nat, q ≠ a → H1[q]? = H[q]?) : Rp D dA A (fup w a e) H1 := by
  intro b x hb
  unfold fup at hb
  by_cases hba : b = a
  · subst hba
    rw [if_pos rfl] at hb
    cases hb
    exact ⟨he, (h b e0 hw).2⟩
  · rw [if_neg hba] at hb
    exact ⟨(h b x hb).1.kept (oq b hba), (h b x hb).2⟩
/-- what a method's walk stands on -/
def Cx (p : Program) (s : State) (m : MethodId) (args : Array Value) (meth : Method) (c : Code) (D : va_G) (dA : Nat → ClassId) (own : String) (cc : ByteArray) (nL : Nat) (ret : Option FieldType) : Prop :=
  p.tables.exec = Jvm.exec ∧ c.code = cc ∧ meth.sig.returnType = ret ∧ c.maxLocals = nL ∧ s.vm.findClass own = some m.cls ∧ (∀ w ∈ lw_g, w.before args s = true) ∧ Kp D dA s ∧ meth.locks = false
/-- a field's link: its class and place -/
def FL (own : String) (index ci k : Nat) : Prop := ∃ (C : String) (T : u_T) (N : Nat), vwCl[ci]? = some (C, T, N) ∧ k < N ∧ Cond.fieldLink own index (T k).1 (T k).2.1 (T k).2.2.1 ∈ lw_g ∧ ∀ w ∈ u_ws C T N, w ∈ lw_g
def FP (own : String) (index ci k : Nat) (ty : FieldType) : Prop := ∃ (C : String) (T : u_T) (N : Nat) (ty0 : Nat → FieldType), vwCl[ci]? = some (C, T, N) ∧ k < N ∧ Cond.fieldLink own index (T k).1 (T k).2.1 (T k).2.2.1 ∈ lw_g ∧ (∀ w ∈ u_ws C T N, w ∈ lw_g) ∧ (∀ k, k < N → parseFieldDescriptor (T k).2.2.1 = some (ty0 k)) ∧ (∀ a, a < N → ∀ b, b < N → a ≠ b → (T a).2.1 ≠ (T b).2.1) ∧ (T k).2.2.2 = false ∧ parseFieldDescriptor (T k).2.2.1 = some ty
def wz (y : MethodName) (cc : ByteArray) (n : Nat) (ret : Option FieldType) : List Cond := .code y cc n ret :: lw_g
/-- a method: its code is in the tables, its class is initialised, how many parameters -/
def MY (y : MethodName) (cc : ByteArray) (n : Nat) (ret : Option FieldType) (np : Nat) : Prop := Cond.code y cc n ret ∈ lw_g ∧ Cond.initialized y.cls ∈ lw_g ∧ (y.cls ≠ "java/lang/invoke/MethodHandle" ∧ y.cls ≠ "java/lang/invoke/VarHandle" ∧ (parseMethodDescriptor y.desc).map (fun d => d.parameters.length) = some np)
def MV (y : MethodName) (C : String) : Prop := Cond.instanceMethod y ∈ lw_g ∧ Cond.selects C y y ∈ lw_g
abbrev rz (f n : Nat) : Room := { frames := f, cells := 0, slots := 0, locals := n }
theorem fz_goodIn {y : MethodName} {cc : ByteArray} {n : Nat} {ret : Option FieldType} (h : Cond.code y cc n ret ∈ lw_g) : GoodIn lw_g (wz y cc n ret) := by
  intro w hw
  have hm : w ∈ lw_g := (List.mem_cons.mp hw).elim (fun e => by rw [e]; exact h) id
  exact ⟨hm, good_of_word (List.mem_filter.mp hm).2⟩
def Pz (D : va_G) (dA : Nat → ClassId) (A : Nat → Prop) (w : Fw) (av : List Value) : Array Value → State → Prop := va_Pc av (fun U => Rp D dA A w U.heap ∧ Kp D dA U)
abbrev QzI (D : va_G) (dA : Nat → ClassId) (A : Nat → Prop) (r : Int32) (w : Fw) : Array Value → State → Outcome → State → Prop := va_Qi (S := Unit) (fun r' _ => r' = r) (fun _ t => Rp D dA A w t.heap) A
abbrev QzV (D : va_G) (dA : Nat → ClassId) (A : Nat → Prop) (w : Fw) : Array Value → State → Outcome → State → Prop := va_Qv (S := Unit) (fun _ => True) (fun _ t => Rp D dA A w t.heap) A
abbrev QzR (D : va_G) (dA : Nat → ClassId) (A : Nat → Prop) (r : Nat) (w : Fw) : Array Value → State → Outcome → State → Prop := va_Qr (S := Unit) (fun _ => True) (fun _ a t => a = r ∧ Rp D dA A w t.heap) A
theorem Pz.blind {D : va_G} {dA : Nat → ClassId} {A : Nat → Prop} {w : Fw} {av : List Value} : FrameBlind (Pz D dA A w av) := fun _ _ _ _ h => ⟨h.1, h.2.1, h.2.2.same rfl⟩
theorem Pz.at {D : va_G} {dA : Nat → ClassId} {A : Nat → Prop} {w : Fw} {av : List Value} {s : State} {H : Heap} (hK : Kp D dA s) (hR : Rp D dA A w H) : ∀ U : State, U.heap = H → s.WarmedH U.vm → Pz D dA A w av av.toArray U := fun U hU hW => ⟨rfl, by rw [hU]; exact hR, hK.warm hW⟩
section FX
variable {p : Program} {l : Launch} {e : Env} {R : Room} {s : State} {m : MethodId} {args : Array Value} {below : List Frame} {meth : Method} {c : Code} {H : Heap} {locs : List Loc} {cells slots : Nat} {Q : State → Prop}
variable {cc : ByteArray} {pc : Nat} {ls : Array Slot} {rest : List Value} {D : va_G} {dA : Nat → ClassId} {A : Nat → Prop} {a : Nat} {w : Fw} {H0 : Heap} {own : String}
theorem fx_gI (hx : p.tables.exec = Jvm.exec) (hb : c.code = cc) (hts : ∀ w ∈ lw_g, w.before args s = true) (hown : s.vm.findClass own = some m.cls) (hK : Kp D dA s) (hR : Rp D dA A w H) {index ci k : Nat} (hL : FL own index ci k) {v : Int32} (hv : gI w a ci k = some v) (hdg : decode cc pc = .ok (.getfield index, 3))
    (kk : W p l e R s m args below meth c H locs cells slots Q (F0 m (pc + 3) ls (.int v :: rest))) : W p l e R s m args below meth c H locs cells slots Q (F0 m pc ls (.ref a :: rest)) := by
  obtain ⟨fs, hw, hf⟩ := gI_some hv
  obtain ⟨C, T, N, hc, hk, hl, hin⟩ := hL
  exact va_get (D := D) (ws := [(a, .inr (ci, fs))]) hx hb hts hin hown hK.1 (fz_P1 hR hw) 0 rfl hc k hk (hts _ hl) (fun _ h => h) hf hdg kk
theorem fx_gR (hx : p.tables.exec = Jvm.exec) (hb : c.code = cc) (hts : ∀ w ∈ lw_g, w.before args s = true) (hown : s.vm.findClass own = some m.cls) (hK : Kp D dA s) (hR : Rp D dA A w H) {index ci k : Nat} (hL : FL own index ci k) {v : Nat} (hv : gR w a ci k = some v) (hdg : decode cc pc = .ok (.getfield index, 3))
    (kk : W p l e R s m args below meth c H locs cells slots Q (F0 m (pc + 3) ls (.ref v :: rest))) : W p l e R s m args below meth c H locs cells slots Q (F0 m pc ls (.ref a :: rest)) := by
  obtain ⟨fs, hw, hf⟩ := gR_some hv
  obtain ⟨C, T, N, hc, hk, hl, hin⟩ := hL
  exact va_get (D := D) (ws := [(a, .inr (ci, fs))]) hx hb hts hin hown hK.1 (fz_P1 hR hw) 0 rfl hc k hk (hts _ hl) (fun _ h => h) hf hdg kk
theorem fx_p (hx : p.tables.exec = Jvm.exec) (hb : c.code = cc) (hts : ∀ w ∈ lw_g, w.before args s = true) (hown : s.vm.findClass own = some m.cls) (hK : Kp D dA s) (hR : Rp D dA A w H) (hS : va_S A H0 H locs) {index ci k : Nat} {ty : FieldType} (hL : FP own index ci k ty) {v : Value} {w' : Fw} (hv : pF w a ci k v = some w') (hn : narrow ty v = v) (hfit : fits ty v = true) (hdg : decode cc pc = .ok (.putfield index, 3))
    (kk : ∀ (H1 : Heap) (locs1 : List Loc), Rp D dA A w' H1 → va_S A H0 H1 locs1 → W p l e R s m args below meth c H1 locs1 cells slots Q (F0 m (pc + 3) ls rest)) : W p l e R s m args below meth c H locs cells slots Q (F0 m pc ls (v :: .ref a :: rest)) := by
  obtain ⟨fs, hw, hlen, rfl⟩ := pF_some hv
  obtain ⟨C, T, N, ty0, hc, hk, hl, hin, hty, hnm, hfin, hd⟩ := hL
  have hap := va_apart (own := own) hts hin ty0 hty hnm hK.1 hc
  obtain ⟨⟨r, h1, cell, q1, q2, q3, q4⟩, hAa⟩ := hR a _ hw
  have hr : r = (C, T, N) := Option.some.inj (h1.symm.trans hc)
  subst hr
  obtain ⟨hSl, hfc, kC, hkC, hkind⟩ := hK.1.1 ci _ hc
  obtain ⟨cf, kf, fi, f, hi, hsl⟩ := hSl k hk
  have hlay := hts _ (hin _ (u_in_lay hk))
  unfold u_lay at hlay
  rw [if_neg (by rw [hfin]; decide)] at hlay
  have hst := (u_facts hfc hkC (u_lays hts hin hk) hi).1
  have h6 := u_store hfc hkC hkind hlay hi hd hn hfit
  refine W.putK hx hb (f := f) ⟨hown, hts _ hl, ⟨_, _, _, hi⟩, hst⟩ (by rw [q2]; exact h6) q1 q3 (by rw [hsl]; exact k2_hasslot (q4 k hk)) rfl rfl hdg fun H' e1 e2 e3 => ?_
  rw [hsl] at e1 ⊢
  exact kk H' _ (hR.set hw ⟨_, hc, t_OB.to (V := updV (vp_V fs) k v) ⟨_, e1, q2, q3, t_set q4 hap hk v⟩ (fun j _ => vp_updV_set hlen v j)⟩ e3) (hS.put e2 e3 hAa)
theorem fx_lI (hx : p.tables.exec = Jvm.exec) (hb : c.code = cc) (hK : Kp D dA s) (hR : Rp D dA A w H) {i v : Int32} (hv : lI w a i = some v) (hdg : decode cc pc = .ok (.iaload, 1))
    (kk : W p l e R s m args below meth c H locs cells slots Q (F0 m (pc + 1) ls (.int v :: rest))) : W p l e R s m args below meth c H locs cells slots Q (F0 m pc ls (.int i :: .ref a :: rest)) := by
  obtain ⟨n, f, hw, hin, rfl⟩ := lI_some hv
  exact va_iald (ws := [(a, .inl (dA 0, n, .inl f))]) hx hb hK.1 (fz_P1 hR hw) 0 0 rfl rfl hin hdg kk
theorem fx_sI (hx : p.tables.exec = Jvm.exec) (hb : c.code = cc) (hK : Kp D dA s) (hR : Rp D dA A w H) (hS : va_S A H0 H locs) {i v : Int32} {w' : Fw} (hv : sI w a i v = some w') (hdg : decode cc pc = .ok (.iastore, 1))
    (kk : ∀ (H1 : Heap) (locs1 : List Loc), Rp D dA A w' H1 → va_S A H0 H1 locs1 → W p l e R s m args below meth c H1 locs1 cells slots Q (F0 m (pc + 1) ls rest)) : W p l e R s m args below meth c H locs cells slots Q (F0 m pc ls (.int v :: .int i :: .ref a :: rest)) := by
  obtain ⟨n, f, hw, hin, rfl⟩ := sI_some hv
  obtain ⟨hat, hAa⟩ := hR a _ hw
  refine W.iast hx hb hat ((hK.1.2 0 _ rfl).1 n (fun j => .int (f j))) (fun q => by cases q) (by show ¬ (i < 0 ∨ (arrV _ _ _).slots.size ≤ _); rw [arrV_size]; exact hin) rfl rfl hdg fun H1 e z oq => ?_
  refine kk H1 _ (hR.set hw ?_ oq) (hS.put z oq hAa)
  show H1[a]? = some (vp_cell _ _)
  rw [e]
  show some ((vp_cell _ _).setSlot _ _) = _
  rw [vp_cell_i, vp_cell_i, arrV_store]
  congr 2
  funext q
  by_cases hq : q = i.toNatClampNeg
  · subst hq
    simp [updV, upd]
  · simp [updV, upd, hq]
theorem fx_lR (hx : p.tables.exec = Jvm.exec) (hb : c.code = cc) (hK : Kp D dA s) (hR : Rp D dA A w H) {kd v : Nat} {i : Int32} {ty : FieldType} (hty : (fz_tys dA)[kd + 1]? = some (dA (kd + 1), ty)) (href : ty.isReference = true) (hv : lR w kd a i = some v) (hdg : decode cc pc = .ok (.aaload, 1))
    (kk : W p l e R s m args below meth c H locs cells slots Q (F0 m (pc + 1) ls (.ref v :: rest))) : W p l e R s m args below meth c H locs cells slots Q (F0 m pc ls (.int i :: .ref a :: rest)) := by
  obtain ⟨n, f, hw, hin, hf⟩ := lR_some hv
  have hlt : i.toNatClampNeg < n := Nat.not_le.mp fun q => hin (Or.inr q)
  exact W.aald (v := .ref v) (ty := ty) hx hb (hR a _ hw).1 ((hK.1.2 (kd + 1) _ hty).1 n (fun j => va_rf (f j))) href (fun q => by cases q) (by show ¬ (i < 0 ∨ (arrV _ _ _).slots.size ≤ _); rw [arrV_size]; exact hin) (by show (arrV _ _ (fun j => va_rf (f j))).slots[_]? = _; rw [arrV_read _ _ hlt, hf]; rfl) rfl rfl hdg kk
-- calls
variable {y : MethodName} {cy : ByteArray} {ny np fr lo nL index : Nat} {ry : Option FieldType} {w' : Fw} {As st0 : List Value} {C : String}
theorem fx_CB (hts : ∀ w ∈ lw_g, w.before args s = true) (hy : MY y cy ny ry np) (hlk : Cond.methodLink own index y ∈ lw_g) (hfr : (rz fr lo).frames + 1 ≤ R.frames ∧ 8 + (ny + 11) + (rz fr lo).locals ≤ R.locals) : CallB R s args own index y cy ny ry (wz y cy ny ry) (rz fr lo) 0 0 np :=
  callB_of (Ts := lw_g) np hts (fz_goodIn hy.1) rfl rfl rfl (hts _ hy.2.1) (hts _ hlk) hy.2.2 hfr
theorem fx_vI (hx : p.tables.exec = Jvm.exec) (hb : c.code = cc) (hml : c.maxLocals = nL) (hts : ∀ w ∈ lw_g, w.before args s = true) (hown : s.vm.findClass own = some m.cls) (hK : Kp D dA s) (hR : Rp D dA A w H) (hS : va_S A H0 H locs) {r : Int32} {b ci : Nat} {u : Unit} (hO : isO w b ci = some u)
    (hM : Met l y (wz y cy ny ry) (rz fr lo) (Pz D dA A w (.ref b :: As)) (QzI D dA A r w') 0 0 A) (hy : MY y cy ny ry np) (hV : MV y C) (hc : (vwCl[ci]?).map (fun q => q.1) = some C) (hlk : Cond.methodLink own index y ∈ lw_g) (hn : As.length = np) (hsz : ls.size = nL) (hst : st0 = As.reverse ++ .ref b :: rest) (hW : (rest.map fun v => v.category).sum ≤ 8) (hdg : decode cc pc = .ok (.invokevirtual index, 3)) (hfr : (rz fr lo).frames + 1 ≤ R.frames ∧ 8 + (ny + 11) + (rz fr lo).locals ≤ R.locals) (hcs : cells + 0 ≤ R.cells ∧ slots + 0 ≤ R.slots)
    (kk : ∀ (H1 : Heap) (locs1 : List Loc), Rp D dA A w' H1 → va_S A H0 H1 locs1 → W p l e R s m args below meth c H1 locs1 cells slots Q (F0 m (pc + 3) ls (.int r :: rest))) : W p l e R s m args below meth c H locs cells slots Q (F0 m pc ls st0) := by
  obtain ⟨fs, hw⟩ := isO_some hO
  obtain ⟨q, hq, rfl⟩ := Option.map_eq_some_iff.mp hc
  refine va_calli (va_runV (As := As) (rest := rest) ⟨hx, hb, hml, hown, hts⟩ hM ⟨fx_CB hts hy hlk hfr, hts _ hV.1, hts _ hV.2⟩ ⟨Pz.blind, va_recv hK.1 (fz_P1 hR hw) hq (q0 := 0) rfl, Pz.at hK hR⟩ rfl hn hsz hst (lv_room hW) hdg hcs) hS (fun q _ h => h) (fun q h => h) (fun r' u t H1 locs1 ht hvm hw hB hz1 hk1 hS1 => ?_)
  subst hw
  exact kk H1 locs1 (by rw [← ht]; exact hB) hS1
theorem fx_vV (hx : p.tables.exec = Jvm.exec) (hb : c.code = cc) (hml : c.maxLocals = nL) (hts : ∀ w ∈ lw_g, w.before args s = true) (hown : s.vm.findClass own = some m.cls) (hK : Kp D dA s) (hR : Rp D dA A w H) (hS : va_S A H0 H locs) {b ci : Nat} {u : Unit} (hO : isO w b ci = some u)
    (hM : Met l y (wz y cy ny ry) (rz fr lo) (Pz D dA A w (.ref b :: As)) (QzV D dA A w') 0 0 A) (hy : MY y cy ny ry np) (hV : MV y C) (hc : (vwCl[ci]?).map (fun q => q.1) = some C) (hlk : Cond.methodLink own index y ∈ lw_g) (hn : As.length = np) (hsz : ls.size = nL) (hst : st0 = As.reverse ++ .ref b :: rest) (hW : (rest.map fun v => v.category).sum ≤ 8) (hdg : decode cc pc = .ok (.invokevirtual index, 3)) (hfr : (rz fr lo).frames + 1 ≤ R.frames ∧ 8 + (ny + 11) + (rz fr lo).locals ≤ R.locals) (hcs : cells + 0 ≤ R.cells ∧ slots + 0 ≤ R.slots)
    (kk : ∀ (H1 : Heap) (locs1 : List Loc), Rp D dA A w' H1 → va_S A H0 H1 locs1 → W p l e R s m args below meth c H1 locs1 cells slots Q (F0 m (pc + 3) ls rest)) : W p l e R s m args below meth c H locs cells slots Q (F0 m pc ls st0) := by
  obtain ⟨fs, hw⟩ := isO_some hO
  obtain ⟨q, hq, rfl⟩ := Option.map_eq_some_iff.mp hc
  refine va_callv (va_runV (As := As) (rest := rest) ⟨hx, hb, hml, hown, hts⟩ hM ⟨fx_CB hts hy hlk hfr, hts _ hV.1, hts _ hV.2⟩ ⟨Pz.blind, va_recv hK.1 (fz_P1 hR hw) hq (q0 := 0) rfl, Pz.at hK hR⟩ rfl hn hsz hst (lv_room hW) hdg hcs) hS (fun q _ h => h) (fun q h => h) (fun u t H1 locs1 ht hvm hw hB hz1 hk1 hS1 => ?_)
  exact kk H1 locs1 (by rw [← ht]; exact hB) hS1
theorem fx_vR (hx : p.tables.exec = Jvm.exec) (hb : c.code = cc) (hml : c.maxLocals = nL) (hts : ∀ w ∈ lw_g, w.before args s = true) (hown : s.vm.findClass own = some m.cls) (hK : Kp D dA s) (hR : Rp D dA A w H) (hS : va_S A H0 H locs) {r : Nat} {b ci : Nat} {u : Unit} (hO : isO w b ci = some u)
    (hM : Met l y (wz y cy ny ry) (rz fr lo) (Pz D dA A w (.ref b :: As)) (QzR D dA A r w') 0 0 A) (hy : MY y cy ny ry np) (hV : MV y C) (hc : (vwCl[ci]?).map (fun q => q.1) = some C) (hlk : Cond.methodLink own index y ∈ lw_g) (hn : As.length = np) (hsz : ls.size = nL) (hst : st0 = As.reverse ++ .ref b :: rest) (hW : (rest.map fun v => v.category).sum ≤ 8) (hdg : decode cc pc = .ok (.invokevirtual index, 3)) (hfr : (rz fr lo).frames + 1 ≤ R.frames ∧ 8 + (ny + 11) + (rz fr lo).locals ≤ R.locals) (hcs : cells + 0 ≤ R.cells ∧ slots + 0 ≤ R.slots)
    (kk : ∀ (H1 : Heap) (locs1 : List Loc), Rp D dA A w' H1 → va_S A H0 H1 locs1 → W p l e R s m args below meth c H1 locs1 cells slots Q (F0 m (pc + 3) ls (.ref r :: rest))) : W p l e R s m args below meth c H locs cells slots Q (F0 m pc ls st0) := by
  obtain ⟨fs, hw⟩ := isO_some hO
  obtain ⟨q, hq, rfl⟩ := Option.map_eq_some_iff.mp hc
  refine va_callr (va_runV (As := As) (rest := rest) ⟨hx, hb, hml, hown, hts⟩ hM ⟨fx_CB hts hy hlk hfr, hts _ hV.1, hts _ hV.2⟩ ⟨Pz.blind, va_recv hK.1 (fz_P1 hR hw) hq (q0 := 0) rfl, Pz.at hK hR⟩ rfl hn hsz hst (lv_room hW) hdg hcs) hS (fun q _ h => h) (fun q h => h) (fun u ra t H1 locs1 ht hvm hw hB hz1 hk1 hS1 => ?_)
  obtain ⟨rfl, hB⟩ := hB
  exact kk H1 locs1 (by rw [← ht]; exact hB) hS1
theorem fx_sI' (hx : p.tables.exec = Jvm.exec) (hb : c.code = cc) (hml : c.maxLocals = nL) (hts : ∀ w ∈ lw_g, w.before args s = true) (hown : s.vm.findClass own = some m.cls) (hK : Kp D dA s) (hR : Rp D dA A w H) (hS : va_S A H0 H locs) {r : Int32}
    (hM : Met l y (wz y cy ny ry) (rz fr lo) (Pz D dA A w As) (QzI D dA A r w') 0 0 A) (hy : MY y cy ny ry np) (hV : Cond.static y ∈ lw_g) (hlk : Cond.methodLink own index y ∈ lw_g) (hn : As.length = np) (hsz : ls.size = nL) (hst : st0 = As.reverse ++ rest) (hW : (rest.map fun v => v.category).sum ≤ 8) (hdg : decode cc pc = .ok (.invokestatic index, 3)) (hfr : (rz fr lo).frames + 1 ≤ R.frames ∧ 8 + (ny + 11) + (rz fr lo).locals ≤ R.locals) (hcs : cells + 0 ≤ R.cells ∧ slots + 0 ≤ R.slots)
    (kk : ∀ (H1 : Heap) (locs1 : List Loc), Rp D dA A w' H1 → va_S A H0 H1 locs1 → W p l e R s m args below meth c H1 locs1 cells slots Q (F0 m (pc + 3) ls (.int r :: rest))) : W p l e R s m args below meth c H locs cells slots Q (F0 m pc ls st0) := by
  refine va_calli (va_runS (As := As) (rest := rest) ⟨hx, hb, hml, hown, hts⟩ hM ⟨fx_CB hts hy hlk hfr, hts _ hV⟩ ⟨Pz.blind, Pz.at hK hR⟩ rfl hn hsz hst (lv_room hW) hdg hcs) hS (fun q _ h => h) (fun q h => h) (fun r' u t H1 locs1 ht hvm hw hB hz1 hk1 hS1 => ?_)
  subst hw
  exact kk H1 locs1 (by rw [← ht]; exact hB) hS1
theorem fx_sN (hx : p.tables.exec = Jvm.exec) (hb : c.code = cc) (hml : c.maxLocals = nL) (hts : ∀ w ∈ lw_g, w.before args s = true) (hown : s.vm.findClass own = some m.cls) (hK : Kp D dA s) (hR : Rp D dA A w H) (hS : va_S A H0 H locs) {r : Int32} {host : String}
    (hM : Met l y (wz y cy ny ry) (rz fr lo) (Pz D dA A w As) (QzI D dA A r w') 0 0 A) (hy : MY y cy ny ry np) (hV : Cond.static y ∈ lw_g) (hlk : va_Nw (.methodLinkNest own index y host) s) (hn : As.length = np) (hsz : ls.size = nL) (hst : st0 = As.reverse ++ rest) (hW : (rest.map fun v => v.category).sum ≤ 8) (hdg : decode cc pc = .ok (.invokestatic index, 3)) (hfr : (rz fr lo).frames + 1 ≤ R.frames ∧ 8 + (ny + 11) + (rz fr lo).locals ≤ R.locals) (hcs : cells + 0 ≤ R.cells ∧ slots + 0 ≤ R.slots)
    (kk : ∀ (H1 : Heap) (locs1 : List Loc), Rp D dA A w' H1 → va_S A H0 H1 locs1 → W p l e R s m args below meth c H1 locs1 cells slots Q (F0 m (pc + 3) ls (.int r :: rest))) : W p l e R s m args below meth c H locs cells slots Q (F0 m pc ls st0) := by
  refine va_calli (va_runSN (As := As) (rest := rest) ⟨hx, hb, hml, hown, hts⟩ hM ⟨va_cnB np hts (fz_goodIn hy.1) rfl rfl rfl hlk (hts _ hy.2.1) hy.2.2 hfr, hts _ hV, trivial⟩ ⟨Pz.blind, Pz.at hK hR⟩ rfl hn hsz hst (lv_room hW) hdg hcs) hS (fun q _ h => h) (fun q h => h) (fun r' u t H1 locs1 ht hvm hw hB hz1 hk1 hS1 => ?_)
  subst hw
  exact kk H1 locs1 (by rw [← ht]; exact hB) hS1
-- returns
theorem fx_iret (hx : p.tables.exec = Jvm.exec) (hb : c.code = cc) (hr : meth.sig.returnType = some .int) (hlocks : meth.locks = false) {v r : Int32} (hv : v = r) (hw : w = w') (hR : Rp D dA A w H) (hS : va_S A s.heap H locs) (hdg : decode cc pc = .ok (.ireturn, 1)) :
    W p l e R s m args below meth c H locs cells slots (MQ below (QzI D dA A r w') args s cells slots A) (F0 m pc ls [.int v]) := by
  subst hw
  exact W.iret (v := v) hx hb hr (fun t ht hW => ⟨⟨v, (), rfl, hv, (ht.symm ▸ hR : Rp D dA A w t.heap)⟩, hS.F ht⟩) hS.2.2 hdg hlocks
theorem fx_vret (hx : p.tables.exec = Jvm.exec) (hb : c.code = cc) (hr : meth.sig.returnType = none) (hlocks : meth.locks = false) (hw : w = w') (hR : Rp D dA A w H) (hS : va_S A s.heap H locs) (hdg : decode cc pc = .ok (.return_, 1)) :
    W p l e R s m args below meth c H locs cells slots (MQ below (QzV D dA A w') args s cells slots A) (F0 m pc ls []) := by
  subst hw
  exact W.vret hx hb hr (fun t ht hW => ⟨⟨(), rfl, trivial, (ht.symm ▸ hR : Rp D dA A w t.heap)⟩, hS.F ht⟩) hS.2.2 hdg hlocks
theorem fx_zret (hx : p.tables.exec = Jvm.exec) (hb : c.code = cc) (hr : meth.sig.returnType = some .boolean) (hlocks : meth.locks = false) {v r : Int32} (hv : zb v = some r) (hw : w = w') (hR : Rp D dA A w H) (hS : va_S A s.heap H locs) (hdg : decode cc pc = .ok (.ireturn, 1)) :
    W p l e R s m args below meth c H locs cells slots (MQ below (QzI D dA A r w') args s cells slots A) (F0 m pc ls [.int v]) := by
  subst hw
  obtain ⟨hz, rfl⟩ := zb_some hv
  exact W.zret (v := v) hx hb hr (by rcases hz with rfl | rfl <;> rfl) (fun t ht hW => ⟨⟨v, (), rfl, rfl, (ht.symm ▸ hR : Rp D dA A w t.heap)⟩, hS.F ht⟩) hS.2.2 hdg hlocks
theorem fx_aret {n : String} (hx : p.tables.exec = Jvm.exec) (hb : c.code = cc) (hr : meth.sig.returnType = some (.object n)) (hlocks : meth.locks = false) {v r : Nat} (hv : v = r) (hw : w = w') (hR : Rp D dA A w H) (hS : va_S A s.heap H locs) (hdg : decode cc pc = .ok (.areturn, 1)) :
    W p l e R s m args below meth c H locs cells slots (MQ below (QzR D dA A r w') args s cells slots A) (F0 m pc ls [.ref v]) := by
  subst hw
  exact W.aret (v := .ref v) hx hb hr (Or.inl ⟨n, rfl⟩) (Or.inr ⟨v, rfl⟩) (fun t ht hW => ⟨⟨(), v, rfl, trivial, hv, (ht.symm ▸ hR : Rp D dA A w t.heap)⟩, hS.F ht⟩) hS.2.2 hdg hlocks
end FX
end
section
theorem it {α : Type} {c : Prop} [Decidable c] {a b r : α} (hc : c) (h : ite c a b = r) : a = r := (if_pos hc).symm.trans h
theorem ie {α : Type} {c : Prop} [Decidable c] {a b r : α} (hc : ¬ c) (h : ite c a b = r) : b = r := (if_neg hc).symm.trans h
theorem fz_ne {x : Int32} (k : Int) (v : Int32) (hv : v.toInt = k) (c : ¬ x = v) : x.toInt ≠ k := fun q => c (Int32.toInt_inj.mp (q.trans hv.symm))
theorem fl_X4_9 : FL RX4 9 4 1 := ⟨RX4, TX4, 5, rfl, by decide, (fz_mem 85 (by decide +kernel) (by decide +kernel)), inX4⟩
theorem fl_X4_28 : FL RX4 28 4 0 := ⟨RX4, TX4, 5, rfl, by decide, (fz_mem 84 (by decide +kernel) (by decide +kernel)), inX4⟩
theorem my_X4_kindAt : MY yX4_kindAt cX4_kindAt 2 (some .int) 1 := ⟨(fz_mem 218 (by decide +kernel) (by decide +kernel)), (fz_mem 32 (by decide +kernel) (by decide +kernel)), by decide +kernel⟩
theorem mv_X4_kindAt : MV yX4_kindAt RX4 := ⟨(fz_mem 216 (by decide +kernel) (by decide +kernel)), (fz_mem 217 (by decide +kernel) (by decide +kernel))⟩
theorem ml_X4_47 : Cond.methodLink RX4 47 yX4_kindAt ∈ lw_g := (fz_mem 215 (by decide +kernel) (by decide +kernel))
theorem my_X4_numberAt : MY yX4_numberAt cX4_numberAt 2 (some .int) 1 := ⟨(fz_mem 222 (by decide +kernel) (by decide +kernel)), (fz_mem 32 (by decide +kernel) (by decide +kernel)), by decide +kernel⟩
theorem mv_X4_numberAt : MV yX4_numberAt RX4 := ⟨(fz_mem 220 (by decide +kernel) (by decide +kernel)), (fz_mem 221 (by decide +kernel) (by decide +kernel))⟩
theorem ml_X4_50 : Cond.methodLink RX4 50 yX4_numberAt ∈ lw_g := (fz_mem 219 (by decide +kernel) (by decide +kernel))
theorem my_X4_size : MY yX4_size cX4_size 1 (some .int) 0 := ⟨(fz_mem 259 (by decide +kernel) (by decide +kernel)), (fz_mem 32 (by decide +kernel) (by decide +kernel)), by decide +kernel⟩
theorem mv_X4_size : MV yX4_size RX4 := ⟨(fz_mem 257 (by decide +kernel) (by decide +kernel)), (fz_mem 258 (by decide +kernel) (by decide +kernel))⟩
theorem ml_X0_47 : Cond.methodLink RX0 47 yX4_size ∈ lw_g := (fz_mem 256 (by decide +kernel) (by decide +kernel))
theorem ml_X0_50 : Cond.methodLink RX0 50 yX4_kindAt ∈ lw_g := (fz_mem 260 (by decide +kernel) (by decide +kernel))
theorem ml_X0_53 : Cond.methodLink RX0 53 yX4_numberAt ∈ lw_g := (fz_mem 261 (by decide +kernel) (by decide +kernel))
theorem my_X6_has : MY yX6_has cX6_has 2 (some .boolean) 2 := ⟨(fz_mem 241 (by decide +kernel) (by decide +kernel)), (fz_mem 31 (by decide +kernel) (by decide +kernel)), by decide +kernel⟩
theorem ms_X6_has : Cond.static yX6_has ∈ lw_g := (fz_mem 240 (by decide +kernel) (by decide +kernel))
theorem fl_X0_15 : FL RX0 15 0 1 := ⟨RX0, TX0, 2, rfl, by decide, (fz_mem 135 (by decide +kernel) (by decide +kernel)), inX0⟩
theorem fl_X0_9 : FL RX0 9 0 0 := ⟨RX0, TX0, 2, rfl, by decide, (fz_mem 134 (by decide +kernel) (by decide +kernel)), inX0⟩
theorem my_X0_linesWith : MY yX0_linesWith cX0_linesWith 5 (some .int) 3 := ⟨(fz_mem 255 (by decide +kernel) (by decide +kernel)), (fz_mem 36 (by decide +kernel) (by decide +kernel)), by decide +kernel⟩
theorem ms_X0_linesWith : Cond.static yX0_linesWith ∈ lw_g := (fz_mem 254 (by decide +kernel) (by decide +kernel))
theorem ml_X0_32 : Cond.methodLink RX0 32 yX0_linesWith ∈ lw_g := (fz_mem 253 (by decide +kernel) (by decide +kernel))
theorem my_X0_repeatedDefs : MY yX0_repeatedDefs cX0_repeatedDefs 5 (some .int) 1 := ⟨(fz_mem 264 (by decide +kernel) (by decide +kernel)), (fz_mem 36 (by decide +kernel) (by decide +kernel)), by decide +kernel⟩
theorem ms_X0_repeatedDefs : Cond.static yX0_repeatedDefs ∈ lw_g := (fz_mem 263 (by decide +kernel) (by decide +kernel))
theorem ml_X0_36 : Cond.methodLink RX0 36 yX0_repeatedDefs ∈ lw_g := (fz_mem 262 (by decide +kernel) (by decide +kernel))
theorem my_X0_unpaired : MY yX0_unpaired cX0_unpaired 6 (some .int) 1 := ⟨(fz_mem 268 (by decide +kernel) (by decide +kernel)), (fz_mem 36 (by decide +kernel) (by decide +kernel)), by decide +kernel⟩
theorem mv_X0_unpaired : MV yX0_unpaired RX0 := ⟨(fz_mem 267 (by decide +kernel) (by decide +kernel)), (fz_mem 3 (by decide +kernel) (by decide +kernel))⟩
theorem ml_X0_40 : Cond.methodLink RX0 40 yX0_unpaired ∈ lw_g := (fz_mem 265 (by decide +kernel) (by decide +kernel))
theorem my_X0_importsOf : MY yX0_importsOf cX0_importsOf 4 (some .int) 2 := ⟨(fz_mem 271 (by decide +kernel) (by decide +kernel)), (fz_mem 36 (by decide +kernel) (by decide +kernel)), by decide +kernel⟩
theorem ms_X0_importsOf : Cond.static yX0_importsOf ∈ lw_g := (fz_mem 270 (by decide +kernel) (by decide +kernel))
theorem ml_X0_43 : Cond.methodLink RX0 43 yX0_importsOf ∈ lw_g := (fz_mem 269 (by decide +kernel) (by decide +kernel))
theorem my_X4_numbersOf : MY yX4_numbersOf cX4_numbersOf 4 (some .int) 1 := ⟨(fz_mem 214 (by decide +kernel) (by decide +kernel)), (fz_mem 32 (by decide +kernel) (by decide +kernel)), by decide +kernel⟩
theorem mv_X4_numbersOf : MV yX4_numbersOf RX4 := ⟨(fz_mem 212 (by decide +kernel) (by decide +kernel)), (fz_mem 213 (by decide +kernel) (by decide +kernel))⟩
theorem ml_X0_18 : Cond.methodLink RX0 18 yX4_numbersOf ∈ lw_g := (fz_mem 250 (by decide +kernel) (by decide +kernel))
theorem my_X4_importedFiles : MY yX4_importedFiles cX4_importedFiles 3 (some .int) 0 := ⟨(fz_mem 238 (by decide +kernel) (by decide +kernel)), (fz_mem 32 (by decide +kernel) (by decide +kernel)), by decide +kernel⟩
theorem mv_X4_importedFiles : MV yX4_importedFiles RX4 := ⟨(fz_mem 236 (by decide +kernel) (by decide +kernel)), (fz_mem 237 (by decide +kernel) (by decide +kernel))⟩
theorem ml_X0_24 : Cond.methodLink RX0 24 yX4_importedFiles ∈ lw_g := (fz_mem 251 (by decide +kernel) (by decide +kernel))
theorem fl_X1_24 : FL RX1 24 1 0 := ⟨RX1, TX1, 6, rfl, by decide, (fz_mem 147 (by decide +kernel) (by decide +kernel)), inX1⟩
theorem fp_X1_28 : FP RX1 28 1 1 .int := ⟨RX1, TX1, 6, tyX1, rfl, by decide, (fz_mem 148 (by decide +kernel) (by decide +kernel)), inX1, tyX1_ok, nmX1, rfl, by decide +kernel⟩
theorem ml_X1_31 : Cond.methodLink RX1 31 Lib.Math.min.name ∈ lw_g := (fz_mem 305 (by decide +kernel) (by decide +kernel))
theorem ms_min : Cond.static Lib.Math.min.name ∈ lw_g := (fz_mem 306 (by decide +kernel) (by decide +kernel))
theorem mi_Math : Cond.initialized "java/lang/Math" ∈ lw_g := (fz_mem 39 (by decide +kernel) (by decide +kernel))
theorem mc_min : Cond.code Lib.Math.min.name Lib.Math.min.code 2 (some .int) ∈ lw_g := (fz_mem 307 (by decide +kernel) (by decide +kernel))
theorem fp_X1_24 : FP RX1 24 1 0 .int := ⟨RX1, TX1, 6, tyX1, rfl, by decide, (fz_mem 147 (by decide +kernel) (by decide +kernel)), inX1, tyX1_ok, nmX1, rfl, by decide +kernel⟩
theorem fl_X1_9 : FL RX1 9 1 2 := ⟨RX1, TX1, 6, rfl, by decide, (fz_mem 149 (by decide +kernel) (by decide +kernel)), inX1⟩
theorem fl_X1_28 : FL RX1 28 1 1 := ⟨RX1, TX1, 6, rfl, by decide, (fz_mem 148 (by decide +kernel) (by decide +kernel)), inX1⟩
theorem fl_X1_15 : FL RX1 15 1 3 := ⟨RX1, TX1, 6, rfl, by decide, (fz_mem 150 (by decide +kernel) (by decide +kernel)), inX1⟩
theorem fl_X1_18 : FL RX1 18 1 4 := ⟨RX1, TX1, 6, rfl, by decide, (fz_mem 151 (by decide +kernel) (by decide +kernel)), inX1⟩
theorem fl_X1_21 : FL RX1 21 1 5 := ⟨RX1, TX1, 6, rfl, by decide, (fz_mem 152 (by decide +kernel) (by decide +kernel)), inX1⟩
theorem fl_X2_30 : FL RX2 30 2 0 := ⟨RX2, TX2, 7, rfl, by decide, (fz_mem 61 (by decide +kernel) (by decide +kernel)), inX2⟩
theorem fl_X2_9 : FL RX2 9 2 1 := ⟨RX2, TX2, 7, rfl, by decide, (fz_mem 62 (by decide +kernel) (by decide +kernel)), inX2⟩
theorem fl_X2_15 : FL RX2 15 2 2 := ⟨RX2, TX2, 7, rfl, by decide, (fz_mem 63 (by decide +kernel) (by decide +kernel)), inX2⟩
theorem fl_X2_18 : FL RX2 18 2 3 := ⟨RX2, TX2, 7, rfl, by decide, (fz_mem 64 (by decide +kernel) (by decide +kernel)), inX2⟩
theorem fl_X2_21 : FL RX2 21 2 4 := ⟨RX2, TX2, 7, rfl, by decide, (fz_mem 65 (by decide +kernel) (by decide +kernel)), inX2⟩
theorem fl_X2_24 : FL RX2 24 2 5 := ⟨RX2, TX2, 7, rfl, by decide, (fz_mem 66 (by decide +kernel) (by decide +kernel)), inX2⟩
theorem my_X2_isSilenced : MY yX2_isSilenced cX2_isSilenced 3 (some .boolean) 2 := ⟨(fz_mem 435 (by decide +kernel) (by decide +kernel)), (fz_mem 33 (by decide +kernel) (by decide +kernel)), by decide +kernel⟩
theorem mv_X2_isSilenced : MV yX2_isSilenced RX2 := ⟨(fz_mem 433 (by decide +kernel) (by decide +kernel)), (fz_mem 434 (by decide +kernel) (by decide +kernel))⟩
theorem ml_X2_34 : Cond.methodLink RX2 34 yX2_isSilenced ∈ lw_g := (fz_mem 432 (by decide +kernel) (by decide +kernel))
theorem fl_X2_27 : FL RX2 27 2 6 := ⟨RX2, TX2, 7, rfl, by decide, (fz_mem 67 (by decide +kernel) (by decide +kernel)), inX2⟩
theorem fp_X2_30 : FP RX2 30 2 0 .int := ⟨RX2, TX2, 7, tyX2, rfl, by decide, (fz_mem 61 (by decide +kernel) (by decide +kernel)), inX2, tyX2_ok, nmX2, rfl, by decide +kernel⟩
theorem my_X2_placeOf : MY yX2_placeOf cX2_placeOf 4 (some .int) 2 := ⟨(fz_mem 296 (by decide +kernel) (by decide +kernel)), (fz_mem 33 (by decide +kernel) (by decide +kernel)), by decide +kernel⟩
theorem mv_X2_placeOf : MV yX2_placeOf RX2 := ⟨(fz_mem 294 (by decide +kernel) (by decide +kernel)), (fz_mem 295 (by decide +kernel) (by decide +kernel))⟩
theorem ml_X2_38 : Cond.methodLink RX2 38 yX2_placeOf ∈ lw_g := (fz_mem 293 (by decide +kernel) (by decide +kernel))
theorem my_X1_add : MY yX1_add cX1_add 5 none 4 := ⟨(fz_mem 304 (by decide +kernel) (by decide +kernel)), (fz_mem 37 (by decide +kernel) (by decide +kernel)), by decide +kernel⟩
theorem mv_X1_add : MV yX1_add RX1 := ⟨(fz_mem 302 (by decide +kernel) (by decide +kernel)), (fz_mem 303 (by decide +kernel) (by decide +kernel))⟩
theorem ml_X2_42 : Cond.methodLink RX2 42 yX1_add ∈ lw_g := (fz_mem 301 (by decide +kernel) (by decide +kernel))
theorem fl_X3_16 : FL RX3 16 3 1 := ⟨RX3, TX3, 2, rfl, by decide, (fz_mem 122 (by decide +kernel) (by decide +kernel)), inX3⟩
theorem fl_X5_15 : FL RX5 15 5 0 := ⟨RX5, TX5, 2, rfl, by decide, (fz_mem 106 (by decide +kernel) (by decide +kernel)), inX5⟩
theorem fl_X5_9 : FL RX5 9 5 1 := ⟨RX5, TX5, 2, rfl, by decide, (fz_mem 107 (by decide +kernel) (by decide +kernel)), inX5⟩
theorem ml_X3_30 : Cond.methodLink RX3 30 yX4_size ∈ lw_g := (fz_mem 369 (by decide +kernel) (by decide +kernel))
theorem my_X5_size : MY yX5_size cX5_size 1 (some .int) 0 := ⟨(fz_mem 343 (by decide +kernel) (by decide +kernel)), (fz_mem 34 (by decide +kernel) (by decide +kernel)), by decide +kernel⟩
theorem mv_X5_size : MV yX5_size RX5 := ⟨(fz_mem 341 (by decide +kernel) (by decide +kernel)), (fz_mem 342 (by decide +kernel) (by decide +kernel))⟩
theorem ml_X3_20 : Cond.methodLink RX3 20 yX5_size ∈ lw_g := (fz_mem 364 (by decide +kernel) (by decide +kernel))
theorem my_X4_byteAt : MY yX4_byteAt cX4_byteAt 2 (some .int) 1 := ⟨(fz_mem 331 (by decide +kernel) (by decide +kernel)), (fz_mem 32 (by decide +kernel) (by decide +kernel)), by decide +kernel⟩
theorem mv_X4_byteAt : MV yX4_byteAt RX4 := ⟨(fz_mem 329 (by decide +kernel) (by decide +kernel)), (fz_mem 330 (by decide +kernel) (by decide +kernel))⟩
theorem ml_X3_37 : Cond.methodLink RX3 37 yX4_byteAt ∈ lw_g := (fz_mem 374 (by decide +kernel) (by decide +kernel))
theorem my_X5_byteAt : MY yX5_byteAt cX5_byteAt 2 (some .int) 1 := ⟨(fz_mem 378 (by decide +kernel) (by decide +kernel)), (fz_mem 34 (by decide +kernel) (by decide +kernel)), by decide +kernel⟩
theorem mv_X5_byteAt : MV yX5_byteAt RX5 := ⟨(fz_mem 376 (by decide +kernel) (by decide +kernel)), (fz_mem 377 (by decide +kernel) (by decide +kernel))⟩
theorem ml_X3_41 : Cond.methodLink RX3 41 yX5_byteAt ∈ lw_g := (fz_mem 375 (by decide +kernel) (by decide +kernel))
theorem fl_X3_11 : FL RX3 11 3 0 := ⟨RX3, TX3, 2, rfl, by decide, (fz_mem 121 (by decide +kernel) (by decide +kernel)), inX3⟩
theorem ml_X3_49 : Cond.methodLink RX3 49 Lib.Math.max.name ∈ lw_g := (fz_mem 379 (by decide +kernel) (by decide +kernel))
theorem ms_max : Cond.static Lib.Math.max.name ∈ lw_g := (fz_mem 380 (by decide +kernel) (by decide +kernel))
theorem mc_max : Cond.code Lib.Math.max.name Lib.Math.max.code 2 (some .int) ∈ lw_g := (fz_mem 381 (by decide +kernel) (by decide +kernel))
theorem my_X3_longestFrom : MY yX3_longestFrom cX3_longestFrom 5 (some .int) 4 := ⟨(fz_mem 373 (by decide +kernel) (by decide +kernel)), (fz_mem 35 (by decide +kernel) (by decide +kernel)), by decide +kernel⟩
theorem mv_X3_longestFrom : MV yX3_longestFrom RX3 := ⟨(fz_mem 372 (by decide +kernel) (by decide +kernel)), (fz_mem 6 (by decide +kernel) (by decide +kernel))⟩
theorem ml_X3_45 : Cond.methodLink RX3 45 yX3_longestFrom ∈ lw_g := (fz_mem 370 (by decide +kernel) (by decide +kernel))
theorem fl_X4_15 : FL RX4 15 4 2 := ⟨RX4, TX4, 5, rfl, by decide, (fz_mem 86 (by decide +kernel) (by decide +kernel)), inX4⟩
theorem my_X4_idAt : MY yX4_idAt cX4_idAt 2 (some .int) 1 := ⟨(fz_mem 389 (by decide +kernel) (by decide +kernel)), (fz_mem 32 (by decide +kernel) (by decide +kernel)), by decide +kernel⟩
theorem mv_X4_idAt : MV yX4_idAt RX4 := ⟨(fz_mem 387 (by decide +kernel) (by decide +kernel)), (fz_mem 388 (by decide +kernel) (by decide +kernel))⟩
theorem ml_X3_42 : Cond.methodLink RX3 42 yX4_idAt ∈ lw_g := (fz_mem 386 (by decide +kernel) (by decide +kernel))
theorem my_X3_isGone : MY yX3_isGone cX3_isGone 5 (some .boolean) 4 := ⟨(fz_mem 385 (by decide +kernel) (by decide +kernel)), (fz_mem 35 (by decide +kernel) (by decide +kernel)), by decide +kernel⟩
theorem mv_X3_isGone : MV yX3_isGone RX3 := ⟨(fz_mem 384 (by decide +kernel) (by decide +kernel)), (fz_mem 7 (by decide +kernel) (by decide +kernel))⟩
theorem ml_X3_33 : Cond.methodLink RX3 33 yX3_isGone ∈ lw_g := (fz_mem 382 (by decide +kernel) (by decide +kernel))
theorem my_X3_measure : MY yX3_measure cX3_measure 5 none 2 := ⟨(fz_mem 368 (by decide +kernel) (by decide +kernel)), (fz_mem 35 (by decide +kernel) (by decide +kernel)), by decide +kernel⟩
theorem mv_X3_measure : MV yX3_measure RX3 := ⟨(fz_mem 367 (by decide +kernel) (by decide +kernel)), (fz_mem 5 (by decide +kernel) (by decide +kernel))⟩
theorem ml_X3_26 : Cond.methodLink RX3 26 yX3_measure ∈ lw_g := (fz_mem 365 (by decide +kernel) (by decide +kernel))
theorem fl_X4_21 : FL RX4 21 4 3 := ⟨RX4, TX4, 5, rfl, by decide, (fz_mem 87 (by decide +kernel) (by decide +kernel)), inX4⟩
theorem fp_X4_28 : FP RX4 28 4 0 .int := ⟨RX4, TX4, 5, tyX4, rfl, by decide, (fz_mem 84 (by decide +kernel) (by decide +kernel)), inX4, tyX4_ok, nmX4, rfl, by decide +kernel⟩
theorem ml_X4_38 : Cond.methodLink RX4 38 yX5_byteAt ∈ lw_g := (fz_mem 395 (by decide +kernel) (by decide +kernel))
theorem my_X3_idAt : MY yX3_idAt cX3_idAt 2 (some .int) 1 := ⟨(fz_mem 399 (by decide +kernel) (by decide +kernel)), (fz_mem 35 (by decide +kernel) (by decide +kernel)), by decide +kernel⟩
theorem mv_X3_idAt : MV yX3_idAt RX3 := ⟨(fz_mem 397 (by decide +kernel) (by decide +kernel)), (fz_mem 398 (by decide +kernel) (by decide +kernel))⟩
theorem ml_X4_42 : Cond.methodLink RX4 42 yX3_idAt ∈ lw_g := (fz_mem 396 (by decide +kernel) (by decide +kernel))
theorem ml_X4_32 : Cond.methodLink RX4 32 yX5_size ∈ lw_g := (fz_mem 394 (by decide +kernel) (by decide +kernel))
theorem my_X0_linesOf : MY yX0_linesOf cX0_linesOf 2 (some .int) 1 := ⟨(fz_mem 283 (by decide +kernel) (by decide +kernel)), (fz_mem 36 (by decide +kernel) (by decide +kernel)), by decide +kernel⟩
theorem mv_X0_linesOf : MV yX0_linesOf RX0 := ⟨(fz_mem 281 (by decide +kernel) (by decide +kernel)), (fz_mem 282 (by decide +kernel) (by decide +kernel))⟩
theorem ml_X4_56 : Cond.methodLink RX4 56 yX0_linesOf ∈ lw_g := (fz_mem 280 (by decide +kernel) (by decide +kernel))
theorem my_X2_add : MY yX2_add cX2_add 5 none 4 := ⟨(fz_mem 288 (by decide +kernel) (by decide +kernel)), (fz_mem 33 (by decide +kernel) (by decide +kernel)), by decide +kernel⟩
theorem mv_X2_add : MV yX2_add RX2 := ⟨(fz_mem 286 (by decide +kernel) (by decide +kernel)), (fz_mem 287 (by decide +kernel) (by decide +kernel))⟩
theorem ml_X4_65 : Cond.methodLink RX4 65 yX2_add ∈ lw_g := (fz_mem 285 (by decide +kernel) (by decide +kernel))
theorem my_X2_takeOver : MY yX2_takeOver cX2_takeOver 4 none 1 := ⟨(fz_mem 292 (by decide +kernel) (by decide +kernel)), (fz_mem 33 (by decide +kernel) (by decide +kernel)), by decide +kernel⟩
theorem mv_X2_takeOver : MV yX2_takeOver RX2 := ⟨(fz_mem 290 (by decide +kernel) (by decide +kernel)), (fz_mem 291 (by decide +kernel) (by decide +kernel))⟩
theorem ml_X4_69 : Cond.methodLink RX4 69 yX2_takeOver ∈ lw_g := (fz_mem 289 (by decide +kernel) (by decide +kernel))
theorem my_X2_logEnded : MY yX2_logEnded cX2_logEnded 5 none 3 := ⟨(fz_mem 300 (by decide +kernel) (by decide +kernel)), (fz_mem 33 (by decide +kernel) (by decide +kernel)), by decide +kernel⟩
theorem mv_X2_logEnded : MV yX2_logEnded RX2 := ⟨(fz_mem 298 (by decide +kernel) (by decide +kernel)), (fz_mem 299 (by decide +kernel) (by decide +kernel))⟩
theorem ml_X4_73 : Cond.methodLink RX4 73 yX2_logEnded ∈ lw_g := (fz_mem 297 (by decide +kernel) (by decide +kernel))
theorem fp_X4_25 : FP RX4 25 4 4 (.object "FindingHouse$FindingRow") := ⟨RX4, TX4, 5, tyX4, rfl, by decide, (fz_mem 88 (by decide +kernel) (by decide +kernel)), inX4, tyX4_ok, nmX4, rfl, by decide +kernel⟩
theorem fp_X4_21 : FP RX4 21 4 3 (.object "FindingHouse$FindingRow") := ⟨RX4, TX4, 5, tyX4, rfl, by decide, (fz_mem 87 (by decide +kernel) (by decide +kernel)), inX4, tyX4_ok, nmX4, rfl, by decide +kernel⟩
theorem fl_X4_25 : FL RX4 25 4 4 := ⟨RX4, TX4, 5, rfl, by decide, (fz_mem 88 (by decide +kernel) (by decide +kernel)), inX4⟩
theorem my_X2_clear : MY yX2_clear cX2_clear 1 none 0 := ⟨(fz_mem 279 (by decide +kernel) (by decide +kernel)), (fz_mem 33 (by decide +kernel) (by decide +kernel)), by decide +kernel⟩
theorem mv_X2_clear : MV yX2_clear RX2 := ⟨(fz_mem 277 (by decide +kernel) (by decide +kernel)), (fz_mem 278 (by decide +kernel) (by decide +kernel))⟩
theorem ml_X4_53 : Cond.methodLink RX4 53 yX2_clear ∈ lw_g := (fz_mem 276 (by decide +kernel) (by decide +kernel))
theorem fp_X5_15 : FP RX5 15 5 0 .int := ⟨RX5, TX5, 2, tyX5, rfl, by decide, (fz_mem 106 (by decide +kernel) (by decide +kernel)), inX5, tyX5_ok, nmX5, rfl, by decide +kernel⟩
theorem fl_X6_11 : FL RX6 11 6 0 := ⟨RX6, TX6, 10, rfl, by decide, (fz_mem 166 (by decide +kernel) (by decide +kernel)), inX6⟩
theorem ml_X6_186 : Cond.methodLink RX6 186 yX4_importedFiles ∈ lw_g := (fz_mem 235 (by decide +kernel) (by decide +kernel))
theorem ml_X6_189 : Cond.methodLink RX6 189 yX6_has ∈ lw_g := (fz_mem 239 (by decide +kernel) (by decide +kernel))
theorem fl_X6_33 : FL RX6 33 6 3 := ⟨RX6, TX6, 10, rfl, by decide, (fz_mem 169 (by decide +kernel) (by decide +kernel)), inX6⟩
theorem fl_X6_102 : FL RX6 102 6 8 := ⟨RX6, TX6, 10, rfl, by decide, (fz_mem 174 (by decide +kernel) (by decide +kernel)), inX6⟩
theorem my_X0_check : MY yX0_check cX0_check 11 none 3 := ⟨(fz_mem 249 (by decide +kernel) (by decide +kernel)), (fz_mem 36 (by decide +kernel) (by decide +kernel)), by decide +kernel⟩
theorem mv_X0_check : MV yX0_check RX0 := ⟨(fz_mem 247 (by decide +kernel) (by decide +kernel)), (fz_mem 248 (by decide +kernel) (by decide +kernel))⟩
theorem ml_X6_192 : Cond.methodLink RX6 192 yX0_check ∈ lw_g := (fz_mem 246 (by decide +kernel) (by decide +kernel))
theorem fl_X6_111 : FL RX6 111 6 5 := ⟨RX6, TX6, 10, rfl, by decide, (fz_mem 171 (by decide +kernel) (by decide +kernel)), inX6⟩
theorem fl_X6_40 : FL RX6 40 6 4 := ⟨RX6, TX6, 10, rfl, by decide, (fz_mem 170 (by decide +kernel) (by decide +kernel)), inX6⟩
theorem my_X4_renewFindings : MY yX4_renewFindings cX4_renewFindings 7 none 3 := ⟨(fz_mem 275 (by decide +kernel) (by decide +kernel)), (fz_mem 32 (by decide +kernel) (by decide +kernel)), by decide +kernel⟩
theorem mv_X4_renewFindings : MV yX4_renewFindings RX4 := ⟨(fz_mem 273 (by decide +kernel) (by decide +kernel)), (fz_mem 274 (by decide +kernel) (by decide +kernel))⟩
theorem ml_X6_196 : Cond.methodLink RX6 196 yX4_renewFindings ∈ lw_g := (fz_mem 272 (by decide +kernel) (by decide +kernel))
theorem fp_X6_111 : FP RX6 111 6 5 .int := ⟨RX6, TX6, 10, tyX6, rfl, by decide, (fz_mem 171 (by decide +kernel) (by decide +kernel)), inX6, tyX6_ok, nmX6, rfl, by decide +kernel⟩
theorem fp_X6_121 : FP RX6 121 6 9 .int := ⟨RX6, TX6, 10, tyX6, rfl, by decide, (fz_mem 175 (by decide +kernel) (by decide +kernel)), inX6, tyX6_ok, nmX6, rfl, by decide +kernel⟩
theorem my_X6_work : MY yX6_work cX6_work 3 none 1 := ⟨(fz_mem 245 (by decide +kernel) (by decide +kernel)), (fz_mem 31 (by decide +kernel) (by decide +kernel)), by decide +kernel⟩
theorem mv_X6_work : MV yX6_work RX6 := ⟨(fz_mem 244 (by decide +kernel) (by decide +kernel)), (fz_mem 2 (by decide +kernel) (by decide +kernel))⟩
theorem ml_X6_105 : Cond.methodLink RX6 105 yX6_work ∈ lw_g := (fz_mem 242 (by decide +kernel) (by decide +kernel))
theorem ml_X6_54 : Cond.methodLink RX6 54 yX4_numbersOf ∈ lw_g := (fz_mem 211 (by decide +kernel) (by decide +kernel))
theorem my_X6_importersOf : MY yX6_importersOf cX6_importersOf 4 (some .int) 1 := ⟨(fz_mem 234 (by decide +kernel) (by decide +kernel)), (fz_mem 31 (by decide +kernel) (by decide +kernel)), by decide +kernel⟩
theorem mv_X6_importersOf : MV yX6_importersOf RX6 := ⟨(fz_mem 233 (by decide +kernel) (by decide +kernel)), (fz_mem 1 (by decide +kernel) (by decide +kernel))⟩
theorem ml_X6_183 : Cond.methodLink RX6 183 yX6_importersOf ∈ lw_g := (fz_mem 231 (by decide +kernel) (by decide +kernel))
theorem my_X6_isFile : MY yX6_isFile cX6_isFile 1 (some .boolean) 1 := ⟨(fz_mem 203 (by decide +kernel) (by decide +kernel)), (fz_mem 31 (by decide +kernel) (by decide +kernel)), by decide +kernel⟩
theorem ms_X6_isFile : Cond.static yX6_isFile ∈ lw_g := (fz_mem 202 (by decide +kernel) (by decide +kernel))
theorem ml_X6_44 : Cond.methodLink RX6 44 yX6_isFile ∈ lw_g := (fz_mem 201 (by decide +kernel) (by decide +kernel))
theorem my_X6_isByte : MY yX6_isByte cX6_isByte 1 (some .boolean) 1 := ⟨(fz_mem 206 (by decide +kernel) (by decide +kernel)), (fz_mem 31 (by decide +kernel) (by decide +kernel)), by decide +kernel⟩
theorem ms_X6_isByte : Cond.static yX6_isByte ∈ lw_g := (fz_mem 205 (by decide +kernel) (by decide +kernel))
theorem ml_X6_48 : Cond.methodLink RX6 48 yX6_isByte ∈ lw_g := (fz_mem 204 (by decide +kernel) (by decide +kernel))
theorem my_X4_takesLine : MY yX4_takesLine cX4_takesLine 2 (some .boolean) 1 := ⟨(fz_mem 210 (by decide +kernel) (by decide +kernel)), (fz_mem 32 (by decide +kernel) (by decide +kernel)), by decide +kernel⟩
theorem mv_X4_takesLine : MV yX4_takesLine RX4 := ⟨(fz_mem 208 (by decide +kernel) (by decide +kernel)), (fz_mem 209 (by decide +kernel) (by decide +kernel))⟩
theorem ml_X6_51 : Cond.methodLink RX6 51 yX4_takesLine ∈ lw_g := (fz_mem 207 (by decide +kernel) (by decide +kernel))
theorem fl_X6_58 : FL RX6 58 6 7 := ⟨RX6, TX6, 10, rfl, by decide, (fz_mem 173 (by decide +kernel) (by decide +kernel)), inX6⟩
theorem fp_X6_58 : FP RX6 58 6 7 .int := ⟨RX6, TX6, 10, tyX6, rfl, by decide, (fz_mem 173 (by decide +kernel) (by decide +kernel)), inX6, tyX6_ok, nmX6, rfl, by decide +kernel⟩
theorem my_X4_insert : MY yX4_insert cX4_insert 5 none 3 := ⟨(fz_mem 226 (by decide +kernel) (by decide +kernel)), (fz_mem 32 (by decide +kernel) (by decide +kernel)), by decide +kernel⟩
theorem mv_X4_insert : MV yX4_insert RX4 := ⟨(fz_mem 224 (by decide +kernel) (by decide +kernel)), (fz_mem 225 (by decide +kernel) (by decide +kernel))⟩
theorem ml_X6_62 : Cond.methodLink RX6 62 yX4_insert ∈ lw_g := (fz_mem 223 (by decide +kernel) (by decide +kernel))
theorem my_X6_settle : MY yX6_settle cX6_settle 4 none 2 := ⟨(fz_mem 230 (by decide +kernel) (by decide +kernel)), (fz_mem 31 (by decide +kernel) (by decide +kernel)), by decide +kernel⟩
theorem mv_X6_settle : MV yX6_settle RX6 := ⟨(fz_mem 229 (by decide +kernel) (by decide +kernel)), (fz_mem 0 (by decide +kernel) (by decide +kernel))⟩
theorem ml_X6_66 : Cond.methodLink RX6 66 yX6_settle ∈ lw_g := (fz_mem 227 (by decide +kernel) (by decide +kernel))
theorem my_X4_hasLine : MY yX4_hasLine cX4_hasLine 2 (some .boolean) 1 := ⟨(fz_mem 319 (by decide +kernel) (by decide +kernel)), (fz_mem 32 (by decide +kernel) (by decide +kernel)), by decide +kernel⟩
theorem mv_X4_hasLine : MV yX4_hasLine RX4 := ⟨(fz_mem 317 (by decide +kernel) (by decide +kernel)), (fz_mem 318 (by decide +kernel) (by decide +kernel))⟩
theorem ml_X6_180 : Cond.methodLink RX6 180 yX4_hasLine ∈ lw_g := (fz_mem 316 (by decide +kernel) (by decide +kernel))
theorem my_X6_isLine : MY yX6_isLine cX6_isLine 3 (some .boolean) 2 := ⟨(fz_mem 315 (by decide +kernel) (by decide +kernel)), (fz_mem 31 (by decide +kernel) (by decide +kernel)), by decide +kernel⟩
theorem mv_X6_isLine : MV yX6_isLine RX6 := ⟨(fz_mem 314 (by decide +kernel) (by decide +kernel)), (fz_mem 4 (by decide +kernel) (by decide +kernel))⟩
theorem ml_X6_70 : Cond.methodLink RX6 70 yX6_isLine ∈ lw_g := (fz_mem 312 (by decide +kernel) (by decide +kernel))
theorem my_X4_remove : MY yX4_remove cX4_remove 3 none 1 := ⟨(fz_mem 323 (by decide +kernel) (by decide +kernel)), (fz_mem 32 (by decide +kernel) (by decide +kernel)), by decide +kernel⟩
theorem mv_X4_remove : MV yX4_remove RX4 := ⟨(fz_mem 321 (by decide +kernel) (by decide +kernel)), (fz_mem 322 (by decide +kernel) (by decide +kernel))⟩
theorem ml_X6_74 : Cond.methodLink RX6 74 yX4_remove ∈ lw_g := (fz_mem 320 (by decide +kernel) (by decide +kernel))
theorem ml_X6_78 : Cond.methodLink RX6 78 yX4_byteAt ∈ lw_g := (fz_mem 328 (by decide +kernel) (by decide +kernel))
theorem my_X4_replace : MY yX4_replace cX4_replace 3 none 2 := ⟨(fz_mem 335 (by decide +kernel) (by decide +kernel)), (fz_mem 32 (by decide +kernel) (by decide +kernel)), by decide +kernel⟩
theorem mv_X4_replace : MV yX4_replace RX4 := ⟨(fz_mem 333 (by decide +kernel) (by decide +kernel)), (fz_mem 334 (by decide +kernel) (by decide +kernel))⟩
theorem ml_X6_81 : Cond.methodLink RX6 81 yX4_replace ∈ lw_g := (fz_mem 332 (by decide +kernel) (by decide +kernel))
theorem fl_X6_19 : FL RX6 19 6 1 := ⟨RX6, TX6, 10, rfl, by decide, (fz_mem 167 (by decide +kernel) (by decide +kernel)), inX6⟩
theorem ml_X6_84 : Cond.methodLink RX6 84 yX5_size ∈ lw_g := (fz_mem 340 (by decide +kernel) (by decide +kernel))
theorem my_X5_append : MY yX5_append cX5_append 3 none 1 := ⟨(fz_mem 347 (by decide +kernel) (by decide +kernel)), (fz_mem 34 (by decide +kernel) (by decide +kernel)), by decide +kernel⟩
theorem mv_X5_append : MV yX5_append RX5 := ⟨(fz_mem 345 (by decide +kernel) (by decide +kernel)), (fz_mem 346 (by decide +kernel) (by decide +kernel))⟩
theorem ml_X6_88 : Cond.methodLink RX6 88 yX5_append ∈ lw_g := (fz_mem 344 (by decide +kernel) (by decide +kernel))
theorem my_X5_shorten : MY yX5_shorten cX5_shorten 2 none 1 := ⟨(fz_mem 355 (by decide +kernel) (by decide +kernel)), (fz_mem 34 (by decide +kernel) (by decide +kernel)), by decide +kernel⟩
theorem mv_X5_shorten : MV yX5_shorten RX5 := ⟨(fz_mem 353 (by decide +kernel) (by decide +kernel)), (fz_mem 354 (by decide +kernel) (by decide +kernel))⟩
theorem ml_X6_91 : Cond.methodLink RX6 91 yX5_shorten ∈ lw_g := (fz_mem 352 (by decide +kernel) (by decide +kernel))
theorem fl_X6_26 : FL RX6 26 6 2 := ⟨RX6, TX6, 10, rfl, by decide, (fz_mem 168 (by decide +kernel) (by decide +kernel)), inX6⟩
theorem my_X3_match : MY yX3_match cX3_match 7 (some .int) 3 := ⟨(fz_mem 363 (by decide +kernel) (by decide +kernel)), (fz_mem 35 (by decide +kernel) (by decide +kernel)), by decide +kernel⟩
theorem mv_X3_match : MV yX3_match RX3 := ⟨(fz_mem 361 (by decide +kernel) (by decide +kernel)), (fz_mem 362 (by decide +kernel) (by decide +kernel))⟩
theorem ml_X6_94 : Cond.methodLink RX6 94 yX3_match ∈ lw_g := (fz_mem 360 (by decide +kernel) (by decide +kernel))
theorem my_X4_retell : MY yX4_retell cX4_retell 4 none 2 := ⟨(fz_mem 393 (by decide +kernel) (by decide +kernel)), (fz_mem 32 (by decide +kernel) (by decide +kernel)), by decide +kernel⟩
theorem mv_X4_retell : MV yX4_retell RX4 := ⟨(fz_mem 391 (by decide +kernel) (by decide +kernel)), (fz_mem 392 (by decide +kernel) (by decide +kernel))⟩
theorem ml_X6_98 : Cond.methodLink RX6 98 yX4_retell ∈ lw_g := (fz_mem 390 (by decide +kernel) (by decide +kernel))
theorem fp_X6_102 : FP RX6 102 6 8 .int := ⟨RX6, TX6, 10, tyX6, rfl, by decide, (fz_mem 174 (by decide +kernel) (by decide +kernel)), inX6, tyX6_ok, nmX6, rfl, by decide +kernel⟩
theorem fl_X6_108 : FL RX6 108 6 6 := ⟨RX6, TX6, 10, rfl, by decide, (fz_mem 172 (by decide +kernel) (by decide +kernel)), inX6⟩
theorem fp_X6_108 : FP RX6 108 6 6 .int := ⟨RX6, TX6, 10, tyX6, rfl, by decide, (fz_mem 172 (by decide +kernel) (by decide +kernel)), inX6, tyX6_ok, nmX6, rfl, by decide +kernel⟩
theorem my_X4_findings : MY yX4_findings cX4_findings 1 (some (.object "FindingHouse$FindingRow")) 0 := ⟨(fz_mem 419 (by decide +kernel) (by decide +kernel)), (fz_mem 32 (by decide +kernel) (by decide +kernel)), by decide +kernel⟩
theorem mv_X4_findings : MV yX4_findings RX4 := ⟨(fz_mem 417 (by decide +kernel) (by decide +kernel)), (fz_mem 418 (by decide +kernel) (by decide +kernel))⟩
theorem ml_X6_133 : Cond.methodLink RX6 133 yX4_findings ∈ lw_g := (fz_mem 416 (by decide +kernel) (by decide +kernel))
theorem my_X2_size : MY yX2_size cX2_size 1 (some .int) 0 := ⟨(fz_mem 423 (by decide +kernel) (by decide +kernel)), (fz_mem 33 (by decide +kernel) (by decide +kernel)), by decide +kernel⟩
theorem mv_X2_size : MV yX2_size RX2 := ⟨(fz_mem 421 (by decide +kernel) (by decide +kernel)), (fz_mem 422 (by decide +kernel) (by decide +kernel))⟩
theorem ml_X6_200 : Cond.methodLink RX6 200 yX2_size ∈ lw_g := (fz_mem 420 (by decide +kernel) (by decide +kernel))
theorem my_X2_countSilenced : MY yX2_countSilenced cX2_countSilenced 4 (some .int) 1 := ⟨(fz_mem 431 (by decide +kernel) (by decide +kernel)), (fz_mem 33 (by decide +kernel) (by decide +kernel)), by decide +kernel⟩
theorem mv_X2_countSilenced : MV yX2_countSilenced RX2 := ⟨(fz_mem 429 (by decide +kernel) (by decide +kernel)), (fz_mem 430 (by decide +kernel) (by decide +kernel))⟩
theorem ml_X6_201 : Cond.methodLink RX6 201 yX2_countSilenced ∈ lw_g := (fz_mem 428 (by decide +kernel) (by decide +kernel))
theorem ml_X6_203 : Cond.methodLink RX6 203 yX4_size ∈ lw_g := (fz_mem 444 (by decide +kernel) (by decide +kernel))
theorem my_X6_findingsAhead : MY yX6_findingsAhead cX6_findingsAhead 4 (some .int) 1 := ⟨(fz_mem 415 (by decide +kernel) (by decide +kernel)), (fz_mem 31 (by decide +kernel) (by decide +kernel)), by decide +kernel⟩
theorem mv_X6_findingsAhead : MV yX6_findingsAhead RX6 := ⟨(fz_mem 414 (by decide +kernel) (by decide +kernel)), (fz_mem 8 (by decide +kernel) (by decide +kernel))⟩
theorem ml_X6_114 : Cond.methodLink RX6 114 yX6_findingsAhead ∈ lw_g := (fz_mem 412 (by decide +kernel) (by decide +kernel))
theorem my_X6_countSilenced : MY yX6_countSilenced cX6_countSilenced 3 (some .int) 0 := ⟨(fz_mem 427 (by decide +kernel) (by decide +kernel)), (fz_mem 31 (by decide +kernel) (by decide +kernel)), by decide +kernel⟩
theorem mv_X6_countSilenced : MV yX6_countSilenced RX6 := ⟨(fz_mem 426 (by decide +kernel) (by decide +kernel)), (fz_mem 9 (by decide +kernel) (by decide +kernel))⟩
theorem ml_X6_117 : Cond.methodLink RX6 117 yX6_countSilenced ∈ lw_g := (fz_mem 424 (by decide +kernel) (by decide +kernel))
theorem my_X1_size : MY yX1_size cX1_size 1 (some .int) 0 := ⟨(fz_mem 439 (by decide +kernel) (by decide +kernel)), (fz_mem 37 (by decide +kernel) (by decide +kernel)), by decide +kernel⟩
theorem mv_X1_size : MV yX1_size RX1 := ⟨(fz_mem 437 (by decide +kernel) (by decide +kernel)), (fz_mem 438 (by decide +kernel) (by decide +kernel))⟩
theorem ml_X6_120 : Cond.methodLink RX6 120 yX1_size ∈ lw_g := (fz_mem 436 (by decide +kernel) (by decide +kernel))
theorem fl_X6_121 : FL RX6 121 6 9 := ⟨RX6, TX6, 10, rfl, by decide, (fz_mem 175 (by decide +kernel) (by decide +kernel)), inX6⟩
theorem my_X6_countLines : MY yX6_countLines cX6_countLines 3 (some .int) 0 := ⟨(fz_mem 443 (by decide +kernel) (by decide +kernel)), (fz_mem 31 (by decide +kernel) (by decide +kernel)), by decide +kernel⟩
theorem mv_X6_countLines : MV yX6_countLines RX6 := ⟨(fz_mem 442 (by decide +kernel) (by decide +kernel)), (fz_mem 10 (by decide +kernel) (by decide +kernel))⟩
theorem ml_X6_124 : Cond.methodLink RX6 124 yX6_countLines ∈ lw_g := (fz_mem 440 (by decide +kernel) (by decide +kernel))
theorem ml_X6_127 : Cond.methodLink RX6 127 yX4_idAt ∈ lw_g := (fz_mem 449 (by decide +kernel) (by decide +kernel))
theorem my_X6_fileOfFinding : MY yX6_fileOfFinding cX6_fileOfFinding 5 (some .int) 1 := ⟨(fz_mem 457 (by decide +kernel) (by decide +kernel)), (fz_mem 31 (by decide +kernel) (by decide +kernel)), by decide +kernel⟩
theorem mv_X6_fileOfFinding : MV yX6_fileOfFinding RX6 := ⟨(fz_mem 456 (by decide +kernel) (by decide +kernel)), (fz_mem 11 (by decide +kernel) (by decide +kernel))⟩
theorem ml_X6_130 : Cond.methodLink RX6 130 yX6_fileOfFinding ∈ lw_g := (fz_mem 454 (by decide +kernel) (by decide +kernel))
theorem my_X2_ruleAt : MY yX2_ruleAt cX2_ruleAt 2 (some .int) 1 := ⟨(fz_mem 461 (by decide +kernel) (by decide +kernel)), (fz_mem 33 (by decide +kernel) (by decide +kernel)), by decide +kernel⟩
theorem mv_X2_ruleAt : MV yX2_ruleAt RX2 := ⟨(fz_mem 459 (by decide +kernel) (by decide +kernel)), (fz_mem 460 (by decide +kernel) (by decide +kernel))⟩
theorem ml_X6_137 : Cond.methodLink RX6 137 yX2_ruleAt ∈ lw_g := (fz_mem 458 (by decide +kernel) (by decide +kernel))
theorem my_X2_lineAt : MY yX2_lineAt cX2_lineAt 2 (some .int) 1 := ⟨(fz_mem 465 (by decide +kernel) (by decide +kernel)), (fz_mem 33 (by decide +kernel) (by decide +kernel)), by decide +kernel⟩
theorem mv_X2_lineAt : MV yX2_lineAt RX2 := ⟨(fz_mem 463 (by decide +kernel) (by decide +kernel)), (fz_mem 464 (by decide +kernel) (by decide +kernel))⟩
theorem ml_X6_142 : Cond.methodLink RX6 142 yX2_lineAt ∈ lw_g := (fz_mem 462 (by decide +kernel) (by decide +kernel))
theorem my_X2_idAt : MY yX2_idAt cX2_idAt 2 (some .int) 1 := ⟨(fz_mem 469 (by decide +kernel) (by decide +kernel)), (fz_mem 33 (by decide +kernel) (by decide +kernel)), by decide +kernel⟩
theorem mv_X2_idAt : MV yX2_idAt RX2 := ⟨(fz_mem 467 (by decide +kernel) (by decide +kernel)), (fz_mem 468 (by decide +kernel) (by decide +kernel))⟩
theorem ml_X6_145 : Cond.methodLink RX6 145 yX2_idAt ∈ lw_g := (fz_mem 466 (by decide +kernel) (by decide +kernel))
theorem my_X2_sinceAt : MY yX2_sinceAt cX2_sinceAt 2 (some .int) 1 := ⟨(fz_mem 473 (by decide +kernel) (by decide +kernel)), (fz_mem 33 (by decide +kernel) (by decide +kernel)), by decide +kernel⟩
theorem mv_X2_sinceAt : MV yX2_sinceAt RX2 := ⟨(fz_mem 471 (by decide +kernel) (by decide +kernel)), (fz_mem 472 (by decide +kernel) (by decide +kernel))⟩
theorem ml_X6_146 : Cond.methodLink RX6 146 yX2_sinceAt ∈ lw_g := (fz_mem 470 (by decide +kernel) (by decide +kernel))
theorem ml_X6_149 : Cond.methodLink RX6 149 yX2_isSilenced ∈ lw_g := (fz_mem 474 (by decide +kernel) (by decide +kernel))
theorem my_X2_daysLeft : MY yX2_daysLeft cX2_daysLeft 3 (some .int) 2 := ⟨(fz_mem 478 (by decide +kernel) (by decide +kernel)), (fz_mem 33 (by decide +kernel) (by decide +kernel)), by decide +kernel⟩
theorem mv_X2_daysLeft : MV yX2_daysLeft RX2 := ⟨(fz_mem 476 (by decide +kernel) (by decide +kernel)), (fz_mem 477 (by decide +kernel) (by decide +kernel))⟩
theorem ml_X6_152 : Cond.methodLink RX6 152 yX2_daysLeft ∈ lw_g := (fz_mem 475 (by decide +kernel) (by decide +kernel))
theorem my_X2_reasonAt : MY yX2_reasonAt cX2_reasonAt 3 (some .int) 2 := ⟨(fz_mem 482 (by decide +kernel) (by decide +kernel)), (fz_mem 33 (by decide +kernel) (by decide +kernel)), by decide +kernel⟩
theorem mv_X2_reasonAt : MV yX2_reasonAt RX2 := ⟨(fz_mem 480 (by decide +kernel) (by decide +kernel)), (fz_mem 481 (by decide +kernel) (by decide +kernel))⟩
theorem ml_X6_156 : Cond.methodLink RX6 156 yX2_reasonAt ∈ lw_g := (fz_mem 479 (by decide +kernel) (by decide +kernel))
theorem ml_X6_159 : Cond.methodLink RX6 159 yX2_placeOf ∈ lw_g := (fz_mem 487 (by decide +kernel) (by decide +kernel))
theorem my_X2_hush : MY yX2_hush cX2_hush 4 none 3 := ⟨(fz_mem 495 (by decide +kernel) (by decide +kernel)), (fz_mem 33 (by decide +kernel) (by decide +kernel)), by decide +kernel⟩
theorem mv_X2_hush : MV yX2_hush RX2 := ⟨(fz_mem 493 (by decide +kernel) (by decide +kernel)), (fz_mem 494 (by decide +kernel) (by decide +kernel))⟩
theorem ml_X6_162 : Cond.methodLink RX6 162 yX2_hush ∈ lw_g := (fz_mem 492 (by decide +kernel) (by decide +kernel))
theorem my_X2_unhush : MY yX2_unhush cX2_unhush 2 none 1 := ⟨(fz_mem 503 (by decide +kernel) (by decide +kernel)), (fz_mem 33 (by decide +kernel) (by decide +kernel)), by decide +kernel⟩
theorem mv_X2_unhush : MV yX2_unhush RX2 := ⟨(fz_mem 501 (by decide +kernel) (by decide +kernel)), (fz_mem 502 (by decide +kernel) (by decide +kernel))⟩
theorem ml_X6_165 : Cond.methodLink RX6 165 yX2_unhush ∈ lw_g := (fz_mem 500 (by decide +kernel) (by decide +kernel))
theorem my_X2_countAfter : MY yX2_countAfter cX2_countAfter 7 (some .int) 3 := ⟨(fz_mem 511 (by decide +kernel) (by decide +kernel)), (fz_mem 33 (by decide +kernel) (by decide +kernel)), by decide +kernel⟩
theorem mv_X2_countAfter : MV yX2_countAfter RX2 := ⟨(fz_mem 509 (by decide +kernel) (by decide +kernel)), (fz_mem 510 (by decide +kernel) (by decide +kernel))⟩
theorem ml_X6_168 : Cond.methodLink RX6 168 yX2_countAfter ∈ lw_g := (fz_mem 508 (by decide +kernel) (by decide +kernel))
theorem my_X1_placeOf : MY yX1_placeOf cX1_placeOf 3 (some .int) 1 := ⟨(fz_mem 519 (by decide +kernel) (by decide +kernel)), (fz_mem 37 (by decide +kernel) (by decide +kernel)), by decide +kernel⟩
theorem mv_X1_placeOf : MV yX1_placeOf RX1 := ⟨(fz_mem 517 (by decide +kernel) (by decide +kernel)), (fz_mem 518 (by decide +kernel) (by decide +kernel))⟩
theorem ml_X6_172 : Cond.methodLink RX6 172 yX1_placeOf ∈ lw_g := (fz_mem 516 (by decide +kernel) (by decide +kernel))
theorem my_X1_ruleAt : MY yX1_ruleAt cX1_ruleAt 2 (some .int) 1 := ⟨(fz_mem 523 (by decide +kernel) (by decide +kernel)), (fz_mem 37 (by decide +kernel) (by decide +kernel)), by decide +kernel⟩
theorem mv_X1_ruleAt : MV yX1_ruleAt RX1 := ⟨(fz_mem 521 (by decide +kernel) (by decide +kernel)), (fz_mem 522 (by decide +kernel) (by decide +kernel))⟩
theorem ml_X6_174 : Cond.methodLink RX6 174 yX1_ruleAt ∈ lw_g := (fz_mem 520 (by decide +kernel) (by decide +kernel))
theorem my_X1_idAt : MY yX1_idAt cX1_idAt 2 (some .int) 1 := ⟨(fz_mem 527 (by decide +kernel) (by decide +kernel)), (fz_mem 37 (by decide +kernel) (by decide +kernel)), by decide +kernel⟩
theorem mv_X1_idAt : MV yX1_idAt RX1 := ⟨(fz_mem 525 (by decide +kernel) (by decide +kernel)), (fz_mem 526 (by decide +kernel) (by decide +kernel))⟩
theorem ml_X6_175 : Cond.methodLink RX6 175 yX1_idAt ∈ lw_g := (fz_mem 524 (by decide +kernel) (by decide +kernel))
theorem my_X1_sinceAt : MY yX1_sinceAt cX1_sinceAt 2 (some .int) 1 := ⟨(fz_mem 531 (by decide +kernel) (by decide +kernel)), (fz_mem 37 (by decide +kernel) (by decide +kernel)), by decide +kernel⟩
theorem mv_X1_sinceAt : MV yX1_sinceAt RX1 := ⟨(fz_mem 529 (by decide +kernel) (by decide +kernel)), (fz_mem 530 (by decide +kernel) (by decide +kernel))⟩
theorem ml_X6_176 : Cond.methodLink RX6 176 yX1_sinceAt ∈ lw_g := (fz_mem 528 (by decide +kernel) (by decide +kernel))
theorem my_X1_endAt : MY yX1_endAt cX1_endAt 2 (some .int) 1 := ⟨(fz_mem 535 (by decide +kernel) (by decide +kernel)), (fz_mem 37 (by decide +kernel) (by decide +kernel)), by decide +kernel⟩
theorem mv_X1_endAt : MV yX1_endAt RX1 := ⟨(fz_mem 533 (by decide +kernel) (by decide +kernel)), (fz_mem 534 (by decide +kernel) (by decide +kernel))⟩
theorem ml_X6_177 : Cond.methodLink RX6 177 yX1_endAt ∈ lw_g := (fz_mem 532 (by decide +kernel) (by decide +kernel))
theorem my_X7_isIn : MY yX7_isIn cX7_isIn 3 (some .boolean) 3 := ⟨(fz_mem 646 (by decide +kernel) (by decide +kernel)), (fz_mem 38 (by decide +kernel) (by decide +kernel)), by decide +kernel⟩
theorem ms_X7_isIn : Cond.static yX7_isIn ∈ lw_g := (fz_mem 645 (by decide +kernel) (by decide +kernel))
theorem ml_X7_76 : Cond.methodLink RX7 76 yX7_isIn ∈ lw_g := (fz_mem 644 (by decide +kernel) (by decide +kernel))
theorem my_X7_isFile : MY yX7_isFile cX7_isFile 1 (some .boolean) 1 := ⟨(fz_mem 653 (by decide +kernel) (by decide +kernel)), (fz_mem 38 (by decide +kernel) (by decide +kernel)), by decide +kernel⟩
theorem ms_X7_isFile : Cond.static yX7_isFile ∈ lw_g := (fz_mem 652 (by decide +kernel) (by decide +kernel))
theorem ml_X7_80 : Cond.methodLink RX7 80 yX7_isFile ∈ lw_g := (fz_mem 651 (by decide +kernel) (by decide +kernel))
theorem fl_X7_7 : FL RX7 7 7 0 := ⟨RX7, TX7, 31, rfl, by decide, (fz_mem 542 (by decide +kernel) (by decide +kernel)), inX7⟩
theorem fl_X7_13 : FL RX7 13 7 1 := ⟨RX7, TX7, 31, rfl, by decide, (fz_mem 543 (by decide +kernel) (by decide +kernel)), inX7⟩
theorem my_X7_kind : MY yX7_kind cX7_kind 3 (some .int) 2 := ⟨(fz_mem 668 (by decide +kernel) (by decide +kernel)), (fz_mem 38 (by decide +kernel) (by decide +kernel)), by decide +kernel⟩
theorem mv_X7_kind : MV yX7_kind RX7 := ⟨(fz_mem 667 (by decide +kernel) (by decide +kernel)), (fz_mem 14 (by decide +kernel) (by decide +kernel))⟩
theorem ml_X7_84 : Cond.methodLink RX7 84 yX7_kind ∈ lw_g := (fz_mem 665 (by decide +kernel) (by decide +kernel))
theorem my_X7_number : MY yX7_number cX7_number 3 (some .int) 2 := ⟨(fz_mem 672 (by decide +kernel) (by decide +kernel)), (fz_mem 38 (by decide +kernel) (by decide +kernel)), by decide +kernel⟩
theorem mv_X7_number : MV yX7_number RX7 := ⟨(fz_mem 671 (by decide +kernel) (by decide +kernel)), (fz_mem 15 (by decide +kernel) (by decide +kernel))⟩
theorem ml_X7_88 : Cond.methodLink RX7 88 yX7_number ∈ lw_g := (fz_mem 669 (by decide +kernel) (by decide +kernel))
theorem my_X7_imports : MY yX7_imports cX7_imports 5 (some .boolean) 2 := ⟨(fz_mem 680 (by decide +kernel) (by decide +kernel)), (fz_mem 38 (by decide +kernel) (by decide +kernel)), by decide +kernel⟩
theorem mv_X7_imports : MV yX7_imports RX7 := ⟨(fz_mem 679 (by decide +kernel) (by decide +kernel)), (fz_mem 17 (by decide +kernel) (by decide +kernel))⟩
theorem ml_X7_95 : Cond.methodLink RX7 95 yX7_imports ∈ lw_g := (fz_mem 677 (by decide +kernel) (by decide +kernel))
theorem my_X7_defs : MY yX7_defs cX7_defs 4 (some .int) 1 := ⟨(fz_mem 664 (by decide +kernel) (by decide +kernel)), (fz_mem 38 (by decide +kernel) (by decide +kernel)), by decide +kernel⟩
theorem mv_X7_defs : MV yX7_defs RX7 := ⟨(fz_mem 663 (by decide +kernel) (by decide +kernel)), (fz_mem 13 (by decide +kernel) (by decide +kernel))⟩
theorem ml_X7_91 : Cond.methodLink RX7 91 yX7_defs ∈ lw_g := (fz_mem 661 (by decide +kernel) (by decide +kernel))
theorem fl_X7_99 : FL RX7 99 7 6 := ⟨RX7, TX7, 31, rfl, by decide, (fz_mem 548 (by decide +kernel) (by decide +kernel)), inX7⟩
theorem my_X7_isSecond : MY yX7_isSecond cX7_isSecond 5 (some .boolean) 2 := ⟨(fz_mem 692 (by decide +kernel) (by decide +kernel)), (fz_mem 38 (by decide +kernel) (by decide +kernel)), by decide +kernel⟩
theorem mv_X7_isSecond : MV yX7_isSecond RX7 := ⟨(fz_mem 691 (by decide +kernel) (by decide +kernel)), (fz_mem 20 (by decide +kernel) (by decide +kernel))⟩
theorem ml_X7_103 : Cond.methodLink RX7 103 yX7_isSecond ∈ lw_g := (fz_mem 689 (by decide +kernel) (by decide +kernel))
theorem my_X7_isThere : MY yX7_isThere cX7_isThere 5 (some .boolean) 2 := ⟨(fz_mem 696 (by decide +kernel) (by decide +kernel)), (fz_mem 38 (by decide +kernel) (by decide +kernel)), by decide +kernel⟩
theorem mv_X7_isThere : MV yX7_isThere RX7 := ⟨(fz_mem 695 (by decide +kernel) (by decide +kernel)), (fz_mem 21 (by decide +kernel) (by decide +kernel))⟩
theorem ml_X7_106 : Cond.methodLink RX7 106 yX7_isThere ∈ lw_g := (fz_mem 693 (by decide +kernel) (by decide +kernel))
theorem my_X7_isLone : MY yX7_isLone cX7_isLone 5 (some .boolean) 2 := ⟨(fz_mem 700 (by decide +kernel) (by decide +kernel)), (fz_mem 38 (by decide +kernel) (by decide +kernel)), by decide +kernel⟩
theorem mv_X7_isLone : MV yX7_isLone RX7 := ⟨(fz_mem 699 (by decide +kernel) (by decide +kernel)), (fz_mem 22 (by decide +kernel) (by decide +kernel))⟩
theorem ml_X7_109 : Cond.methodLink RX7 109 yX7_isLone ∈ lw_g := (fz_mem 697 (by decide +kernel) (by decide +kernel))
theorem my_X7_uses : MY yX7_uses cX7_uses 4 (some .int) 1 := ⟨(fz_mem 704 (by decide +kernel) (by decide +kernel)), (fz_mem 38 (by decide +kernel) (by decide +kernel)), by decide +kernel⟩
theorem mv_X7_uses : MV yX7_uses RX7 := ⟨(fz_mem 703 (by decide +kernel) (by decide +kernel)), (fz_mem 23 (by decide +kernel) (by decide +kernel))⟩
theorem ml_X7_112 : Cond.methodLink RX7 112 yX7_uses ∈ lw_g := (fz_mem 701 (by decide +kernel) (by decide +kernel))
theorem fl_X7_118 : FL RX7 118 7 8 := ⟨RX7, TX7, 31, rfl, by decide, (fz_mem 550 (by decide +kernel) (by decide +kernel)), inX7⟩
theorem fl_X7_40 : FL RX7 40 7 17 := ⟨RX7, TX7, 31, rfl, by decide, (fz_mem 559 (by decide +kernel) (by decide +kernel)), inX7⟩
theorem fl_X7_19 : FL RX7 19 7 10 := ⟨RX7, TX7, 31, rfl, by decide, (fz_mem 552 (by decide +kernel) (by decide +kernel)), inX7⟩
theorem fl_X7_43 : FL RX7 43 7 18 := ⟨RX7, TX7, 31, rfl, by decide, (fz_mem 560 (by decide +kernel) (by decide +kernel)), inX7⟩
theorem fl_X7_28 : FL RX7 28 7 13 := ⟨RX7, TX7, 31, rfl, by decide, (fz_mem 555 (by decide +kernel) (by decide +kernel)), inX7⟩
theorem fl_X7_46 : FL RX7 46 7 19 := ⟨RX7, TX7, 31, rfl, by decide, (fz_mem 561 (by decide +kernel) (by decide +kernel)), inX7⟩
theorem fl_X7_31 : FL RX7 31 7 14 := ⟨RX7, TX7, 31, rfl, by decide, (fz_mem 556 (by decide +kernel) (by decide +kernel)), inX7⟩
theorem fl_X7_49 : FL RX7 49 7 20 := ⟨RX7, TX7, 31, rfl, by decide, (fz_mem 562 (by decide +kernel) (by decide +kernel)), inX7⟩
theorem fl_X7_34 : FL RX7 34 7 15 := ⟨RX7, TX7, 31, rfl, by decide, (fz_mem 557 (by decide +kernel) (by decide +kernel)), inX7⟩
theorem fl_X7_52 : FL RX7 52 7 21 := ⟨RX7, TX7, 31, rfl, by decide, (fz_mem 563 (by decide +kernel) (by decide +kernel)), inX7⟩
theorem fl_X7_37 : FL RX7 37 7 16 := ⟨RX7, TX7, 31, rfl, by decide, (fz_mem 558 (by decide +kernel) (by decide +kernel)), inX7⟩
theorem fl_X7_115 : FL RX7 115 7 3 := ⟨RX7, TX7, 31, rfl, by decide, (fz_mem 545 (by decide +kernel) (by decide +kernel)), inX7⟩
theorem fp_X7_115 : FP RX7 115 7 3 .int := ⟨RX7, TX7, 31, tyX7, rfl, by decide, (fz_mem 545 (by decide +kernel) (by decide +kernel)), inX7, tyX7_ok, nmX7, rfl, by decide +kernel⟩
theorem fp_X7_121 : FP RX7 121 7 9 .int := ⟨RX7, TX7, 31, tyX7, rfl, by decide, (fz_mem 551 (by decide +kernel) (by decide +kernel)), inX7, tyX7_ok, nmX7, rfl, by decide +kernel⟩
theorem fl_X7_121 : FL RX7 121 7 9 := ⟨RX7, TX7, 31, rfl, by decide, (fz_mem 551 (by decide +kernel) (by decide +kernel)), inX7⟩
theorem fl_X7_55 : FL RX7 55 7 23 := ⟨RX7, TX7, 31, rfl, by decide, (fz_mem 565 (by decide +kernel) (by decide +kernel)), inX7⟩
theorem fl_X7_137 : FL RX7 137 7 22 := ⟨RX7, TX7, 31, rfl, by decide, (fz_mem 564 (by decide +kernel) (by decide +kernel)), inX7⟩
theorem fl_X7_58 : FL RX7 58 7 24 := ⟨RX7, TX7, 31, rfl, by decide, (fz_mem 566 (by decide +kernel) (by decide +kernel)), inX7⟩
theorem fl_X7_61 : FL RX7 61 7 25 := ⟨RX7, TX7, 31, rfl, by decide, (fz_mem 567 (by decide +kernel) (by decide +kernel)), inX7⟩
theorem fl_X7_64 : FL RX7 64 7 26 := ⟨RX7, TX7, 31, rfl, by decide, (fz_mem 568 (by decide +kernel) (by decide +kernel)), inX7⟩
theorem fp_X7_137 : FP RX7 137 7 22 .int := ⟨RX7, TX7, 31, tyX7, rfl, by decide, (fz_mem 564 (by decide +kernel) (by decide +kernel)), inX7, tyX7_ok, nmX7, rfl, by decide +kernel⟩
theorem my_X7_find : MY yX7_find cX7_find 4 (some .int) 2 := ⟨(fz_mem 639 (by decide +kernel) (by decide +kernel)), (fz_mem 38 (by decide +kernel) (by decide +kernel)), by decide +kernel⟩
theorem mv_X7_find : MV yX7_find RX7 := ⟨(fz_mem 637 (by decide +kernel) (by decide +kernel)), (fz_mem 638 (by decide +kernel) (by decide +kernel))⟩
theorem ml_X7_130 : Cond.methodLink RX7 130 yX7_find ∈ lw_g := (fz_mem 709 (by decide +kernel) (by decide +kernel))
theorem my_X7_logs : MY yX7_logs cX7_logs 5 none 3 := ⟨(fz_mem 713 (by decide +kernel) (by decide +kernel)), (fz_mem 38 (by decide +kernel) (by decide +kernel)), by decide +kernel⟩
theorem mv_X7_logs : MV yX7_logs RX7 := ⟨(fz_mem 712 (by decide +kernel) (by decide +kernel)), (fz_mem 25 (by decide +kernel) (by decide +kernel))⟩
theorem ml_X7_133 : Cond.methodLink RX7 133 yX7_logs ∈ lw_g := (fz_mem 710 (by decide +kernel) (by decide +kernel))
theorem fp_X7_118 : FP RX7 118 7 8 .int := ⟨RX7, TX7, 31, tyX7, rfl, by decide, (fz_mem 550 (by decide +kernel) (by decide +kernel)), inX7, tyX7_ok, nmX7, rfl, by decide +kernel⟩
theorem my_X7_breaks : MY yX7_breaks cX7_breaks 4 (some .int) 2 := ⟨(fz_mem 688 (by decide +kernel) (by decide +kernel)), (fz_mem 38 (by decide +kernel) (by decide +kernel)), by decide +kernel⟩
theorem mv_X7_breaks : MV yX7_breaks RX7 := ⟨(fz_mem 687 (by decide +kernel) (by decide +kernel)), (fz_mem 19 (by decide +kernel) (by decide +kernel))⟩
theorem ml_X7_124 : Cond.methodLink RX7 124 yX7_breaks ∈ lw_g := (fz_mem 685 (by decide +kernel) (by decide +kernel))
theorem fl_X7_16 : FL RX7 16 7 2 := ⟨RX7, TX7, 31, rfl, by decide, (fz_mem 544 (by decide +kernel) (by decide +kernel)), inX7⟩
theorem my_X7_had : MY yX7_had cX7_had 4 (some .int) 2 := ⟨(fz_mem 708 (by decide +kernel) (by decide +kernel)), (fz_mem 38 (by decide +kernel) (by decide +kernel)), by decide +kernel⟩
theorem mv_X7_had : MV yX7_had RX7 := ⟨(fz_mem 707 (by decide +kernel) (by decide +kernel)), (fz_mem 24 (by decide +kernel) (by decide +kernel))⟩
theorem ml_X7_127 : Cond.methodLink RX7 127 yX7_had ∈ lw_g := (fz_mem 705 (by decide +kernel) (by decide +kernel))
theorem fl_X7_22 : FL RX7 22 7 11 := ⟨RX7, TX7, 31, rfl, by decide, (fz_mem 553 (by decide +kernel) (by decide +kernel)), inX7⟩
theorem fl_X7_25 : FL RX7 25 7 12 := ⟨RX7, TX7, 31, rfl, by decide, (fz_mem 554 (by decide +kernel) (by decide +kernel)), inX7⟩
theorem my_X7_finds : MY yX7_finds cX7_finds 5 none 0 := ⟨(fz_mem 684 (by decide +kernel) (by decide +kernel)), (fz_mem 38 (by decide +kernel) (by decide +kernel)), by decide +kernel⟩
theorem mv_X7_finds : MV yX7_finds RX7 := ⟨(fz_mem 683 (by decide +kernel) (by decide +kernel)), (fz_mem 18 (by decide +kernel) (by decide +kernel))⟩
theorem ml_X7_143 : Cond.methodLink RX7 143 yX7_finds ∈ lw_g := (fz_mem 681 (by decide +kernel) (by decide +kernel))
theorem fl_X7_140 : FL RX7 140 7 7 := ⟨RX7, TX7, 31, rfl, by decide, (fz_mem 549 (by decide +kernel) (by decide +kernel)), inX7⟩
theorem fp_X7_140 : FP RX7 140 7 7 .int := ⟨RX7, TX7, 31, tyX7, rfl, by decide, (fz_mem 549 (by decide +kernel) (by decide +kernel)), inX7, tyX7_ok, nmX7, rfl, by decide +kernel⟩
theorem fl_X7_152 : FL RX7 152 7 5 := ⟨RX7, TX7, 31, rfl, by decide, (fz_mem 547 (by decide +kernel) (by decide +kernel)), inX7⟩
theorem fp_X7_152 : FP RX7 152 7 5 .int := ⟨RX7, TX7, 31, tyX7, rfl, by decide, (fz_mem 547 (by decide +kernel) (by decide +kernel)), inX7, tyX7_ok, nmX7, rfl, by decide +kernel⟩
theorem my_X7_ends : MY yX7_ends cX7_ends 4 none 2 := ⟨(fz_mem 676 (by decide +kernel) (by decide +kernel)), (fz_mem 38 (by decide +kernel) (by decide +kernel)), by decide +kernel⟩
theorem mv_X7_ends : MV yX7_ends RX7 := ⟨(fz_mem 675 (by decide +kernel) (by decide +kernel)), (fz_mem 16 (by decide +kernel) (by decide +kernel))⟩
theorem ml_X7_155 : Cond.methodLink RX7 155 yX7_ends ∈ lw_g := (fz_mem 673 (by decide +kernel) (by decide +kernel))
theorem my_X7_isByte : MY yX7_isByte cX7_isByte 1 (some .boolean) 1 := ⟨(fz_mem 656 (by decide +kernel) (by decide +kernel)), (fz_mem 38 (by decide +kernel) (by decide +kernel)), by decide +kernel⟩
theorem ms_X7_isByte : Cond.static yX7_isByte ∈ lw_g := (fz_mem 655 (by decide +kernel) (by decide +kernel))
theorem ml_X7_146 : Cond.methodLink RX7 146 yX7_isByte ∈ lw_g := (fz_mem 654 (by decide +kernel) (by decide +kernel))
theorem my_X7_begins : MY yX7_begins cX7_begins 2 none 0 := ⟨(fz_mem 660 (by decide +kernel) (by decide +kernel)), (fz_mem 38 (by decide +kernel) (by decide +kernel)), by decide +kernel⟩
theorem mv_X7_begins : MV yX7_begins RX7 := ⟨(fz_mem 659 (by decide +kernel) (by decide +kernel)), (fz_mem 12 (by decide +kernel) (by decide +kernel))⟩
theorem ml_X7_149 : Cond.methodLink RX7 149 yX7_begins ∈ lw_g := (fz_mem 657 (by decide +kernel) (by decide +kernel))
theorem my_X7_isLine : MY yX7_isLine cX7_isLine 3 (some .boolean) 2 := ⟨(fz_mem 721 (by decide +kernel) (by decide +kernel)), (fz_mem 38 (by decide +kernel) (by decide +kernel)), by decide +kernel⟩
theorem mv_X7_isLine : MV yX7_isLine RX7 := ⟨(fz_mem 720 (by decide +kernel) (by decide +kernel)), (fz_mem 26 (by decide +kernel) (by decide +kernel))⟩
theorem ml_X7_159 : Cond.methodLink RX7 159 yX7_isLine ∈ lw_g := (fz_mem 718 (by decide +kernel) (by decide +kernel))
theorem fp_X7_99 : FP RX7 99 7 6 .int := ⟨RX7, TX7, 31, tyX7, rfl, by decide, (fz_mem 548 (by decide +kernel) (by decide +kernel)), inX7, tyX7_ok, nmX7, rfl, by decide +kernel⟩
theorem fl_X7_67 : FL RX7 67 7 27 := ⟨RX7, TX7, 31, rfl, by decide, (fz_mem 569 (by decide +kernel) (by decide +kernel)), inX7⟩
theorem fl_X7_162 : FL RX7 162 7 30 := ⟨RX7, TX7, 31, rfl, by decide, (fz_mem 572 (by decide +kernel) (by decide +kernel)), inX7⟩
theorem fp_X7_162 : FP RX7 162 7 30 .int := ⟨RX7, TX7, 31, tyX7, rfl, by decide, (fz_mem 572 (by decide +kernel) (by decide +kernel)), inX7, tyX7_ok, nmX7, rfl, by decide +kernel⟩
theorem fl_X7_70 : FL RX7 70 7 28 := ⟨RX7, TX7, 31, rfl, by decide, (fz_mem 570 (by decide +kernel) (by decide +kernel)), inX7⟩
theorem ml_X7_165 : Cond.methodLink RX7 165 Lib.Math.max.name ∈ lw_g := (fz_mem 746 (by decide +kernel) (by decide +kernel))
theorem fl_X7_73 : FL RX7 73 7 29 := ⟨RX7, TX7, 31, rfl, by decide, (fz_mem 571 (by decide +kernel) (by decide +kernel)), inX7⟩
theorem my_X7_commons : MY yX7_commons cX7_commons 6 none 2 := ⟨(fz_mem 745 (by decide +kernel) (by decide +kernel)), (fz_mem 38 (by decide +kernel) (by decide +kernel)), by decide +kernel⟩
theorem mv_X7_commons : MV yX7_commons RX7 := ⟨(fz_mem 744 (by decide +kernel) (by decide +kernel)), (fz_mem 27 (by decide +kernel) (by decide +kernel))⟩
theorem ml_X7_170 : Cond.methodLink RX7 170 yX7_commons ∈ lw_g := (fz_mem 742 (by decide +kernel) (by decide +kernel))
theorem fl_X7_173 : FL RX7 173 7 4 := ⟨RX7, TX7, 31, rfl, by decide, (fz_mem 546 (by decide +kernel) (by decide +kernel)), inX7⟩
theorem fp_X7_173 : FP RX7 173 7 4 .int := ⟨RX7, TX7, 31, tyX7, rfl, by decide, (fz_mem 546 (by decide +kernel) (by decide +kernel)), inX7, tyX7_ok, nmX7, rfl, by decide +kernel⟩
theorem my_X7_isFinding : MY yX7_isFinding cX7_isFinding 2 (some .boolean) 1 := ⟨(fz_mem 758 (by decide +kernel) (by decide +kernel)), (fz_mem 38 (by decide +kernel) (by decide +kernel)), by decide +kernel⟩
theorem mv_X7_isFinding : MV yX7_isFinding RX7 := ⟨(fz_mem 757 (by decide +kernel) (by decide +kernel)), (fz_mem 28 (by decide +kernel) (by decide +kernel))⟩
theorem ml_X7_176 : Cond.methodLink RX7 176 yX7_isFinding ∈ lw_g := (fz_mem 755 (by decide +kernel) (by decide +kernel))
theorem my_X7_isSilent : MY yX7_isSilent cX7_isSilent 2 (some .boolean) 1 := ⟨(fz_mem 766 (by decide +kernel) (by decide +kernel)), (fz_mem 38 (by decide +kernel) (by decide +kernel)), by decide +kernel⟩
theorem mv_X7_isSilent : MV yX7_isSilent RX7 := ⟨(fz_mem 765 (by decide +kernel) (by decide +kernel)), (fz_mem 29 (by decide +kernel) (by decide +kernel))⟩
theorem ml_X7_179 : Cond.methodLink RX7 179 yX7_isSilent ∈ lw_g := (fz_mem 763 (by decide +kernel) (by decide +kernel))
end
section
def fX4_kindAt (w : Fw) (a0 : Nat) (x1 : Int32) : Option (Int32) := ((gR w a0 4 1).bind fun r1 => ((lI w r1 x1).bind fun v2 => some (v2 >>> ((5 : Int32) &&& 31))))
set_option maxRecDepth 100000 in
set_option maxHeartbeats 4000000 in
theorem mX4_kindAt (l : Launch) (D : va_G) (dA : Nat → ClassId) (A : Nat → Prop) {w : Fw} {a0 : Nat} {x1 : Int32} {res : Int32} (h : fX4_kindAt w a0 x1 = some res) : Met l yX4_kindAt (wz yX4_kindAt cX4_kindAt 2 (some .int)) (rz 0 0) (Pz D dA A w [.ref a0, .int x1]) (QzI D dA A res w) 0 0 A := by
  refine Met.ofW (cc := cX4_kindAt) (maxL := 2) (ret := (some .int)) (by decide) rfl ?_
  intro p e s m args below meth c s₁ B hml hv
  obtain ⟨rfl, hR, hK⟩ := hv
  have hx := B.exec
  have hb := B.bytes
  have hr := B.returns
  have hts : ∀ w ∈ lw_g, w.before [.ref a0, .int x1].toArray s = true := fun w hw => atoms_spec (ws := wz yX4_kindAt cX4_kindAt 2 (some .int)) B.pre w (List.mem_cons_of_mem _ hw)
  have hown : s.vm.findClass RX4 = some m.cls := findClass_of_methodNamed B.named
  have hlocks := B.notSynchronized
  have C : Cx p s m [.ref a0, .int x1].toArray meth c D dA RX4 cX4_kindAt 2 (some .int) := ⟨hx, hb, hr, hml, hown, hts, hK, hlocks⟩
  have hS : va_S A s.heap s.heap [] := va_S.rf
  have hl := lv_entry ([.ref a0, .int x1]) (n := 2) (Nat.le_of_ble_eq_true rfl)
  rw [lg_entry_eq]
  generalize (lg_sl ([.ref a0, .int x1]) ++ List.replicate (2 - (lg_sl ([.ref a0, .int x1])).length) Slot.unset).toArray = ls at hl ⊢
  have hl : lv_has ls 2 [(0, .ref a0), (1, .int x1)] := hl
  unfold fX4_kindAt at h
  show W p l e (rz 0 0) s m _ below meth c s.heap [] 0 0 _ _
  refine lv_aload_n hx hb dX4_kindAt_0 rfl (lv_at hl 0 rfl) ?_
  obtain ⟨r1, e, h⟩ := bd h
  refine fx_gR hx hb hts hown hK hR fl_X4_9 e dX4_kindAt_1 ?_
  refine lv_iload_n hx hb dX4_kindAt_4 rfl (lv_at hl 1 rfl) ?_
  obtain ⟨v2, e, h⟩ := bd h
  refine fx_lI hx hb hK hR e dX4_kindAt_5 ?_
  refine lv_iconst (v := 5) hx hb dX4_kindAt_6 (by decide) ?_
  refine lv_ishr hx hb dX4_kindAt_7 ?_
  exact fx_iret hx hb hr hlocks (Option.some.inj h) rfl hR hS dX4_kindAt_8
def fX4_numberAt (w : Fw) (a0 : Nat) (x1 : Int32) : Option (Int32) := ((gR w a0 4 1).bind fun r1 => ((lI w r1 x1).bind fun v2 => some (v2 &&& 31)))
set_option maxRecDepth 100000 in
set_option maxHeartbeats 4000000 in
theorem mX4_numberAt (l : Launch) (D : va_G) (dA : Nat → ClassId) (A : Nat → Prop) {w : Fw} {a0 : Nat} {x1 : Int32} {res : Int32} (h : fX4_numberAt w a0 x1 = some res) : Met l yX4_numberAt (wz yX4_numberAt cX4_numberAt 2 (some .int)) (rz 0 0) (Pz D dA A w [.ref a0, .int x1]) (QzI D dA A res w) 0 0 A := by
  refine Met.ofW (cc := cX4_numberAt) (maxL := 2) (ret := (some .int)) (by decide) rfl ?_
  intro p e s m args below meth c s₁ B hml hv
  obtain ⟨rfl, hR, hK⟩ := hv
  have hx := B.exec
  have hb := B.bytes
  have hr := B.returns
  have hts : ∀ w ∈ lw_g, w.before [.ref a0, .int x1].toArray s = true := fun w hw => atoms_spec (ws := wz yX4_numberAt cX4_numberAt 2 (some .int)) B.pre w (List.mem_cons_of_mem _ hw)
  have hown : s.vm.findClass RX4 = some m.cls := findClass_of_methodNamed B.named
  have hlocks := B.notSynchronized
  have C : Cx p s m [.ref a0, .int x1].toArray meth c D dA RX4 cX4_numberAt 2 (some .int) := ⟨hx, hb, hr, hml, hown, hts, hK, hlocks⟩
  have hS : va_S A s.heap s.heap [] := va_S.rf
  have hl := lv_entry ([.ref a0, .int x1]) (n := 2) (Nat.le_of_ble_eq_true rfl)
  rw [lg_entry_eq]
  generalize (lg_sl ([.ref a0, .int x1]) ++ List.replicate (2 - (lg_sl ([.ref a0, .int x1])).length) Slot.unset).toArray = ls at hl ⊢
  have hl : lv_has ls 2 [(0, .ref a0), (1, .int x1)] := hl
  unfold fX4_numberAt at h
  show W p l e (rz 0 0) s m _ below meth c s.heap [] 0 0 _ _
  refine lv_aload_n hx hb dX4_numberAt_0 rfl (lv_at hl 0 rfl) ?_
  obtain ⟨r1, e, h⟩ := bd h
  refine fx_gR hx hb hts hown hK hR fl_X4_9 e dX4_numberAt_1 ?_
  refine lv_iload_n hx hb dX4_numberAt_4 rfl (lv_at hl 1 rfl) ?_
  obtain ⟨v2, e, h⟩ := bd h
  refine fx_lI hx hb hK hR e dX4_numberAt_5 ?_
  refine lv_bipush (v := 31) hx hb dX4_numberAt_6 (by decide) ?_
  refine lv_iand hx hb dX4_numberAt_8 ?_
  exact fx_iret hx hb hr hlocks (Option.some.inj h) rfl hR hS dX4_numberAt_9
def fX4_numbersOf_b31 (w : Fw) (K4 : Nat → Int32 → Int32 → Int32 → Option (Int32)) (a0 : Nat) (x1 : Int32) (x2 : Int32) (x3 : Int32) : Option (Int32) := (K4 a0 x1 x2 (x3 + 1))
set_option maxRecDepth 100000 in
set_option maxHeartbeats 4000000 in
theorem qX4_numbersOf_b31 {p : Program} {l : Launch} {e : Env} {s : State} {m : MethodId} {args : Array Value} {below : List Frame} {meth : Method} {c : Code} {D : va_G} {dA : Nat → ClassId} {A : Nat → Prop} (C : Cx p s m args meth c D dA RX4 cX4_numbersOf 4 (some .int)) {w : Fw} {res : Int32} {K4 : Nat → Int32 → Int32 → Int32 → Option (Int32)} (hK4 : ∀ {H : Heap} {locs : List Loc} {ls : Array Slot} {a0 : Nat} {x1 : Int32} {x2 : Int32} {x3 : Int32}, Rp D dA A w H → va_S A s.heap H locs → lv_has ls 4 [(0, .ref a0), (1, .int x1), (2, .int x2), (3, .int x3)] → K4 a0 x1 x2 x3 = some res → W p l e (rz 1 21) s m args below meth c H locs 0 0 (MQ below (QzI D dA A res w) args s 0 0 A) (F0 m 4 ls [])) {H : Heap} {locs : List Loc} {ls : Array Slot} {a0 : Nat} {x1 : Int32} {x2 : Int32} {x3 : Int32} (hR : Rp D dA A w H) (hS : va_S A s.heap H locs) (hl : lv_has ls 4 [(0, .ref a0), (1, .int x1), (2, .int x2), (3, .int x3)]) (h : fX4_numbersOf_b31 w K4 a0 x1 x2 x3 = some res) : W p l e (rz 1 21) s m args below meth c H locs 0 0 (MQ below (QzI D dA A res w) args s 0 0 A) (F0 m 31 ls []) := by
  obtain ⟨hx, hb, hr, hml, hown, hts, hK, hlocks⟩ := id C
  unfold fX4_numbersOf_b31 at h
  refine lv_iinc (v := (x3 + 1)) (lv' := [(3, .int (x3 + 1)), (0, .ref a0), (1, .int x1), (2, .int x2)]) hx hb dX4_numbersOf_31 hl (k := 3) rfl rfl (by decide) rfl (fun ls hl => ?_)
  refine lv_goto (tgt := 4) hx hb dX4_numbersOf_34 (by decide) ?_
  exact hK4 hR hS (lv_sub hl [1, 2, 3, 0] rfl) h
def fX4_numbersOf_L4 (w : Fw)  : Nat → Nat → Int32 → Int32 → Int32 → Option (Int32)
  | 0, _, _, _, _ => none
  | n + 1, a0, x1, x2, x3 => ((gI w a0 4 0).bind fun v1 => (if v1 ≤ x3 then some x2 else ((isO w a0 4).bind fun _ => ((fX4_kindAt w a0 x3).bind fun v2 => (if v2 = x1 then ((isO w a0 4).bind fun _ => ((fX4_numberAt w a0 x3).bind fun v3 => (fX4_numbersOf_b31 w (fX4_numbersOf_L4 w n) a0 x1 (x2 ||| ((1 : Int32) <<< (v3 &&& 31))) x3))) else (fX4_numbersOf_b31 w (fX4_numbersOf_L4 w n) a0 x1 x2 x3))))))
set_option maxRecDepth 100000 in
set_option maxHeartbeats 4000000 in
theorem qX4_numbersOf_L4 {p : Program} {l : Launch} {e : Env} {s : State} {m : MethodId} {args : Array Value} {below : List Frame} {meth : Method} {c : Code} {D : va_G} {dA : Nat → ClassId} {A : Nat → Prop} (C : Cx p s m args meth c D dA RX4 cX4_numbersOf 4 (some .int)) {w : Fw} {res : Int32}   : ∀ (n : Nat) {H : Heap} {locs : List Loc} {ls : Array Slot} {a0 : Nat} {x1 : Int32} {x2 : Int32} {x3 : Int32}, Rp D dA A w H → va_S A s.heap H locs → lv_has ls 4 [(0, .ref a0), (1, .int x1), (2, .int x2), (3, .int x3)] → fX4_numbersOf_L4 w n a0 x1 x2 x3 = some res → W p l e (rz 1 21) s m args below meth c H locs 0 0 (MQ below (QzI D dA A res w) args s 0 0 A) (F0 m 4 ls []) := by
  obtain ⟨hx, hb, hr, hml, hown, hts, hK, hlocks⟩ := id C
  intro n
  induction n with
  | zero =>
    intro H locs ls a0 x1 x2 x3 hR hS hl h
    rw [fX4_numbersOf_L4.eq_1] at h
    cases h
  | succ n ih =>
    intro H locs ls a0 x1 x2 x3 hR hS hl h
    rw [fX4_numbersOf_L4.eq_2] at h
    refine lv_iload_n hx hb dX4_numbersOf_4 rfl (lv_at hl 3 rfl) ?_
    refine lv_aload_n hx hb dX4_numbersOf_5 rfl (lv_at hl 0 rfl) ?_
    obtain ⟨v1, e, h⟩ := bd h
    refine fx_gI hx hb hts hown hK hR fl_X4_28 e dX4_numbersOf_6 ?_
    refine lv_icmp_ge (tgt := 37) hx hb dX4_numbersOf_9 (by decide) (fun c => ?_) (fun c => ?_)
    · have h := it c h
      refine lv_iload_n hx hb dX4_numbersOf_37 rfl (lv_at hl 2 rfl) ?_
      exact fx_iret hx hb hr hlocks (Option.some.inj h) rfl hR hS dX4_numbersOf_38
    · have h := ie c h
      refine lv_aload_n hx hb dX4_numbersOf_12 rfl (lv_at hl 0 rfl) ?_
      refine lv_iload_n hx hb dX4_numbersOf_13 rfl (lv_at hl 3 rfl) ?_
      obtain ⟨_, eO, h⟩ := bd h
      obtain ⟨v2, e, h⟩ := bd h
      refine fx_vI (As := [.int x3]) (rest := []) hx hb hml hts hown hK hR hS eO (mX4_kindAt l D dA A e) my_X4_kindAt mv_X4_kindAt rfl ml_X4_47 rfl hl.1 rfl (Nat.le_of_ble_eq_true rfl) dX4_numbersOf_14 ⟨Nat.le_of_ble_eq_true rfl, Nat.le_of_ble_eq_true rfl⟩ ⟨Nat.le_refl _, Nat.le_refl _⟩ (fun H locs hR hS => ?_)
      refine lv_iload_n hx hb dX4_numbersOf_17 rfl (lv_at hl 1 rfl) ?_
      refine lv_icmp_ne (tgt := 31) hx hb dX4_numbersOf_18 (by decide) (fun c => ?_) (fun c => ?_)
      · have h := ie c h
        exact qX4_numbersOf_b31 C (K4 := fX4_numbersOf_L4 w n) (hK4 := @ih) hR hS (lv_sub hl [0, 1, 2, 3] rfl) h
      · have h := it c h
        refine lv_iload_n hx hb dX4_numbersOf_21 rfl (lv_at hl 2 rfl) ?_
        refine lv_iconst (v := 1) hx hb dX4_numbersOf_22 (by decide) ?_
        refine lv_aload_n hx hb dX4_numbersOf_23 rfl (lv_at hl 0 rfl) ?_
        refine lv_iload_n hx hb dX4_numbersOf_24 rfl (lv_at hl 3 rfl) ?_
        obtain ⟨_, eO, h⟩ := bd h
        obtain ⟨v3, e, h⟩ := bd h
        refine fx_vI (As := [.int x3]) (rest := [.int 1, .int x2]) hx hb hml hts hown hK hR hS eO (mX4_numberAt l D dA A e) my_X4_numberAt mv_X4_numberAt rfl ml_X4_50 rfl hl.1 rfl (Nat.le_of_ble_eq_true rfl) dX4_numbersOf_25 ⟨Nat.le_of_ble_eq_true rfl, Nat.le_of_ble_eq_true rfl⟩ ⟨Nat.le_refl _, Nat.le_refl _⟩ (fun H locs hR hS => ?_)
        refine lv_ishl hx hb dX4_numbersOf_28 ?_
        refine lv_ior hx hb dX4_numbersOf_29 ?_
        refine lv_istore_n (lv' := [(2, .int (x2 ||| ((1 : Int32) <<< (v3 &&& 31)))), (0, .ref a0), (1, .int x1), (3, .int x3)]) hx hb dX4_numbersOf_30 rfl hl (by decide) rfl (fun ls hl => ?_)
        exact qX4_numbersOf_b31 C (K4 := fX4_numbersOf_L4 w n) (hK4 := @ih) hR hS (lv_sub hl [1, 2, 0, 3] rfl) h
def fX4_numbersOf (w : Fw) (a0 : Nat) (x1 : Int32) : Option (Int32) := (fX4_numbersOf_L4 w 1000 a0 x1 0 0)
set_option maxRecDepth 100000 in
set_option maxHeartbeats 4000000 in
theorem mX4_numbersOf (l : Launch) (D : va_G) (dA : Nat → ClassId) (A : Nat → Prop) {w : Fw} {a0 : Nat} {x1 : Int32} {res : Int32} (h : fX4_numbersOf w a0 x1 = some res) : Met l yX4_numbersOf (wz yX4_numbersOf cX4_numbersOf 4 (some .int)) (rz 1 21) (Pz D dA A w [.ref a0, .int x1]) (QzI D dA A res w) 0 0 A := by
  refine Met.ofW (cc := cX4_numbersOf) (maxL := 4) (ret := (some .int)) (by decide) rfl ?_
  intro p e s m args below meth c s₁ B hml hv
  obtain ⟨rfl, hR, hK⟩ := hv
  have hx := B.exec
  have hb := B.bytes
  have hr := B.returns
  have hts : ∀ w ∈ lw_g, w.before [.ref a0, .int x1].toArray s = true := fun w hw => atoms_spec (ws := wz yX4_numbersOf cX4_numbersOf 4 (some .int)) B.pre w (List.mem_cons_of_mem _ hw)
  have hown : s.vm.findClass RX4 = some m.cls := findClass_of_methodNamed B.named
  have hlocks := B.notSynchronized
  have C : Cx p s m [.ref a0, .int x1].toArray meth c D dA RX4 cX4_numbersOf 4 (some .int) := ⟨hx, hb, hr, hml, hown, hts, hK, hlocks⟩
  have hS : va_S A s.heap s.heap [] := va_S.rf
  have hl := lv_entry ([.ref a0, .int x1]) (n := 4) (Nat.le_of_ble_eq_true rfl)
  rw [lg_entry_eq]
  generalize (lg_sl ([.ref a0, .int x1]) ++ List.replicate (4 - (lg_sl ([.ref a0, .int x1])).length) Slot.unset).toArray = ls at hl ⊢
  have hl : lv_has ls 4 [(0, .ref a0), (1, .int x1)] := hl
  unfold fX4_numbersOf at h
  show W p l e (rz 1 21) s m _ below meth c s.heap [] 0 0 _ _
  refine lv_iconst (v := 0) hx hb dX4_numbersOf_0 (by decide) ?_
  refine lv_istore_n (lv' := [(2, .int 0), (0, .ref a0), (1, .int x1)]) hx hb dX4_numbersOf_1 rfl hl (by decide) rfl (fun ls hl => ?_)
  refine lv_iconst (v := 0) hx hb dX4_numbersOf_2 (by decide) ?_
  refine lv_istore_n (lv' := [(3, .int 0), (2, .int 0), (0, .ref a0), (1, .int x1)]) hx hb dX4_numbersOf_3 rfl hl (by decide) rfl (fun ls hl => ?_)
  exact qX4_numbersOf_L4 C   1000 hR hS (lv_sub hl [2, 3, 1, 0] rfl) h
def fX4_importedFiles_b34 (w : Fw) (K4 : Nat → Int32 → Int32 → Option (Int32)) (a0 : Nat) (x1 : Int32) (x2 : Int32) : Option (Int32) := (K4 a0 x1 (x2 + 1))
set_option maxRecDepth 100000 in
set_option maxHeartbeats 4000000 in
theorem qX4_importedFiles_b34 {p : Program} {l : Launch} {e : Env} {s : State} {m : MethodId} {args : Array Value} {below : List Frame} {meth : Method} {c : Code} {D : va_G} {dA : Nat → ClassId} {A : Nat → Prop} (C : Cx p s m args meth c D dA RX4 cX4_importedFiles 3 (some .int)) {w : Fw} {res : Int32} {K4 : Nat → Int32 → Int32 → Option (Int32)} (hK4 : ∀ {H : Heap} {locs : List Loc} {ls : Array Slot} {a0 : Nat} {x1 : Int32} {x2 : Int32}, Rp D dA A w H → va_S A s.heap H locs → lv_has ls 3 [(0, .ref a0), (1, .int x1), (2, .int x2)] → K4 a0 x1 x2 = some res → W p l e (rz 1 21) s m args below meth c H locs 0 0 (MQ below (QzI D dA A res w) args s 0 0 A) (F0 m 4 ls [])) {H : Heap} {locs : List Loc} {ls : Array Slot} {a0 : Nat} {x1 : Int32} {x2 : Int32} (hR : Rp D dA A w H) (hS : va_S A s.heap H locs) (hl : lv_has ls 3 [(0, .ref a0), (1, .int x1), (2, .int x2)]) (h : fX4_importedFiles_b34 w K4 a0 x1 x2 = some res) : W p l e (rz 1 21) s m args below meth c H locs 0 0 (MQ below (QzI D dA A res w) args s 0 0 A) (F0 m 34 ls []) := by
  obtain ⟨hx, hb, hr, hml, hown, hts, hK, hlocks⟩ := id C
  unfold fX4_importedFiles_b34 at h
  refine lv_iinc (v := (x2 + 1)) (lv' := [(2, .int (x2 + 1)), (0, .ref a0), (1, .int x1)]) hx hb dX4_importedFiles_34 hl (k := 2) rfl rfl (by decide) rfl (fun ls hl => ?_)
  refine lv_goto (tgt := 4) hx hb dX4_importedFiles_37 (by decide) ?_
  exact hK4 hR hS (lv_sub hl [1, 2, 0] rfl) h
def fX4_importedFiles_L4 (w : Fw)  : Nat → Nat → Int32 → Int32 → Option (Int32)
  | 0, _, _, _ => none
  | n + 1, a0, x1, x2 => ((gI w a0 4 0).bind fun v1 => (if v1 ≤ x2 then some x1 else ((isO w a0 4).bind fun _ => ((fX4_kindAt w a0 x2).bind fun v2 => (if v2 = 5 then ((isO w a0 4).bind fun _ => ((fX4_numberAt w a0 x2).bind fun v3 => (fX4_importedFiles_b34 w (fX4_importedFiles_L4 w n) a0 (x1 ||| ((1 : Int32) <<< ((v3 - v3 / 6 * 6) &&& 31))) x2))) else (fX4_importedFiles_b34 w (fX4_importedFiles_L4 w n) a0 x1 x2))))))
set_option maxRecDepth 100000 in
set_option maxHeartbeats 4000000 in
theorem qX4_importedFiles_L4 {p : Program} {l : Launch} {e : Env} {s : State} {m : MethodId} {args : Array Value} {below : List Frame} {meth : Method} {c : Code} {D : va_G} {dA : Nat → ClassId} {A : Nat → Prop} (C : Cx p s m args meth c D dA RX4 cX4_importedFiles 3 (some .int)) {w : Fw} {res : Int32}   : ∀ (n : Nat) {H : Heap} {locs : List Loc} {ls : Array Slot} {a0 : Nat} {x1 : Int32} {x2 : Int32}, Rp D dA A w H → va_S A s.heap H locs → lv_has ls 3 [(0, .ref a0), (1, .int x1), (2, .int x2)] → fX4_importedFiles_L4 w n a0 x1 x2 = some res → W p l e (rz 1 21) s m args below meth c H locs 0 0 (MQ below (QzI D dA A res w) args s 0 0 A) (F0 m 4 ls []) := by
  obtain ⟨hx, hb, hr, hml, hown, hts, hK, hlocks⟩ := id C
  intro n
  induction n with
  | zero =>
    intro H locs ls a0 x1 x2 hR hS hl h
    rw [fX4_importedFiles_L4.eq_1] at h
    cases h
  | succ n ih =>
    intro H locs ls a0 x1 x2 hR hS hl h
    rw [fX4_importedFiles_L4.eq_2] at h
    refine lv_iload_n hx hb dX4_importedFiles_4 rfl (lv_at hl 2 rfl) ?_
    refine lv_aload_n hx hb dX4_importedFiles_5 rfl (lv_at hl 0 rfl) ?_
    obtain ⟨v1, e, h⟩ := bd h
    refine fx_gI hx hb hts hown hK hR fl_X4_28 e dX4_importedFiles_6 ?_
    refine lv_icmp_ge (tgt := 40) hx hb dX4_importedFiles_9 (by decide) (fun c => ?_) (fun c => ?_)
    · have h := it c h
      refine lv_iload_n hx hb dX4_importedFiles_40 rfl (lv_at hl 1 rfl) ?_
      exact fx_iret hx hb hr hlocks (Option.some.inj h) rfl hR hS dX4_importedFiles_41
    · have h := ie c h
      refine lv_aload_n hx hb dX4_importedFiles_12 rfl (lv_at hl 0 rfl) ?_
      refine lv_iload_n hx hb dX4_importedFiles_13 rfl (lv_at hl 2 rfl) ?_
      obtain ⟨_, eO, h⟩ := bd h
      obtain ⟨v2, e, h⟩ := bd h
      refine fx_vI (As := [.int x2]) (rest := []) hx hb hml hts hown hK hR hS eO (mX4_kindAt l D dA A e) my_X4_kindAt mv_X4_kindAt rfl ml_X4_47 rfl hl.1 rfl (Nat.le_of_ble_eq_true rfl) dX4_importedFiles_14 ⟨Nat.le_of_ble_eq_true rfl, Nat.le_of_ble_eq_true rfl⟩ ⟨Nat.le_refl _, Nat.le_refl _⟩ (fun H locs hR hS => ?_)
      refine lv_iconst (v := 5) hx hb dX4_importedFiles_17 (by decide) ?_
      refine lv_icmp_ne (tgt := 34) hx hb dX4_importedFiles_18 (by decide) (fun c => ?_) (fun c => ?_)
      · have h := ie c h
        exact qX4_importedFiles_b34 C (K4 := fX4_importedFiles_L4 w n) (hK4 := @ih) hR hS (lv_sub hl [0, 1, 2] rfl) h
      · have h := it c h
        refine lv_iload_n hx hb dX4_importedFiles_21 rfl (lv_at hl 1 rfl) ?_
        refine lv_iconst (v := 1) hx hb dX4_importedFiles_22 (by decide) ?_
        refine lv_aload_n hx hb dX4_importedFiles_23 rfl (lv_at hl 0 rfl) ?_
        refine lv_iload_n hx hb dX4_importedFiles_24 rfl (lv_at hl 2 rfl) ?_
        obtain ⟨_, eO, h⟩ := bd h
        obtain ⟨v3, e, h⟩ := bd h
        refine fx_vI (As := [.int x2]) (rest := [.int 1, .int x1]) hx hb hml hts hown hK hR hS eO (mX4_numberAt l D dA A e) my_X4_numberAt mv_X4_numberAt rfl ml_X4_50 rfl hl.1 rfl (Nat.le_of_ble_eq_true rfl) dX4_importedFiles_25 ⟨Nat.le_of_ble_eq_true rfl, Nat.le_of_ble_eq_true rfl⟩ ⟨Nat.le_refl _, Nat.le_refl _⟩ (fun H locs hR hS => ?_)
        refine lv_bipush (v := 6) hx hb dX4_importedFiles_28 (by decide) ?_
        refine lv_irem hx hb dX4_importedFiles_30 (by decide) ?_
        refine lv_ishl hx hb dX4_importedFiles_31 ?_
        refine lv_ior hx hb dX4_importedFiles_32 ?_
        refine lv_istore_n (lv' := [(1, .int (x1 ||| ((1 : Int32) <<< ((v3 - v3 / 6 * 6) &&& 31)))), (0, .ref a0), (2, .int x2)]) hx hb dX4_importedFiles_33 rfl hl (by decide) rfl (fun ls hl => ?_)
        exact qX4_importedFiles_b34 C (K4 := fX4_importedFiles_L4 w n) (hK4 := @ih) hR hS (lv_sub hl [1, 0, 2] rfl) h
def fX4_importedFiles (w : Fw) (a0 : Nat) : Option (Int32) := (fX4_importedFiles_L4 w 1000 a0 0 0)
set_option maxRecDepth 100000 in
set_option maxHeartbeats 4000000 in
theorem mX4_importedFiles (l : Launch) (D : va_G) (dA : Nat → ClassId) (A : Nat → Prop) {w : Fw} {a0 : Nat} {res : Int32} (h : fX4_importedFiles w a0 = some res) : Met l yX4_importedFiles (wz yX4_importedFiles cX4_importedFiles 3 (some .int)) (rz 1 21) (Pz D dA A w [.ref a0]) (QzI D dA A res w) 0 0 A := by
  refine Met.ofW (cc := cX4_importedFiles) (maxL := 3) (ret := (some .int)) (by decide) rfl ?_
  intro p e s m args below meth c s₁ B hml hv
  obtain ⟨rfl, hR, hK⟩ := hv
  have hx := B.exec
  have hb := B.bytes
  have hr := B.returns
  have hts : ∀ w ∈ lw_g, w.before [.ref a0].toArray s = true := fun w hw => atoms_spec (ws := wz yX4_importedFiles cX4_importedFiles 3 (some .int)) B.pre w (List.mem_cons_of_mem _ hw)
  have hown : s.vm.findClass RX4 = some m.cls := findClass_of_methodNamed B.named
  have hlocks := B.notSynchronized
  have C : Cx p s m [.ref a0].toArray meth c D dA RX4 cX4_importedFiles 3 (some .int) := ⟨hx, hb, hr, hml, hown, hts, hK, hlocks⟩
  have hS : va_S A s.heap s.heap [] := va_S.rf
  have hl := lv_entry ([.ref a0]) (n := 3) (Nat.le_of_ble_eq_true rfl)
  rw [lg_entry_eq]
  generalize (lg_sl ([.ref a0]) ++ List.replicate (3 - (lg_sl ([.ref a0])).length) Slot.unset).toArray = ls at hl ⊢
  have hl : lv_has ls 3 [(0, .ref a0)] := hl
  unfold fX4_importedFiles at h
  show W p l e (rz 1 21) s m _ below meth c s.heap [] 0 0 _ _
  refine lv_iconst (v := 0) hx hb dX4_importedFiles_0 (by decide) ?_
  refine lv_istore_n (lv' := [(1, .int 0), (0, .ref a0)]) hx hb dX4_importedFiles_1 rfl hl (by decide) rfl (fun ls hl => ?_)
  refine lv_iconst (v := 0) hx hb dX4_importedFiles_2 (by decide) ?_
  refine lv_istore_n (lv' := [(2, .int 0), (1, .int 0), (0, .ref a0)]) hx hb dX4_importedFiles_3 rfl hl (by decide) rfl (fun ls hl => ?_)
  exact qX4_importedFiles_L4 C   1000 hR hS (lv_sub hl [2, 1, 0] rfl) h
def fX6_has_b14 (w : Fw)  (s0 : Int32) : Option (Int32) := zb s0
set_option maxRecDepth 100000 in
set_option maxHeartbeats 4000000 in
theorem qX6_has_b14 {p : Program} {l : Launch} {e : Env} {s : State} {m : MethodId} {args : Array Value} {below : List Frame} {meth : Method} {c : Code} {D : va_G} {dA : Nat → ClassId} {A : Nat → Prop} (C : Cx p s m args meth c D dA RX6 cX6_has 2 (some .boolean)) {w : Fw} {res : Int32}   {H : Heap} {locs : List Loc} {ls : Array Slot} {s0 : Int32} (hR : Rp D dA A w H) (hS : va_S A s.heap H locs) (hl : lv_has ls 2 []) (h : fX6_has_b14 w s0 = some res) : W p l e (rz 0 0) s m args below meth c H locs 0 0 (MQ below (QzI D dA A res w) args s 0 0 A) (F0 m 14 ls [.int s0]) := by
  obtain ⟨hx, hb, hr, hml, hown, hts, hK, hlocks⟩ := id C
  unfold fX6_has_b14 at h
  exact fx_zret hx hb hr hlocks h rfl hR hS dX6_has_14
def fX6_has (w : Fw) (x0 : Int32) (x1 : Int32) : Option (Int32) := if (((Int32.toUInt32 x0 >>> (Int32.toUInt32 x1 &&& Int32.toUInt32 31)).toInt32) &&& 1) = 1 then (fX6_has_b14 w 1) else (fX6_has_b14 w 0)
set_option maxRecDepth 100000 in
set_option maxHeartbeats 4000000 in
theorem mX6_has (l : Launch) (D : va_G) (dA : Nat → ClassId) (A : Nat → Prop) {w : Fw} {x0 : Int32} {x1 : Int32} {res : Int32} (h : fX6_has w x0 x1 = some res) : Met l yX6_has (wz yX6_has cX6_has 2 (some .boolean)) (rz 0 0) (Pz D dA A w [.int x0, .int x1]) (QzI D dA A res w) 0 0 A := by
  refine Met.ofW (cc := cX6_has) (maxL := 2) (ret := (some .boolean)) (by decide) rfl ?_
  intro p e s m args below meth c s₁ B hml hv
  obtain ⟨rfl, hR, hK⟩ := hv
  have hx := B.exec
  have hb := B.bytes
  have hr := B.returns
  have hts : ∀ w ∈ lw_g, w.before [.int x0, .int x1].toArray s = true := fun w hw => atoms_spec (ws := wz yX6_has cX6_has 2 (some .boolean)) B.pre w (List.mem_cons_of_mem _ hw)
  have hown : s.vm.findClass RX6 = some m.cls := findClass_of_methodNamed B.named
  have hlocks := B.notSynchronized
  have C : Cx p s m [.int x0, .int x1].toArray meth c D dA RX6 cX6_has 2 (some .boolean) := ⟨hx, hb, hr, hml, hown, hts, hK, hlocks⟩
  have hS : va_S A s.heap s.heap [] := va_S.rf
  have hl := lv_entry ([.int x0, .int x1]) (n := 2) (Nat.le_of_ble_eq_true rfl)
  rw [lg_entry_eq]
  generalize (lg_sl ([.int x0, .int x1]) ++ List.replicate (2 - (lg_sl ([.int x0, .int x1])).length) Slot.unset).toArray = ls at hl ⊢
  have hl : lv_has ls 2 [(0, .int x0), (1, .int x1)] := hl
  unfold fX6_has at h
  show W p l e (rz 0 0) s m _ below meth c s.heap [] 0 0 _ _
  refine lv_iload_n hx hb dX6_has_0 rfl (lv_at hl 0 rfl) ?_
  refine lv_iload_n hx hb dX6_has_1 rfl (lv_at hl 1 rfl) ?_
  refine lv_iushr (v := (Int32.toUInt32 x0 >>> (Int32.toUInt32 x1 &&& Int32.toUInt32 31)).toInt32) hx hb dX6_has_2 rfl ?_
  refine lv_iconst (v := 1) hx hb dX6_has_3 (by decide) ?_
  refine lv_iand hx hb dX6_has_4 ?_
  refine lv_iconst (v := 1) hx hb dX6_has_5 (by decide) ?_
  refine lv_icmp_ne (tgt := 13) hx hb dX6_has_6 (by decide) (fun c => ?_) (fun c => ?_)
  · have h := ie c h
    refine lv_iconst (v := 0) hx hb dX6_has_13 (by decide) ?_
    exact qX6_has_b14 C   hR hS (lv_sub hl [] rfl) h
  · have h := it c h
    refine lv_iconst (v := 1) hx hb dX6_has_9 (by decide) ?_
    refine lv_goto (tgt := 14) hx hb dX6_has_10 (by decide) ?_
    exact qX6_has_b14 C   hR hS (lv_sub hl [] rfl) h
def fX4_size (w : Fw) (a0 : Nat) : Option (Int32) := ((gI w a0 4 0).bind fun v1 => some v1)
set_option maxRecDepth 100000 in
set_option maxHeartbeats 4000000 in
theorem mX4_size (l : Launch) (D : va_G) (dA : Nat → ClassId) (A : Nat → Prop) {w : Fw} {a0 : Nat} {res : Int32} (h : fX4_size w a0 = some res) : Met l yX4_size (wz yX4_size cX4_size 1 (some .int)) (rz 0 0) (Pz D dA A w [.ref a0]) (QzI D dA A res w) 0 0 A := by
  refine Met.ofW (cc := cX4_size) (maxL := 1) (ret := (some .int)) (by decide) rfl ?_
  intro p e s m args below meth c s₁ B hml hv
  obtain ⟨rfl, hR, hK⟩ := hv
  have hx := B.exec
  have hb := B.bytes
  have hr := B.returns
  have hts : ∀ w ∈ lw_g, w.before [.ref a0].toArray s = true := fun w hw => atoms_spec (ws := wz yX4_size cX4_size 1 (some .int)) B.pre w (List.mem_cons_of_mem _ hw)
  have hown : s.vm.findClass RX4 = some m.cls := findClass_of_methodNamed B.named
  have hlocks := B.notSynchronized
  have C : Cx p s m [.ref a0].toArray meth c D dA RX4 cX4_size 1 (some .int) := ⟨hx, hb, hr, hml, hown, hts, hK, hlocks⟩
  have hS : va_S A s.heap s.heap [] := va_S.rf
  have hl := lv_entry ([.ref a0]) (n := 1) (Nat.le_of_ble_eq_true rfl)
  rw [lg_entry_eq]
  generalize (lg_sl ([.ref a0]) ++ List.replicate (1 - (lg_sl ([.ref a0])).length) Slot.unset).toArray = ls at hl ⊢
  have hl : lv_has ls 1 [(0, .ref a0)] := hl
  unfold fX4_size at h
  show W p l e (rz 0 0) s m _ below meth c s.heap [] 0 0 _ _
  refine lv_aload_n hx hb dX4_size_0 rfl (lv_at hl 0 rfl) ?_
  obtain ⟨v1, e, h⟩ := bd h
  refine fx_gI hx hb hts hown hK hR fl_X4_28 e dX4_size_1 ?_
  exact fx_iret hx hb hr hlocks (Option.some.inj h) rfl hR hS dX4_size_4
def fX0_linesWith_b44 (w : Fw) (K5 : Nat → Int32 → Int32 → Int32 → Int32 → Option (Int32)) (a0 : Nat) (x1 : Int32) (x2 : Int32) (x3 : Int32) (x4 : Int32) : Option (Int32) := (K5 a0 x1 x2 x3 (x4 + 1))
set_option maxRecDepth 100000 in
set_option maxHeartbeats 4000000 in
theorem qX0_linesWith_b44 {p : Program} {l : Launch} {e : Env} {s : State} {m : MethodId} {args : Array Value} {below : List Frame} {meth : Method} {c : Code} {D : va_G} {dA : Nat → ClassId} {A : Nat → Prop} (C : Cx p s m args meth c D dA RX0 cX0_linesWith 5 (some .int)) {w : Fw} {res : Int32} {K5 : Nat → Int32 → Int32 → Int32 → Int32 → Option (Int32)} (hK5 : ∀ {H : Heap} {locs : List Loc} {ls : Array Slot} {a0 : Nat} {x1 : Int32} {x2 : Int32} {x3 : Int32} {x4 : Int32}, Rp D dA A w H → va_S A s.heap H locs → lv_has ls 5 [(0, .ref a0), (1, .int x1), (2, .int x2), (3, .int x3), (4, .int x4)] → K5 a0 x1 x2 x3 x4 = some res → W p l e (rz 1 21) s m args below meth c H locs 0 0 (MQ below (QzI D dA A res w) args s 0 0 A) (F0 m 5 ls [])) {H : Heap} {locs : List Loc} {ls : Array Slot} {a0 : Nat} {x1 : Int32} {x2 : Int32} {x3 : Int32} {x4 : Int32} (hR : Rp D dA A w H) (hS : va_S A s.heap H locs) (hl : lv_has ls 5 [(0, .ref a0), (1, .int x1), (2, .int x2), (3, .int x3), (4, .int x4)]) (h : fX0_linesWith_b44 w K5 a0 x1 x2 x3 x4 = some res) : W p l e (rz 1 21) s m args below meth c H locs 0 0 (MQ below (QzI D dA A res w) args s 0 0 A) (F0 m 44 ls []) := by
  obtain ⟨hx, hb, hr, hml, hown, hts, hK, hlocks⟩ := id C
  unfold fX0_linesWith_b44 at h
  refine lv_iinc (v := (x4 + 1)) (lv' := [(4, .int (x4 + 1)), (0, .ref a0), (1, .int x1), (2, .int x2), (3, .int x3)]) hx hb dX0_linesWith_44 hl (k := 4) rfl rfl (by decide) rfl (fun ls hl => ?_)
  refine lv_goto (tgt := 5) hx hb dX0_linesWith_47 (by decide) ?_
  exact hK5 hR hS (lv_sub hl [1, 2, 3, 4, 0] rfl) h
def fX0_linesWith_L5 (w : Fw)  : Nat → Nat → Int32 → Int32 → Int32 → Int32 → Option (Int32)
  | 0, _, _, _, _, _ => none
  | n + 1, a0, x1, x2, x3, x4 => ((isO w a0 4).bind fun _ => ((fX4_size w a0).bind fun v1 => (if v1 ≤ x4 then some x3 else ((isO w a0 4).bind fun _ => ((fX4_kindAt w a0 x4).bind fun v2 => (if v2 = x1 then ((isO w a0 4).bind fun _ => ((fX4_numberAt w a0 x4).bind fun v3 => ((fX6_has w x2 v3).bind fun v4 => (if v4 = 0 then (fX0_linesWith_b44 w (fX0_linesWith_L5 w n) a0 x1 x2 x3 x4) else (fX0_linesWith_b44 w (fX0_linesWith_L5 w n) a0 x1 x2 (x3 ||| ((1 : Int32) <<< (x4 &&& 31))) x4))))) else (fX0_linesWith_b44 w (fX0_linesWith_L5 w n) a0 x1 x2 x3 x4)))))))
set_option maxRecDepth 100000 in
set_option maxHeartbeats 4000000 in
theorem qX0_linesWith_L5 {p : Program} {l : Launch} {e : Env} {s : State} {m : MethodId} {args : Array Value} {below : List Frame} {meth : Method} {c : Code} {D : va_G} {dA : Nat → ClassId} {A : Nat → Prop} (C : Cx p s m args meth c D dA RX0 cX0_linesWith 5 (some .int)) {w : Fw} {res : Int32}   : ∀ (n : Nat) {H : Heap} {locs : List Loc} {ls : Array Slot} {a0 : Nat} {x1 : Int32} {x2 : Int32} {x3 : Int32} {x4 : Int32}, Rp D dA A w H → va_S A s.heap H locs → lv_has ls 5 [(0, .ref a0), (1, .int x1), (2, .int x2), (3, .int x3), (4, .int x4)] → fX0_linesWith_L5 w n a0 x1 x2 x3 x4 = some res → W p l e (rz 1 21) s m args below meth c H locs 0 0 (MQ below (QzI D dA A res w) args s 0 0 A) (F0 m 5 ls []) := by
  obtain ⟨hx, hb, hr, hml, hown, hts, hK, hlocks⟩ := id C
  intro n
  induction n with
  | zero =>
    intro H locs ls a0 x1 x2 x3 x4 hR hS hl h
    rw [fX0_linesWith_L5.eq_1] at h
    cases h
  | succ n ih =>
    intro H locs ls a0 x1 x2 x3 x4 hR hS hl h
    rw [fX0_linesWith_L5.eq_2] at h
    refine lv_iload hx hb dX0_linesWith_5 (lv_at hl 4 rfl) ?_
    refine lv_aload_n hx hb dX0_linesWith_7 rfl (lv_at hl 0 rfl) ?_
    obtain ⟨_, eO, h⟩ := bd h
    obtain ⟨v1, e, h⟩ := bd h
    refine fx_vI (As := []) (rest := [.int x4]) hx hb hml hts hown hK hR hS eO (mX4_size l D dA A e) my_X4_size mv_X4_size rfl ml_X0_47 rfl hl.1 rfl (Nat.le_of_ble_eq_true rfl) dX0_linesWith_8 ⟨Nat.le_of_ble_eq_true rfl, Nat.le_of_ble_eq_true rfl⟩ ⟨Nat.le_refl _, Nat.le_refl _⟩ (fun H locs hR hS => ?_)
    refine lv_icmp_ge (tgt := 50) hx hb dX0_linesWith_11 (by decide) (fun c => ?_) (fun c => ?_)
    · have h := it c h
      refine lv_iload_n hx hb dX0_linesWith_50 rfl (lv_at hl 3 rfl) ?_
      exact fx_iret hx hb hr hlocks (Option.some.inj h) rfl hR hS dX0_linesWith_51
    · have h := ie c h
      refine lv_aload_n hx hb dX0_linesWith_14 rfl (lv_at hl 0 rfl) ?_
      refine lv_iload hx hb dX0_linesWith_15 (lv_at hl 4 rfl) ?_
      obtain ⟨_, eO, h⟩ := bd h
      obtain ⟨v2, e, h⟩ := bd h
      refine fx_vI (As := [.int x4]) (rest := []) hx hb hml hts hown hK hR hS eO (mX4_kindAt l D dA A e) my_X4_kindAt mv_X4_kindAt rfl ml_X0_50 rfl hl.1 rfl (Nat.le_of_ble_eq_true rfl) dX0_linesWith_17 ⟨Nat.le_of_ble_eq_true rfl, Nat.le_of_ble_eq_true rfl⟩ ⟨Nat.le_refl _, Nat.le_refl _⟩ (fun H locs hR hS => ?_)
      refine lv_iload_n hx hb dX0_linesWith_20 rfl (lv_at hl 1 rfl) ?_
      refine lv_icmp_ne (tgt := 44) hx hb dX0_linesWith_21 (by decide) (fun c => ?_) (fun c => ?_)
      · have h := ie c h
        exact qX0_linesWith_b44 C (K5 := fX0_linesWith_L5 w n) (hK5 := @ih) hR hS (lv_sub hl [0, 1, 2, 3, 4] rfl) h
      · have h := it c h
        refine lv_iload_n hx hb dX0_linesWith_24 rfl (lv_at hl 2 rfl) ?_
        refine lv_aload_n hx hb dX0_linesWith_25 rfl (lv_at hl 0 rfl) ?_
        refine lv_iload hx hb dX0_linesWith_26 (lv_at hl 4 rfl) ?_
        obtain ⟨_, eO, h⟩ := bd h
        obtain ⟨v3, e, h⟩ := bd h
        refine fx_vI (As := [.int x4]) (rest := [.int x2]) hx hb hml hts hown hK hR hS eO (mX4_numberAt l D dA A e) my_X4_numberAt mv_X4_numberAt rfl ml_X0_53 rfl hl.1 rfl (Nat.le_of_ble_eq_true rfl) dX0_linesWith_28 ⟨Nat.le_of_ble_eq_true rfl, Nat.le_of_ble_eq_true rfl⟩ ⟨Nat.le_refl _, Nat.le_refl _⟩ (fun H locs hR hS => ?_)
        obtain ⟨v4, e, h⟩ := bd h
        refine fx_sN (As := [.int x2, .int v3]) (rest := []) hx hb hml hts hown hK hR hS (mX6_has l D dA A e) my_X6_has ms_X6_has hK.2.1 rfl hl.1 rfl (Nat.le_of_ble_eq_true rfl) dX0_linesWith_31 ⟨Nat.le_of_ble_eq_true rfl, Nat.le_of_ble_eq_true rfl⟩ ⟨Nat.le_refl _, Nat.le_refl _⟩ (fun H locs hR hS => ?_)
        refine lv_if_eq (tgt := 44) hx hb dX0_linesWith_34 (by decide) (fun c => ?_) (fun c => ?_)
        · have h := it c h
          exact qX0_linesWith_b44 C (K5 := fX0_linesWith_L5 w n) (hK5 := @ih) hR hS (lv_sub hl [0, 1, 2, 3, 4] rfl) h
        · have h := ie c h
          refine lv_iload_n hx hb dX0_linesWith_37 rfl (lv_at hl 3 rfl) ?_
          refine lv_iconst (v := 1) hx hb dX0_linesWith_38 (by decide) ?_
          refine lv_iload hx hb dX0_linesWith_39 (lv_at hl 4 rfl) ?_
          refine lv_ishl hx hb dX0_linesWith_41 ?_
          refine lv_ior hx hb dX0_linesWith_42 ?_
          refine lv_istore_n (lv' := [(3, .int (x3 ||| ((1 : Int32) <<< (x4 &&& 31)))), (0, .ref a0), (1, .int x1), (2, .int x2), (4, .int x4)]) hx hb dX0_linesWith_43 rfl hl (by decide) rfl (fun ls hl => ?_)
          exact qX0_linesWith_b44 C (K5 := fX0_linesWith_L5 w n) (hK5 := @ih) hR hS (lv_sub hl [1, 2, 3, 0, 4] rfl) h
def fX0_linesWith (w : Fw) (a0 : Nat) (x1 : Int32) (x2 : Int32) : Option (Int32) := (fX0_linesWith_L5 w 1000 a0 x1 x2 0 0)
set_option maxRecDepth 100000 in
set_option maxHeartbeats 4000000 in
theorem mX0_linesWith (l : Launch) (D : va_G) (dA : Nat → ClassId) (A : Nat → Prop) {w : Fw} {a0 : Nat} {x1 : Int32} {x2 : Int32} {res : Int32} (h : fX0_linesWith w a0 x1 x2 = some res) : Met l yX0_linesWith (wz yX0_linesWith cX0_linesWith 5 (some .int)) (rz 1 21) (Pz D dA A w [.ref a0, .int x1, .int x2]) (QzI D dA A res w) 0 0 A := by
  refine Met.ofW (cc := cX0_linesWith) (maxL := 5) (ret := (some .int)) (by decide) rfl ?_
  intro p e s m args below meth c s₁ B hml hv
  obtain ⟨rfl, hR, hK⟩ := hv
  have hx := B.exec
  have hb := B.bytes
  have hr := B.returns
  have hts : ∀ w ∈ lw_g, w.before [.ref a0, .int x1, .int x2].toArray s = true := fun w hw => atoms_spec (ws := wz yX0_linesWith cX0_linesWith 5 (some .int)) B.pre w (List.mem_cons_of_mem _ hw)
  have hown : s.vm.findClass RX0 = some m.cls := findClass_of_methodNamed B.named
  have hlocks := B.notSynchronized
  have C : Cx p s m [.ref a0, .int x1, .int x2].toArray meth c D dA RX0 cX0_linesWith 5 (some .int) := ⟨hx, hb, hr, hml, hown, hts, hK, hlocks⟩
  have hS : va_S A s.heap s.heap [] := va_S.rf
  have hl := lv_entry ([.ref a0, .int x1, .int x2]) (n := 5) (Nat.le_of_ble_eq_true rfl)
  rw [lg_entry_eq]
  generalize (lg_sl ([.ref a0, .int x1, .int x2]) ++ List.replicate (5 - (lg_sl ([.ref a0, .int x1, .int x2])).length) Slot.unset).toArray = ls at hl ⊢
  have hl : lv_has ls 5 [(0, .ref a0), (1, .int x1), (2, .int x2)] := hl
  unfold fX0_linesWith at h
  show W p l e (rz 1 21) s m _ below meth c s.heap [] 0 0 _ _
  refine lv_iconst (v := 0) hx hb dX0_linesWith_0 (by decide) ?_
  refine lv_istore_n (lv' := [(3, .int 0), (0, .ref a0), (1, .int x1), (2, .int x2)]) hx hb dX0_linesWith_1 rfl hl (by decide) rfl (fun ls hl => ?_)
  refine lv_iconst (v := 0) hx hb dX0_linesWith_2 (by decide) ?_
  refine lv_istore (lv' := [(4, .int 0), (3, .int 0), (0, .ref a0), (1, .int x1), (2, .int x2)]) hx hb dX0_linesWith_3 hl (by decide) rfl (fun ls hl => ?_)
  exact qX0_linesWith_L5 C   1000 hR hS (lv_sub hl [2, 3, 4, 1, 0] rfl) h
def fX0_repeatedDefs_b52 (w : Fw) (K6 : Nat → Int32 → Int32 → Int32 → Option (Int32)) (a0 : Nat) (x1 : Int32) (x2 : Int32) (x3 : Int32) : Option (Int32) := (K6 a0 x1 x2 (x3 + 1))
set_option maxRecDepth 100000 in
set_option maxHeartbeats 4000000 in
theorem qX0_repeatedDefs_b52 {p : Program} {l : Launch} {e : Env} {s : State} {m : MethodId} {args : Array Value} {below : List Frame} {meth : Method} {c : Code} {D : va_G} {dA : Nat → ClassId} {A : Nat → Prop} (C : Cx p s m args meth c D dA RX0 cX0_repeatedDefs 5 (some .int)) {w : Fw} {res : Int32} {K6 : Nat → Int32 → Int32 → Int32 → Option (Int32)} (hK6 : ∀ {H : Heap} {locs : List Loc} {ls : Array Slot} {a0 : Nat} {x1 : Int32} {x2 : Int32} {x3 : Int32}, Rp D dA A w H → va_S A s.heap H locs → lv_has ls 5 [(0, .ref a0), (1, .int x1), (2, .int x2), (3, .int x3)] → K6 a0 x1 x2 x3 = some res → W p l e (rz 1 21) s m args below meth c H locs 0 0 (MQ below (QzI D dA A res w) args s 0 0 A) (F0 m 6 ls [])) {H : Heap} {locs : List Loc} {ls : Array Slot} {a0 : Nat} {x1 : Int32} {x2 : Int32} {x3 : Int32} (hR : Rp D dA A w H) (hS : va_S A s.heap H locs) (hl : lv_has ls 5 [(0, .ref a0), (1, .int x1), (2, .int x2), (3, .int x3)]) (h : fX0_repeatedDefs_b52 w K6 a0 x1 x2 x3 = some res) : W p l e (rz 1 21) s m args below meth c H locs 0 0 (MQ below (QzI D dA A res w) args s 0 0 A) (F0 m 52 ls []) := by
  obtain ⟨hx, hb, hr, hml, hown, hts, hK, hlocks⟩ := id C
  unfold fX0_repeatedDefs_b52 at h
  refine lv_iinc (v := (x3 + 1)) (lv' := [(3, .int (x3 + 1)), (0, .ref a0), (1, .int x1), (2, .int x2)]) hx hb dX0_repeatedDefs_52 hl (k := 3) rfl rfl (by decide) rfl (fun ls hl => ?_)
  refine lv_goto (tgt := 6) hx hb dX0_repeatedDefs_55 (by decide) ?_
  exact hK6 hR hS (lv_sub hl [1, 2, 3, 0] rfl) h
def fX0_repeatedDefs_b45 (w : Fw) (K6 : Nat → Int32 → Int32 → Int32 → Option (Int32)) (a0 : Nat) (x1 : Int32) (x2 : Int32) (x3 : Int32) (x4 : Int32) : Option (Int32) := (fX0_repeatedDefs_b52 w K6 a0 x1 (x2 ||| ((1 : Int32) <<< (x4 &&& 31))) x3)
set_option maxRecDepth 100000 in
set_option maxHeartbeats 4000000 in
theorem qX0_repeatedDefs_b45 {p : Program} {l : Launch} {e : Env} {s : State} {m : MethodId} {args : Array Value} {below : List Frame} {meth : Method} {c : Code} {D : va_G} {dA : Nat → ClassId} {A : Nat → Prop} (C : Cx p s m args meth c D dA RX0 cX0_repeatedDefs 5 (some .int)) {w : Fw} {res : Int32} {K6 : Nat → Int32 → Int32 → Int32 → Option (Int32)} (hK6 : ∀ {H : Heap} {locs : List Loc} {ls : Array Slot} {a0 : Nat} {x1 : Int32} {x2 : Int32} {x3 : Int32}, Rp D dA A w H → va_S A s.heap H locs → lv_has ls 5 [(0, .ref a0), (1, .int x1), (2, .int x2), (3, .int x3)] → K6 a0 x1 x2 x3 = some res → W p l e (rz 1 21) s m args below meth c H locs 0 0 (MQ below (QzI D dA A res w) args s 0 0 A) (F0 m 6 ls [])) {H : Heap} {locs : List Loc} {ls : Array Slot} {a0 : Nat} {x1 : Int32} {x2 : Int32} {x3 : Int32} {x4 : Int32} (hR : Rp D dA A w H) (hS : va_S A s.heap H locs) (hl : lv_has ls 5 [(0, .ref a0), (1, .int x1), (2, .int x2), (3, .int x3), (4, .int x4)]) (h : fX0_repeatedDefs_b45 w K6 a0 x1 x2 x3 x4 = some res) : W p l e (rz 1 21) s m args below meth c H locs 0 0 (MQ below (QzI D dA A res w) args s 0 0 A) (F0 m 45 ls []) := by
  obtain ⟨hx, hb, hr, hml, hown, hts, hK, hlocks⟩ := id C
  unfold fX0_repeatedDefs_b45 at h
  refine lv_iload_n hx hb dX0_repeatedDefs_45 rfl (lv_at hl 2 rfl) ?_
  refine lv_iconst (v := 1) hx hb dX0_repeatedDefs_46 (by decide) ?_
  refine lv_iload hx hb dX0_repeatedDefs_47 (lv_at hl 4 rfl) ?_
  refine lv_ishl hx hb dX0_repeatedDefs_49 ?_
  refine lv_ior hx hb dX0_repeatedDefs_50 ?_
  refine lv_istore_n (lv' := [(2, .int (x2 ||| ((1 : Int32) <<< (x4 &&& 31)))), (0, .ref a0), (1, .int x1), (3, .int x3), (4, .int x4)]) hx hb dX0_repeatedDefs_51 rfl hl (by decide) rfl (fun ls hl => ?_)
  exact qX0_repeatedDefs_b52 C (K6 := K6) (hK6 := @hK6) hR hS (lv_sub hl [1, 2, 0, 3] rfl) h
def fX0_repeatedDefs_L6 (w : Fw)  : Nat → Nat → Int32 → Int32 → Int32 → Option (Int32)
  | 0, _, _, _, _ => none
  | n + 1, a0, x1, x2, x3 => ((isO w a0 4).bind fun _ => ((fX4_size w a0).bind fun v1 => (if v1 ≤ x3 then some x1 else ((isO w a0 4).bind fun _ => ((fX4_kindAt w a0 x3).bind fun v2 => (if v2 = 1 then ((isO w a0 4).bind fun _ => ((fX4_numberAt w a0 x3).bind fun v3 => ((fX6_has w x2 v3).bind fun v4 => (if v4 = 0 then (fX0_repeatedDefs_b45 w (fX0_repeatedDefs_L6 w n) a0 x1 x2 x3 v3) else (fX0_repeatedDefs_b45 w (fX0_repeatedDefs_L6 w n) a0 (x1 ||| ((1 : Int32) <<< (x3 &&& 31))) x2 x3 v3))))) else (fX0_repeatedDefs_b52 w (fX0_repeatedDefs_L6 w n) a0 x1 x2 x3)))))))
set_option maxRecDepth 100000 in
set_option maxHeartbeats 4000000 in
theorem qX0_repeatedDefs_L6 {p : Program} {l : Launch} {e : Env} {s : State} {m : MethodId} {args : Array Value} {below : List Frame} {meth : Method} {c : Code} {D : va_G} {dA : Nat → ClassId} {A : Nat → Prop} (C : Cx p s m args meth c D dA RX0 cX0_repeatedDefs 5 (some .int)) {w : Fw} {res : Int32}   : ∀ (n : Nat) {H : Heap} {locs : List Loc} {ls : Array Slot} {a0 : Nat} {x1 : Int32} {x2 : Int32} {x3 : Int32}, Rp D dA A w H → va_S A s.heap H locs → lv_has ls 5 [(0, .ref a0), (1, .int x1), (2, .int x2), (3, .int x3)] → fX0_repeatedDefs_L6 w n a0 x1 x2 x3 = some res → W p l e (rz 1 21) s m args below meth c H locs 0 0 (MQ below (QzI D dA A res w) args s 0 0 A) (F0 m 6 ls []) := by
  obtain ⟨hx, hb, hr, hml, hown, hts, hK, hlocks⟩ := id C
  intro n
  induction n with
  | zero =>
    intro H locs ls a0 x1 x2 x3 hR hS hl h
    rw [fX0_repeatedDefs_L6.eq_1] at h
    cases h
  | succ n ih =>
    intro H locs ls a0 x1 x2 x3 hR hS hl h
    rw [fX0_repeatedDefs_L6.eq_2] at h
    refine lv_iload_n hx hb dX0_repeatedDefs_6 rfl (lv_at hl 3 rfl) ?_
    refine lv_aload_n hx hb dX0_repeatedDefs_7 rfl (lv_at hl 0 rfl) ?_
    obtain ⟨_, eO, h⟩ := bd h
    obtain ⟨v1, e, h⟩ := bd h
    refine fx_vI (As := []) (rest := [.int x3]) hx hb hml hts hown hK hR hS eO (mX4_size l D dA A e) my_X4_size mv_X4_size rfl ml_X0_47 rfl hl.1 rfl (Nat.le_of_ble_eq_true rfl) dX0_repeatedDefs_8 ⟨Nat.le_of_ble_eq_true rfl, Nat.le_of_ble_eq_true rfl⟩ ⟨Nat.le_refl _, Nat.le_refl _⟩ (fun H locs hR hS => ?_)
    refine lv_icmp_ge (tgt := 58) hx hb dX0_repeatedDefs_11 (by decide) (fun c => ?_) (fun c => ?_)
    · have h := it c h
      refine lv_iload_n hx hb dX0_repeatedDefs_58 rfl (lv_at hl 1 rfl) ?_
      exact fx_iret hx hb hr hlocks (Option.some.inj h) rfl hR hS dX0_repeatedDefs_59
    · have h := ie c h
      refine lv_aload_n hx hb dX0_repeatedDefs_14 rfl (lv_at hl 0 rfl) ?_
      refine lv_iload_n hx hb dX0_repeatedDefs_15 rfl (lv_at hl 3 rfl) ?_
      obtain ⟨_, eO, h⟩ := bd h
      obtain ⟨v2, e, h⟩ := bd h
      refine fx_vI (As := [.int x3]) (rest := []) hx hb hml hts hown hK hR hS eO (mX4_kindAt l D dA A e) my_X4_kindAt mv_X4_kindAt rfl ml_X0_50 rfl hl.1 rfl (Nat.le_of_ble_eq_true rfl) dX0_repeatedDefs_16 ⟨Nat.le_of_ble_eq_true rfl, Nat.le_of_ble_eq_true rfl⟩ ⟨Nat.le_refl _, Nat.le_refl _⟩ (fun H locs hR hS => ?_)
      refine lv_iconst (v := 1) hx hb dX0_repeatedDefs_19 (by decide) ?_
      refine lv_icmp_ne (tgt := 52) hx hb dX0_repeatedDefs_20 (by decide) (fun c => ?_) (fun c => ?_)
      · have h := ie c h
        exact qX0_repeatedDefs_b52 C (K6 := fX0_repeatedDefs_L6 w n) (hK6 := @ih) hR hS (lv_sub hl [0, 1, 2, 3] rfl) h
      · have h := it c h
        refine lv_aload_n hx hb dX0_repeatedDefs_23 rfl (lv_at hl 0 rfl) ?_
        refine lv_iload_n hx hb dX0_repeatedDefs_24 rfl (lv_at hl 3 rfl) ?_
        obtain ⟨_, eO, h⟩ := bd h
        obtain ⟨v3, e, h⟩ := bd h
        refine fx_vI (As := [.int x3]) (rest := []) hx hb hml hts hown hK hR hS eO (mX4_numberAt l D dA A e) my_X4_numberAt mv_X4_numberAt rfl ml_X0_53 rfl hl.1 rfl (Nat.le_of_ble_eq_true rfl) dX0_repeatedDefs_25 ⟨Nat.le_of_ble_eq_true rfl, Nat.le_of_ble_eq_true rfl⟩ ⟨Nat.le_refl _, Nat.le_refl _⟩ (fun H locs hR hS => ?_)
        refine lv_istore (lv' := [(4, .int v3), (0, .ref a0), (1, .int x1), (2, .int x2), (3, .int x3)]) hx hb dX0_repeatedDefs_28 hl (by decide) rfl (fun ls hl => ?_)
        refine lv_iload_n hx hb dX0_repeatedDefs_30 rfl (lv_at hl 3 rfl) ?_
        refine lv_iload hx hb dX0_repeatedDefs_31 (lv_at hl 0 rfl) ?_
        obtain ⟨v4, e, h⟩ := bd h
        refine fx_sN (As := [.int x2, .int v3]) (rest := []) hx hb hml hts hown hK hR hS (mX6_has l D dA A e) my_X6_has ms_X6_has hK.2.1 rfl hl.1 rfl (Nat.le_of_ble_eq_true rfl) dX0_repeatedDefs_33 ⟨Nat.le_of_ble_eq_true rfl, Nat.le_of_ble_eq_true rfl⟩ ⟨Nat.le_refl _, Nat.le_refl _⟩ (fun H locs hR hS => ?_)
        refine lv_if_eq (tgt := 45) hx hb dX0_repeatedDefs_36 (by decide) (fun c => ?_) (fun c => ?_)
        · have h := it c h
          exact qX0_repeatedDefs_b45 C (K6 := fX0_repeatedDefs_L6 w n) (hK6 := @ih) hR hS (lv_sub hl [1, 2, 3, 4, 0] rfl) h
        · have h := ie c h
          refine lv_iload_n hx hb dX0_repeatedDefs_39 rfl (lv_at hl 2 rfl) ?_
          refine lv_iconst (v := 1) hx hb dX0_repeatedDefs_40 (by decide) ?_
          refine lv_iload_n hx hb dX0_repeatedDefs_41 rfl (lv_at hl 4 rfl) ?_
          refine lv_ishl hx hb dX0_repeatedDefs_42 ?_
          refine lv_ior hx hb dX0_repeatedDefs_43 ?_
          refine lv_istore_n (lv' := [(1, .int (x1 ||| ((1 : Int32) <<< (x3 &&& 31)))), (4, .int v3), (0, .ref a0), (2, .int x2), (3, .int x3)]) hx hb dX0_repeatedDefs_44 rfl hl (by decide) rfl (fun ls hl => ?_)
          exact qX0_repeatedDefs_b45 C (K6 := fX0_repeatedDefs_L6 w n) (hK6 := @ih) hR hS (lv_sub hl [2, 0, 3, 4, 1] rfl) h
def fX0_repeatedDefs (w : Fw) (a0 : Nat) : Option (Int32) := (fX0_repeatedDefs_L6 w 1000 a0 0 0 0)
set_option maxRecDepth 100000 in
set_option maxHeartbeats 4000000 in
theorem mX0_repeatedDefs (l : Launch) (D : va_G) (dA : Nat → ClassId) (A : Nat → Prop) {w : Fw} {a0 : Nat} {res : Int32} (h : fX0_repeatedDefs w a0 = some res) : Met l yX0_repeatedDefs (wz yX0_repeatedDefs cX0_repeatedDefs 5 (some .int)) (rz 1 21) (Pz D dA A w [.ref a0]) (QzI D dA A res w) 0 0 A := by
  refine Met.ofW (cc := cX0_repeatedDefs) (maxL := 5) (ret := (some .int)) (by decide) rfl ?_
  intro p e s m args below meth c s₁ B hml hv
  obtain ⟨rfl, hR, hK⟩ := hv
  have hx := B.exec
  have hb := B.bytes
  have hr := B.returns
  have hts : ∀ w ∈ lw_g, w.before [.ref a0].toArray s = true := fun w hw => atoms_spec (ws := wz yX0_repeatedDefs cX0_repeatedDefs 5 (some .int)) B.pre w (List.mem_cons_of_mem _ hw)
  have hown : s.vm.findClass RX0 = some m.cls := findClass_of_methodNamed B.named
  have hlocks := B.notSynchronized
  have C : Cx p s m [.ref a0].toArray meth c D dA RX0 cX0_repeatedDefs 5 (some .int) := ⟨hx, hb, hr, hml, hown, hts, hK, hlocks⟩
  have hS : va_S A s.heap s.heap [] := va_S.rf
  have hl := lv_entry ([.ref a0]) (n := 5) (Nat.le_of_ble_eq_true rfl)
  rw [lg_entry_eq]
  generalize (lg_sl ([.ref a0]) ++ List.replicate (5 - (lg_sl ([.ref a0])).length) Slot.unset).toArray = ls at hl ⊢
  have hl : lv_has ls 5 [(0, .ref a0)] := hl
  unfold fX0_repeatedDefs at h
  show W p l e (rz 1 21) s m _ below meth c s.heap [] 0 0 _ _
  refine lv_iconst (v := 0) hx hb dX0_repeatedDefs_0 (by decide) ?_
  refine lv_istore_n (lv' := [(1, .int 0), (0, .ref a0)]) hx hb dX0_repeatedDefs_1 rfl hl (by decide) rfl (fun ls hl => ?_)
  refine lv_iconst (v := 0) hx hb dX0_repeatedDefs_2 (by decide) ?_
  refine lv_istore_n (lv' := [(2, .int 0), (1, .int 0), (0, .ref a0)]) hx hb dX0_repeatedDefs_3 rfl hl (by decide) rfl (fun ls hl => ?_)
  refine lv_iconst (v := 0) hx hb dX0_repeatedDefs_4 (by decide) ?_
  refine lv_istore_n (lv' := [(3, .int 0), (2, .int 0), (1, .int 0), (0, .ref a0)]) hx hb dX0_repeatedDefs_5 rfl hl (by decide) rfl (fun ls hl => ?_)
  exact qX0_repeatedDefs_L6 C   1000 hR hS (lv_sub hl [3, 2, 1, 0] rfl) h
def fX0_unpaired_L82  : Nat → Fw → Nat → Int32 → Int32 → Int32 → Option (Int32 × Fw)
  | 0, _, _, _, _, _ => none
  | n + 1, w, a0, x2, x3, x4 => if x3 ≤ x4 then some (x2, w) else ((gR w a0 0 1).bind fun r1 => ((lI w r1 x4).bind fun v2 => (fX0_unpaired_L82  n w a0 (x2 ||| ((1 : Int32) <<< (v2 &&& 31))) x3 (x4 + 1))))
set_option maxRecDepth 100000 in
set_option maxHeartbeats 4000000 in
theorem qX0_unpaired_L82 {p : Program} {l : Launch} {e : Env} {s : State} {m : MethodId} {args : Array Value} {below : List Frame} {meth : Method} {c : Code} {D : va_G} {dA : Nat → ClassId} {A : Nat → Prop} (C : Cx p s m args meth c D dA RX0 cX0_unpaired 6 (some .int)) {res : Int32 × Fw}   : ∀ (n : Nat) {w : Fw} {H : Heap} {locs : List Loc} {ls : Array Slot} {a0 : Nat} {x2 : Int32} {x3 : Int32} {x4 : Int32}, Rp D dA A w H → va_S A s.heap H locs → lv_has ls 6 [(0, .ref a0), (2, .int x2), (3, .int x3), (4, .int x4)] → fX0_unpaired_L82 n w a0 x2 x3 x4 = some res → W p l e (rz 1 21) s m args below meth c H locs 0 0 (MQ below (QzI D dA A res.1 res.2) args s 0 0 A) (F0 m 82 ls []) := by
  obtain ⟨hx, hb, hr, hml, hown, hts, hK, hlocks⟩ := id C
  intro n
  induction n with
  | zero =>
    intro w H locs ls a0 x2 x3 x4 hR hS hl h
    rw [fX0_unpaired_L82.eq_1] at h
    cases h
  | succ n ih =>
    intro w H locs ls a0 x2 x3 x4 hR hS hl h
    rw [fX0_unpaired_L82.eq_2] at h
    refine lv_iload hx hb dX0_unpaired_82 (lv_at hl 3 rfl) ?_
    refine lv_iload_n hx hb dX0_unpaired_84 rfl (lv_at hl 2 rfl) ?_
    refine lv_icmp_ge (tgt := 106) hx hb dX0_unpaired_85 (by decide) (fun c => ?_) (fun c => ?_)
    · have h := it c h
      refine lv_iload_n hx hb dX0_unpaired_106 rfl (lv_at hl 1 rfl) ?_
      exact fx_iret hx hb hr hlocks (congrArg Prod.fst (Option.some.inj h)) (congrArg Prod.snd (Option.some.inj h)) hR hS dX0_unpaired_107
    · have h := ie c h
      refine lv_iload_n hx hb dX0_unpaired_88 rfl (lv_at hl 1 rfl) ?_
      refine lv_iconst (v := 1) hx hb dX0_unpaired_89 (by decide) ?_
      refine lv_aload_n hx hb dX0_unpaired_90 rfl (lv_at hl 0 rfl) ?_
      obtain ⟨r1, e, h⟩ := bd h
      refine fx_gR hx hb hts hown hK hR fl_X0_15 e dX0_unpaired_91 ?_
      refine lv_iload hx hb dX0_unpaired_94 (lv_at hl 3 rfl) ?_
      obtain ⟨v2, e, h⟩ := bd h
      refine fx_lI hx hb hK hR e dX0_unpaired_96 ?_
      refine lv_ishl hx hb dX0_unpaired_97 ?_
      refine lv_ior hx hb dX0_unpaired_98 ?_
      refine lv_istore_n (lv' := [(2, .int (x2 ||| ((1 : Int32) <<< (v2 &&& 31)))), (0, .ref a0), (3, .int x3), (4, .int x4)]) hx hb dX0_unpaired_99 rfl hl (by decide) rfl (fun ls hl => ?_)
      refine lv_iinc (v := (x4 + 1)) (lv' := [(4, .int (x4 + 1)), (2, .int (x2 ||| ((1 : Int32) <<< (v2 &&& 31)))), (0, .ref a0), (3, .int x3)]) hx hb dX0_unpaired_100 hl (k := 3) rfl rfl (by decide) rfl (fun ls hl => ?_)
      refine lv_goto (tgt := 82) hx hb dX0_unpaired_103 (by decide) ?_
      exact ih hR hS (lv_sub hl [2, 1, 3, 0] rfl) h
def fX0_unpaired_b73 (K7 : Fw → Nat → Nat → Int32 → Int32 → Int32 → Option (Int32 × Fw)) (w : Fw) (a0 : Nat) (a1 : Nat) (x2 : Int32) (x3 : Int32) (x4 : Int32) : Option (Int32 × Fw) := (K7 w a0 a1 x2 x3 (x4 + 1))
set_option maxRecDepth 100000 in
set_option maxHeartbeats 4000000 in
theorem qX0_unpaired_b73 {p : Program} {l : Launch} {e : Env} {s : State} {m : MethodId} {args : Array Value} {below : List Frame} {meth : Method} {c : Code} {D : va_G} {dA : Nat → ClassId} {A : Nat → Prop} (C : Cx p s m args meth c D dA RX0 cX0_unpaired 6 (some .int)) {w : Fw} {res : Int32 × Fw} {K7 : Fw → Nat → Nat → Int32 → Int32 → Int32 → Option (Int32 × Fw)} (hK7 : ∀ {w : Fw} {H : Heap} {locs : List Loc} {ls : Array Slot} {a0 : Nat} {a1 : Nat} {x2 : Int32} {x3 : Int32} {x4 : Int32}, Rp D dA A w H → va_S A s.heap H locs → lv_has ls 6 [(0, .ref a0), (1, .ref a1), (2, .int x2), (3, .int x3), (4, .int x4)] → K7 w a0 a1 x2 x3 x4 = some res → W p l e (rz 1 21) s m args below meth c H locs 0 0 (MQ below (QzI D dA A res.1 res.2) args s 0 0 A) (F0 m 7 ls [])) {H : Heap} {locs : List Loc} {ls : Array Slot} {a0 : Nat} {a1 : Nat} {x2 : Int32} {x3 : Int32} {x4 : Int32} (hR : Rp D dA A w H) (hS : va_S A s.heap H locs) (hl : lv_has ls 6 [(0, .ref a0), (1, .ref a1), (2, .int x2), (3, .int x3), (4, .int x4)]) (h : fX0_unpaired_b73 K7 w a0 a1 x2 x3 x4 = some res) : W p l e (rz 1 21) s m args below meth c H locs 0 0 (MQ below (QzI D dA A res.1 res.2) args s 0 0 A) (F0 m 73 ls []) := by
  obtain ⟨hx, hb, hr, hml, hown, hts, hK, hlocks⟩ := id C
  unfold fX0_unpaired_b73 at h
  refine lv_iinc (v := (x4 + 1)) (lv' := [(4, .int (x4 + 1)), (0, .ref a0), (1, .ref a1), (2, .int x2), (3, .int x3)]) hx hb dX0_unpaired_73 hl (k := 4) rfl rfl (by decide) rfl (fun ls hl => ?_)
  refine lv_goto (tgt := 7) hx hb dX0_unpaired_76 (by decide) ?_
  exact hK7 hR hS (lv_sub hl [1, 2, 3, 4, 0] rfl) h
def fX0_unpaired_b60 (K7 : Fw → Nat → Nat → Int32 → Int32 → Int32 → Option (Int32 × Fw)) (w : Fw) (a0 : Nat) (a1 : Nat) (x2 : Int32) (x3 : Int32) (x4 : Int32) (x5 : Int32) : Option (Int32 × Fw) := if x5 = 4 then (fX0_unpaired_b73 K7 w a0 a1 (x2 ||| ((1 : Int32) <<< (x4 &&& 31))) x3 x4) else (fX0_unpaired_b73 K7 w a0 a1 x2 x3 x4)
set_option maxRecDepth 100000 in
set_option maxHeartbeats 4000000 in
theorem qX0_unpaired_b60 {p : Program} {l : Launch} {e : Env} {s : State} {m : MethodId} {args : Array Value} {below : List Frame} {meth : Method} {c : Code} {D : va_G} {dA : Nat → ClassId} {A : Nat → Prop} (C : Cx p s m args meth c D dA RX0 cX0_unpaired 6 (some .int)) {w : Fw} {res : Int32 × Fw} {K7 : Fw → Nat → Nat → Int32 → Int32 → Int32 → Option (Int32 × Fw)} (hK7 : ∀ {w : Fw} {H : Heap} {locs : List Loc} {ls : Array Slot} {a0 : Nat} {a1 : Nat} {x2 : Int32} {x3 : Int32} {x4 : Int32}, Rp D dA A w H → va_S A s.heap H locs → lv_has ls 6 [(0, .ref a0), (1, .ref a1), (2, .int x2), (3, .int x3), (4, .int x4)] → K7 w a0 a1 x2 x3 x4 = some res → W p l e (rz 1 21) s m args below meth c H locs 0 0 (MQ below (QzI D dA A res.1 res.2) args s 0 0 A) (F0 m 7 ls [])) {H : Heap} {locs : List Loc} {ls : Array Slot} {a0 : Nat} {a1 : Nat} {x2 : Int32} {x3 : Int32} {x4 : Int32} {x5 : Int32} (hR : Rp D dA A w H) (hS : va_S A s.heap H locs) (hl : lv_has ls 6 [(0, .ref a0), (1, .ref a1), (2, .int x2), (3, .int x3), (4, .int x4), (5, .int x5)]) (h : fX0_unpaired_b60 K7 w a0 a1 x2 x3 x4 x5 = some res) : W p l e (rz 1 21) s m args below meth c H locs 0 0 (MQ below (QzI D dA A res.1 res.2) args s 0 0 A) (F0 m 60 ls []) := by
  obtain ⟨hx, hb, hr, hml, hown, hts, hK, hlocks⟩ := id C
  unfold fX0_unpaired_b60 at h
  refine lv_iload hx hb dX0_unpaired_60 (lv_at hl 5 rfl) ?_
  refine lv_iconst (v := 4) hx hb dX0_unpaired_62 (by decide) ?_
  refine lv_icmp_ne (tgt := 73) hx hb dX0_unpaired_63 (by decide) (fun c => ?_) (fun c => ?_)
  · have h := ie c h
    exact qX0_unpaired_b73 C (K7 := K7) (hK7 := @hK7) hR hS (lv_sub hl [0, 1, 2, 3, 4] rfl) h
  · have h := it c h
    refine lv_iload_n hx hb dX0_unpaired_66 rfl (lv_at hl 2 rfl) ?_
    refine lv_iconst (v := 1) hx hb dX0_unpaired_67 (by decide) ?_
    refine lv_iload hx hb dX0_unpaired_68 (lv_at hl 4 rfl) ?_
    refine lv_ishl hx hb dX0_unpaired_70 ?_
    refine lv_ior hx hb dX0_unpaired_71 ?_
    refine lv_istore_n (lv' := [(2, .int (x2 ||| ((1 : Int32) <<< (x4 &&& 31)))), (0, .ref a0), (1, .ref a1), (3, .int x3), (4, .int x4), (5, .int x5)]) hx hb dX0_unpaired_72 rfl hl (by decide) rfl (fun ls hl => ?_)
    exact qX0_unpaired_b73 C (K7 := K7) (hK7 := @hK7) hR hS (lv_sub hl [1, 2, 0, 3, 4] rfl) h
def fX0_unpaired_L7  : Nat → Fw → Nat → Nat → Int32 → Int32 → Int32 → Option (Int32 × Fw)
  | 0, _, _, _, _, _, _ => none
  | n + 1, w, a0, a1, x2, x3, x4 => ((isO w a1 4).bind fun _ => ((fX4_size w a1).bind fun v3 => (if v3 ≤ x4 then (fX0_unpaired_L82 1000 w a0 x2 x3 0) else ((isO w a1 4).bind fun _ => ((fX4_kindAt w a1 x4).bind fun v4 => (if v4 = 3 then ((gR w a0 0 1).bind fun r5 => ((sI w r5 x3 x4).bind fun w6 => (fX0_unpaired_b73 (fX0_unpaired_L7  n) w6 a0 a1 x2 (x3 + 1) x4))) else if v4 = 4 then if x3 ≤ 0 then (fX0_unpaired_b60 (fX0_unpaired_L7  n) w a0 a1 x2 x3 x4 v4) else (fX0_unpaired_b73 (fX0_unpaired_L7  n) w a0 a1 x2 (x3 + (-1)) x4) else (fX0_unpaired_b60 (fX0_unpaired_L7  n) w a0 a1 x2 x3 x4 v4)))))))
set_option maxRecDepth 100000 in
set_option maxHeartbeats 4000000 in
theorem qX0_unpaired_L7 {p : Program} {l : Launch} {e : Env} {s : State} {m : MethodId} {args : Array Value} {below : List Frame} {meth : Method} {c : Code} {D : va_G} {dA : Nat → ClassId} {A : Nat → Prop} (C : Cx p s m args meth c D dA RX0 cX0_unpaired 6 (some .int)) {res : Int32 × Fw}   : ∀ (n : Nat) {w : Fw} {H : Heap} {locs : List Loc} {ls : Array Slot} {a0 : Nat} {a1 : Nat} {x2 : Int32} {x3 : Int32} {x4 : Int32}, Rp D dA A w H → va_S A s.heap H locs → lv_has ls 6 [(0, .ref a0), (1, .ref a1), (2, .int x2), (3, .int x3), (4, .int x4)] → fX0_unpaired_L7 n w a0 a1 x2 x3 x4 = some res → W p l e (rz 1 21) s m args below meth c H locs 0 0 (MQ below (QzI D dA A res.1 res.2) args s 0 0 A) (F0 m 7 ls []) := by
  obtain ⟨hx, hb, hr, hml, hown, hts, hK, hlocks⟩ := id C
  intro n
  induction n with
  | zero =>
    intro w H locs ls a0 a1 x2 x3 x4 hR hS hl h
    rw [fX0_unpaired_L7.eq_1] at h
    cases h
  | succ n ih =>
    intro w H locs ls a0 a1 x2 x3 x4 hR hS hl h
    rw [fX0_unpaired_L7.eq_2] at h
    refine lv_iload hx hb dX0_unpaired_7 (lv_at hl 4 rfl) ?_
    refine lv_aload_n hx hb dX0_unpaired_9 rfl (lv_at hl 1 rfl) ?_
    obtain ⟨_, eO, h⟩ := bd h
    obtain ⟨v3, e, h⟩ := bd h
    refine fx_vI (As := []) (rest := [.int x4]) hx hb hml hts hown hK hR hS eO (mX4_size l D dA A e) my_X4_size mv_X4_size rfl ml_X0_47 rfl hl.1 rfl (Nat.le_of_ble_eq_true rfl) dX0_unpaired_10 ⟨Nat.le_of_ble_eq_true rfl, Nat.le_of_ble_eq_true rfl⟩ ⟨Nat.le_refl _, Nat.le_refl _⟩ (fun H locs hR hS => ?_)
    refine lv_icmp_ge (tgt := 79) hx hb dX0_unpaired_13 (by decide) (fun c => ?_) (fun c => ?_)
    · have h := it c h
      refine lv_iconst (v := 0) hx hb dX0_unpaired_79 (by decide) ?_
      refine lv_istore (lv' := [(4, .int 0), (0, .ref a0), (1, .ref a1), (2, .int x2), (3, .int x3)]) hx hb dX0_unpaired_80 hl (by decide) rfl (fun ls hl => ?_)
      exact qX0_unpaired_L82 C   1000 hR hS (lv_sub hl [1, 3, 4, 0] rfl) h
    · have h := ie c h
      refine lv_aload_n hx hb dX0_unpaired_16 rfl (lv_at hl 1 rfl) ?_
      refine lv_iload hx hb dX0_unpaired_17 (lv_at hl 4 rfl) ?_
      obtain ⟨_, eO, h⟩ := bd h
      obtain ⟨v4, e, h⟩ := bd h
      refine fx_vI (As := [.int x4]) (rest := []) hx hb hml hts hown hK hR hS eO (mX4_kindAt l D dA A e) my_X4_kindAt mv_X4_kindAt rfl ml_X0_50 rfl hl.1 rfl (Nat.le_of_ble_eq_true rfl) dX0_unpaired_19 ⟨Nat.le_of_ble_eq_true rfl, Nat.le_of_ble_eq_true rfl⟩ ⟨Nat.le_refl _, Nat.le_refl _⟩ (fun H locs hR hS => ?_)
      refine lv_istore (lv' := [(5, .int v4), (0, .ref a0), (1, .ref a1), (2, .int x2), (3, .int x3), (4, .int x4)]) hx hb dX0_unpaired_22 hl (by decide) rfl (fun ls hl => ?_)
      refine lv_iload hx hb dX0_unpaired_24 (lv_at hl 0 rfl) ?_
      refine lv_iconst (v := 3) hx hb dX0_unpaired_26 (by decide) ?_
      refine lv_icmp_ne (tgt := 44) hx hb dX0_unpaired_27 (by decide) (fun c => ?_) (fun c => ?_)
      · have h := ie c h
        refine lv_iload hx hb dX0_unpaired_44 (lv_at hl 0 rfl) ?_
        refine lv_iconst (v := 4) hx hb dX0_unpaired_46 (by decide) ?_
        refine lv_icmp_ne (tgt := 60) hx hb dX0_unpaired_47 (by decide) (fun c => ?_) (fun c => ?_)
        · have h := ie c h
          exact qX0_unpaired_b60 C (K7 := fX0_unpaired_L7  n) (hK7 := @ih) hR hS (lv_sub hl [1, 2, 3, 4, 5, 0] rfl) h
        · have h := it c h
          refine lv_iload_n hx hb dX0_unpaired_50 rfl (lv_at hl 4 rfl) ?_
          refine lv_if_le (tgt := 60) hx hb dX0_unpaired_51 (by decide) (fun c => ?_) (fun c => ?_)
          · have h := it c h
            exact qX0_unpaired_b60 C (K7 := fX0_unpaired_L7  n) (hK7 := @ih) hR hS (lv_sub hl [1, 2, 3, 4, 5, 0] rfl) h
          · have h := ie c h
            refine lv_iinc (v := (x3 + (-1))) (lv' := [(3, .int (x3 + (-1))), (5, .int v4), (0, .ref a0), (1, .ref a1), (2, .int x2), (4, .int x4)]) hx hb dX0_unpaired_54 hl (k := 4) rfl rfl (by decide) rfl (fun ls hl => ?_)
            refine lv_goto (tgt := 73) hx hb dX0_unpaired_57 (by decide) ?_
            exact qX0_unpaired_b73 C (K7 := fX0_unpaired_L7  n) (hK7 := @ih) hR hS (lv_sub hl [2, 3, 4, 0, 5] rfl) h
      · have h := it c h
        refine lv_aload_n hx hb dX0_unpaired_30 rfl (lv_at hl 1 rfl) ?_
        obtain ⟨r5, e, h⟩ := bd h
        refine fx_gR hx hb hts hown hK hR fl_X0_15 e dX0_unpaired_31 ?_
        refine lv_iload_n hx hb dX0_unpaired_34 rfl (lv_at hl 4 rfl) ?_
        refine lv_iload hx hb dX0_unpaired_35 (lv_at hl 5 rfl) ?_
        obtain ⟨w6, e, h⟩ := bd h
        refine fx_sI hx hb hK hR hS e dX0_unpaired_37 (fun H locs hR hS => ?_)
        refine lv_iinc (v := (x3 + 1)) (lv' := [(3, .int (x3 + 1)), (5, .int v4), (0, .ref a0), (1, .ref a1), (2, .int x2), (4, .int x4)]) hx hb dX0_unpaired_38 hl (k := 4) rfl rfl (by decide) rfl (fun ls hl => ?_)
        refine lv_goto (tgt := 73) hx hb dX0_unpaired_41 (by decide) ?_
        exact qX0_unpaired_b73 C (K7 := fX0_unpaired_L7  n) (hK7 := @ih) hR hS (lv_sub hl [2, 3, 4, 0, 5] rfl) h
def fX0_unpaired (w : Fw) (a0 : Nat) (a1 : Nat) : Option (Int32 × Fw) := (fX0_unpaired_L7 1000 w a0 a1 0 0 0)
set_option maxRecDepth 100000 in
set_option maxHeartbeats 4000000 in
theorem mX0_unpaired (l : Launch) (D : va_G) (dA : Nat → ClassId) (A : Nat → Prop) {w : Fw} {a0 : Nat} {a1 : Nat} {res : Int32 × Fw} (h : fX0_unpaired w a0 a1 = some res) : Met l yX0_unpaired (wz yX0_unpaired cX0_unpaired 6 (some .int)) (rz 1 21) (Pz D dA A w [.ref a0, .ref a1]) (QzI D dA A res.1 res.2) 0 0 A := by
  refine Met.ofW (cc := cX0_unpaired) (maxL := 6) (ret := (some .int)) (by decide) rfl ?_
  intro p e s m args below meth c s₁ B hml hv
  obtain ⟨rfl, hR, hK⟩ := hv
  have hx := B.exec
  have hb := B.bytes
  have hr := B.returns
  have hts : ∀ w ∈ lw_g, w.before [.ref a0, .ref a1].toArray s = true := fun w hw => atoms_spec (ws := wz yX0_unpaired cX0_unpaired 6 (some .int)) B.pre w (List.mem_cons_of_mem _ hw)
  have hown : s.vm.findClass RX0 = some m.cls := findClass_of_methodNamed B.named
  have hlocks := B.notSynchronized
  have C : Cx p s m [.ref a0, .ref a1].toArray meth c D dA RX0 cX0_unpaired 6 (some .int) := ⟨hx, hb, hr, hml, hown, hts, hK, hlocks⟩
  have hS : va_S A s.heap s.heap [] := va_S.rf
  have hl := lv_entry ([.ref a0, .ref a1]) (n := 6) (Nat.le_of_ble_eq_true rfl)
  rw [lg_entry_eq]
  generalize (lg_sl ([.ref a0, .ref a1]) ++ List.replicate (6 - (lg_sl ([.ref a0, .ref a1])).length) Slot.unset).toArray = ls at hl ⊢
  have hl : lv_has ls 6 [(0, .ref a0), (1, .ref a1)] := hl
  unfold fX0_unpaired at h
  show W p l e (rz 1 21) s m _ below meth c s.heap [] 0 0 _ _
  refine lv_iconst (v := 0) hx hb dX0_unpaired_0 (by decide) ?_
  refine lv_istore_n (lv' := [(2, .int 0), (0, .ref a0), (1, .ref a1)]) hx hb dX0_unpaired_1 rfl hl (by decide) rfl (fun ls hl => ?_)
  refine lv_iconst (v := 0) hx hb dX0_unpaired_2 (by decide) ?_
  refine lv_istore_n (lv' := [(3, .int 0), (2, .int 0), (0, .ref a0), (1, .ref a1)]) hx hb dX0_unpaired_3 rfl hl (by decide) rfl (fun ls hl => ?_)
  refine lv_iconst (v := 0) hx hb dX0_unpaired_4 (by decide) ?_
  refine lv_istore (lv' := [(4, .int 0), (3, .int 0), (2, .int 0), (0, .ref a0), (1, .ref a1)]) hx hb dX0_unpaired_5 hl (by decide) rfl (fun ls hl => ?_)
  exact qX0_unpaired_L7 C   1000 hR hS (lv_sub hl [3, 4, 2, 1, 0] rfl) h
def fX0_importsOf_b42 (w : Fw) (K4 : Nat → Int32 → Int32 → Int32 → Option (Int32)) (a0 : Nat) (x1 : Int32) (x2 : Int32) (x3 : Int32) : Option (Int32) := (K4 a0 x1 x2 (x3 + 1))
set_option maxRecDepth 100000 in
set_option maxHeartbeats 4000000 in
theorem qX0_importsOf_b42 {p : Program} {l : Launch} {e : Env} {s : State} {m : MethodId} {args : Array Value} {below : List Frame} {meth : Method} {c : Code} {D : va_G} {dA : Nat → ClassId} {A : Nat → Prop} (C : Cx p s m args meth c D dA RX0 cX0_importsOf 4 (some .int)) {w : Fw} {res : Int32} {K4 : Nat → Int32 → Int32 → Int32 → Option (Int32)} (hK4 : ∀ {H : Heap} {locs : List Loc} {ls : Array Slot} {a0 : Nat} {x1 : Int32} {x2 : Int32} {x3 : Int32}, Rp D dA A w H → va_S A s.heap H locs → lv_has ls 4 [(0, .ref a0), (1, .int x1), (2, .int x2), (3, .int x3)] → K4 a0 x1 x2 x3 = some res → W p l e (rz 1 21) s m args below meth c H locs 0 0 (MQ below (QzI D dA A res w) args s 0 0 A) (F0 m 4 ls [])) {H : Heap} {locs : List Loc} {ls : Array Slot} {a0 : Nat} {x1 : Int32} {x2 : Int32} {x3 : Int32} (hR : Rp D dA A w H) (hS : va_S A s.heap H locs) (hl : lv_has ls 4 [(0, .ref a0), (1, .int x1), (2, .int x2), (3, .int x3)]) (h : fX0_importsOf_b42 w K4 a0 x1 x2 x3 = some res) : W p l e (rz 1 21) s m args below meth c H locs 0 0 (MQ below (QzI D dA A res w) args s 0 0 A) (F0 m 42 ls []) := by
  obtain ⟨hx, hb, hr, hml, hown, hts, hK, hlocks⟩ := id C
  unfold fX0_importsOf_b42 at h
  refine lv_iinc (v := (x3 + 1)) (lv' := [(3, .int (x3 + 1)), (0, .ref a0), (1, .int x1), (2, .int x2)]) hx hb dX0_importsOf_42 hl (k := 3) rfl rfl (by decide) rfl (fun ls hl => ?_)
  refine lv_goto (tgt := 4) hx hb dX0_importsOf_45 (by decide) ?_
  exact hK4 hR hS (lv_sub hl [1, 2, 3, 0] rfl) h
def fX0_importsOf_L4 (w : Fw)  : Nat → Nat → Int32 → Int32 → Int32 → Option (Int32)
  | 0, _, _, _, _ => none
  | n + 1, a0, x1, x2, x3 => ((isO w a0 4).bind fun _ => ((fX4_size w a0).bind fun v1 => (if v1 ≤ x3 then some x2 else ((isO w a0 4).bind fun _ => ((fX4_kindAt w a0 x3).bind fun v2 => (if v2 = 5 then ((isO w a0 4).bind fun _ => ((fX4_numberAt w a0 x3).bind fun v3 => ((fX6_has w x1 (v3 - v3 / 6 * 6)).bind fun v4 => (if v4 = 0 then (fX0_importsOf_b42 w (fX0_importsOf_L4 w n) a0 x1 x2 x3) else (fX0_importsOf_b42 w (fX0_importsOf_L4 w n) a0 x1 (x2 ||| ((1 : Int32) <<< (x3 &&& 31))) x3))))) else (fX0_importsOf_b42 w (fX0_importsOf_L4 w n) a0 x1 x2 x3)))))))
set_option maxRecDepth 100000 in
set_option maxHeartbeats 4000000 in
theorem qX0_importsOf_L4 {p : Program} {l : Launch} {e : Env} {s : State} {m : MethodId} {args : Array Value} {below : List Frame} {meth : Method} {c : Code} {D : va_G} {dA : Nat → ClassId} {A : Nat → Prop} (C : Cx p s m args meth c D dA RX0 cX0_importsOf 4 (some .int)) {w : Fw} {res : Int32}   : ∀ (n : Nat) {H : Heap} {locs : List Loc} {ls : Array Slot} {a0 : Nat} {x1 : Int32} {x2 : Int32} {x3 : Int32}, Rp D dA A w H → va_S A s.heap H locs → lv_has ls 4 [(0, .ref a0), (1, .int x1), (2, .int x2), (3, .int x3)] → fX0_importsOf_L4 w n a0 x1 x2 x3 = some res → W p l e (rz 1 21) s m args below meth c H locs 0 0 (MQ below (QzI D dA A res w) args s 0 0 A) (F0 m 4 ls []) := by
  obtain ⟨hx, hb, hr, hml, hown, hts, hK, hlocks⟩ := id C
  intro n
  induction n with
  | zero =>
    intro H locs ls a0 x1 x2 x3 hR hS hl h
    rw [fX0_importsOf_L4.eq_1] at h
    cases h
  | succ n ih =>
    intro H locs ls a0 x1 x2 x3 hR hS hl h
    rw [fX0_importsOf_L4.eq_2] at h
    refine lv_iload_n hx hb dX0_importsOf_4 rfl (lv_at hl 3 rfl) ?_
    refine lv_aload_n hx hb dX0_importsOf_5 rfl (lv_at hl 0 rfl) ?_
    obtain ⟨_, eO, h⟩ := bd h
    obtain ⟨v1, e, h⟩ := bd h
    refine fx_vI (As := []) (rest := [.int x3]) hx hb hml hts hown hK hR hS eO (mX4_size l D dA A e) my_X4_size mv_X4_size rfl ml_X0_47 rfl hl.1 rfl (Nat.le_of_ble_eq_true rfl) dX0_importsOf_6 ⟨Nat.le_of_ble_eq_true rfl, Nat.le_of_ble_eq_true rfl⟩ ⟨Nat.le_refl _, Nat.le_refl _⟩ (fun H locs hR hS => ?_)
    refine lv_icmp_ge (tgt := 48) hx hb dX0_importsOf_9 (by decide) (fun c => ?_) (fun c => ?_)
    · have h := it c h
      refine lv_iload_n hx hb dX0_importsOf_48 rfl (lv_at hl 2 rfl) ?_
      exact fx_iret hx hb hr hlocks (Option.some.inj h) rfl hR hS dX0_importsOf_49
    · have h := ie c h
      refine lv_aload_n hx hb dX0_importsOf_12 rfl (lv_at hl 0 rfl) ?_
      refine lv_iload_n hx hb dX0_importsOf_13 rfl (lv_at hl 3 rfl) ?_
      obtain ⟨_, eO, h⟩ := bd h
      obtain ⟨v2, e, h⟩ := bd h
      refine fx_vI (As := [.int x3]) (rest := []) hx hb hml hts hown hK hR hS eO (mX4_kindAt l D dA A e) my_X4_kindAt mv_X4_kindAt rfl ml_X0_50 rfl hl.1 rfl (Nat.le_of_ble_eq_true rfl) dX0_importsOf_14 ⟨Nat.le_of_ble_eq_true rfl, Nat.le_of_ble_eq_true rfl⟩ ⟨Nat.le_refl _, Nat.le_refl _⟩ (fun H locs hR hS => ?_)
      refine lv_iconst (v := 5) hx hb dX0_importsOf_17 (by decide) ?_
      refine lv_icmp_ne (tgt := 42) hx hb dX0_importsOf_18 (by decide) (fun c => ?_) (fun c => ?_)
      · have h := ie c h
        exact qX0_importsOf_b42 C (K4 := fX0_importsOf_L4 w n) (hK4 := @ih) hR hS (lv_sub hl [0, 1, 2, 3] rfl) h
      · have h := it c h
        refine lv_iload_n hx hb dX0_importsOf_21 rfl (lv_at hl 1 rfl) ?_
        refine lv_aload_n hx hb dX0_importsOf_22 rfl (lv_at hl 0 rfl) ?_
        refine lv_iload_n hx hb dX0_importsOf_23 rfl (lv_at hl 3 rfl) ?_
        obtain ⟨_, eO, h⟩ := bd h
        obtain ⟨v3, e, h⟩ := bd h
        refine fx_vI (As := [.int x3]) (rest := [.int x1]) hx hb hml hts hown hK hR hS eO (mX4_numberAt l D dA A e) my_X4_numberAt mv_X4_numberAt rfl ml_X0_53 rfl hl.1 rfl (Nat.le_of_ble_eq_true rfl) dX0_importsOf_24 ⟨Nat.le_of_ble_eq_true rfl, Nat.le_of_ble_eq_true rfl⟩ ⟨Nat.le_refl _, Nat.le_refl _⟩ (fun H locs hR hS => ?_)
        refine lv_bipush (v := 6) hx hb dX0_importsOf_27 (by decide) ?_
        refine lv_irem hx hb dX0_importsOf_29 (by decide) ?_
        obtain ⟨v4, e, h⟩ := bd h
        refine fx_sN (As := [.int x1, .int (v3 - v3 / 6 * 6)]) (rest := []) hx hb hml hts hown hK hR hS (mX6_has l D dA A e) my_X6_has ms_X6_has hK.2.1 rfl hl.1 rfl (Nat.le_of_ble_eq_true rfl) dX0_importsOf_30 ⟨Nat.le_of_ble_eq_true rfl, Nat.le_of_ble_eq_true rfl⟩ ⟨Nat.le_refl _, Nat.le_refl _⟩ (fun H locs hR hS => ?_)
        refine lv_if_eq (tgt := 42) hx hb dX0_importsOf_33 (by decide) (fun c => ?_) (fun c => ?_)
        · have h := it c h
          exact qX0_importsOf_b42 C (K4 := fX0_importsOf_L4 w n) (hK4 := @ih) hR hS (lv_sub hl [0, 1, 2, 3] rfl) h
        · have h := ie c h
          refine lv_iload_n hx hb dX0_importsOf_36 rfl (lv_at hl 2 rfl) ?_
          refine lv_iconst (v := 1) hx hb dX0_importsOf_37 (by decide) ?_
          refine lv_iload_n hx hb dX0_importsOf_38 rfl (lv_at hl 3 rfl) ?_
          refine lv_ishl hx hb dX0_importsOf_39 ?_
          refine lv_ior hx hb dX0_importsOf_40 ?_
          refine lv_istore_n (lv' := [(2, .int (x2 ||| ((1 : Int32) <<< (x3 &&& 31)))), (0, .ref a0), (1, .int x1), (3, .int x3)]) hx hb dX0_importsOf_41 rfl hl (by decide) rfl (fun ls hl => ?_)
          exact qX0_importsOf_b42 C (K4 := fX0_importsOf_L4 w n) (hK4 := @ih) hR hS (lv_sub hl [1, 2, 0, 3] rfl) h
def fX0_importsOf (w : Fw) (a0 : Nat) (x1 : Int32) : Option (Int32) := (fX0_importsOf_L4 w 1000 a0 x1 0 0)
set_option maxRecDepth 100000 in
set_option maxHeartbeats 4000000 in
theorem mX0_importsOf (l : Launch) (D : va_G) (dA : Nat → ClassId) (A : Nat → Prop) {w : Fw} {a0 : Nat} {x1 : Int32} {res : Int32} (h : fX0_importsOf w a0 x1 = some res) : Met l yX0_importsOf (wz yX0_importsOf cX0_importsOf 4 (some .int)) (rz 1 21) (Pz D dA A w [.ref a0, .int x1]) (QzI D dA A res w) 0 0 A := by
  refine Met.ofW (cc := cX0_importsOf) (maxL := 4) (ret := (some .int)) (by decide) rfl ?_
  intro p e s m args below meth c s₁ B hml hv
  obtain ⟨rfl, hR, hK⟩ := hv
  have hx := B.exec
  have hb := B.bytes
  have hr := B.returns
  have hts : ∀ w ∈ lw_g, w.before [.ref a0, .int x1].toArray s = true := fun w hw => atoms_spec (ws := wz yX0_importsOf cX0_importsOf 4 (some .int)) B.pre w (List.mem_cons_of_mem _ hw)
  have hown : s.vm.findClass RX0 = some m.cls := findClass_of_methodNamed B.named
  have hlocks := B.notSynchronized
  have C : Cx p s m [.ref a0, .int x1].toArray meth c D dA RX0 cX0_importsOf 4 (some .int) := ⟨hx, hb, hr, hml, hown, hts, hK, hlocks⟩
  have hS : va_S A s.heap s.heap [] := va_S.rf
  have hl := lv_entry ([.ref a0, .int x1]) (n := 4) (Nat.le_of_ble_eq_true rfl)
  rw [lg_entry_eq]
  generalize (lg_sl ([.ref a0, .int x1]) ++ List.replicate (4 - (lg_sl ([.ref a0, .int x1])).length) Slot.unset).toArray = ls at hl ⊢
  have hl : lv_has ls 4 [(0, .ref a0), (1, .int x1)] := hl
  unfold fX0_importsOf at h
  show W p l e (rz 1 21) s m _ below meth c s.heap [] 0 0 _ _
  refine lv_iconst (v := 0) hx hb dX0_importsOf_0 (by decide) ?_
  refine lv_istore_n (lv' := [(2, .int 0), (0, .ref a0), (1, .int x1)]) hx hb dX0_importsOf_1 rfl hl (by decide) rfl (fun ls hl => ?_)
  refine lv_iconst (v := 0) hx hb dX0_importsOf_2 (by decide) ?_
  refine lv_istore_n (lv' := [(3, .int 0), (2, .int 0), (0, .ref a0), (1, .int x1)]) hx hb dX0_importsOf_3 rfl hl (by decide) rfl (fun ls hl => ?_)
  exact qX0_importsOf_L4 C   1000 hR hS (lv_sub hl [2, 3, 1, 0] rfl) h
def fX0_check_b87 (K36 : Fw → Nat → Nat → Int32 → Nat → Int32 → Int32 → Int32 → Int32 → Int32 → Option (Fw)) (w : Fw) (a0 : Nat) (a1 : Nat) (x3 : Int32) (a4 : Nat) (x5 : Int32) (x6 : Int32) (x7 : Int32) (x8 : Int32) (x9 : Int32) : Option (Fw) := (K36 w a0 a1 x3 a4 x5 x6 x7 x8 (x9 + 1))
set_option maxRecDepth 100000 in
set_option maxHeartbeats 4000000 in
theorem qX0_check_b87 {p : Program} {l : Launch} {e : Env} {s : State} {m : MethodId} {args : Array Value} {below : List Frame} {meth : Method} {c : Code} {D : va_G} {dA : Nat → ClassId} {A : Nat → Prop} (C : Cx p s m args meth c D dA RX0 cX0_check 11 none) {w : Fw} {res : Fw} {K36 : Fw → Nat → Nat → Int32 → Nat → Int32 → Int32 → Int32 → Int32 → Int32 → Option (Fw)} (hK36 : ∀ {w : Fw} {H : Heap} {locs : List Loc} {ls : Array Slot} {a0 : Nat} {a1 : Nat} {x3 : Int32} {a4 : Nat} {x5 : Int32} {x6 : Int32} {x7 : Int32} {x8 : Int32} {x9 : Int32}, Rp D dA A w H → va_S A s.heap H locs → lv_has ls 11 [(0, .ref a0), (1, .ref a1), (3, .int x3), (4, .ref a4), (5, .int x5), (6, .int x6), (7, .int x7), (8, .int x8), (9, .int x9)] → K36 w a0 a1 x3 a4 x5 x6 x7 x8 x9 = some res → W p l e (rz 2 46) s m args below meth c H locs 0 0 (MQ below (QzV D dA A res) args s 0 0 A) (F0 m 36 ls [])) {H : Heap} {locs : List Loc} {ls : Array Slot} {a0 : Nat} {a1 : Nat} {x3 : Int32} {a4 : Nat} {x5 : Int32} {x6 : Int32} {x7 : Int32} {x8 : Int32} {x9 : Int32} (hR : Rp D dA A w H) (hS : va_S A s.heap H locs) (hl : lv_has ls 11 [(0, .ref a0), (1, .ref a1), (3, .int x3), (4, .ref a4), (5, .int x5), (6, .int x6), (7, .int x7), (8, .int x8), (9, .int x9)]) (h : fX0_check_b87 K36 w a0 a1 x3 a4 x5 x6 x7 x8 x9 = some res) : W p l e (rz 2 46) s m args below meth c H locs 0 0 (MQ below (QzV D dA A res) args s 0 0 A) (F0 m 87 ls []) := by
  obtain ⟨hx, hb, hr, hml, hown, hts, hK, hlocks⟩ := id C
  unfold fX0_check_b87 at h
  refine lv_iinc (v := (x9 + 1)) (lv' := [(9, .int (x9 + 1)), (0, .ref a0), (1, .ref a1), (3, .int x3), (4, .ref a4), (5, .int x5), (6, .int x6), (7, .int x7), (8, .int x8)]) hx hb dX0_check_87 hl (k := 8) rfl rfl (by decide) rfl (fun ls hl => ?_)
  refine lv_goto (tgt := 36) hx hb dX0_check_90 (by decide) ?_
  exact hK36 hR hS (lv_sub hl [1, 2, 3, 4, 5, 6, 7, 8, 0] rfl) h
def fX0_check_b70 (K36 : Fw → Nat → Nat → Int32 → Nat → Int32 → Int32 → Int32 → Int32 → Int32 → Option (Fw)) (w : Fw) (a0 : Nat) (a1 : Nat) (x3 : Int32) (a4 : Nat) (x5 : Int32) (x6 : Int32) (x7 : Int32) (x8 : Int32) (x9 : Int32) (x10 : Int32) : Option (Fw) := if (x10 &&& x6) = 0 then (fX0_check_b87 K36 w a0 a1 x3 a4 x5 x6 x7 (x8 ||| ((1 : Int32) <<< (x9 &&& 31))) x9) else (fX0_check_b87 K36 w a0 a1 x3 a4 x5 x6 x7 x8 x9)
set_option maxRecDepth 100000 in
set_option maxHeartbeats 4000000 in
theorem qX0_check_b70 {p : Program} {l : Launch} {e : Env} {s : State} {m : MethodId} {args : Array Value} {below : List Frame} {meth : Method} {c : Code} {D : va_G} {dA : Nat → ClassId} {A : Nat → Prop} (C : Cx p s m args meth c D dA RX0 cX0_check 11 none) {w : Fw} {res : Fw} {K36 : Fw → Nat → Nat → Int32 → Nat → Int32 → Int32 → Int32 → Int32 → Int32 → Option (Fw)} (hK36 : ∀ {w : Fw} {H : Heap} {locs : List Loc} {ls : Array Slot} {a0 : Nat} {a1 : Nat} {x3 : Int32} {a4 : Nat} {x5 : Int32} {x6 : Int32} {x7 : Int32} {x8 : Int32} {x9 : Int32}, Rp D dA A w H → va_S A s.heap H locs → lv_has ls 11 [(0, .ref a0), (1, .ref a1), (3, .int x3), (4, .ref a4), (5, .int x5), (6, .int x6), (7, .int x7), (8, .int x8), (9, .int x9)] → K36 w a0 a1 x3 a4 x5 x6 x7 x8 x9 = some res → W p l e (rz 2 46) s m args below meth c H locs 0 0 (MQ below (QzV D dA A res) args s 0 0 A) (F0 m 36 ls [])) {H : Heap} {locs : List Loc} {ls : Array Slot} {a0 : Nat} {a1 : Nat} {x3 : Int32} {a4 : Nat} {x5 : Int32} {x6 : Int32} {x7 : Int32} {x8 : Int32} {x9 : Int32} {x10 : Int32} (hR : Rp D dA A w H) (hS : va_S A s.heap H locs) (hl : lv_has ls 11 [(0, .ref a0), (1, .ref a1), (3, .int x3), (4, .ref a4), (5, .int x5), (6, .int x6), (7, .int x7), (8, .int x8), (9, .int x9), (10, .int x10)]) (h : fX0_check_b70 K36 w a0 a1 x3 a4 x5 x6 x7 x8 x9 x10 = some res) : W p l e (rz 2 46) s m args below meth c H locs 0 0 (MQ below (QzV D dA A res) args s 0 0 A) (F0 m 70 ls []) := by
  obtain ⟨hx, hb, hr, hml, hown, hts, hK, hlocks⟩ := id C
  unfold fX0_check_b70 at h
  refine lv_iload hx hb dX0_check_70 (lv_at hl 9 rfl) ?_
  refine lv_iload hx hb dX0_check_72 (lv_at hl 5 rfl) ?_
  refine lv_iand hx hb dX0_check_74 ?_
  refine lv_if_ne (tgt := 87) hx hb dX0_check_75 (by decide) (fun c => ?_) (fun c => ?_)
  · have h := ie c h
    exact qX0_check_b87 C (K36 := K36) (hK36 := @hK36) hR hS (lv_sub hl [0, 1, 2, 3, 4, 5, 6, 7, 8] rfl) h
  · have h := it c h
    refine lv_iload hx hb dX0_check_78 (lv_at hl 7 rfl) ?_
    refine lv_iconst (v := 1) hx hb dX0_check_80 (by decide) ?_
    refine lv_iload hx hb dX0_check_81 (lv_at hl 8 rfl) ?_
    refine lv_ishl hx hb dX0_check_83 ?_
    refine lv_ior hx hb dX0_check_84 ?_
    refine lv_istore (lv' := [(8, .int (x8 ||| ((1 : Int32) <<< (x9 &&& 31)))), (0, .ref a0), (1, .ref a1), (3, .int x3), (4, .ref a4), (5, .int x5), (6, .int x6), (7, .int x7), (9, .int x9), (10, .int x10)]) hx hb dX0_check_85 hl (by decide) rfl (fun ls hl => ?_)
    exact qX0_check_b87 C (K36 := K36) (hK36 := @hK36) hR hS (lv_sub hl [1, 2, 3, 4, 5, 6, 7, 0, 8] rfl) h
def fX0_check_L36  : Nat → Fw → Nat → Nat → Int32 → Nat → Int32 → Int32 → Int32 → Int32 → Int32 → Option (Fw)
  | 0, _, _, _, _, _, _, _, _, _, _ => none
  | n + 1, w, a0, a1, x3, a4, x5, x6, x7, x8, x9 => if 6 ≤ x9 then ((gR w a0 0 0).bind fun r1 => ((fX0_linesWith w a4 2 (x5 ^^^ (-1))).bind fun v2 => ((sI w r1 0 v2).bind fun w3 => ((gR w3 a0 0 0).bind fun r4 => ((fX0_repeatedDefs w3 a4).bind fun v5 => ((sI w3 r4 1 v5).bind fun w6 => ((gR w6 a0 0 0).bind fun r7 => ((isO w6 a0 0).bind fun _ => ((fX0_unpaired w6 a0 a4).bind fun t8 => ((sI t8.2 r7 2 t8.1).bind fun w9 => ((gR w9 a0 0 0).bind fun r10 => ((fX0_linesWith w9 a4 0 x3).bind fun v11 => ((sI w9 r10 3 v11).bind fun w12 => ((gR w12 a0 0 0).bind fun r13 => ((fX0_importsOf w12 a4 x8).bind fun v14 => ((sI w12 r13 4 v14).bind fun w15 => some w15)))))))))))))))) else ((lR w 0 a1 x9).bind fun r16 => ((isO w r16 4).bind fun _ => ((fX4_numbersOf w r16 1).bind fun v17 => ((fX6_has w x7 x9).bind fun v18 => (if v18 = 0 then (fX0_check_b70 (fX0_check_L36  n) w a0 a1 x3 a4 x5 x6 x7 x8 x9 v17) else (fX0_check_b70 (fX0_check_L36  n) w a0 a1 x3 a4 (x5 ||| v17) x6 x7 x8 x9 v17))))))
set_option maxRecDepth 100000 in
set_option maxHeartbeats 4000000 in
theorem qX0_check_L36 {p : Program} {l : Launch} {e : Env} {s : State} {m : MethodId} {args : Array Value} {below : List Frame} {meth : Method} {c : Code} {D : va_G} {dA : Nat → ClassId} {A : Nat → Prop} (C : Cx p s m args meth c D dA RX0 cX0_check 11 none) {res : Fw}   : ∀ (n : Nat) {w : Fw} {H : Heap} {locs : List Loc} {ls : Array Slot} {a0 : Nat} {a1 : Nat} {x3 : Int32} {a4 : Nat} {x5 : Int32} {x6 : Int32} {x7 : Int32} {x8 : Int32} {x9 : Int32}, Rp D dA A w H → va_S A s.heap H locs → lv_has ls 11 [(0, .ref a0), (1, .ref a1), (3, .int x3), (4, .ref a4), (5, .int x5), (6, .int x6), (7, .int x7), (8, .int x8), (9, .int x9)] → fX0_check_L36 n w a0 a1 x3 a4 x5 x6 x7 x8 x9 = some res → W p l e (rz 2 46) s m args below meth c H locs 0 0 (MQ below (QzV D dA A res) args s 0 0 A) (F0 m 36 ls []) := by
  obtain ⟨hx, hb, hr, hml, hown, hts, hK, hlocks⟩ := id C
  intro n
  induction n with
  | zero =>
    intro w H locs ls a0 a1 x3 a4 x5 x6 x7 x8 x9 hR hS hl h
    rw [fX0_check_L36.eq_1] at h
    cases h
  | succ n ih =>
    intro w H locs ls a0 a1 x3 a4 x5 x6 x7 x8 x9 hR hS hl h
    rw [fX0_check_L36.eq_2] at h
    refine lv_iload hx hb dX0_check_36 (lv_at hl 8 rfl) ?_
    refine lv_bipush (v := 6) hx hb dX0_check_38 (by decide) ?_
    refine lv_icmp_ge (tgt := 93) hx hb dX0_check_40 (by decide) (fun c => ?_) (fun c => ?_)
    · have h := it c h
      refine lv_aload_n hx hb dX0_check_93 rfl (lv_at hl 0 rfl) ?_
      obtain ⟨r1, e, h⟩ := bd h
      refine fx_gR hx hb hts hown hK hR fl_X0_9 e dX0_check_94 ?_
      refine lv_iconst (v := 0) hx hb dX0_check_97 (by decide) ?_
      refine lv_aload hx hb dX0_check_98 (lv_at hl 3 rfl) ?_
      refine lv_iconst (v := 2) hx hb dX0_check_100 (by decide) ?_
      refine lv_iload hx hb dX0_check_101 (lv_at hl 4 rfl) ?_
      refine lv_iconst (v := (-1)) hx hb dX0_check_103 (by decide) ?_
      refine lv_ixor hx hb dX0_check_104 ?_
      obtain ⟨v2, e, h⟩ := bd h
      refine fx_sI' (As := [.ref a4, .int 2, .int (x5 ^^^ (-1))]) (rest := [.int 0, .ref r1]) hx hb hml hts hown hK hR hS (mX0_linesWith l D dA A e) my_X0_linesWith ms_X0_linesWith ml_X0_32 rfl hl.1 rfl (Nat.le_of_ble_eq_true rfl) dX0_check_105 ⟨Nat.le_of_ble_eq_true rfl, Nat.le_of_ble_eq_true rfl⟩ ⟨Nat.le_refl _, Nat.le_refl _⟩ (fun H locs hR hS => ?_)
      obtain ⟨w3, e, h⟩ := bd h
      refine fx_sI hx hb hK hR hS e dX0_check_108 (fun H locs hR hS => ?_)
      refine lv_aload_n hx hb dX0_check_109 rfl (lv_at hl 0 rfl) ?_
      obtain ⟨r4, e, h⟩ := bd h
      refine fx_gR hx hb hts hown hK hR fl_X0_9 e dX0_check_110 ?_
      refine lv_iconst (v := 1) hx hb dX0_check_113 (by decide) ?_
      refine lv_aload hx hb dX0_check_114 (lv_at hl 3 rfl) ?_
      obtain ⟨v5, e, h⟩ := bd h
      refine fx_sI' (As := [.ref a4]) (rest := [.int 1, .ref r4]) hx hb hml hts hown hK hR hS (mX0_repeatedDefs l D dA A e) my_X0_repeatedDefs ms_X0_repeatedDefs ml_X0_36 rfl hl.1 rfl (Nat.le_of_ble_eq_true rfl) dX0_check_116 ⟨Nat.le_of_ble_eq_true rfl, Nat.le_of_ble_eq_true rfl⟩ ⟨Nat.le_refl _, Nat.le_refl _⟩ (fun H locs hR hS => ?_)
      obtain ⟨w6, e, h⟩ := bd h
      refine fx_sI hx hb hK hR hS e dX0_check_119 (fun H locs hR hS => ?_)
      refine lv_aload_n hx hb dX0_check_120 rfl (lv_at hl 0 rfl) ?_
      obtain ⟨r7, e, h⟩ := bd h
      refine fx_gR hx hb hts hown hK hR fl_X0_9 e dX0_check_121 ?_
      refine lv_iconst (v := 2) hx hb dX0_check_124 (by decide) ?_
      refine lv_aload_n hx hb dX0_check_125 rfl (lv_at hl 0 rfl) ?_
      refine lv_aload hx hb dX0_check_126 (lv_at hl 3 rfl) ?_
      obtain ⟨_, eO, h⟩ := bd h
      obtain ⟨t8, e, h⟩ := bd h
      refine fx_vI (As := [.ref a4]) (rest := [.int 2, .ref r7]) hx hb hml hts hown hK hR hS eO (mX0_unpaired l D dA A e) my_X0_unpaired mv_X0_unpaired rfl ml_X0_40 rfl hl.1 rfl (Nat.le_of_ble_eq_true rfl) dX0_check_128 ⟨Nat.le_of_ble_eq_true rfl, Nat.le_of_ble_eq_true rfl⟩ ⟨Nat.le_refl _, Nat.le_refl _⟩ (fun H locs hR hS => ?_)
      obtain ⟨w9, e, h⟩ := bd h
      refine fx_sI hx hb hK hR hS e dX0_check_131 (fun H locs hR hS => ?_)
      refine lv_aload_n hx hb dX0_check_132 rfl (lv_at hl 0 rfl) ?_
      obtain ⟨r10, e, h⟩ := bd h
      refine fx_gR hx hb hts hown hK hR fl_X0_9 e dX0_check_133 ?_
      refine lv_iconst (v := 3) hx hb dX0_check_136 (by decide) ?_
      refine lv_aload hx hb dX0_check_137 (lv_at hl 3 rfl) ?_
      refine lv_iconst (v := 0) hx hb dX0_check_139 (by decide) ?_
      refine lv_iload_n hx hb dX0_check_140 rfl (lv_at hl 2 rfl) ?_
      obtain ⟨v11, e, h⟩ := bd h
      refine fx_sI' (As := [.ref a4, .int 0, .int x3]) (rest := [.int 3, .ref r10]) hx hb hml hts hown hK hR hS (mX0_linesWith l D dA A e) my_X0_linesWith ms_X0_linesWith ml_X0_32 rfl hl.1 rfl (Nat.le_of_ble_eq_true rfl) dX0_check_141 ⟨Nat.le_of_ble_eq_true rfl, Nat.le_of_ble_eq_true rfl⟩ ⟨Nat.le_refl _, Nat.le_refl _⟩ (fun H locs hR hS => ?_)
      obtain ⟨w12, e, h⟩ := bd h
      refine fx_sI hx hb hK hR hS e dX0_check_144 (fun H locs hR hS => ?_)
      refine lv_aload_n hx hb dX0_check_145 rfl (lv_at hl 0 rfl) ?_
      obtain ⟨r13, e, h⟩ := bd h
      refine fx_gR hx hb hts hown hK hR fl_X0_9 e dX0_check_146 ?_
      refine lv_iconst (v := 4) hx hb dX0_check_149 (by decide) ?_
      refine lv_aload hx hb dX0_check_150 (lv_at hl 3 rfl) ?_
      refine lv_iload hx hb dX0_check_152 (lv_at hl 7 rfl) ?_
      obtain ⟨v14, e, h⟩ := bd h
      refine fx_sI' (As := [.ref a4, .int x8]) (rest := [.int 4, .ref r13]) hx hb hml hts hown hK hR hS (mX0_importsOf l D dA A e) my_X0_importsOf ms_X0_importsOf ml_X0_43 rfl hl.1 rfl (Nat.le_of_ble_eq_true rfl) dX0_check_154 ⟨Nat.le_of_ble_eq_true rfl, Nat.le_of_ble_eq_true rfl⟩ ⟨Nat.le_refl _, Nat.le_refl _⟩ (fun H locs hR hS => ?_)
      obtain ⟨w15, e, h⟩ := bd h
      refine fx_sI hx hb hK hR hS e dX0_check_157 (fun H locs hR hS => ?_)
      exact fx_vret hx hb hr hlocks (Option.some.inj h) hR hS dX0_check_158
    · have h := ie c h
      refine lv_aload_n hx hb dX0_check_43 rfl (lv_at hl 1 rfl) ?_
      refine lv_iload hx hb dX0_check_44 (lv_at hl 8 rfl) ?_
      obtain ⟨r16, e, h⟩ := bd h
      refine fx_lR hx hb hK hR (kd := 0) rfl rfl e dX0_check_46 ?_
      refine lv_iconst (v := 1) hx hb dX0_check_47 (by decide) ?_
      obtain ⟨_, eO, h⟩ := bd h
      obtain ⟨v17, e, h⟩ := bd h
      refine fx_vI (As := [.int 1]) (rest := []) hx hb hml hts hown hK hR hS eO (mX4_numbersOf l D dA A e) my_X4_numbersOf mv_X4_numbersOf rfl ml_X0_18 rfl hl.1 rfl (Nat.le_of_ble_eq_true rfl) dX0_check_48 ⟨Nat.le_of_ble_eq_true rfl, Nat.le_of_ble_eq_true rfl⟩ ⟨Nat.le_refl _, Nat.le_refl _⟩ (fun H locs hR hS => ?_)
      refine lv_istore (lv' := [(10, .int v17), (0, .ref a0), (1, .ref a1), (3, .int x3), (4, .ref a4), (5, .int x5), (6, .int x6), (7, .int x7), (8, .int x8), (9, .int x9)]) hx hb dX0_check_51 hl (by decide) rfl (fun ls hl => ?_)
      refine lv_iload hx hb dX0_check_53 (lv_at hl 7 rfl) ?_
      refine lv_iload hx hb dX0_check_55 (lv_at hl 9 rfl) ?_
      obtain ⟨v18, e, h⟩ := bd h
      refine fx_sN (As := [.int x7, .int x9]) (rest := []) hx hb hml hts hown hK hR hS (mX6_has l D dA A e) my_X6_has ms_X6_has hK.2.1 rfl hl.1 rfl (Nat.le_of_ble_eq_true rfl) dX0_check_57 ⟨Nat.le_of_ble_eq_true rfl, Nat.le_of_ble_eq_true rfl⟩ ⟨Nat.le_refl _, Nat.le_refl _⟩ (fun H locs hR hS => ?_)
      refine lv_if_eq (tgt := 70) hx hb dX0_check_60 (by decide) (fun c => ?_) (fun c => ?_)
      · have h := it c h
        exact qX0_check_b70 C (K36 := fX0_check_L36  n) (hK36 := @ih) hR hS (lv_sub hl [1, 2, 3, 4, 5, 6, 7, 8, 9, 0] rfl) h
      · have h := ie c h
        refine lv_iload hx hb dX0_check_63 (lv_at hl 5 rfl) ?_
        refine lv_iload hx hb dX0_check_65 (lv_at hl 0 rfl) ?_
        refine lv_ior hx hb dX0_check_67 ?_
        refine lv_istore (lv' := [(5, .int (x5 ||| v17)), (10, .int v17), (0, .ref a0), (1, .ref a1), (3, .int x3), (4, .ref a4), (6, .int x6), (7, .int x7), (8, .int x8), (9, .int x9)]) hx hb dX0_check_68 hl (by decide) rfl (fun ls hl => ?_)
        exact qX0_check_b70 C (K36 := fX0_check_L36  n) (hK36 := @ih) hR hS (lv_sub hl [2, 3, 4, 5, 0, 6, 7, 8, 9, 1] rfl) h
def fX0_check (w : Fw) (a0 : Nat) (a1 : Nat) (x2 : Int32) (x3 : Int32) : Option (Fw) := ((lR w 0 a1 x2).bind fun r19 => ((isO w r19 4).bind fun _ => ((fX4_numbersOf w r19 1).bind fun v20 => ((isO w r19 4).bind fun _ => ((fX4_numbersOf w r19 2).bind fun v21 => ((isO w r19 4).bind fun _ => ((fX4_importedFiles w r19).bind fun v22 => (fX0_check_L36 1000 w a0 a1 x3 r19 v20 v21 v22 ((1 : Int32) <<< (x2 &&& 31)) 0))))))))
set_option maxRecDepth 100000 in
set_option maxHeartbeats 4000000 in
theorem mX0_check (l : Launch) (D : va_G) (dA : Nat → ClassId) (A : Nat → Prop) {w : Fw} {a0 : Nat} {a1 : Nat} {x2 : Int32} {x3 : Int32} {res : Fw} (h : fX0_check w a0 a1 x2 x3 = some res) : Met l yX0_check (wz yX0_check cX0_check 11 none) (rz 2 46) (Pz D dA A w [.ref a0, .ref a1, .int x2, .int x3]) (QzV D dA A res) 0 0 A := by
  refine Met.ofW (cc := cX0_check) (maxL := 11) (ret := none) (by decide) rfl ?_
  intro p e s m args below meth c s₁ B hml hv
  obtain ⟨rfl, hR, hK⟩ := hv
  have hx := B.exec
  have hb := B.bytes
  have hr := B.returns
  have hts : ∀ w ∈ lw_g, w.before [.ref a0, .ref a1, .int x2, .int x3].toArray s = true := fun w hw => atoms_spec (ws := wz yX0_check cX0_check 11 none) B.pre w (List.mem_cons_of_mem _ hw)
  have hown : s.vm.findClass RX0 = some m.cls := findClass_of_methodNamed B.named
  have hlocks := B.notSynchronized
  have C : Cx p s m [.ref a0, .ref a1, .int x2, .int x3].toArray meth c D dA RX0 cX0_check 11 none := ⟨hx, hb, hr, hml, hown, hts, hK, hlocks⟩
  have hS : va_S A s.heap s.heap [] := va_S.rf
  have hl := lv_entry ([.ref a0, .ref a1, .int x2, .int x3]) (n := 11) (Nat.le_of_ble_eq_true rfl)
  rw [lg_entry_eq]
  generalize (lg_sl ([.ref a0, .ref a1, .int x2, .int x3]) ++ List.replicate (11 - (lg_sl ([.ref a0, .ref a1, .int x2, .int x3])).length) Slot.unset).toArray = ls at hl ⊢
  have hl : lv_has ls 11 [(0, .ref a0), (1, .ref a1), (2, .int x2), (3, .int x3)] := hl
  unfold fX0_check at h
  show W p l e (rz 2 46) s m _ below meth c s.heap [] 0 0 _ _
  refine lv_aload_n hx hb dX0_check_0 rfl (lv_at hl 1 rfl) ?_
  refine lv_iload_n hx hb dX0_check_1 rfl (lv_at hl 2 rfl) ?_
  obtain ⟨r19, e, h⟩ := bd h
  refine fx_lR hx hb hK hR (kd := 0) rfl rfl e dX0_check_2 ?_
  refine lv_astore (lv' := [(4, .ref r19), (0, .ref a0), (1, .ref a1), (2, .int x2), (3, .int x3)]) hx hb dX0_check_3 hl (by decide) rfl (fun ls hl => ?_)
  refine lv_aload hx hb dX0_check_5 (lv_at hl 0 rfl) ?_
  refine lv_iconst (v := 1) hx hb dX0_check_7 (by decide) ?_
  obtain ⟨_, eO, h⟩ := bd h
  obtain ⟨v20, e, h⟩ := bd h
  refine fx_vI (As := [.int 1]) (rest := []) hx hb hml hts hown hK hR hS eO (mX4_numbersOf l D dA A e) my_X4_numbersOf mv_X4_numbersOf rfl ml_X0_18 rfl hl.1 rfl (Nat.le_of_ble_eq_true rfl) dX0_check_8 ⟨Nat.le_of_ble_eq_true rfl, Nat.le_of_ble_eq_true rfl⟩ ⟨Nat.le_refl _, Nat.le_refl _⟩ (fun H locs hR hS => ?_)
  refine lv_istore (lv' := [(5, .int v20), (4, .ref r19), (0, .ref a0), (1, .ref a1), (2, .int x2), (3, .int x3)]) hx hb dX0_check_11 hl (by decide) rfl (fun ls hl => ?_)
  refine lv_aload hx hb dX0_check_13 (lv_at hl 1 rfl) ?_
  refine lv_iconst (v := 2) hx hb dX0_check_15 (by decide) ?_
  obtain ⟨_, eO, h⟩ := bd h
  obtain ⟨v21, e, h⟩ := bd h
  refine fx_vI (As := [.int 2]) (rest := []) hx hb hml hts hown hK hR hS eO (mX4_numbersOf l D dA A e) my_X4_numbersOf mv_X4_numbersOf rfl ml_X0_18 rfl hl.1 rfl (Nat.le_of_ble_eq_true rfl) dX0_check_16 ⟨Nat.le_of_ble_eq_true rfl, Nat.le_of_ble_eq_true rfl⟩ ⟨Nat.le_refl _, Nat.le_refl _⟩ (fun H locs hR hS => ?_)
  refine lv_istore (lv' := [(6, .int v21), (5, .int v20), (4, .ref r19), (0, .ref a0), (1, .ref a1), (2, .int x2), (3, .int x3)]) hx hb dX0_check_19 hl (by decide) rfl (fun ls hl => ?_)
  refine lv_aload hx hb dX0_check_21 (lv_at hl 2 rfl) ?_
  obtain ⟨_, eO, h⟩ := bd h
  obtain ⟨v22, e, h⟩ := bd h
  refine fx_vI (As := []) (rest := []) hx hb hml hts hown hK hR hS eO (mX4_importedFiles l D dA A e) my_X4_importedFiles mv_X4_importedFiles rfl ml_X0_24 rfl hl.1 rfl (Nat.le_of_ble_eq_true rfl) dX0_check_23 ⟨Nat.le_of_ble_eq_true rfl, Nat.le_of_ble_eq_true rfl⟩ ⟨Nat.le_refl _, Nat.le_refl _⟩ (fun H locs hR hS => ?_)
  refine lv_istore (lv' := [(7, .int v22), (6, .int v21), (5, .int v20), (4, .ref r19), (0, .ref a0), (1, .ref a1), (2, .int x2), (3, .int x3)]) hx hb dX0_check_26 hl (by decide) rfl (fun ls hl => ?_)
  refine lv_iconst (v := 1) hx hb dX0_check_28 (by decide) ?_
  refine lv_iload_n hx hb dX0_check_29 rfl (lv_at hl 6 rfl) ?_
  refine lv_ishl hx hb dX0_check_30 ?_
  refine lv_istore (lv' := [(8, .int ((1 : Int32) <<< (x2 &&& 31))), (7, .int v22), (6, .int v21), (5, .int v20), (4, .ref r19), (0, .ref a0), (1, .ref a1), (2, .int x2), (3, .int x3)]) hx hb dX0_check_31 hl (by decide) rfl (fun ls hl => ?_)
  refine lv_iconst (v := 0) hx hb dX0_check_33 (by decide) ?_
  refine lv_istore (lv' := [(9, .int 0), (8, .int ((1 : Int32) <<< (x2 &&& 31))), (7, .int v22), (6, .int v21), (5, .int v20), (4, .ref r19), (0, .ref a0), (1, .ref a1), (2, .int x2), (3, .int x3)]) hx hb dX0_check_34 hl (by decide) rfl (fun ls hl => ?_)
  exact qX0_check_L36 C   1000 hR hS (lv_sub hl [6, 7, 9, 5, 4, 3, 2, 1, 0] rfl) h
def fX0_linesOf (w : Fw) (a0 : Nat) (x1 : Int32) : Option (Int32) := ((gR w a0 0 0).bind fun r1 => ((lI w r1 x1).bind fun v2 => some v2))
set_option maxRecDepth 100000 in
set_option maxHeartbeats 4000000 in
theorem mX0_linesOf (l : Launch) (D : va_G) (dA : Nat → ClassId) (A : Nat → Prop) {w : Fw} {a0 : Nat} {x1 : Int32} {res : Int32} (h : fX0_linesOf w a0 x1 = some res) : Met l yX0_linesOf (wz yX0_linesOf cX0_linesOf 2 (some .int)) (rz 0 0) (Pz D dA A w [.ref a0, .int x1]) (QzI D dA A res w) 0 0 A := by
  refine Met.ofW (cc := cX0_linesOf) (maxL := 2) (ret := (some .int)) (by decide) rfl ?_
  intro p e s m args below meth c s₁ B hml hv
  obtain ⟨rfl, hR, hK⟩ := hv
  have hx := B.exec
  have hb := B.bytes
  have hr := B.returns
  have hts : ∀ w ∈ lw_g, w.before [.ref a0, .int x1].toArray s = true := fun w hw => atoms_spec (ws := wz yX0_linesOf cX0_linesOf 2 (some .int)) B.pre w (List.mem_cons_of_mem _ hw)
  have hown : s.vm.findClass RX0 = some m.cls := findClass_of_methodNamed B.named
  have hlocks := B.notSynchronized
  have C : Cx p s m [.ref a0, .int x1].toArray meth c D dA RX0 cX0_linesOf 2 (some .int) := ⟨hx, hb, hr, hml, hown, hts, hK, hlocks⟩
  have hS : va_S A s.heap s.heap [] := va_S.rf
  have hl := lv_entry ([.ref a0, .int x1]) (n := 2) (Nat.le_of_ble_eq_true rfl)
  rw [lg_entry_eq]
  generalize (lg_sl ([.ref a0, .int x1]) ++ List.replicate (2 - (lg_sl ([.ref a0, .int x1])).length) Slot.unset).toArray = ls at hl ⊢
  have hl : lv_has ls 2 [(0, .ref a0), (1, .int x1)] := hl
  unfold fX0_linesOf at h
  show W p l e (rz 0 0) s m _ below meth c s.heap [] 0 0 _ _
  refine lv_aload_n hx hb dX0_linesOf_0 rfl (lv_at hl 0 rfl) ?_
  obtain ⟨r1, e, h⟩ := bd h
  refine fx_gR hx hb hts hown hK hR fl_X0_9 e dX0_linesOf_1 ?_
  refine lv_iload_n hx hb dX0_linesOf_4 rfl (lv_at hl 1 rfl) ?_
  obtain ⟨v2, e, h⟩ := bd h
  refine fx_lI hx hb hK hR e dX0_linesOf_5 ?_
  exact fx_iret hx hb hr hlocks (Option.some.inj h) rfl hR hS dX0_linesOf_6
end
