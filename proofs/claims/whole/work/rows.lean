section
-- ===== PART A: goes FIRST, ahead of the names: the tables' words, and 'selects' of the private methods out of them =====
/-- a private method of a class that the tables say can be made, by its rows of tables_1 -/
def lw_okq (q : MethodName × Nat) : Prop := (q.1.cls ≠ "java/lang/invoke/MethodHandle" ∧ q.1.cls ≠ "java/lang/invoke/VarHandle") ∧ Cond.instantiable q.1.cls q.2 ∈ tables_1 ∧ Cond.privateMethod q.1 ∈ tables_1 ∧ Cond.instanceMethod q.1 ∈ tables_1
theorem lw_p0 : lw_okq (⟨"OakDeedsModel", "isStone", "(I)Z"⟩, 41) := ⟨⟨by decide +kernel, by decide +kernel⟩, List.mem_of_getElem? (i := 970) (by decide +kernel), List.mem_of_getElem? (i := 1118) (by decide +kernel), List.mem_of_getElem? (i := 1119) (by decide +kernel)⟩
theorem lw_p1 : lw_okq (⟨"OakDeedsModel", "isDeed", "(I)Z"⟩, 41) := ⟨⟨by decide +kernel, by decide +kernel⟩, List.mem_of_getElem? (i := 970) (by decide +kernel), List.mem_of_getElem? (i := 1140) (by decide +kernel), List.mem_of_getElem? (i := 1141) (by decide +kernel)⟩
theorem lw_p2 : lw_okq (⟨"OakDeedsModel", "of", "(II)I"⟩, 41) := ⟨⟨by decide +kernel, by decide +kernel⟩, List.mem_of_getElem? (i := 970) (by decide +kernel), List.mem_of_getElem? (i := 1144) (by decide +kernel), List.mem_of_getElem? (i := 1145) (by decide +kernel)⟩
theorem lw_p3 : lw_okq (⟨"OakDeedsModel", "needleOf", "(I)I"⟩, 41) := ⟨⟨by decide +kernel, by decide +kernel⟩, List.mem_of_getElem? (i := 970) (by decide +kernel), List.mem_of_getElem? (i := 1148) (by decide +kernel), List.mem_of_getElem? (i := 1149) (by decide +kernel)⟩
theorem lw_p4 : lw_okq (⟨"OakDeedsModel", "counts", "(I)I"⟩, 41) := ⟨⟨by decide +kernel, by decide +kernel⟩, List.mem_of_getElem? (i := 970) (by decide +kernel), List.mem_of_getElem? (i := 1152) (by decide +kernel), List.mem_of_getElem? (i := 1153) (by decide +kernel)⟩
theorem lw_p5 : lw_okq (⟨"OakDeedsModel", "worksOut", "(I)I"⟩, 41) := ⟨⟨by decide +kernel, by decide +kernel⟩, List.mem_of_getElem? (i := 970) (by decide +kernel), List.mem_of_getElem? (i := 1156) (by decide +kernel), List.mem_of_getElem? (i := 1157) (by decide +kernel)⟩
theorem lw_p6 : lw_okq (⟨"OakDeedsModel", "chainOf", "(I)I"⟩, 41) := ⟨⟨by decide +kernel, by decide +kernel⟩, List.mem_of_getElem? (i := 970) (by decide +kernel), List.mem_of_getElem? (i := 1163) (by decide +kernel), List.mem_of_getElem? (i := 1164) (by decide +kernel)⟩
theorem lw_p7 : lw_okq (⟨"OakDeedsModel", "rankOf", "(I)I"⟩, 41) := ⟨⟨by decide +kernel, by decide +kernel⟩, List.mem_of_getElem? (i := 970) (by decide +kernel), List.mem_of_getElem? (i := 1170) (by decide +kernel), List.mem_of_getElem? (i := 1171) (by decide +kernel)⟩
theorem lw_p8 : lw_okq (⟨"OakDeedsModel", "comes", "(IIII)I"⟩, 41) := ⟨⟨by decide +kernel, by decide +kernel⟩, List.mem_of_getElem? (i := 970) (by decide +kernel), List.mem_of_getElem? (i := 1185) (by decide +kernel), List.mem_of_getElem? (i := 1186) (by decide +kernel)⟩
theorem lw_p9 : lw_okq (⟨"OakDeedsModel", "isCall", "(II)Z"⟩, 41) := ⟨⟨by decide +kernel, by decide +kernel⟩, List.mem_of_getElem? (i := 970) (by decide +kernel), List.mem_of_getElem? (i := 1193) (by decide +kernel), List.mem_of_getElem? (i := 1194) (by decide +kernel)⟩
theorem lw_p10 : lw_okq (⟨"OakDeedsModel", "callOf", "(III)I"⟩, 41) := ⟨⟨by decide +kernel, by decide +kernel⟩, List.mem_of_getElem? (i := 970) (by decide +kernel), List.mem_of_getElem? (i := 1197) (by decide +kernel), List.mem_of_getElem? (i := 1198) (by decide +kernel)⟩
theorem lw_p11 : lw_okq (⟨"OakDeedsModel", "worthOf", "(II)I"⟩, 41) := ⟨⟨by decide +kernel, by decide +kernel⟩, List.mem_of_getElem? (i := 970) (by decide +kernel), List.mem_of_getElem? (i := 1204) (by decide +kernel), List.mem_of_getElem? (i := 1205) (by decide +kernel)⟩
theorem lw_p12 : lw_okq (⟨"OakDeedsModel", "draw", "()I"⟩, 41) := ⟨⟨by decide +kernel, by decide +kernel⟩, List.mem_of_getElem? (i := 970) (by decide +kernel), List.mem_of_getElem? (i := 1228) (by decide +kernel), List.mem_of_getElem? (i := 1229) (by decide +kernel)⟩
theorem lw_p13 : lw_okq (⟨"OakDeedsModel", "findCorners", "(I)I"⟩, 41) := ⟨⟨by decide +kernel, by decide +kernel⟩, List.mem_of_getElem? (i := 970) (by decide +kernel), List.mem_of_getElem? (i := 1241) (by decide +kernel), List.mem_of_getElem? (i := 1242) (by decide +kernel)⟩
theorem lw_p14 : lw_okq (⟨"OakDeedsModel", "takeCalls", "(I)V"⟩, 41) := ⟨⟨by decide +kernel, by decide +kernel⟩, List.mem_of_getElem? (i := 970) (by decide +kernel), List.mem_of_getElem? (i := 1245) (by decide +kernel), List.mem_of_getElem? (i := 1246) (by decide +kernel)⟩
theorem lw_p15 : lw_okq (⟨"OakDeedsModel", "walks", "(III)I"⟩, 41) := ⟨⟨by decide +kernel, by decide +kernel⟩, List.mem_of_getElem? (i := 970) (by decide +kernel), List.mem_of_getElem? (i := 1249) (by decide +kernel), List.mem_of_getElem? (i := 1250) (by decide +kernel)⟩
def lw_privs_1 : List (MethodName × Nat) := [(⟨"OakDeedsModel", "isStone", "(I)Z"⟩, 41), (⟨"OakDeedsModel", "isDeed", "(I)Z"⟩, 41), (⟨"OakDeedsModel", "of", "(II)I"⟩, 41), (⟨"OakDeedsModel", "needleOf", "(I)I"⟩, 41), (⟨"OakDeedsModel", "counts", "(I)I"⟩, 41), (⟨"OakDeedsModel", "worksOut", "(I)I"⟩, 41), (⟨"OakDeedsModel", "chainOf", "(I)I"⟩, 41), (⟨"OakDeedsModel", "rankOf", "(I)I"⟩, 41), (⟨"OakDeedsModel", "comes", "(IIII)I"⟩, 41), (⟨"OakDeedsModel", "isCall", "(II)Z"⟩, 41), (⟨"OakDeedsModel", "callOf", "(III)I"⟩, 41), (⟨"OakDeedsModel", "worthOf", "(II)I"⟩, 41), (⟨"OakDeedsModel", "draw", "()I"⟩, 41), (⟨"OakDeedsModel", "findCorners", "(I)I"⟩, 41), (⟨"OakDeedsModel", "takeCalls", "(I)V"⟩, 41), (⟨"OakDeedsModel", "walks", "(III)I"⟩, 41)]
theorem lw_r1 : ∀ q ∈ lw_privs_1, lw_okq q := List.forall_mem_cons.mpr ⟨lw_p0, List.forall_mem_cons.mpr ⟨lw_p1, List.forall_mem_cons.mpr ⟨lw_p2, List.forall_mem_cons.mpr ⟨lw_p3, List.forall_mem_cons.mpr ⟨lw_p4, List.forall_mem_cons.mpr ⟨lw_p5, List.forall_mem_cons.mpr ⟨lw_p6, List.forall_mem_cons.mpr ⟨lw_p7, List.forall_mem_cons.mpr ⟨lw_p8, List.forall_mem_cons.mpr ⟨lw_p9, List.forall_mem_cons.mpr ⟨lw_p10, List.forall_mem_cons.mpr ⟨lw_p11, List.forall_mem_cons.mpr ⟨lw_p12, List.forall_mem_cons.mpr ⟨lw_p13, List.forall_mem_cons.mpr ⟨lw_p14, List.forall_mem_cons.mpr ⟨lw_p15, fun _ h => absurd h List.not_mem_nil⟩⟩⟩⟩⟩⟩⟩⟩⟩⟩⟩⟩⟩⟩⟩⟩
theorem lw_p16 : lw_okq (⟨"OakDeedsModel", "walk", "(III)V"⟩, 41) := ⟨⟨by decide +kernel, by decide +kernel⟩, List.mem_of_getElem? (i := 970) (by decide +kernel), List.mem_of_getElem? (i := 1253) (by decide +kernel), List.mem_of_getElem? (i := 1254) (by decide +kernel)⟩
theorem lw_p17 : lw_okq (⟨"OakDeedsModel", "isHeld", "(II)Z"⟩, 41) := ⟨⟨by decide +kernel, by decide +kernel⟩, List.mem_of_getElem? (i := 970) (by decide +kernel), List.mem_of_getElem? (i := 1276) (by decide +kernel), List.mem_of_getElem? (i := 1277) (by decide +kernel)⟩
theorem lw_p18 : lw_okq (⟨"OakDeedsModel", "findHeld", "()V"⟩, 41) := ⟨⟨by decide +kernel, by decide +kernel⟩, List.mem_of_getElem? (i := 970) (by decide +kernel), List.mem_of_getElem? (i := 1288) (by decide +kernel), List.mem_of_getElem? (i := 1289) (by decide +kernel)⟩
theorem lw_p19 : lw_okq (⟨"OakDeedsModel", "ownerOf", "(I)I"⟩, 41) := ⟨⟨by decide +kernel, by decide +kernel⟩, List.mem_of_getElem? (i := 970) (by decide +kernel), List.mem_of_getElem? (i := 1300) (by decide +kernel), List.mem_of_getElem? (i := 1301) (by decide +kernel)⟩
theorem lw_p20 : lw_okq (⟨"OakDeedsModel", "takeSlipped", "(III)V"⟩, 41) := ⟨⟨by decide +kernel, by decide +kernel⟩, List.mem_of_getElem? (i := 970) (by decide +kernel), List.mem_of_getElem? (i := 1308) (by decide +kernel), List.mem_of_getElem? (i := 1309) (by decide +kernel)⟩
theorem lw_p21 : lw_okq (⟨"OakDeedsModel", "exchange", "([II)V"⟩, 41) := ⟨⟨by decide +kernel, by decide +kernel⟩, List.mem_of_getElem? (i := 970) (by decide +kernel), List.mem_of_getElem? (i := 1312) (by decide +kernel), List.mem_of_getElem? (i := 1313) (by decide +kernel)⟩
theorem lw_p22 : lw_okq (⟨"OakDeedsModel", "go", "()V"⟩, 41) := ⟨⟨by decide +kernel, by decide +kernel⟩, List.mem_of_getElem? (i := 970) (by decide +kernel), List.mem_of_getElem? (i := 1344) (by decide +kernel), List.mem_of_getElem? (i := 1345) (by decide +kernel)⟩
theorem lw_p23 : lw_okq (⟨"OakDeedsModel", "isLetter", "(I)Z"⟩, 41) := ⟨⟨by decide +kernel, by decide +kernel⟩, List.mem_of_getElem? (i := 970) (by decide +kernel), List.mem_of_getElem? (i := 1348) (by decide +kernel), List.mem_of_getElem? (i := 1349) (by decide +kernel)⟩
theorem lw_p24 : lw_okq (⟨"OakDeedsModel", "isFigure", "(I)Z"⟩, 41) := ⟨⟨by decide +kernel, by decide +kernel⟩, List.mem_of_getElem? (i := 970) (by decide +kernel), List.mem_of_getElem? (i := 1352) (by decide +kernel), List.mem_of_getElem? (i := 1353) (by decide +kernel)⟩
theorem lw_p25 : lw_okq (⟨"OakDeedsModel", "takesKey", "()Z"⟩, 41) := ⟨⟨by decide +kernel, by decide +kernel⟩, List.mem_of_getElem? (i := 970) (by decide +kernel), List.mem_of_getElem? (i := 1356) (by decide +kernel), List.mem_of_getElem? (i := 1357) (by decide +kernel)⟩
theorem lw_p26 : lw_okq (⟨"OakDeedsModel", "takesE", "()Z"⟩, 41) := ⟨⟨by decide +kernel, by decide +kernel⟩, List.mem_of_getElem? (i := 970) (by decide +kernel), List.mem_of_getElem? (i := 1360) (by decide +kernel), List.mem_of_getElem? (i := 1361) (by decide +kernel)⟩
theorem lw_p27 : lw_okq (⟨"OakDeedsModel", "takesPart", "()Z"⟩, 41) := ⟨⟨by decide +kernel, by decide +kernel⟩, List.mem_of_getElem? (i := 970) (by decide +kernel), List.mem_of_getElem? (i := 1364) (by decide +kernel), List.mem_of_getElem? (i := 1365) (by decide +kernel)⟩
theorem lw_p28 : lw_okq (⟨"OakDeedsModel", "nameOf", "(I)I"⟩, 41) := ⟨⟨by decide +kernel, by decide +kernel⟩, List.mem_of_getElem? (i := 970) (by decide +kernel), List.mem_of_getElem? (i := 1368) (by decide +kernel), List.mem_of_getElem? (i := 1369) (by decide +kernel)⟩
theorem lw_p29 : lw_okq (⟨"OakDeedsModel", "settle", "(I)V"⟩, 41) := ⟨⟨by decide +kernel, by decide +kernel⟩, List.mem_of_getElem? (i := 970) (by decide +kernel), List.mem_of_getElem? (i := 1372) (by decide +kernel), List.mem_of_getElem? (i := 1373) (by decide +kernel)⟩
theorem lw_p30 : lw_okq (⟨"OakDeedsModel", "notsOpen", "()I"⟩, 41) := ⟨⟨by decide +kernel, by decide +kernel⟩, List.mem_of_getElem? (i := 970) (by decide +kernel), List.mem_of_getElem? (i := 1379) (by decide +kernel), List.mem_of_getElem? (i := 1380) (by decide +kernel)⟩
theorem lw_p31 : lw_okq (⟨"OakDeedsModel", "signHere", "()I"⟩, 41) := ⟨⟨by decide +kernel, by decide +kernel⟩, List.mem_of_getElem? (i := 970) (by decide +kernel), List.mem_of_getElem? (i := 1383) (by decide +kernel), List.mem_of_getElem? (i := 1384) (by decide +kernel)⟩
def lw_privs_2 : List (MethodName × Nat) := [(⟨"OakDeedsModel", "walk", "(III)V"⟩, 41), (⟨"OakDeedsModel", "isHeld", "(II)Z"⟩, 41), (⟨"OakDeedsModel", "findHeld", "()V"⟩, 41), (⟨"OakDeedsModel", "ownerOf", "(I)I"⟩, 41), (⟨"OakDeedsModel", "takeSlipped", "(III)V"⟩, 41), (⟨"OakDeedsModel", "exchange", "([II)V"⟩, 41), (⟨"OakDeedsModel", "go", "()V"⟩, 41), (⟨"OakDeedsModel", "isLetter", "(I)Z"⟩, 41), (⟨"OakDeedsModel", "isFigure", "(I)Z"⟩, 41), (⟨"OakDeedsModel", "takesKey", "()Z"⟩, 41), (⟨"OakDeedsModel", "takesE", "()Z"⟩, 41), (⟨"OakDeedsModel", "takesPart", "()Z"⟩, 41), (⟨"OakDeedsModel", "nameOf", "(I)I"⟩, 41), (⟨"OakDeedsModel", "settle", "(I)V"⟩, 41), (⟨"OakDeedsModel", "notsOpen", "()I"⟩, 41), (⟨"OakDeedsModel", "signHere", "()I"⟩, 41)]
theorem lw_r2 : ∀ q ∈ lw_privs_2, lw_okq q := List.forall_mem_cons.mpr ⟨lw_p16, List.forall_mem_cons.mpr ⟨lw_p17, List.forall_mem_cons.mpr ⟨lw_p18, List.forall_mem_cons.mpr ⟨lw_p19, List.forall_mem_cons.mpr ⟨lw_p20, List.forall_mem_cons.mpr ⟨lw_p21, List.forall_mem_cons.mpr ⟨lw_p22, List.forall_mem_cons.mpr ⟨lw_p23, List.forall_mem_cons.mpr ⟨lw_p24, List.forall_mem_cons.mpr ⟨lw_p25, List.forall_mem_cons.mpr ⟨lw_p26, List.forall_mem_cons.mpr ⟨lw_p27, List.forall_mem_cons.mpr ⟨lw_p28, List.forall_mem_cons.mpr ⟨lw_p29, List.forall_mem_cons.mpr ⟨lw_p30, List.forall_mem_cons.mpr ⟨lw_p31, fun _ h => absurd h List.not_mem_nil⟩⟩⟩⟩⟩⟩⟩⟩⟩⟩⟩⟩⟩⟩⟩⟩
def lw_privs : List (MethodName × Nat) := lw_privs_1 ++ (lw_privs_2)
def lw_tbl : List Cond := k2_sels lw_privs ++ tables_1
theorem lw_privs_ok : ∀ q ∈ lw_privs, lw_okq q := by
  show ∀ q ∈ lw_privs_1 ++ (lw_privs_2), lw_okq q
  exact List.forall_mem_append.mpr ⟨lw_r1, lw_r2⟩
end
section
/-! classes: names, fields in the order of the slots, types (printed by program) -/
def RX0 : String := "OakDeeds$Cells"
def RX1 : String := "OakDeeds$Deed"
def RX2 : String := "OakDeeds$Land"
def RX3 : String := "OakDeeds$Laws"
def RX4 : String := "OakDeeds$Reader"
def RX5 : String := "OakDeeds$Row"
def RX6 : String := "OakDeeds$Slot"
def RX7 : String := "OakDeeds$Text"
def RX8 : String := "OakDeeds$Walk"
def RX9 : String := "OakDeeds"
def RX10 : String := "OakDeedsModel"
def RJx145de : String := "java/io/Serializable"
def RJx9f9b0 : String := "java/lang/CharSequence"
def RJxb160c : String := "java/lang/Comparable"
def RJ6 : String := "java/lang/Integer"
def RJ9 : String := "java/lang/Math"
def RJ0 : String := "java/lang/String"
def RJ1 : String := "java/lang/StringLatin1"
def RJ2 : String := "java/lang/StringUTF16"
def RJ10 : String := "java/lang/System"
def RJxfd54e : String := "java/lang/constant/Constable"
def RJx3cf43 : String := "java/lang/constant/ConstantDesc"
def RJ7 : String := "java/util/Arrays"
def RJ3 : String := "jdk/internal/util/Preconditions"
def RL : String := "OakDeedsLaw"
def TX0 : u_T := fun k => match k with
  | 0 => ("OakDeeds$Cells", "held", "[[I", true)
  | 1 => ("OakDeeds$Cells", "nobodys", "[I", true)
  | _ => ("OakDeeds$Cells", "ranks", "[I", true)
def tyX0 : Nat → FieldType := fun k => match k with
  | 0 => .array (.array .int)
  | 1 => .array .int
  | _ => .array .int
def TX1 : u_T := fun k => match k with
  | 0 => ("OakDeeds$Deed", "x", "I", false)
  | 1 => ("OakDeeds$Deed", "y", "I", false)
  | 2 => ("OakDeeds$Deed", "year", "I", false)
  | 3 => ("OakDeeds$Deed", "slack", "I", false)
  | 4 => ("OakDeeds$Deed", "calls", "I", false)
  | 5 => ("OakDeeds$Deed", "kinds", "[I", true)
  | 6 => ("OakDeeds$Deed", "ways", "[I", true)
  | _ => ("OakDeeds$Deed", "lengths", "[I", true)
def tyX1 : Nat → FieldType := fun k => match k with
  | 0 => .int
  | 1 => .int
  | 2 => .int
  | 3 => .int
  | 4 => .int
  | 5 => .array .int
  | 6 => .array .int
  | _ => .array .int
def TX2 : u_T := fun k => match k with
  | 0 => ("OakDeeds$Land", "laws", "LOakDeeds$Laws;", true)
  | 1 => ("OakDeeds$Land", "stones", "I", false)
  | 2 => ("OakDeeds$Land", "stoneX", "[I", true)
  | 3 => ("OakDeeds$Land", "stoneY", "[I", true)
  | 4 => ("OakDeeds$Land", "deeds", "I", false)
  | 5 => ("OakDeeds$Land", "deed", "[LOakDeeds$Deed;", true)
  | 6 => ("OakDeeds$Land", "texts", "I", false)
  | _ => ("OakDeeds$Land", "z", "I", false)
def tyX2 : Nat → FieldType := fun k => match k with
  | 0 => .object "OakDeeds$Laws"
  | 1 => .int
  | 2 => .array .int
  | 3 => .array .int
  | 4 => .int
  | 5 => .array (.object "OakDeeds$Deed")
  | 6 => .int
  | _ => .int
def TX3 : u_T := fun k => match k with
  | 0 => ("OakDeeds$Laws", "texts", "[LOakDeeds$Text;", true)
  | _ => ("OakDeeds$Laws", "stack", "[I", true)
def tyX3 : Nat → FieldType := fun k => match k with
  | 0 => .array (.object "OakDeeds$Text")
  | _ => .array .int
def TX4 : u_T := fun k => match k with
  | 0 => ("OakDeeds$Reader", "bytes", "[I", true)
  | 1 => ("OakDeeds$Reader", "length", "I", false)
  | 2 => ("OakDeeds$Reader", "sort", "I", false)
  | 3 => ("OakDeeds$Reader", "start", "I", false)
  | 4 => ("OakDeeds$Reader", "end", "I", false)
  | 5 => ("OakDeeds$Reader", "key", "I", false)
  | 6 => ("OakDeeds$Reader", "atoms", "I", false)
  | 7 => ("OakDeeds$Reader", "codes", "[I", true)
  | _ => ("OakDeeds$Reader", "size", "I", false)
def tyX4 : Nat → FieldType := fun k => match k with
  | 0 => .array .int
  | 1 => .int
  | 2 => .int
  | 3 => .int
  | 4 => .int
  | 5 => .int
  | 6 => .int
  | 7 => .array .int
  | _ => .int
def TX5 : u_T := fun k => match k with
  | 0 => ("OakDeeds$Row", "sort", "I", false)
  | 1 => ("OakDeeds$Row", "size", "I", false)
  | _ => ("OakDeeds$Row", "places", "[I", true)
def tyX5 : Nat → FieldType := fun k => match k with
  | 0 => .int
  | 1 => .int
  | _ => .array .int
def TX6 : u_T := fun k => match k with
  | 0 => ("OakDeeds$Slot", "thing", "I", false)
  | 1 => ("OakDeeds$Slot", "kind", "I", false)
  | 2 => ("OakDeeds$Slot", "way", "I", false)
  | 3 => ("OakDeeds$Slot", "length", "I", false)
  | 4 => ("OakDeeds$Slot", "number", "I", false)
  | _ => ("OakDeeds$Slot", "row", "LOakDeeds$Row;", true)
def tyX6 : Nat → FieldType := fun k => match k with
  | 0 => .int
  | 1 => .int
  | 2 => .int
  | 3 => .int
  | 4 => .int
  | _ => .object "OakDeeds$Row"
def TX7 : u_T := fun k => match k with
  | 0 => ("OakDeeds$Text", "key", "I", false)
  | 1 => ("OakDeeds$Text", "atoms", "I", false)
  | 2 => ("OakDeeds$Text", "size", "I", false)
  | _ => ("OakDeeds$Text", "codes", "[I", true)
def tyX7 : Nat → FieldType := fun k => match k with
  | 0 => .int
  | 1 => .int
  | 2 => .int
  | _ => .array .int
def TX8 : u_T := fun k => match k with
  | 0 => ("OakDeeds$Walk", "land", "LOakDeeds$Land;", true)
  | 1 => ("OakDeeds$Walk", "xs", "[I", true)
  | 2 => ("OakDeeds$Walk", "ys", "[I", true)
  | 3 => ("OakDeeds$Walk", "corners", "I", false)
  | 4 => ("OakDeeds$Walk", "bestGap", "I", false)
  | 5 => ("OakDeeds$Walk", "bestSlip", "I", false)
  | 6 => ("OakDeeds$Walk", "bestCall", "I", false)
  | 7 => ("OakDeeds$Walk", "bestNumber", "I", false)
  | 8 => ("OakDeeds$Walk", "beginX", "I", false)
  | 9 => ("OakDeeds$Walk", "beginY", "I", false)
  | 10 => ("OakDeeds$Walk", "needle", "I", false)
  | 11 => ("OakDeeds$Walk", "chain", "I", false)
  | 12 => ("OakDeeds$Walk", "x", "I", false)
  | _ => ("OakDeeds$Walk", "y", "I", false)
def tyX8 : Nat → FieldType := fun k => match k with
  | 0 => .object "OakDeeds$Land"
  | 1 => .array .int
  | 2 => .array .int
  | 3 => .int
  | 4 => .int
  | 5 => .int
  | 6 => .int
  | 7 => .int
  | 8 => .int
  | 9 => .int
  | 10 => .int
  | 11 => .int
  | 12 => .int
  | _ => .int
def TX9 : u_T := fun k => match k with
  | 0 => ("OakDeeds", "land", "LOakDeeds$Land;", true)
  | 1 => ("OakDeeds", "image", "LOakDeeds$Land;", true)
  | 2 => ("OakDeeds", "imaged", "Z", false)
  | 3 => ("OakDeeds", "walk", "LOakDeeds$Walk;", true)
  | 4 => ("OakDeeds", "imageWalk", "LOakDeeds$Walk;", true)
  | 5 => ("OakDeeds", "cells", "LOakDeeds$Cells;", true)
  | 6 => ("OakDeeds", "cellsThen", "LOakDeeds$Cells;", true)
  | 7 => ("OakDeeds", "laws", "LOakDeeds$Laws;", true)
  | 8 => ("OakDeeds", "reader", "LOakDeeds$Reader;", true)
  | 9 => ("OakDeeds", "sheets", "[LOakDeeds$Row;", true)
  | 10 => ("OakDeeds", "slots", "[LOakDeeds$Slot;", true)
  | 11 => ("OakDeeds", "waiting", "[I", true)
  | _ => ("OakDeeds", "waits", "I", false)
def tyX9 : Nat → FieldType := fun k => match k with
  | 0 => .object "OakDeeds$Land"
  | 1 => .object "OakDeeds$Land"
  | 2 => .boolean
  | 3 => .object "OakDeeds$Walk"
  | 4 => .object "OakDeeds$Walk"
  | 5 => .object "OakDeeds$Cells"
  | 6 => .object "OakDeeds$Cells"
  | 7 => .object "OakDeeds$Laws"
  | 8 => .object "OakDeeds$Reader"
  | 9 => .array (.object "OakDeeds$Row")
  | 10 => .array (.object "OakDeeds$Slot")
  | 11 => .array .int
  | _ => .int
def TX10 : u_T := fun k => match k with
  | 0 => ("OakDeedsModel", "now", "[I", true)
  | 1 => ("OakDeedsModel", "image", "[I", true)
  | 2 => ("OakDeedsModel", "aside", "[I", true)
  | 3 => ("OakDeedsModel", "hasImage", "Z", false)
  | 4 => ("OakDeedsModel", "kinds", "[I", true)
  | 5 => ("OakDeedsModel", "ways", "[I", true)
  | 6 => ("OakDeedsModel", "lengths", "[I", true)
  | 7 => ("OakDeedsModel", "calls", "I", false)
  | 8 => ("OakDeedsModel", "cornerX", "[I", true)
  | 9 => ("OakDeedsModel", "cornerY", "[I", true)
  | 10 => ("OakDeedsModel", "heldBy", "[I", true)
  | 11 => ("OakDeedsModel", "ranks", "[I", true)
  | 12 => ("OakDeedsModel", "owners", "[I", true)
  | 13 => ("OakDeedsModel", "tape", "[I", true)
  | 14 => ("OakDeedsModel", "taped", "I", false)
  | 15 => ("OakDeedsModel", "next", "I", false)
  | 16 => ("OakDeedsModel", "from", "I", false)
  | 17 => ("OakDeedsModel", "token", "I", false)
  | 18 => ("OakDeedsModel", "value", "I", false)
  | 19 => ("OakDeedsModel", "ended", "I", false)
  | 20 => ("OakDeedsModel", "key", "I", false)
  | 21 => ("OakDeedsModel", "keys", "[C", true)
  | 22 => ("OakDeedsModel", "keyAt", "[I", true)
  | 23 => ("OakDeedsModel", "code", "[I", true)
  | 24 => ("OakDeedsModel", "codes", "I", false)
  | 25 => ("OakDeedsModel", "atoms", "I", false)
  | 26 => ("OakDeedsModel", "waits", "[I", true)
  | 27 => ("OakDeedsModel", "held", "I", false)
  | 28 => ("OakDeedsModel", "tested", "[Z", true)
  | 29 => ("OakDeedsModel", "stack", "[I", true)
  | 30 => ("OakDeedsModel", "facts", "[I", true)
  | 31 => ("OakDeedsModel", "sorts", "[I", true)
  | 32 => ("OakDeedsModel", "sizes", "[I", true)
  | 33 => ("OakDeedsModel", "cells", "[I", true)
  | 34 => ("OakDeedsModel", "holdsWhat", "[I", true)
  | 35 => ("OakDeedsModel", "holdsA", "[I", true)
  | 36 => ("OakDeedsModel", "holdsB", "[I", true)
  | 37 => ("OakDeedsModel", "heldCells", "[I", true)
  | 38 => ("OakDeedsModel", "moved", "[I", true)
  | 39 => ("OakDeedsModel", "tells", "[I", true)
  | _ => ("OakDeedsModel", "waiting", "I", false)
def tyX10 : Nat → FieldType := fun k => match k with
  | 0 => .array .int
  | 1 => .array .int
  | 2 => .array .int
  | 3 => .boolean
  | 4 => .array .int
  | 5 => .array .int
  | 6 => .array .int
  | 7 => .int
  | 8 => .array .int
  | 9 => .array .int
  | 10 => .array .int
  | 11 => .array .int
  | 12 => .array .int
  | 13 => .array .int
  | 14 => .int
  | 15 => .int
  | 16 => .int
  | 17 => .int
  | 18 => .int
  | 19 => .int
  | 20 => .int
  | 21 => .array .char
  | 22 => .array .int
  | 23 => .array .int
  | 24 => .int
  | 25 => .int
  | 26 => .array .int
  | 27 => .int
  | 28 => .array .boolean
  | 29 => .array .int
  | 30 => .array .int
  | 31 => .array .int
  | 32 => .array .int
  | 33 => .array .int
  | 34 => .array .int
  | 35 => .array .int
  | 36 => .array .int
  | 37 => .array .int
  | 38 => .array .int
  | 39 => .array .int
  | _ => .int
abbrev vwCl : List vw_C := [(RX0, TX0, 3), (RX1, TX1, 8), (RX2, TX2, 8), (RX3, TX3, 2), (RX4, TX4, 9), (RX5, TX5, 3), (RX6, TX6, 6), (RX7, TX7, 4), (RX8, TX8, 14), (RX9, TX9, 13), (RX10, TX10, 41)]
/-! methods -/
abbrev k_Cells_init : Nat := 0
abbrev k_Cells_isHeld : Nat := 1
abbrev k_Cells_fillDeed : Nat := 2
abbrev k_Cells_addSide : Nat := 3
abbrev k_Cells_fillOwners : Nat := 4
abbrev k_Cells_firstUnserved : Nat := 5
abbrev k_Cells_countUnlike : Nat := 6
abbrev k_Deed_init : Nat := 7
abbrev k_Deed_beginAt : Nat := 8
abbrev k_Deed_hasNumber : Nat := 9
abbrev k_Deed_addCall : Nat := 10
abbrev k_Deed_removeCall : Nat := 11
abbrev k_Deed_takeFrom : Nat := 12
abbrev k_Land_init : Nat := 13
abbrev k_Land_takeFrom : Nat := 14
abbrev k_Land_hasStone : Nat := 15
abbrev k_Land_hasDeed : Nat := 16
abbrev k_Land_hasCall : Nat := 17
abbrev k_Land_hasYear : Nat := 18
abbrev k_Land_putStone : Nat := 19
abbrev k_Land_callsOfAll : Nat := 20
abbrev k_Land_drawNumber : Nat := 21
abbrev k_Land_needleOf : Nat := 22
abbrev k_Land_chainOf : Nat := 23
abbrev k_Land_rankOf : Nat := 24
abbrev k_Laws_init : Nat := 25
abbrev k_Laws_lastOf : Nat := 26
abbrev k_Laws_workOut : Nat := 27
abbrev k_Laws_named : Nat := 28
abbrev k_Laws_joined : Nat := 29
abbrev k_Reader_init : Nat := 30
abbrev k_Reader_addFour : Nat := 31
abbrev k_Reader_parseTape : Nat := 32
abbrev k_Reader_advance : Nat := 33
abbrev k_Reader_sortOf : Nat := 34
abbrev k_Reader_keyHere : Nat := 35
abbrev k_Reader_isWord : Nat := 36
abbrev k_Reader_isSign : Nat := 37
abbrev k_Reader_isName : Nat := 38
abbrev k_Reader_isJoin : Nat := 39
abbrev k_Reader_parseLevel : Nat := 40
abbrev k_Reader_parsePiece : Nat := 41
abbrev k_Reader_parseAtom : Nat := 42
abbrev k_Reader_numberHere : Nat := 43
abbrev k_Reader_addCode : Nat := 44
abbrev k_Row_init : Nat := 45
abbrev k_Row_become : Nat := 46
abbrev k_Row_takeFrom : Nat := 47
abbrev k_Row_hasPlace : Nat := 48
abbrev k_Row_hasRun : Nat := 49
abbrev k_Slot_init : Nat := 50
abbrev k_Slot_takeCall : Nat := 51
abbrev k_Text_init : Nat := 52
abbrev k_Text_takeFrom : Nat := 53
abbrev k_Walk_init : Nat := 54
abbrev k_Walk_setOut : Nat := 55
abbrev k_Walk_stepBy : Nat := 56
abbrev k_Walk_goOn : Nat := 57
abbrev k_Walk_traceDeed : Nat := 58
abbrev k_Walk_cornersInRow : Nat := 59
abbrev k_Walk_twiceArea : Nat := 60
abbrev k_Walk_nextCorner : Nat := 61
abbrev k_Walk_gapHere : Nat := 62
abbrev k_Walk_gapBy : Nat := 63
abbrev k_Walk_gapWithSlip : Nat := 64
abbrev k_Walk_findBestSlip : Nat := 65
abbrev k_Walk_findBestNeedle : Nat := 66
abbrev k_Walk_findBestChain : Nat := 67
abbrev k_Walk_takeIfBetter : Nat := 68
abbrev k_Walk_learntOf : Nat := 69
abbrev k_Oak_init : Nat := 70
abbrev k_Oak_stone : Nat := 71
abbrev k_Oak_stoneTold : Nat := 72
abbrev k_Oak_move : Nat := 73
abbrev k_Oak_deed : Nat := 74
abbrev k_Oak_deedTold : Nat := 75
abbrev k_Oak_set : Nat := 76
abbrev k_Oak_call : Nat := 77
abbrev k_Oak_told : Nat := 78
abbrev k_Oak_as : Nat := 79
abbrev k_Oak_turns : Nat := 80
abbrev k_Oak_drop : Nat := 81
abbrev k_Oak_deal : Nat := 82
abbrev k_Oak_seed : Nat := 83
abbrev k_Oak_corner : Nat := 84
abbrev k_Oak_gap : Nat := 85
abbrev k_Oak_area : Nat := 86
abbrev k_Oak_holds : Nat := 87
abbrev k_Oak_field : Nat := 88
abbrev k_Oak_over : Nat := 89
abbrev k_Oak_whose : Nat := 90
abbrev k_Oak_owned : Nat := 91
abbrev k_Oak_slip : Nat := 92
abbrev k_Oak_best : Nat := 93
abbrev k_Oak_learn : Nat := 94
abbrev k_Oak_near : Nat := 95
abbrev k_Oak_would : Nat := 96
abbrev k_Oak_feed : Nat := 97
abbrev k_Oak_trim : Nat := 98
abbrev k_Oak_text : Nat := 99
abbrev k_Oak_textTold : Nat := 100
abbrev k_Oak_why : Nat := 101
abbrev k_Oak_sheet : Nat := 102
abbrev k_Oak_mark : Nat := 103
abbrev k_Oak_pour : Nat := 104
abbrev k_Oak_reads : Nat := 105
abbrev k_Oak_copy : Nat := 106
abbrev k_Oak_lay : Nat := 107
abbrev k_Oak_ask : Nat := 108
abbrev k_Oak_item : Nat := 109
abbrev k_Oak_rest : Nat := 110
abbrev k_Oak_tell : Nat := 111
abbrev k_Oak_check : Nat := 112
abbrev k_Oak_keep : Nat := 113
abbrev k_Oak_back : Nat := 114
abbrev k_Oak_count : Nat := 115
abbrev k_Oak_isWithin : Nat := 116
abbrev k_Oak_isStonePlace : Nat := 117
abbrev k_Oak_isCell : Nat := 118
abbrev k_Oak_isYear : Nat := 119
abbrev k_Oak_isSlack : Nat := 120
abbrev k_Oak_isKind : Nat := 121
abbrev k_Oak_isRun : Nat := 122
abbrev k_Oak_isSheet : Nat := 123
abbrev k_Oak_isSlot : Nat := 124
abbrev k_Oak_isOfKind : Nat := 125
abbrev k_Oak_worthOf : Nat := 126
abbrev k_Oak_trueOf : Nat := 127
abbrev k_Oak_farApart : Nat := 128
abbrev k_Oak_countBits : Nat := 129
abbrev k_Oak_isLetter : Nat := 130
abbrev k_Mod_init : Nat := 131
abbrev k_Mod_in : Nat := 132
abbrev k_Mod_within : Nat := 133
abbrev k_Mod_size : Nat := 134
abbrev k_Mod_copyAll : Nat := 135
abbrev k_Mod_isStone : Nat := 136
abbrev k_Mod_isDeed : Nat := 137
abbrev k_Mod_of : Nat := 138
abbrev k_Mod_isCall : Nat := 139
abbrev k_Mod_callOf : Nat := 140
abbrev k_Mod_isSpot : Nat := 141
abbrev k_Mod_stone : Nat := 142
abbrev k_Mod_stoneTold : Nat := 143
abbrev k_Mod_move : Nat := 144
abbrev k_Mod_isCell : Nat := 145
abbrev k_Mod_deed : Nat := 146
abbrev k_Mod_needleOf : Nat := 147
abbrev k_Mod_chainOf : Nat := 148
abbrev k_Mod_rankOf : Nat := 149
abbrev k_Mod_deedTold : Nat := 150
abbrev k_Mod_set : Nat := 151
abbrev k_Mod_isRun : Nat := 152
abbrev k_Mod_comes : Nat := 153
abbrev k_Mod_call : Nat := 154
abbrev k_Mod_trueBy : Nat := 155
abbrev k_Mod_worthOf : Nat := 156
abbrev k_Mod_told : Nat := 157
abbrev k_Mod_isUnder : Nat := 158
abbrev k_Mod_as : Nat := 159
abbrev k_Mod_turns : Nat := 160
abbrev k_Mod_drop : Nat := 161
abbrev k_Mod_draw : Nat := 162
abbrev k_Mod_deal : Nat := 163
abbrev k_Mod_seed : Nat := 164
abbrev k_Mod_takeCalls : Nat := 165
abbrev k_Mod_acrossBy : Nat := 166
abbrev k_Mod_upBy : Nat := 167
abbrev k_Mod_walk : Nat := 168
abbrev k_Mod_walks : Nat := 169
abbrev k_Mod_findCorners : Nat := 170
abbrev k_Mod_corner : Nat := 171
abbrev k_Mod_gap : Nat := 172
abbrev k_Mod_area : Nat := 173
abbrev k_Mod_isHeld : Nat := 174
abbrev k_Mod_findHeld : Nat := 175
abbrev k_Mod_ownerOf : Nat := 176
abbrev k_Mod_holds : Nat := 177
abbrev k_Mod_field : Nat := 178
abbrev k_Mod_over : Nat := 179
abbrev k_Mod_whose : Nat := 180
abbrev k_Mod_owned : Nat := 181
abbrev k_Mod_exchange : Nat := 182
abbrev k_Mod_takeSlipped : Nat := 183
abbrev k_Mod_slip : Nat := 184
abbrev k_Mod_best : Nat := 185
abbrev k_Mod_learn : Nat := 186
abbrev k_Mod_near : Nat := 187
abbrev k_Mod_would : Nat := 188
abbrev k_Mod_feed : Nat := 189
abbrev k_Mod_trim : Nat := 190
abbrev k_Mod_isLetter : Nat := 191
abbrev k_Mod_isFigure : Nat := 192
abbrev k_Mod_go : Nat := 193
abbrev k_Mod_takesKey : Nat := 194
abbrev k_Mod_nameOf : Nat := 195
abbrev k_Mod_rank : Nat := 196
abbrev k_Mod_settle : Nat := 197
abbrev k_Mod_signHere : Nat := 198
abbrev k_Mod_takesPart : Nat := 199
abbrev k_Mod_takesE : Nat := 200
abbrev k_Mod_notsOpen : Nat := 201
abbrev k_Mod_text : Nat := 202
abbrev k_Mod_textTold : Nat := 203
abbrev k_Mod_counts : Nat := 204
abbrev k_Mod_why : Nat := 205
abbrev k_Mod_two : Nat := 206
abbrev k_Mod_worksOut : Nat := 207
abbrev k_Mod_isSheet : Nat := 208
abbrev k_Mod_isSlot : Nat := 209
abbrev k_Mod_sheet : Nat := 210
abbrev k_Mod_mark : Nat := 211
abbrev k_Mod_pour : Nat := 212
abbrev k_Mod_reads : Nat := 213
abbrev k_Mod_copy : Nat := 214
abbrev k_Mod_lay : Nat := 215
abbrev k_Mod_ask : Nat := 216
abbrev k_Mod_item : Nat := 217
abbrev k_Mod_rest : Nat := 218
abbrev k_Mod_tell : Nat := 219
abbrev k_Mod_check : Nat := 220
abbrev k_Mod_keep : Nat := 221
abbrev k_Mod_back : Nat := 222
abbrev k_Mod_count : Nat := 223
abbrev k_Integer_bitCount : Nat := 224
abbrev k_Math_floorDiv : Nat := 225
abbrev k_Math_abs : Nat := 226
abbrev k_Math_max : Nat := 227
abbrev k_Math_min : Nat := 228
abbrev k_String_length : Nat := 229
abbrev k_String_charAt : Nat := 230
abbrev k_String_coder : Nat := 231
abbrev k_String_isLatin1 : Nat := 232
abbrev k_String_checkIndex : Nat := 233
abbrev k_StringLatin1_charAt : Nat := 234
abbrev k_Arrays_fill : Nat := 235
abbrev k_Preconditions_checkIndex : Nat := 236
abbrev k_Law_law : Nat := 237
def y_Cells_init : MethodName := ⟨RX0, "<init>", "()V"⟩
def y_Cells_isHeld : MethodName := ⟨RX0, "isHeld", "(III)Z"⟩
def y_Cells_fillDeed : MethodName := ⟨RX0, "fillDeed", "(LOakDeeds$Walk;I)V"⟩
def y_Cells_addSide : MethodName := ⟨RX0, "addSide", "([IIIII)V"⟩
def y_Cells_fillOwners : MethodName := ⟨RX0, "fillOwners", "(LOakDeeds$Walk;)V"⟩
def y_Cells_firstUnserved : MethodName := ⟨RX0, "firstUnserved", "(II)I"⟩
def y_Cells_countUnlike : MethodName := ⟨RX0, "countUnlike", "(LOakDeeds$Cells;I)I"⟩
def y_Deed_init : MethodName := ⟨RX1, "<init>", "()V"⟩
def y_Deed_beginAt : MethodName := ⟨RX1, "beginAt", "(I)V"⟩
def y_Deed_hasNumber : MethodName := ⟨RX1, "hasNumber", "(I)Z"⟩
def y_Deed_addCall : MethodName := ⟨RX1, "addCall", "(III)V"⟩
def y_Deed_removeCall : MethodName := ⟨RX1, "removeCall", "(I)V"⟩
def y_Deed_takeFrom : MethodName := ⟨RX1, "takeFrom", "(LOakDeeds$Deed;)V"⟩
def y_Land_init : MethodName := ⟨RX2, "<init>", "(LOakDeeds$Laws;)V"⟩
def y_Land_takeFrom : MethodName := ⟨RX2, "takeFrom", "(LOakDeeds$Land;)V"⟩
def y_Land_hasStone : MethodName := ⟨RX2, "hasStone", "(I)Z"⟩
def y_Land_hasDeed : MethodName := ⟨RX2, "hasDeed", "(I)Z"⟩
def y_Land_hasCall : MethodName := ⟨RX2, "hasCall", "(II)Z"⟩
def y_Land_hasYear : MethodName := ⟨RX2, "hasYear", "(I)Z"⟩
def y_Land_putStone : MethodName := ⟨RX2, "putStone", "(III)V"⟩
def y_Land_callsOfAll : MethodName := ⟨RX2, "callsOfAll", "()I"⟩
def y_Land_drawNumber : MethodName := ⟨RX2, "drawNumber", "()I"⟩
def y_Land_needleOf : MethodName := ⟨RX2, "needleOf", "(I)I"⟩
def y_Land_chainOf : MethodName := ⟨RX2, "chainOf", "(I)I"⟩
def y_Land_rankOf : MethodName := ⟨RX2, "rankOf", "(I)I"⟩
def y_Laws_init : MethodName := ⟨RX3, "<init>", "()V"⟩
def y_Laws_lastOf : MethodName := ⟨RX3, "lastOf", "(II)I"⟩
def y_Laws_workOut : MethodName := ⟨RX3, "workOut", "(ILOakDeeds$Deed;I)I"⟩
def y_Laws_named : MethodName := ⟨RX3, "named", "(ILOakDeeds$Deed;I)I"⟩
def y_Laws_joined : MethodName := ⟨RX3, "joined", "(III)I"⟩
def y_Reader_init : MethodName := ⟨RX4, "<init>", "()V"⟩
def y_Reader_addFour : MethodName := ⟨RX4, "addFour", "(I)V"⟩
def y_Reader_parseTape : MethodName := ⟨RX4, "parseTape", "()Z"⟩
def y_Reader_advance : MethodName := ⟨RX4, "advance", "()V"⟩
def y_Reader_sortOf : MethodName := ⟨RX4, "sortOf", "(I)I"⟩
def y_Reader_keyHere : MethodName := ⟨RX4, "keyHere", "()I"⟩
def y_Reader_isWord : MethodName := ⟨RX4, "isWord", "(Ljava/lang/String;)Z"⟩
def y_Reader_isSign : MethodName := ⟨RX4, "isSign", "(I)Z"⟩
def y_Reader_isName : MethodName := ⟨RX4, "isName", "()Z"⟩
def y_Reader_isJoin : MethodName := ⟨RX4, "isJoin", "(I)Z"⟩
def y_Reader_parseLevel : MethodName := ⟨RX4, "parseLevel", "(III)Z"⟩
def y_Reader_parsePiece : MethodName := ⟨RX4, "parsePiece", "(II)Z"⟩
def y_Reader_parseAtom : MethodName := ⟨RX4, "parseAtom", "()Z"⟩
def y_Reader_numberHere : MethodName := ⟨RX4, "numberHere", "()I"⟩
def y_Reader_addCode : MethodName := ⟨RX4, "addCode", "(I)V"⟩
def y_Row_init : MethodName := ⟨RX5, "<init>", "()V"⟩
def y_Row_become : MethodName := ⟨RX5, "become", "(II)V"⟩
def y_Row_takeFrom : MethodName := ⟨RX5, "takeFrom", "(LOakDeeds$Row;)V"⟩
def y_Row_hasPlace : MethodName := ⟨RX5, "hasPlace", "(I)Z"⟩
def y_Row_hasRun : MethodName := ⟨RX5, "hasRun", "(II)Z"⟩
def y_Slot_init : MethodName := ⟨RX6, "<init>", "()V"⟩
def y_Slot_takeCall : MethodName := ⟨RX6, "takeCall", "(LOakDeeds$Deed;I)V"⟩
def y_Text_init : MethodName := ⟨RX7, "<init>", "()V"⟩
def y_Text_takeFrom : MethodName := ⟨RX7, "takeFrom", "(LOakDeeds$Reader;)V"⟩
def y_Walk_init : MethodName := ⟨RX8, "<init>", "(LOakDeeds$Land;)V"⟩
def y_Walk_setOut : MethodName := ⟨RX8, "setOut", "(LOakDeeds$Deed;II)V"⟩
def y_Walk_stepBy : MethodName := ⟨RX8, "stepBy", "(II)V"⟩
def y_Walk_goOn : MethodName := ⟨RX8, "goOn", "(III)V"⟩
def y_Walk_traceDeed : MethodName := ⟨RX8, "traceDeed", "(I)V"⟩
def y_Walk_cornersInRow : MethodName := ⟨RX8, "cornersInRow", "(I)I"⟩
def y_Walk_twiceArea : MethodName := ⟨RX8, "twiceArea", "()I"⟩
def y_Walk_nextCorner : MethodName := ⟨RX8, "nextCorner", "(I)I"⟩
def y_Walk_gapHere : MethodName := ⟨RX8, "gapHere", "()I"⟩
def y_Walk_gapBy : MethodName := ⟨RX8, "gapBy", "(III)I"⟩
def y_Walk_gapWithSlip : MethodName := ⟨RX8, "gapWithSlip", "(LOakDeeds$Deed;II)I"⟩
def y_Walk_findBestSlip : MethodName := ⟨RX8, "findBestSlip", "(I)V"⟩
def y_Walk_findBestNeedle : MethodName := ⟨RX8, "findBestNeedle", "(I)V"⟩
def y_Walk_findBestChain : MethodName := ⟨RX8, "findBestChain", "(I)V"⟩
def y_Walk_takeIfBetter : MethodName := ⟨RX8, "takeIfBetter", "(II)V"⟩
def y_Walk_learntOf : MethodName := ⟨RX8, "learntOf", "(I)I"⟩
def y_Oak_init : MethodName := ⟨RX9, "<init>", "()V"⟩
def y_Oak_stone : MethodName := ⟨RX9, "stone", "(II)I"⟩
def y_Oak_stoneTold : MethodName := ⟨RX9, "stoneTold", "(II)I"⟩
def y_Oak_move : MethodName := ⟨RX9, "move", "(III)I"⟩
def y_Oak_deed : MethodName := ⟨RX9, "deed", "(III)I"⟩
def y_Oak_deedTold : MethodName := ⟨RX9, "deedTold", "(II)I"⟩
def y_Oak_set : MethodName := ⟨RX9, "set", "(III)I"⟩
def y_Oak_call : MethodName := ⟨RX9, "call", "(III)I"⟩
def y_Oak_told : MethodName := ⟨RX9, "told", "(III)I"⟩
def y_Oak_as : MethodName := ⟨RX9, "as", "(III)I"⟩
def y_Oak_turns : MethodName := ⟨RX9, "turns", "(III)I"⟩
def y_Oak_drop : MethodName := ⟨RX9, "drop", "(II)I"⟩
def y_Oak_deal : MethodName := ⟨RX9, "deal", "(II)I"⟩
def y_Oak_seed : MethodName := ⟨RX9, "seed", "(I)I"⟩
def y_Oak_corner : MethodName := ⟨RX9, "corner", "(III)I"⟩
def y_Oak_gap : MethodName := ⟨RX9, "gap", "(I)I"⟩
def y_Oak_area : MethodName := ⟨RX9, "area", "(I)I"⟩
def y_Oak_holds : MethodName := ⟨RX9, "holds", "(II)I"⟩
def y_Oak_field : MethodName := ⟨RX9, "field", "(I)I"⟩
def y_Oak_over : MethodName := ⟨RX9, "over", "(II)I"⟩
def y_Oak_whose : MethodName := ⟨RX9, "whose", "(I)I"⟩
def y_Oak_owned : MethodName := ⟨RX9, "owned", "(I)I"⟩
def y_Oak_slip : MethodName := ⟨RX9, "slip", "(II)I"⟩
def y_Oak_best : MethodName := ⟨RX9, "best", "(II)I"⟩
def y_Oak_learn : MethodName := ⟨RX9, "learn", "(I)I"⟩
def y_Oak_near : MethodName := ⟨RX9, "near", "(II)I"⟩
def y_Oak_would : MethodName := ⟨RX9, "would", "(III)I"⟩
def y_Oak_feed : MethodName := ⟨RX9, "feed", "(III)I"⟩
def y_Oak_trim : MethodName := ⟨RX9, "trim", "(I)I"⟩
def y_Oak_text : MethodName := ⟨RX9, "text", "()I"⟩
def y_Oak_textTold : MethodName := ⟨RX9, "textTold", "(II)I"⟩
def y_Oak_why : MethodName := ⟨RX9, "why", "(I)I"⟩
def y_Oak_sheet : MethodName := ⟨RX9, "sheet", "(III)I"⟩
def y_Oak_mark : MethodName := ⟨RX9, "mark", "(III)I"⟩
def y_Oak_pour : MethodName := ⟨RX9, "pour", "(II)I"⟩
def y_Oak_reads : MethodName := ⟨RX9, "reads", "(II)I"⟩
def y_Oak_copy : MethodName := ⟨RX9, "copy", "(IIIII)I"⟩
def y_Oak_lay : MethodName := ⟨RX9, "lay", "(III)I"⟩
def y_Oak_ask : MethodName := ⟨RX9, "ask", "(II)I"⟩
def y_Oak_item : MethodName := ⟨RX9, "item", "(II)I"⟩
def y_Oak_rest : MethodName := ⟨RX9, "rest", "(II)I"⟩
def y_Oak_tell : MethodName := ⟨RX9, "tell", "(I)I"⟩
def y_Oak_check : MethodName := ⟨RX9, "check", "(I)I"⟩
def y_Oak_keep : MethodName := ⟨RX9, "keep", "()I"⟩
def y_Oak_back : MethodName := ⟨RX9, "back", "()I"⟩
def y_Oak_count : MethodName := ⟨RX9, "count", "(I)I"⟩
def y_Oak_isWithin : MethodName := ⟨RX9, "isWithin", "(III)Z"⟩
def y_Oak_isStonePlace : MethodName := ⟨RX9, "isStonePlace", "(II)Z"⟩
def y_Oak_isCell : MethodName := ⟨RX9, "isCell", "(I)Z"⟩
def y_Oak_isYear : MethodName := ⟨RX9, "isYear", "(I)Z"⟩
def y_Oak_isSlack : MethodName := ⟨RX9, "isSlack", "(I)Z"⟩
def y_Oak_isKind : MethodName := ⟨RX9, "isKind", "(I)Z"⟩
def y_Oak_isRun : MethodName := ⟨RX9, "isRun", "(I)Z"⟩
def y_Oak_isSheet : MethodName := ⟨RX9, "isSheet", "(I)Z"⟩
def y_Oak_isSlot : MethodName := ⟨RX9, "isSlot", "(I)Z"⟩
def y_Oak_isOfKind : MethodName := ⟨RX9, "isOfKind", "(II)Z"⟩
def y_Oak_worthOf : MethodName := ⟨RX9, "worthOf", "(III)I"⟩
def y_Oak_trueOf : MethodName := ⟨RX9, "trueOf", "(II)I"⟩
def y_Oak_farApart : MethodName := ⟨RX9, "farApart", "(IIII)I"⟩
def y_Oak_countBits : MethodName := ⟨RX9, "countBits", "([I)I"⟩
def y_Oak_isLetter : MethodName := ⟨RX9, "isLetter", "(I)Z"⟩
def y_Mod_init : MethodName := ⟨RX10, "<init>", "()V"⟩
def y_Mod_in : MethodName := ⟨RX10, "in", "(III)Z"⟩
def y_Mod_within : MethodName := ⟨RX10, "within", "(III)I"⟩
def y_Mod_size : MethodName := ⟨RX10, "size", "(I)I"⟩
def y_Mod_copyAll : MethodName := ⟨RX10, "copyAll", "([I[I)V"⟩
def y_Mod_isStone : MethodName := ⟨RX10, "isStone", "(I)Z"⟩
def y_Mod_isDeed : MethodName := ⟨RX10, "isDeed", "(I)Z"⟩
def y_Mod_of : MethodName := ⟨RX10, "of", "(II)I"⟩
def y_Mod_isCall : MethodName := ⟨RX10, "isCall", "(II)Z"⟩
def y_Mod_callOf : MethodName := ⟨RX10, "callOf", "(III)I"⟩
def y_Mod_isSpot : MethodName := ⟨RX10, "isSpot", "(II)Z"⟩
def y_Mod_stone : MethodName := ⟨RX10, "stone", "(II)I"⟩
def y_Mod_stoneTold : MethodName := ⟨RX10, "stoneTold", "(II)I"⟩
def y_Mod_move : MethodName := ⟨RX10, "move", "(III)I"⟩
def y_Mod_isCell : MethodName := ⟨RX10, "isCell", "(I)Z"⟩
def y_Mod_deed : MethodName := ⟨RX10, "deed", "(III)I"⟩
def y_Mod_needleOf : MethodName := ⟨RX10, "needleOf", "(I)I"⟩
def y_Mod_chainOf : MethodName := ⟨RX10, "chainOf", "(I)I"⟩
def y_Mod_rankOf : MethodName := ⟨RX10, "rankOf", "(I)I"⟩
def y_Mod_deedTold : MethodName := ⟨RX10, "deedTold", "(II)I"⟩
def y_Mod_set : MethodName := ⟨RX10, "set", "(III)I"⟩
def y_Mod_isRun : MethodName := ⟨RX10, "isRun", "(I)Z"⟩
def y_Mod_comes : MethodName := ⟨RX10, "comes", "(IIII)I"⟩
def y_Mod_call : MethodName := ⟨RX10, "call", "(III)I"⟩
def y_Mod_trueBy : MethodName := ⟨RX10, "trueBy", "(II)I"⟩
def y_Mod_worthOf : MethodName := ⟨RX10, "worthOf", "(II)I"⟩
def y_Mod_told : MethodName := ⟨RX10, "told", "(III)I"⟩
def y_Mod_isUnder : MethodName := ⟨RX10, "isUnder", "(II)Z"⟩
def y_Mod_as : MethodName := ⟨RX10, "as", "(III)I"⟩
def y_Mod_turns : MethodName := ⟨RX10, "turns", "(III)I"⟩
def y_Mod_drop : MethodName := ⟨RX10, "drop", "(II)I"⟩
def y_Mod_draw : MethodName := ⟨RX10, "draw", "()I"⟩
def y_Mod_deal : MethodName := ⟨RX10, "deal", "(II)I"⟩
def y_Mod_seed : MethodName := ⟨RX10, "seed", "(I)I"⟩
def y_Mod_takeCalls : MethodName := ⟨RX10, "takeCalls", "(I)V"⟩
def y_Mod_acrossBy : MethodName := ⟨RX10, "acrossBy", "(I)I"⟩
def y_Mod_upBy : MethodName := ⟨RX10, "upBy", "(I)I"⟩
def y_Mod_walk : MethodName := ⟨RX10, "walk", "(III)V"⟩
def y_Mod_walks : MethodName := ⟨RX10, "walks", "(III)I"⟩
def y_Mod_findCorners : MethodName := ⟨RX10, "findCorners", "(I)I"⟩
def y_Mod_corner : MethodName := ⟨RX10, "corner", "(III)I"⟩
def y_Mod_gap : MethodName := ⟨RX10, "gap", "(I)I"⟩
def y_Mod_area : MethodName := ⟨RX10, "area", "(I)I"⟩
def y_Mod_isHeld : MethodName := ⟨RX10, "isHeld", "(II)Z"⟩
def y_Mod_findHeld : MethodName := ⟨RX10, "findHeld", "()V"⟩
def y_Mod_ownerOf : MethodName := ⟨RX10, "ownerOf", "(I)I"⟩
def y_Mod_holds : MethodName := ⟨RX10, "holds", "(II)I"⟩
def y_Mod_field : MethodName := ⟨RX10, "field", "(I)I"⟩
def y_Mod_over : MethodName := ⟨RX10, "over", "(II)I"⟩
def y_Mod_whose : MethodName := ⟨RX10, "whose", "(I)I"⟩
def y_Mod_owned : MethodName := ⟨RX10, "owned", "(I)I"⟩
def y_Mod_exchange : MethodName := ⟨RX10, "exchange", "([II)V"⟩
def y_Mod_takeSlipped : MethodName := ⟨RX10, "takeSlipped", "(III)V"⟩
def y_Mod_slip : MethodName := ⟨RX10, "slip", "(II)I"⟩
def y_Mod_best : MethodName := ⟨RX10, "best", "(II)I"⟩
def y_Mod_learn : MethodName := ⟨RX10, "learn", "(I)I"⟩
def y_Mod_near : MethodName := ⟨RX10, "near", "(II)I"⟩
def y_Mod_would : MethodName := ⟨RX10, "would", "(III)I"⟩
def y_Mod_feed : MethodName := ⟨RX10, "feed", "(III)I"⟩
def y_Mod_trim : MethodName := ⟨RX10, "trim", "(I)I"⟩
def y_Mod_isLetter : MethodName := ⟨RX10, "isLetter", "(I)Z"⟩
def y_Mod_isFigure : MethodName := ⟨RX10, "isFigure", "(I)Z"⟩
def y_Mod_go : MethodName := ⟨RX10, "go", "()V"⟩
def y_Mod_takesKey : MethodName := ⟨RX10, "takesKey", "()Z"⟩
def y_Mod_nameOf : MethodName := ⟨RX10, "nameOf", "(I)I"⟩
def y_Mod_rank : MethodName := ⟨RX10, "rank", "(I)I"⟩
def y_Mod_settle : MethodName := ⟨RX10, "settle", "(I)V"⟩
def y_Mod_signHere : MethodName := ⟨RX10, "signHere", "()I"⟩
def y_Mod_takesPart : MethodName := ⟨RX10, "takesPart", "()Z"⟩
def y_Mod_takesE : MethodName := ⟨RX10, "takesE", "()Z"⟩
def y_Mod_notsOpen : MethodName := ⟨RX10, "notsOpen", "()I"⟩
def y_Mod_text : MethodName := ⟨RX10, "text", "()I"⟩
def y_Mod_textTold : MethodName := ⟨RX10, "textTold", "(II)I"⟩
def y_Mod_counts : MethodName := ⟨RX10, "counts", "(I)I"⟩
def y_Mod_why : MethodName := ⟨RX10, "why", "(I)I"⟩
def y_Mod_two : MethodName := ⟨RX10, "two", "(III)I"⟩
def y_Mod_worksOut : MethodName := ⟨RX10, "worksOut", "(I)I"⟩
def y_Mod_isSheet : MethodName := ⟨RX10, "isSheet", "(I)Z"⟩
def y_Mod_isSlot : MethodName := ⟨RX10, "isSlot", "(I)Z"⟩
def y_Mod_sheet : MethodName := ⟨RX10, "sheet", "(III)I"⟩
def y_Mod_mark : MethodName := ⟨RX10, "mark", "(III)I"⟩
def y_Mod_pour : MethodName := ⟨RX10, "pour", "(II)I"⟩
def y_Mod_reads : MethodName := ⟨RX10, "reads", "(II)I"⟩
def y_Mod_copy : MethodName := ⟨RX10, "copy", "(IIIII)I"⟩
def y_Mod_lay : MethodName := ⟨RX10, "lay", "(III)I"⟩
def y_Mod_ask : MethodName := ⟨RX10, "ask", "(II)I"⟩
def y_Mod_item : MethodName := ⟨RX10, "item", "(II)I"⟩
def y_Mod_rest : MethodName := ⟨RX10, "rest", "(II)I"⟩
def y_Mod_tell : MethodName := ⟨RX10, "tell", "(I)I"⟩
def y_Mod_check : MethodName := ⟨RX10, "check", "(I)I"⟩
def y_Mod_keep : MethodName := ⟨RX10, "keep", "()I"⟩
def y_Mod_back : MethodName := ⟨RX10, "back", "()I"⟩
def y_Mod_count : MethodName := ⟨RX10, "count", "(I)I"⟩
def y_Integer_bitCount : MethodName := ⟨RJ6, "bitCount", "(I)I"⟩
def y_Math_floorDiv : MethodName := ⟨RJ9, "floorDiv", "(II)I"⟩
def y_Math_abs : MethodName := ⟨RJ9, "abs", "(I)I"⟩
def y_Math_max : MethodName := ⟨RJ9, "max", "(II)I"⟩
def y_Math_min : MethodName := ⟨RJ9, "min", "(II)I"⟩
def y_String_length : MethodName := ⟨RJ0, "length", "()I"⟩
def y_String_charAt : MethodName := ⟨RJ0, "charAt", "(I)C"⟩
def y_String_coder : MethodName := ⟨RJ0, "coder", "()B"⟩
def y_String_isLatin1 : MethodName := ⟨RJ0, "isLatin1", "()Z"⟩
def y_String_checkIndex : MethodName := ⟨RJ0, "checkIndex", "(II)V"⟩
def y_StringLatin1_charAt : MethodName := ⟨RJ1, "charAt", "([BI)C"⟩
def y_Arrays_fill : MethodName := ⟨RJ7, "fill", "([II)V"⟩
def y_Preconditions_checkIndex : MethodName := ⟨RJ3, "checkIndex", "(IILjava/util/function/BiFunction;)I"⟩
def y_Law_law : MethodName := ⟨RL, "law", "([I)Z"⟩
def ct_Cells_init : List (Nat × Instr × Nat × Nat) := [(0, .aload_n 0, 1, 0), (1, .invokespecial 3, 4, 0), (4, .aload_n 0, 5, 0), (5, .iconst 4, 6, 0), (6, .bipush 30, 8, 0), (8, .multianewarray 9 2, 12, 0), (12, .putfield 11, 15, 0), (15, .aload_n 0, 16, 0), (16, .bipush 30, 18, 0), (18, .newarray .int, 20, 0), (20, .putfield 16, 23, 0), (23, .aload_n 0, 24, 0), (24, .iconst 4, 25, 0), (25, .newarray .int, 27, 0), (27, .putfield 20, 30, 0), (30, .return_, 31, 0)]
def ct_Cells_isHeld : List (Nat × Instr × Nat × Nat) := [(0, .aload_n 0, 1, 0), (1, .getfield 11, 4, 0), (4, .iload_n 1, 5, 0), (5, .aaload, 6, 0), (6, .iload_n 3, 7, 0), (7, .iaload, 8, 0), (8, .iload_n 2, 9, 0), (9, .ishr, 10, 0), (10, .iconst 1, 11, 0), (11, .iand, 12, 0), (12, .iconst 1, 13, 0), (13, .if_icmp .ne 7, 16, 20), (16, .iconst 1, 17, 0), (17, .goto 4, 20, 21), (20, .iconst 0, 21, 0), (21, .ireturn, 22, 0)]
def ct_Cells_fillDeed : List (Nat × Instr × Nat × Nat) := [(0, .aload_n 0, 1, 0), (1, .getfield 11, 4, 0), (4, .iload_n 2, 5, 0), (5, .aaload, 6, 0), (6, .astore_n 3, 7, 0), (7, .aload_n 3, 8, 0), (8, .iconst 0, 9, 0), (9, .invokestatic 23, 12, 0), (12, .aload_n 1, 13, 0), (13, .iload_n 2, 14, 0), (14, .invokevirtual 29, 17, 0), (17, .iconst 0, 18, 0), (18, .istore 4, 20, 0), (20, .iload 4, 22, 0), (22, .aload_n 1, 23, 0), (23, .getfield 35, 26, 0), (26, .if_icmp .ge 103, 29, 129), (29, .aload_n 1, 30, 0), (30, .iload 4, 32, 0), (32, .invokevirtual 39, 35, 0), (35, .istore 5, 37, 0), (37, .aload_n 1, 38, 0), (38, .getfield 43, 41, 0), (41, .iload 4, 43, 0), (43, .iaload, 44, 0), (44, .aload_n 1, 45, 0), (45, .getfield 43, 48, 0), (48, .iload 5, 50, 0), (50, .iaload, 51, 0), (51, .if_icmp .ge 39, 54, 90), (54, .aload_n 0, 55, 0), (55, .aload_n 3, 56, 0), (56, .aload_n 1, 57, 0), (57, .getfield 46, 60, 0), (60, .iload 4, 62, 0), (62, .iaload, 63, 0), (63, .aload_n 1, 64, 0), (64, .getfield 43, 67, 0), (67, .iload 4, 69, 0), (69, .iaload, 70, 0), (70, .aload_n 1, 71, 0), (71, .getfield 46, 74, 0), (74, .iload 5, 76, 0), (76, .iaload, 77, 0), (77, .aload_n 1, 78, 0), (78, .getfield 43, 81, 0), (81, .iload 5, 83, 0), (83, .iaload, 84, 0), (84, .invokevirtual 49, 87, 0), (87, .goto 36, 90, 123), (90, .aload_n 0, 91, 0), (91, .aload_n 3, 92, 0), (92, .aload_n 1, 93, 0), (93, .getfield 46, 96, 0), (96, .iload 5, 98, 0), (98, .iaload, 99, 0), (99, .aload_n 1, 100, 0), (100, .getfield 43, 103, 0), (103, .iload 5, 105, 0), (105, .iaload, 106, 0), (106, .aload_n 1, 107, 0), (107, .getfield 46, 110, 0), (110, .iload 4, 112, 0), (112, .iaload, 113, 0), (113, .aload_n 1, 114, 0), (114, .getfield 43, 117, 0), (117, .iload 4, 119, 0), (119, .iaload, 120, 0), (120, .invokevirtual 49, 123, 0), (123, .iinc 4 1, 126, 0), (126, .goto (-106), 129, 20), (129, .return_, 130, 0)]
def ct_Cells_addSide : List (Nat × Instr × Nat × Nat) := [(0, .iload 5, 2, 0), (2, .iload_n 3, 3, 0), (3, .isub, 4, 0), (4, .istore 6, 6, 0), (6, .iload 6, 8, 0), (8, .ifCond .gt 4, 11, 12), (11, .return_, 12, 0), (12, .iload 5, 14, 0), (14, .bipush 30, 16, 0), (16, .invokestatic 53, 19, 0), (19, .istore 7, 21, 0), (21, .iload_n 3, 22, 0), (22, .iconst 0, 23, 0), (23, .invokestatic 59, 26, 0), (26, .istore 8, 28, 0), (28, .iload 8, 30, 0), (30, .iload 7, 32, 0), (32, .if_icmp .ge 72, 35, 104), (35, .iconst 2, 36, 0), (36, .iload_n 2, 37, 0), (37, .imul, 38, 0), (38, .iload 6, 40, 0), (40, .imul, 41, 0), (41, .iload 4, 43, 0), (43, .iload_n 2, 44, 0), (44, .isub, 45, 0), (45, .iconst 2, 46, 0), (46, .iload 8, 48, 0), (48, .iload_n 3, 49, 0), (49, .isub, 50, 0), (50, .imul, 51, 0), (51, .iconst 1, 52, 0), (52, .iadd, 53, 0), (53, .imul, 54, 0), (54, .iadd, 55, 0), (55, .istore 9, 57, 0), (57, .iload 9, 59, 0), (59, .iconst 1, 60, 0), (60, .isub, 61, 0), (61, .iload 6, 63, 0), (63, .invokestatic 62, 66, 0), (66, .istore 10, 68, 0), (68, .iconst 0, 69, 0), (69, .bipush 30, 71, 0), (71, .iload 10, 73, 0), (73, .iconst 1, 74, 0), (74, .iadd, 75, 0), (75, .iconst 1, 76, 0), (76, .ishr, 77, 0), (77, .invokestatic 53, 80, 0), (80, .invokestatic 59, 83, 0), (83, .istore 11, 85, 0), (85, .aload_n 1, 86, 0), (86, .iload 8, 88, 0), (88, .dup2, 89, 0), (89, .iaload, 90, 0), (90, .iconst 1, 91, 0), (91, .iload 11, 93, 0), (93, .ishl, 94, 0), (94, .iconst 1, 95, 0), (95, .isub, 96, 0), (96, .ixor, 97, 0), (97, .iastore, 98, 0), (98, .iinc 8 1, 101, 0), (101, .goto (-73), 104, 28), (104, .return_, 105, 0)]
def ct_Cells_fillOwners : List (Nat × Instr × Nat × Nat) := [(0, .aload_n 1, 1, 0), (1, .getfield 65, 4, 0), (4, .getfield 69, 7, 0), (7, .istore_n 2, 8, 0), (8, .iconst 0, 9, 0), (9, .istore_n 3, 10, 0), (10, .iload_n 3, 11, 0), (11, .iload_n 2, 12, 0), (12, .if_icmp .ge 29, 15, 41), (15, .aload_n 0, 16, 0), (16, .aload_n 1, 17, 0), (17, .iload_n 3, 18, 0), (18, .invokevirtual 74, 21, 0), (21, .aload_n 0, 22, 0), (22, .getfield 20, 25, 0), (25, .iload_n 3, 26, 0), (26, .aload_n 1, 27, 0), (27, .getfield 65, 30, 0), (30, .iload_n 3, 31, 0), (31, .invokevirtual 78, 34, 0), (34, .iastore, 35, 0), (35, .iinc 3 1, 38, 0), (38, .goto (-28), 41, 10), (41, .aload_n 0, 42, 0), (42, .getfield 16, 45, 0), (45, .ldc 81, 47, 0), (47, .invokestatic 23, 50, 0), (50, .iconst 0, 51, 0), (51, .istore_n 3, 52, 0), (52, .iconst 0, 53, 0), (53, .istore 4, 55, 0), (55, .iload 4, 57, 0), (57, .iload_n 2, 58, 0), (58, .if_icmp .ge 82, 61, 140), (61, .aload_n 0, 62, 0), (62, .iload_n 2, 63, 0), (63, .iload_n 3, 64, 0), (64, .invokevirtual 82, 67, 0), (67, .istore 5, 69, 0), (69, .iload_n 3, 70, 0), (70, .iconst 1, 71, 0), (71, .iload 5, 73, 0), (73, .ishl, 74, 0), (74, .ior, 75, 0), (75, .istore_n 3, 76, 0), (76, .iconst 0, 77, 0), (77, .istore 6, 79, 0), (79, .iload 6, 81, 0), (81, .bipush 30, 83, 0), (83, .if_icmp .ge 51, 86, 134), (86, .aload_n 0, 87, 0), (87, .getfield 11, 90, 0), (90, .iload 5, 92, 0), (92, .aaload, 93, 0), (93, .iload 6, 95, 0), (95, .dup2, 96, 0), (96, .iaload, 97, 0), (97, .aload_n 0, 98, 0), (98, .getfield 16, 101, 0), (101, .iload 6, 103, 0), (103, .iaload, 104, 0), (104, .iand, 105, 0), (105, .iastore, 106, 0), (106, .aload_n 0, 107, 0), (107, .getfield 16, 110, 0), (110, .iload 6, 112, 0), (112, .dup2, 113, 0), (113, .iaload, 114, 0), (114, .aload_n 0, 115, 0), (115, .getfield 11, 118, 0), (118, .iload 5, 120, 0), (120, .aaload, 121, 0), (121, .iload 6, 123, 0), (123, .iaload, 124, 0), (124, .iconst (-1), 125, 0), (125, .ixor, 126, 0), (126, .iand, 127, 0), (127, .iastore, 128, 0), (128, .iinc 6 1, 131, 0), (131, .goto (-52), 134, 79), (134, .iinc 4 1, 137, 0), (137, .goto (-82), 140, 55), (140, .return_, 141, 0)]
def ct_Cells_firstUnserved : List (Nat × Instr × Nat × Nat) := [(0, .iconst (-1), 1, 0), (1, .istore_n 3, 2, 0), (2, .iconst 0, 3, 0), (3, .istore 4, 5, 0), (5, .iload 4, 7, 0), (7, .iload_n 1, 8, 0), (8, .if_icmp .ge 41, 11, 49), (11, .iload_n 2, 12, 0), (12, .iload 4, 14, 0), (14, .ishr, 15, 0), (15, .iconst 1, 16, 0), (16, .iand, 17, 0), (17, .ifCond .ne 26, 20, 43), (20, .iload_n 3, 21, 0), (21, .ifCond .lt 19, 24, 40), (24, .aload_n 0, 25, 0), (25, .getfield 20, 28, 0), (28, .iload 4, 30, 0), (30, .iaload, 31, 0), (31, .aload_n 0, 32, 0), (32, .getfield 20, 35, 0), (35, .iload_n 3, 36, 0), (36, .iaload, 37, 0), (37, .if_icmp .ge 6, 40, 43), (40, .iload 4, 42, 0), (42, .istore_n 3, 43, 0), (43, .iinc 4 1, 46, 0), (46, .goto (-41), 49, 5), (49, .iload_n 3, 50, 0), (50, .iconst 0, 51, 0), (51, .invokestatic 59, 54, 0), (54, .ireturn, 55, 0)]
def ct_Cells_countUnlike : List (Nat × Instr × Nat × Nat) := [(0, .iconst 0, 1, 0), (1, .istore_n 3, 2, 0), (2, .iconst 0, 3, 0), (3, .istore 4, 5, 0), (5, .iload 4, 7, 0), (7, .bipush 30, 9, 0), (9, .if_icmp .ge 75, 12, 84), (12, .aload_n 0, 13, 0), (13, .getfield 16, 16, 0), (16, .iload 4, 18, 0), (18, .iaload, 19, 0), (19, .aload_n 1, 20, 0), (20, .getfield 16, 23, 0), (23, .iload 4, 25, 0), (25, .iaload, 26, 0), (26, .ixor, 27, 0), (27, .istore 5, 29, 0), (29, .iconst 0, 30, 0), (30, .istore 6, 32, 0), (32, .iload 6, 34, 0), (34, .iload_n 2, 35, 0), (35, .if_icmp .ge 35, 38, 70), (38, .iload 5, 40, 0), (40, .aload_n 0, 41, 0), (41, .getfield 11, 44, 0), (44, .iload 6, 46, 0), (46, .aaload, 47, 0), (47, .iload 4, 49, 0), (49, .iaload, 50, 0), (50, .aload_n 1, 51, 0), (51, .getfield 11, 54, 0), (54, .iload 6, 56, 0), (56, .aaload, 57, 0), (57, .iload 4, 59, 0), (59, .iaload, 60, 0), (60, .ixor, 61, 0), (61, .ior, 62, 0), (62, .istore 5, 64, 0), (64, .iinc 6 1, 67, 0), (67, .goto (-35), 70, 32), (70, .iload_n 3, 71, 0), (71, .iload 5, 73, 0), (73, .invokestatic 85, 76, 0), (76, .iadd, 77, 0), (77, .istore_n 3, 78, 0), (78, .iinc 4 1, 81, 0), (81, .goto (-76), 84, 5), (84, .iload_n 3, 85, 0), (85, .ireturn, 86, 0)]
def ct_Deed_init : List (Nat × Instr × Nat × Nat) := [(0, .aload_n 0, 1, 0), (1, .invokespecial 3, 4, 0), (4, .aload_n 0, 5, 0), (5, .bipush 10, 7, 0), (7, .newarray .int, 9, 0), (9, .putfield 9, 12, 0), (12, .aload_n 0, 13, 0), (13, .bipush 10, 15, 0), (15, .newarray .int, 17, 0), (17, .putfield 15, 20, 0), (20, .aload_n 0, 21, 0), (21, .bipush 10, 23, 0), (23, .newarray .int, 25, 0), (25, .putfield 18, 28, 0), (28, .return_, 29, 0)]
def ct_Deed_beginAt : List (Nat × Instr × Nat × Nat) := [(0, .aload_n 0, 1, 0), (1, .iload_n 1, 2, 0), (2, .bipush 100, 4, 0), (4, .idiv, 5, 0), (5, .putfield 21, 8, 0), (8, .aload_n 0, 9, 0), (9, .iload_n 1, 10, 0), (10, .bipush 100, 12, 0), (12, .irem, 13, 0), (13, .putfield 25, 16, 0), (16, .return_, 17, 0)]
def ct_Deed_hasNumber : List (Nat × Instr × Nat × Nat) := [(0, .iload_n 1, 1, 0), (1, .iconst 0, 2, 0), (2, .aload_n 0, 3, 0), (3, .getfield 28, 6, 0), (6, .iconst 1, 7, 0), (7, .isub, 8, 0), (8, .invokestatic 31, 11, 0), (11, .ireturn, 12, 0)]
def ct_Deed_addCall : List (Nat × Instr × Nat × Nat) := [(0, .aload_n 0, 1, 0), (1, .getfield 28, 4, 0), (4, .bipush 10, 6, 0), (6, .if_icmp .ge 43, 9, 49), (9, .aload_n 0, 10, 0), (10, .getfield 9, 13, 0), (13, .aload_n 0, 14, 0), (14, .getfield 28, 17, 0), (17, .iload_n 1, 18, 0), (18, .iastore, 19, 0), (19, .aload_n 0, 20, 0), (20, .getfield 15, 23, 0), (23, .aload_n 0, 24, 0), (24, .getfield 28, 27, 0), (27, .iload_n 2, 28, 0), (28, .iastore, 29, 0), (29, .aload_n 0, 30, 0), (30, .getfield 18, 33, 0), (33, .aload_n 0, 34, 0), (34, .getfield 28, 37, 0), (37, .iload_n 3, 38, 0), (38, .iastore, 39, 0), (39, .aload_n 0, 40, 0), (40, .dup, 41, 0), (41, .getfield 28, 44, 0), (44, .iconst 1, 45, 0), (45, .iadd, 46, 0), (46, .putfield 28, 49, 0), (49, .return_, 50, 0)]
def ct_Deed_removeCall : List (Nat × Instr × Nat × Nat) := [(0, .aload_n 0, 1, 0), (1, .iload_n 1, 2, 0), (2, .invokevirtual 35, 5, 0), (5, .ifCond .ne 4, 8, 9), (8, .return_, 9, 0), (9, .iload_n 1, 10, 0), (10, .istore_n 2, 11, 0), (11, .iload_n 2, 12, 0), (12, .iconst 1, 13, 0), (13, .iadd, 14, 0), (14, .aload_n 0, 15, 0), (15, .getfield 28, 18, 0), (18, .if_icmp .ge 51, 21, 69), (21, .aload_n 0, 22, 0), (22, .getfield 9, 25, 0), (25, .iload_n 2, 26, 0), (26, .aload_n 0, 27, 0), (27, .getfield 9, 30, 0), (30, .iload_n 2, 31, 0), (31, .iconst 1, 32, 0), (32, .iadd, 33, 0), (33, .iaload, 34, 0), (34, .iastore, 35, 0), (35, .aload_n 0, 36, 0), (36, .getfield 15, 39, 0), (39, .iload_n 2, 40, 0), (40, .aload_n 0, 41, 0), (41, .getfield 15, 44, 0), (44, .iload_n 2, 45, 0), (45, .iconst 1, 46, 0), (46, .iadd, 47, 0), (47, .iaload, 48, 0), (48, .iastore, 49, 0), (49, .aload_n 0, 50, 0), (50, .getfield 18, 53, 0), (53, .iload_n 2, 54, 0), (54, .aload_n 0, 55, 0), (55, .getfield 18, 58, 0), (58, .iload_n 2, 59, 0), (59, .iconst 1, 60, 0), (60, .iadd, 61, 0), (61, .iaload, 62, 0), (62, .iastore, 63, 0), (63, .iinc 2 1, 66, 0), (66, .goto (-55), 69, 11), (69, .aload_n 0, 70, 0), (70, .dup, 71, 0), (71, .getfield 28, 74, 0), (74, .iconst 1, 75, 0), (75, .isub, 76, 0), (76, .putfield 28, 79, 0), (79, .return_, 80, 0)]
def ct_Deed_takeFrom : List (Nat × Instr × Nat × Nat) := [(0, .aload_n 0, 1, 0), (1, .aload_n 1, 2, 0), (2, .getfield 21, 5, 0), (5, .putfield 21, 8, 0), (8, .aload_n 0, 9, 0), (9, .aload_n 1, 10, 0), (10, .getfield 25, 13, 0), (13, .putfield 25, 16, 0), (16, .aload_n 0, 17, 0), (17, .aload_n 1, 18, 0), (18, .getfield 39, 21, 0), (21, .putfield 39, 24, 0), (24, .aload_n 0, 25, 0), (25, .aload_n 1, 26, 0), (26, .getfield 42, 29, 0), (29, .putfield 42, 32, 0), (32, .aload_n 0, 33, 0), (33, .aload_n 1, 34, 0), (34, .getfield 28, 37, 0), (37, .putfield 28, 40, 0), (40, .iconst 0, 41, 0), (41, .istore_n 2, 42, 0), (42, .iload_n 2, 43, 0), (43, .bipush 10, 45, 0), (45, .if_icmp .ge 45, 48, 90), (48, .aload_n 0, 49, 0), (49, .getfield 9, 52, 0), (52, .iload_n 2, 53, 0), (53, .aload_n 1, 54, 0), (54, .getfield 9, 57, 0), (57, .iload_n 2, 58, 0), (58, .iaload, 59, 0), (59, .iastore, 60, 0), (60, .aload_n 0, 61, 0), (61, .getfield 15, 64, 0), (64, .iload_n 2, 65, 0), (65, .aload_n 1, 66, 0), (66, .getfield 15, 69, 0), (69, .iload_n 2, 70, 0), (70, .iaload, 71, 0), (71, .iastore, 72, 0), (72, .aload_n 0, 73, 0), (73, .getfield 18, 76, 0), (76, .iload_n 2, 77, 0), (77, .aload_n 1, 78, 0), (78, .getfield 18, 81, 0), (81, .iload_n 2, 82, 0), (82, .iaload, 83, 0), (83, .iastore, 84, 0), (84, .iinc 2 1, 87, 0), (87, .goto (-45), 90, 42), (90, .return_, 91, 0)]
def ct_Land_init : List (Nat × Instr × Nat × Nat) := [(0, .aload_n 0, 1, 0), (1, .invokespecial 3, 4, 0), (4, .aload_n 0, 5, 0), (5, .bipush 8, 7, 0), (7, .newarray .int, 9, 0), (9, .putfield 9, 12, 0), (12, .aload_n 0, 13, 0), (13, .bipush 8, 15, 0), (15, .newarray .int, 17, 0), (17, .putfield 15, 20, 0), (20, .aload_n 0, 21, 0), (21, .iconst 4, 22, 0), (22, .anewarray 18, 25, 0), (25, .putfield 20, 28, 0), (28, .aload_n 0, 29, 0), (29, .iconst 1, 30, 0), (30, .putfield 24, 33, 0), (33, .aload_n 0, 34, 0), (34, .aload_n 1, 35, 0), (35, .putfield 28, 38, 0), (38, .iconst 0, 39, 0), (39, .istore_n 2, 40, 0), (40, .iload_n 2, 41, 0), (41, .iconst 4, 42, 0), (42, .if_icmp .ge 22, 45, 64), (45, .aload_n 0, 46, 0), (46, .getfield 20, 49, 0), (49, .iload_n 2, 50, 0), (50, .new 18, 53, 0), (53, .dup, 54, 0), (54, .invokespecial 32, 57, 0), (57, .aastore, 58, 0), (58, .iinc 2 1, 61, 0), (61, .goto (-21), 64, 40), (64, .return_, 65, 0)]
def ct_Land_takeFrom : List (Nat × Instr × Nat × Nat) := [(0, .aload_n 0, 1, 0), (1, .aload_n 1, 2, 0), (2, .getfield 33, 5, 0), (5, .putfield 33, 8, 0), (8, .iconst 0, 9, 0), (9, .istore_n 2, 10, 0), (10, .iload_n 2, 11, 0), (11, .bipush 8, 13, 0), (13, .if_icmp .ge 33, 16, 46), (16, .aload_n 0, 17, 0), (17, .getfield 9, 20, 0), (20, .iload_n 2, 21, 0), (21, .aload_n 1, 22, 0), (22, .getfield 9, 25, 0), (25, .iload_n 2, 26, 0), (26, .iaload, 27, 0), (27, .iastore, 28, 0), (28, .aload_n 0, 29, 0), (29, .getfield 15, 32, 0), (32, .iload_n 2, 33, 0), (33, .aload_n 1, 34, 0), (34, .getfield 15, 37, 0), (37, .iload_n 2, 38, 0), (38, .iaload, 39, 0), (39, .iastore, 40, 0), (40, .iinc 2 1, 43, 0), (43, .goto (-33), 46, 10), (46, .aload_n 0, 47, 0), (47, .aload_n 1, 48, 0), (48, .getfield 36, 51, 0), (51, .putfield 36, 54, 0), (54, .iconst 0, 55, 0), (55, .istore_n 2, 56, 0), (56, .iload_n 2, 57, 0), (57, .iconst 4, 58, 0), (58, .if_icmp .ge 24, 61, 82), (61, .aload_n 0, 62, 0), (62, .getfield 20, 65, 0), (65, .iload_n 2, 66, 0), (66, .aaload, 67, 0), (67, .aload_n 1, 68, 0), (68, .getfield 20, 71, 0), (71, .iload_n 2, 72, 0), (72, .aaload, 73, 0), (73, .invokevirtual 39, 76, 0), (76, .iinc 2 1, 79, 0), (79, .goto (-23), 82, 56), (82, .aload_n 0, 83, 0), (83, .aload_n 1, 84, 0), (84, .getfield 43, 87, 0), (87, .putfield 43, 90, 0), (90, .aload_n 0, 91, 0), (91, .aload_n 1, 92, 0), (92, .getfield 24, 95, 0), (95, .putfield 24, 98, 0), (98, .return_, 99, 0)]
def ct_Land_hasStone : List (Nat × Instr × Nat × Nat) := [(0, .iload_n 1, 1, 0), (1, .iconst 0, 2, 0), (2, .aload_n 0, 3, 0), (3, .getfield 33, 6, 0), (6, .iconst 1, 7, 0), (7, .isub, 8, 0), (8, .invokestatic 46, 11, 0), (11, .ireturn, 12, 0)]
def ct_Land_hasDeed : List (Nat × Instr × Nat × Nat) := [(0, .iload_n 1, 1, 0), (1, .iconst 0, 2, 0), (2, .aload_n 0, 3, 0), (3, .getfield 36, 6, 0), (6, .iconst 1, 7, 0), (7, .isub, 8, 0), (8, .invokestatic 46, 11, 0), (11, .ireturn, 12, 0)]
def ct_Land_hasCall : List (Nat × Instr × Nat × Nat) := [(0, .aload_n 0, 1, 0), (1, .iload_n 1, 2, 0), (2, .invokevirtual 50, 5, 0), (5, .ifCond .eq 20, 8, 25), (8, .aload_n 0, 9, 0), (9, .getfield 20, 12, 0), (12, .iload_n 1, 13, 0), (13, .aaload, 14, 0), (14, .iload_n 2, 15, 0), (15, .invokevirtual 54, 18, 0), (18, .ifCond .eq 7, 21, 25), (21, .iconst 1, 22, 0), (22, .goto 4, 25, 26), (25, .iconst 0, 26, 0), (26, .ireturn, 27, 0)]
def ct_Land_hasYear : List (Nat × Instr × Nat × Nat) := [(0, .iconst 0, 1, 0), (1, .istore_n 2, 2, 0), (2, .iload_n 2, 3, 0), (3, .aload_n 0, 4, 0), (4, .getfield 36, 7, 0), (7, .if_icmp .ge 24, 10, 31), (10, .aload_n 0, 11, 0), (11, .getfield 20, 14, 0), (14, .iload_n 2, 15, 0), (15, .aaload, 16, 0), (16, .getfield 57, 19, 0), (19, .iload_n 1, 20, 0), (20, .if_icmp .ne 5, 23, 25), (23, .iconst 1, 24, 0), (24, .ireturn, 25, 0), (25, .iinc 2 1, 28, 0), (28, .goto (-26), 31, 2), (31, .iconst 0, 32, 0), (32, .ireturn, 33, 0)]
def ct_Land_putStone : List (Nat × Instr × Nat × Nat) := [(0, .aload_n 0, 1, 0), (1, .iload_n 1, 2, 0), (2, .invokevirtual 60, 5, 0), (5, .ifCond .eq 17, 8, 22), (8, .aload_n 0, 9, 0), (9, .getfield 9, 12, 0), (12, .iload_n 1, 13, 0), (13, .iload_n 2, 14, 0), (14, .iastore, 15, 0), (15, .aload_n 0, 16, 0), (16, .getfield 15, 19, 0), (19, .iload_n 1, 20, 0), (20, .iload_n 3, 21, 0), (21, .iastore, 22, 0), (22, .return_, 23, 0)]
def ct_Land_callsOfAll : List (Nat × Instr × Nat × Nat) := [(0, .iconst 0, 1, 0), (1, .istore_n 1, 2, 0), (2, .iconst 0, 3, 0), (3, .istore_n 2, 4, 0), (4, .iload_n 2, 5, 0), (5, .aload_n 0, 6, 0), (6, .getfield 36, 9, 0), (9, .if_icmp .ge 21, 12, 30), (12, .iload_n 1, 13, 0), (13, .aload_n 0, 14, 0), (14, .getfield 20, 17, 0), (17, .iload_n 2, 18, 0), (18, .aaload, 19, 0), (19, .getfield 63, 22, 0), (22, .iadd, 23, 0), (23, .istore_n 1, 24, 0), (24, .iinc 2 1, 27, 0), (27, .goto (-23), 30, 4), (30, .iload_n 1, 31, 0), (31, .ireturn, 32, 0)]
def ct_Land_drawNumber : List (Nat × Instr × Nat × Nat) := [(0, .aload_n 0, 1, 0), (1, .aload_n 0, 2, 0), (2, .getfield 24, 5, 0), (5, .ldc 66, 7, 0), (7, .imul, 8, 0), (8, .sipush 12345, 11, 0), (11, .iadd, 12, 0), (12, .putfield 24, 15, 0), (15, .aload_n 0, 16, 0), (16, .getfield 24, 19, 0), (19, .bipush 8, 21, 0), (21, .iushr, 22, 0), (22, .ireturn, 23, 0)]
def ct_Land_needleOf : List (Nat × Instr × Nat × Nat) := [(0, .aload_n 0, 1, 0), (1, .getfield 28, 4, 0), (4, .iconst 0, 5, 0), (5, .aload_n 0, 6, 0), (6, .getfield 43, 9, 0), (9, .invokevirtual 67, 12, 0), (12, .istore_n 2, 13, 0), (13, .iload_n 2, 14, 0), (14, .ldc 73, 16, 0), (16, .if_icmp .ne 7, 19, 23), (19, .iconst 0, 20, 0), (20, .goto 21, 23, 41), (23, .aload_n 0, 24, 0), (24, .getfield 28, 27, 0), (27, .iload_n 2, 28, 0), (28, .aload_n 0, 29, 0), (29, .getfield 20, 32, 0), (32, .iload_n 1, 33, 0), (33, .aaload, 34, 0), (34, .iload_n 1, 35, 0), (35, .invokevirtual 74, 38, 0), (38, .bipush 7, 40, 0), (40, .iand, 41, 0), (41, .ireturn, 42, 0)]
def ct_Land_chainOf : List (Nat × Instr × Nat × Nat) := [(0, .aload_n 0, 1, 0), (1, .getfield 28, 4, 0), (4, .iconst 1, 5, 0), (5, .aload_n 0, 6, 0), (6, .getfield 43, 9, 0), (9, .invokevirtual 67, 12, 0), (12, .istore_n 2, 13, 0), (13, .iload_n 2, 14, 0), (14, .ldc 73, 16, 0), (16, .if_icmp .ne 13, 19, 29), (19, .aload_n 0, 20, 0), (20, .getfield 20, 23, 0), (23, .iload_n 1, 24, 0), (24, .aaload, 25, 0), (25, .getfield 78, 28, 0), (28, .ireturn, 29, 0), (29, .bipush (-9), 31, 0), (31, .bipush 9, 33, 0), (33, .aload_n 0, 34, 0), (34, .getfield 28, 37, 0), (37, .iload_n 2, 38, 0), (38, .aload_n 0, 39, 0), (39, .getfield 20, 42, 0), (42, .iload_n 1, 43, 0), (43, .aaload, 44, 0), (44, .iload_n 1, 45, 0), (45, .invokevirtual 74, 48, 0), (48, .invokestatic 81, 51, 0), (51, .invokestatic 86, 54, 0), (54, .ireturn, 55, 0)]
def ct_Land_rankOf : List (Nat × Instr × Nat × Nat) := [(0, .aload_n 0, 1, 0), (1, .getfield 28, 4, 0), (4, .iconst 2, 5, 0), (5, .aload_n 0, 6, 0), (6, .getfield 43, 9, 0), (9, .invokevirtual 67, 12, 0), (12, .istore_n 2, 13, 0), (13, .iload_n 2, 14, 0), (14, .ldc 73, 16, 0), (16, .if_icmp .ne 15, 19, 31), (19, .aload_n 0, 20, 0), (20, .getfield 20, 23, 0), (23, .iload_n 1, 24, 0), (24, .aaload, 25, 0), (25, .getfield 57, 28, 0), (28, .goto 18, 31, 46), (31, .aload_n 0, 32, 0), (32, .getfield 28, 35, 0), (35, .iload_n 2, 36, 0), (36, .aload_n 0, 37, 0), (37, .getfield 20, 40, 0), (40, .iload_n 1, 41, 0), (41, .aaload, 42, 0), (42, .iload_n 1, 43, 0), (43, .invokevirtual 74, 46, 0), (46, .ireturn, 47, 0)]
def ct_Laws_init : List (Nat × Instr × Nat × Nat) := [(0, .aload_n 0, 1, 0), (1, .invokespecial 3, 4, 0), (4, .aload_n 0, 5, 0), (5, .bipush 14, 7, 0), (7, .anewarray 9, 10, 0), (10, .putfield 11, 13, 0), (13, .aload_n 0, 14, 0), (14, .bipush 96, 16, 0), (16, .newarray .int, 18, 0), (18, .putfield 17, 21, 0), (21, .iconst 0, 22, 0), (22, .istore_n 1, 23, 0), (23, .iload_n 1, 24, 0), (24, .bipush 14, 26, 0), (26, .if_icmp .ge 22, 29, 48), (29, .aload_n 0, 30, 0), (30, .getfield 11, 33, 0), (33, .iload_n 1, 34, 0), (34, .new 9, 37, 0), (37, .dup, 38, 0), (38, .invokespecial 21, 41, 0), (41, .aastore, 42, 0), (42, .iinc 1 1, 45, 0), (45, .goto (-22), 48, 23), (48, .return_, 49, 0)]
def ct_Laws_lastOf : List (Nat × Instr × Nat × Nat) := [(0, .iload_n 2, 1, 0), (1, .bipush 14, 3, 0), (3, .invokestatic 22, 6, 0), (6, .iconst 1, 7, 0), (7, .isub, 8, 0), (8, .istore_n 3, 9, 0), (9, .iload_n 3, 10, 0), (10, .ifCond .lt 24, 13, 34), (13, .aload_n 0, 14, 0), (14, .getfield 11, 17, 0), (17, .iload_n 3, 18, 0), (18, .aaload, 19, 0), (19, .getfield 28, 22, 0), (22, .iload_n 1, 23, 0), (23, .if_icmp .ne 5, 26, 28), (26, .iload_n 3, 27, 0), (27, .ireturn, 28, 0), (28, .iinc 3 (-1), 31, 0), (31, .goto (-22), 34, 9), (34, .ldc 32, 36, 0), (36, .ireturn, 37, 0)]
def ct_Laws_workOut : List (Nat × Instr × Nat × Nat) := [(0, .aload_n 0, 1, 0), (1, .getfield 11, 4, 0), (4, .iload_n 1, 5, 0), (5, .aaload, 6, 0), (6, .astore 4, 8, 0), (8, .iconst (-1), 9, 0), (9, .istore 5, 11, 0), (11, .iconst 0, 12, 0), (12, .istore 6, 14, 0), (14, .iload 6, 16, 0), (16, .aload 4, 18, 0), (18, .getfield 33, 21, 0), (21, .if_icmp .ge 144, 24, 165), (24, .aload 4, 26, 0), (26, .getfield 36, 29, 0), (29, .iload 6, 31, 0), (31, .iaload, 32, 0), (32, .istore 7, 34, 0), (34, .iload 7, 36, 0), (36, .ifCond .lt 18, 39, 54), (39, .iinc 5 1, 42, 0), (42, .aload_n 0, 43, 0), (43, .getfield 17, 46, 0), (46, .iload 5, 48, 0), (48, .iload 7, 50, 0), (50, .iastore, 51, 0), (51, .goto 108, 54, 159), (54, .iload 7, 56, 0), (56, .ineg, 57, 0), (57, .invokestatic 39, 60, 0), (60, .ifCond .eq 24, 63, 84), (63, .iinc 5 1, 66, 0), (66, .aload_n 0, 67, 0), (67, .getfield 17, 70, 0), (70, .iload 5, 72, 0), (72, .iload 7, 74, 0), (74, .ineg, 75, 0), (75, .aload_n 2, 76, 0), (76, .iload_n 3, 77, 0), (77, .invokestatic 43, 80, 0), (80, .iastore, 81, 0), (81, .goto 78, 84, 159), (84, .iload 7, 86, 0), (86, .bipush (-33), 88, 0), (88, .if_icmp .ne 33, 91, 121), (91, .iload 5, 93, 0), (93, .ifCond .lt 28, 96, 121), (96, .aload_n 0, 97, 0), (97, .getfield 17, 100, 0), (100, .iload 5, 102, 0), (102, .aload_n 0, 103, 0), (103, .getfield 17, 106, 0), (106, .iload 5, 108, 0), (108, .iaload, 109, 0), (109, .ifCond .ne 7, 112, 116), (112, .iconst 1, 113, 0), (113, .goto 4, 116, 117), (116, .iconst 0, 117, 0), (117, .iastore, 118, 0), (118, .goto 41, 121, 159), (121, .iload 5, 123, 0), (123, .iconst 1, 124, 0), (124, .if_icmp .lt 35, 127, 159), (127, .iinc 5 (-1), 130, 0), (130, .aload_n 0, 131, 0), (131, .getfield 17, 134, 0), (134, .iload 5, 136, 0), (136, .iload 7, 138, 0), (138, .ineg, 139, 0), (139, .aload_n 0, 140, 0), (140, .getfield 17, 143, 0), (143, .iload 5, 145, 0), (145, .iaload, 146, 0), (146, .aload_n 0, 147, 0), (147, .getfield 17, 150, 0), (150, .iload 5, 152, 0), (152, .iconst 1, 153, 0), (153, .iadd, 154, 0), (154, .iaload, 155, 0), (155, .invokestatic 47, 158, 0), (158, .iastore, 159, 0), (159, .iinc 6 1, 162, 0), (162, .goto (-148), 165, 14), (165, .aload_n 0, 166, 0), (166, .getfield 17, 169, 0), (169, .iconst 0, 170, 0), (170, .iaload, 171, 0), (171, .ireturn, 172, 0)]
def ct_Laws_named : List (Nat × Instr × Nat × Nat) := [(0, .iload_n 0, 1, 0), (1, .lookupswitch 47 #[(99, 42), (110, 40), (115, 35)], 36, 0), (36, .aload_n 1, 37, 0), (37, .getfield 51, 40, 0), (40, .ireturn, 41, 0), (41, .iload_n 2, 42, 0), (42, .ireturn, 43, 0), (43, .aload_n 1, 44, 0), (44, .getfield 56, 47, 0), (47, .ireturn, 48, 0), (48, .aload_n 1, 49, 0), (49, .getfield 59, 52, 0), (52, .ireturn, 53, 0)]
def ct_Laws_joined : List (Nat × Instr × Nat × Nat) := [(0, .iload_n 0, 1, 0), (1, .lookupswitch 148 #[(38, 89), (42, 144), (43, 136), (45, 140), (60, 103), (61, 114), (62, 125), (124, 75)], 76, 0), (76, .iload_n 1, 77, 0), (77, .ifCond .ne 7, 80, 84), (80, .iload_n 2, 81, 0), (81, .ifCond .eq 7, 84, 88), (84, .iconst 1, 85, 0), (85, .goto 4, 88, 89), (88, .iconst 0, 89, 0), (89, .ireturn, 90, 0), (90, .iload_n 1, 91, 0), (91, .ifCond .eq 11, 94, 102), (94, .iload_n 2, 95, 0), (95, .ifCond .eq 7, 98, 102), (98, .iconst 1, 99, 0), (99, .goto 4, 102, 103), (102, .iconst 0, 103, 0), (103, .ireturn, 104, 0), (104, .iload_n 1, 105, 0), (105, .iload_n 2, 106, 0), (106, .if_icmp .ge 7, 109, 113), (109, .iconst 1, 110, 0), (110, .goto 4, 113, 114), (113, .iconst 0, 114, 0), (114, .ireturn, 115, 0), (115, .iload_n 1, 116, 0), (116, .iload_n 2, 117, 0), (117, .if_icmp .ne 7, 120, 124), (120, .iconst 1, 121, 0), (121, .goto 4, 124, 125), (124, .iconst 0, 125, 0), (125, .ireturn, 126, 0), (126, .iload_n 1, 127, 0), (127, .iload_n 2, 128, 0), (128, .if_icmp .le 7, 131, 135), (131, .iconst 1, 132, 0), (132, .goto 4, 135, 136), (135, .iconst 0, 136, 0), (136, .ireturn, 137, 0), (137, .iload_n 1, 138, 0), (138, .iload_n 2, 139, 0), (139, .iadd, 140, 0), (140, .ireturn, 141, 0), (141, .iload_n 1, 142, 0), (142, .iload_n 2, 143, 0), (143, .isub, 144, 0), (144, .ireturn, 145, 0), (145, .iload_n 1, 146, 0), (146, .iload_n 2, 147, 0), (147, .imul, 148, 0), (148, .ireturn, 149, 0), (149, .iload_n 2, 150, 0), (150, .ifCond .ne 7, 153, 157), (153, .iconst 0, 154, 0), (154, .goto 6, 157, 160), (157, .iload_n 1, 158, 0), (158, .iload_n 2, 159, 0), (159, .idiv, 160, 0), (160, .ireturn, 161, 0)]
def ct_Reader_init : List (Nat × Instr × Nat × Nat) := [(0, .aload_n 0, 1, 0), (1, .invokespecial 3, 4, 0), (4, .aload_n 0, 5, 0), (5, .bipush 96, 7, 0), (7, .newarray .int, 9, 0), (9, .putfield 9, 12, 0), (12, .aload_n 0, 13, 0), (13, .bipush 96, 15, 0), (15, .newarray .int, 17, 0), (17, .putfield 15, 20, 0), (20, .return_, 21, 0)]
def ct_Reader_addFour : List (Nat × Instr × Nat × Nat) := [(0, .bipush 24, 2, 0), (2, .istore_n 2, 3, 0), (3, .iload_n 2, 4, 0), (4, .ifCond .lt 44, 7, 48), (7, .aload_n 0, 8, 0), (8, .getfield 18, 11, 0), (11, .bipush 96, 13, 0), (13, .if_icmp .ge 35, 16, 48), (16, .aload_n 0, 17, 0), (17, .getfield 9, 20, 0), (20, .aload_n 0, 21, 0), (21, .getfield 18, 24, 0), (24, .iload_n 1, 25, 0), (25, .iload_n 2, 26, 0), (26, .iushr, 27, 0), (27, .sipush 255, 30, 0), (30, .iand, 31, 0), (31, .iastore, 32, 0), (32, .aload_n 0, 33, 0), (33, .dup, 34, 0), (34, .getfield 18, 37, 0), (37, .iconst 1, 38, 0), (38, .iadd, 39, 0), (39, .putfield 18, 42, 0), (42, .iinc 2 (-8), 45, 0), (45, .goto (-42), 48, 3), (48, .return_, 49, 0)]
def ct_Reader_parseTape : List (Nat × Instr × Nat × Nat) := [(0, .aload_n 0, 1, 0), (1, .iconst 3, 2, 0), (2, .putfield 22, 5, 0), (5, .aload_n 0, 6, 0), (6, .iconst 0, 7, 0), (7, .putfield 25, 10, 0), (10, .aload_n 0, 11, 0), (11, .iconst 0, 12, 0), (12, .putfield 28, 15, 0), (15, .aload_n 0, 16, 0), (16, .iconst 0, 17, 0), (17, .putfield 31, 20, 0), (20, .aload_n 0, 21, 0), (21, .invokevirtual 34, 24, 0), (24, .aload_n 0, 25, 0), (25, .aload_n 0, 26, 0), (26, .invokevirtual 37, 29, 0), (29, .putfield 41, 32, 0), (32, .aload_n 0, 33, 0), (33, .getfield 41, 36, 0), (36, .ifCond .ge 5, 39, 41), (39, .iconst 0, 40, 0), (40, .ireturn, 41, 0), (41, .aload_n 0, 42, 0), (42, .invokevirtual 34, 45, 0), (45, .aload_n 0, 46, 0), (46, .iconst 0, 47, 0), (47, .iconst 0, 48, 0), (48, .iconst 0, 49, 0), (49, .invokevirtual 44, 52, 0), (52, .ifCond .eq 14, 55, 66), (55, .aload_n 0, 56, 0), (56, .getfield 22, 59, 0), (59, .ifCond .ne 7, 62, 66), (62, .iconst 1, 63, 0), (63, .goto 4, 66, 67), (66, .iconst 0, 67, 0), (67, .ireturn, 68, 0)]
def ct_Reader_advance : List (Nat × Instr × Nat × Nat) := [(0, .aload_n 0, 1, 0), (1, .getfield 22, 4, 0), (4, .iconst 1, 5, 0), (5, .if_icmp .eq 11, 8, 16), (8, .aload_n 0, 9, 0), (9, .getfield 22, 12, 0), (12, .iconst 2, 13, 0), (13, .if_icmp .ne 7, 16, 20), (16, .iconst 1, 17, 0), (17, .goto 4, 20, 21), (20, .iconst 0, 21, 0), (21, .istore_n 1, 22, 0), (22, .aload_n 0, 23, 0), (23, .aload_n 0, 24, 0), (24, .getfield 25, 27, 0), (27, .putfield 48, 30, 0), (30, .aload_n 0, 31, 0), (31, .getfield 48, 34, 0), (34, .aload_n 0, 35, 0), (35, .getfield 18, 38, 0), (38, .if_icmp .ge 30, 41, 68), (41, .aload_n 0, 42, 0), (42, .getfield 9, 45, 0), (45, .aload_n 0, 46, 0), (46, .getfield 48, 49, 0), (49, .iaload, 50, 0), (50, .bipush 32, 52, 0), (52, .if_icmp .ne 16, 55, 68), (55, .aload_n 0, 56, 0), (56, .dup, 57, 0), (57, .getfield 48, 60, 0), (60, .iconst 1, 61, 0), (61, .iadd, 62, 0), (62, .putfield 48, 65, 0), (65, .goto (-35), 68, 30), (68, .iload_n 1, 69, 0), (69, .ifCond .eq 18, 72, 87), (72, .aload_n 0, 73, 0), (73, .getfield 48, 76, 0), (76, .aload_n 0, 77, 0), (77, .getfield 25, 80, 0), (80, .if_icmp .ne 7, 83, 87), (83, .iconst 1, 84, 0), (84, .goto 4, 87, 88), (87, .iconst 0, 88, 0), (88, .istore_n 2, 89, 0), (89, .aload_n 0, 90, 0), (90, .aload_n 0, 91, 0), (91, .getfield 48, 94, 0), (94, .putfield 25, 97, 0), (97, .aload_n 0, 98, 0), (98, .getfield 48, 101, 0), (101, .aload_n 0, 102, 0), (102, .getfield 18, 105, 0), (105, .if_icmp .lt 9, 108, 114), (108, .aload_n 0, 109, 0), (109, .iconst 0, 110, 0), (110, .putfield 22, 113, 0), (113, .return_, 114, 0), (114, .aload_n 0, 115, 0), (115, .aload_n 0, 116, 0), (116, .getfield 9, 119, 0), (119, .aload_n 0, 120, 0), (120, .getfield 48, 123, 0), (123, .iaload, 124, 0), (124, .invokestatic 51, 127, 0), (127, .putfield 22, 130, 0), (130, .aload_n 0, 131, 0), (131, .dup, 132, 0), (132, .getfield 25, 135, 0), (135, .iconst 1, 136, 0), (136, .iadd, 137, 0), (137, .putfield 25, 140, 0), (140, .aload_n 0, 141, 0), (141, .getfield 22, 144, 0), (144, .iconst 3, 145, 0), (145, .if_icmp .eq 46, 148, 191), (148, .aload_n 0, 149, 0), (149, .getfield 25, 152, 0), (152, .aload_n 0, 153, 0), (153, .getfield 18, 156, 0), (156, .if_icmp .ge 35, 159, 191), (159, .aload_n 0, 160, 0), (160, .getfield 9, 163, 0), (163, .aload_n 0, 164, 0), (164, .getfield 25, 167, 0), (167, .iaload, 168, 0), (168, .invokestatic 51, 171, 0), (171, .aload_n 0, 172, 0), (172, .getfield 22, 175, 0), (175, .if_icmp .ne 16, 178, 191), (178, .aload_n 0, 179, 0), (179, .dup, 180, 0), (180, .getfield 25, 183, 0), (183, .iconst 1, 184, 0), (184, .iadd, 185, 0), (185, .putfield 25, 188, 0), (188, .goto (-48), 191, 140), (191, .aload_n 0, 192, 0), (192, .getfield 22, 195, 0), (195, .iconst 3, 196, 0), (196, .if_icmp .eq 7, 199, 203), (199, .iload_n 2, 200, 0), (200, .ifCond .ne 24, 203, 224), (203, .aload_n 0, 204, 0), (204, .getfield 22, 207, 0), (207, .iconst 2, 208, 0), (208, .if_icmp .ne 21, 211, 229), (211, .aload_n 0, 212, 0), (212, .getfield 25, 215, 0), (215, .aload_n 0, 216, 0), (216, .getfield 48, 219, 0), (219, .isub, 220, 0), (220, .iconst 4, 221, 0), (221, .if_icmp .le 8, 224, 229), (224, .aload_n 0, 225, 0), (225, .iconst 4, 226, 0), (226, .putfield 22, 229, 0), (229, .return_, 230, 0)]
def ct_Reader_sortOf : List (Nat × Instr × Nat × Nat) := [(0, .iload_n 0, 1, 0), (1, .invokestatic 55, 4, 0), (4, .ifCond .eq 5, 7, 9), (7, .iconst 1, 8, 0), (8, .ireturn, 9, 0), (9, .iload_n 0, 10, 0), (10, .bipush 48, 12, 0), (12, .if_icmp .lt 13, 15, 25), (15, .iload_n 0, 16, 0), (16, .bipush 57, 18, 0), (18, .if_icmp .gt 7, 21, 25), (21, .iconst 2, 22, 0), (22, .goto 4, 25, 26), (25, .iconst 3, 26, 0), (26, .ireturn, 27, 0)]
def ct_Reader_keyHere : List (Nat × Instr × Nat × Nat) := [(0, .aload_n 0, 1, 0), (1, .ldc 59, 3, 0), (3, .invokevirtual 61, 6, 0), (6, .ifCond .eq 5, 9, 11), (9, .iconst 0, 10, 0), (10, .ireturn, 11, 0), (11, .aload_n 0, 12, 0), (12, .ldc 65, 14, 0), (14, .invokevirtual 61, 17, 0), (17, .ifCond .eq 5, 20, 22), (20, .iconst 1, 21, 0), (21, .ireturn, 22, 0), (22, .aload_n 0, 23, 0), (23, .ldc 67, 25, 0), (25, .invokevirtual 61, 28, 0), (28, .ifCond .eq 7, 31, 35), (31, .iconst 2, 32, 0), (32, .goto 4, 35, 36), (35, .iconst (-1), 36, 0), (36, .ireturn, 37, 0)]
def ct_Reader_isWord : List (Nat × Instr × Nat × Nat) := [(0, .aload_n 0, 1, 0), (1, .getfield 22, 4, 0), (4, .iconst 1, 5, 0), (5, .if_icmp .ne 19, 8, 24), (8, .aload_n 0, 9, 0), (9, .getfield 25, 12, 0), (12, .aload_n 0, 13, 0), (13, .getfield 48, 16, 0), (16, .isub, 17, 0), (17, .aload_n 1, 18, 0), (18, .invokevirtual 69, 21, 0), (21, .if_icmp .eq 5, 24, 26), (24, .iconst 0, 25, 0), (25, .ireturn, 26, 0), (26, .iconst 0, 27, 0), (27, .istore_n 2, 28, 0), (28, .iload_n 2, 29, 0), (29, .aload_n 1, 30, 0), (30, .invokevirtual 69, 33, 0), (33, .if_icmp .ge 30, 36, 63), (36, .aload_n 0, 37, 0), (37, .getfield 9, 40, 0), (40, .aload_n 0, 41, 0), (41, .getfield 48, 44, 0), (44, .iload_n 2, 45, 0), (45, .iadd, 46, 0), (46, .iaload, 47, 0), (47, .aload_n 1, 48, 0), (48, .iload_n 2, 49, 0), (49, .invokevirtual 73, 52, 0), (52, .if_icmp .eq 5, 55, 57), (55, .iconst 0, 56, 0), (56, .ireturn, 57, 0), (57, .iinc 2 1, 60, 0), (60, .goto (-32), 63, 28), (63, .iconst 1, 64, 0), (64, .ireturn, 65, 0)]
def ct_Reader_isSign : List (Nat × Instr × Nat × Nat) := [(0, .aload_n 0, 1, 0), (1, .getfield 22, 4, 0), (4, .iconst 3, 5, 0), (5, .if_icmp .ne 31, 8, 36), (8, .aload_n 0, 9, 0), (9, .getfield 48, 12, 0), (12, .aload_n 0, 13, 0), (13, .getfield 18, 16, 0), (16, .if_icmp .ge 20, 19, 36), (19, .aload_n 0, 20, 0), (20, .getfield 9, 23, 0), (23, .aload_n 0, 24, 0), (24, .getfield 48, 27, 0), (27, .iaload, 28, 0), (28, .iload_n 1, 29, 0), (29, .if_icmp .ne 7, 32, 36), (32, .iconst 1, 33, 0), (33, .goto 4, 36, 37), (36, .iconst 0, 37, 0), (37, .ireturn, 38, 0)]
def ct_Reader_isName : List (Nat × Instr × Nat × Nat) := [(0, .aload_n 0, 1, 0), (1, .getfield 22, 4, 0), (4, .iconst 1, 5, 0), (5, .if_icmp .ne 16, 8, 21), (8, .aload_n 0, 9, 0), (9, .getfield 25, 12, 0), (12, .aload_n 0, 13, 0), (13, .getfield 48, 16, 0), (16, .isub, 17, 0), (17, .iconst 1, 18, 0), (18, .if_icmp .eq 5, 21, 23), (21, .iconst 0, 22, 0), (22, .ireturn, 23, 0), (23, .aload_n 0, 24, 0), (24, .getfield 9, 27, 0), (27, .aload_n 0, 28, 0), (28, .getfield 48, 31, 0), (31, .iaload, 32, 0), (32, .istore_n 1, 33, 0), (33, .aload_n 0, 34, 0), (34, .getfield 41, 37, 0), (37, .iconst 1, 38, 0), (38, .if_icmp .ne 11, 41, 49), (41, .iload_n 1, 42, 0), (42, .bipush 115, 44, 0), (44, .if_icmp .ne 5, 47, 49), (47, .iconst 1, 48, 0), (48, .ireturn, 49, 0), (49, .iload_n 1, 50, 0), (50, .bipush 121, 52, 0), (52, .if_icmp .eq 23, 55, 75), (55, .aload_n 0, 56, 0), (56, .getfield 41, 59, 0), (59, .iconst 2, 60, 0), (60, .if_icmp .ne 19, 63, 79), (63, .iload_n 1, 64, 0), (64, .bipush 110, 66, 0), (66, .if_icmp .eq 9, 69, 75), (69, .iload_n 1, 70, 0), (70, .bipush 99, 72, 0), (72, .if_icmp .ne 7, 75, 79), (75, .iconst 1, 76, 0), (76, .goto 4, 79, 80), (79, .iconst 0, 80, 0), (80, .ireturn, 81, 0)]
def ct_Reader_isJoin : List (Nat × Instr × Nat × Nat) := [(0, .iload_n 1, 1, 0), (1, .tableswitch 102 0 3 #[31, 38, 45, 78], 32, 0), (32, .aload_n 0, 33, 0), (33, .bipush 124, 35, 0), (35, .invokevirtual 77, 38, 0), (38, .ireturn, 39, 0), (39, .aload_n 0, 40, 0), (40, .bipush 38, 42, 0), (42, .invokevirtual 77, 45, 0), (45, .ireturn, 46, 0), (46, .aload_n 0, 47, 0), (47, .bipush 60, 49, 0), (49, .invokevirtual 77, 52, 0), (52, .ifCond .ne 21, 55, 73), (55, .aload_n 0, 56, 0), (56, .bipush 61, 58, 0), (58, .invokevirtual 77, 61, 0), (61, .ifCond .ne 12, 64, 73), (64, .aload_n 0, 65, 0), (65, .bipush 62, 67, 0), (67, .invokevirtual 77, 70, 0), (70, .ifCond .eq 7, 73, 77), (73, .iconst 1, 74, 0), (74, .goto 4, 77, 78), (77, .iconst 0, 78, 0), (78, .ireturn, 79, 0), (79, .aload_n 0, 80, 0), (80, .bipush 43, 82, 0), (82, .invokevirtual 77, 85, 0), (85, .ifCond .ne 12, 88, 97), (88, .aload_n 0, 89, 0), (89, .bipush 45, 91, 0), (91, .invokevirtual 77, 94, 0), (94, .ifCond .eq 7, 97, 101), (97, .iconst 1, 98, 0), (98, .goto 4, 101, 102), (101, .iconst 0, 102, 0), (102, .ireturn, 103, 0), (103, .aload_n 0, 104, 0), (104, .bipush 42, 106, 0), (106, .invokevirtual 77, 109, 0), (109, .ifCond .ne 12, 112, 121), (112, .aload_n 0, 113, 0), (113, .bipush 47, 115, 0), (115, .invokevirtual 77, 118, 0), (118, .ifCond .eq 7, 121, 125), (121, .iconst 1, 122, 0), (122, .goto 4, 125, 126), (125, .iconst 0, 126, 0), (126, .ireturn, 127, 0)]
def ct_Reader_parseLevel : List (Nat × Instr × Nat × Nat) := [(0, .iload_n 1, 1, 0), (1, .iconst 4, 2, 0), (2, .if_icmp .le 10, 5, 12), (5, .aload_n 0, 6, 0), (6, .iload_n 2, 7, 0), (7, .iload_n 3, 8, 0), (8, .invokevirtual 80, 11, 0), (11, .ireturn, 12, 0), (12, .aload_n 0, 13, 0), (13, .iload_n 1, 14, 0), (14, .iconst 1, 15, 0), (15, .iadd, 16, 0), (16, .iload_n 2, 17, 0), (17, .iload_n 3, 18, 0), (18, .invokevirtual 44, 21, 0), (21, .ifCond .ne 5, 24, 26), (24, .iconst 0, 25, 0), (25, .ireturn, 26, 0), (26, .iload_n 1, 27, 0), (27, .iconst 2, 28, 0), (28, .if_icmp .ne 7, 31, 35), (31, .iconst 1, 32, 0), (32, .goto 5, 35, 37), (35, .bipush 96, 37, 0), (37, .istore 4, 39, 0), (39, .iconst 0, 40, 0), (40, .istore 5, 42, 0), (42, .iload 5, 44, 0), (44, .iload 4, 46, 0), (46, .if_icmp .ge 53, 49, 99), (49, .aload_n 0, 50, 0), (50, .iload_n 1, 51, 0), (51, .invokevirtual 84, 54, 0), (54, .ifCond .eq 45, 57, 99), (57, .aload_n 0, 58, 0), (58, .getfield 9, 61, 0), (61, .aload_n 0, 62, 0), (62, .getfield 48, 65, 0), (65, .iaload, 66, 0), (66, .istore 6, 68, 0), (68, .aload_n 0, 69, 0), (69, .invokevirtual 34, 72, 0), (72, .aload_n 0, 73, 0), (73, .iload_n 1, 74, 0), (74, .iconst 1, 75, 0), (75, .iadd, 76, 0), (76, .iload_n 2, 77, 0), (77, .iload_n 3, 78, 0), (78, .invokevirtual 44, 81, 0), (81, .ifCond .ne 5, 84, 86), (84, .iconst 0, 85, 0), (85, .ireturn, 86, 0), (86, .aload_n 0, 87, 0), (87, .iload 6, 89, 0), (89, .ineg, 90, 0), (90, .invokevirtual 87, 93, 0), (93, .iinc 5 1, 96, 0), (96, .goto (-54), 99, 42), (99, .iconst 1, 100, 0), (100, .ireturn, 101, 0)]
def ct_Reader_parsePiece : List (Nat × Instr × Nat × Nat) := [(0, .aload_n 0, 1, 0), (1, .bipush 33, 3, 0), (3, .invokevirtual 77, 6, 0), (6, .ifCond .eq 30, 9, 36), (9, .iload_n 2, 10, 0), (10, .bipush 8, 12, 0), (12, .if_icmp .ge 24, 15, 36), (15, .aload_n 0, 16, 0), (16, .invokevirtual 34, 19, 0), (19, .aload_n 0, 20, 0), (20, .iload_n 1, 21, 0), (21, .iload_n 2, 22, 0), (22, .iconst 1, 23, 0), (23, .iadd, 24, 0), (24, .invokevirtual 80, 27, 0), (27, .istore_n 3, 28, 0), (28, .aload_n 0, 29, 0), (29, .bipush (-33), 31, 0), (31, .invokevirtual 87, 34, 0), (34, .iload_n 3, 35, 0), (35, .ireturn, 36, 0), (36, .aload_n 0, 37, 0), (37, .bipush 40, 39, 0), (39, .invokevirtual 77, 42, 0), (42, .ifCond .eq 42, 45, 84), (45, .iload_n 1, 46, 0), (46, .bipush 8, 48, 0), (48, .if_icmp .ge 36, 51, 84), (51, .aload_n 0, 52, 0), (52, .invokevirtual 34, 55, 0), (55, .aload_n 0, 56, 0), (56, .iconst 0, 57, 0), (57, .iload_n 1, 58, 0), (58, .iconst 1, 59, 0), (59, .iadd, 60, 0), (60, .iload_n 2, 61, 0), (61, .invokevirtual 44, 64, 0), (64, .ifCond .eq 12, 67, 76), (67, .aload_n 0, 68, 0), (68, .bipush 41, 70, 0), (70, .invokevirtual 77, 73, 0), (73, .ifCond .ne 5, 76, 78), (76, .iconst 0, 77, 0), (77, .ireturn, 78, 0), (78, .aload_n 0, 79, 0), (79, .invokevirtual 34, 82, 0), (82, .iconst 1, 83, 0), (83, .ireturn, 84, 0), (84, .aload_n 0, 85, 0), (85, .invokevirtual 91, 88, 0), (88, .ireturn, 89, 0)]
def ct_Reader_parseAtom : List (Nat × Instr × Nat × Nat) := [(0, .aload_n 0, 1, 0), (1, .getfield 22, 4, 0), (4, .iconst 2, 5, 0), (5, .if_icmp .eq 12, 8, 17), (8, .aload_n 0, 9, 0), (9, .invokevirtual 95, 12, 0), (12, .ifCond .ne 5, 15, 17), (15, .iconst 0, 16, 0), (16, .ireturn, 17, 0), (17, .aload_n 0, 18, 0), (18, .aload_n 0, 19, 0), (19, .getfield 22, 22, 0), (22, .iconst 2, 23, 0), (23, .if_icmp .ne 10, 26, 33), (26, .aload_n 0, 27, 0), (27, .invokevirtual 98, 30, 0), (30, .goto 13, 33, 43), (33, .aload_n 0, 34, 0), (34, .getfield 9, 37, 0), (37, .aload_n 0, 38, 0), (38, .getfield 48, 41, 0), (41, .iaload, 42, 0), (42, .ineg, 43, 0), (43, .invokevirtual 87, 46, 0), (46, .aload_n 0, 47, 0), (47, .dup, 48, 0), (48, .getfield 28, 51, 0), (51, .iconst 1, 52, 0), (52, .iadd, 53, 0), (53, .putfield 28, 56, 0), (56, .aload_n 0, 57, 0), (57, .invokevirtual 34, 60, 0), (60, .iconst 1, 61, 0), (61, .ireturn, 62, 0)]
def ct_Reader_numberHere : List (Nat × Instr × Nat × Nat) := [(0, .iconst 0, 1, 0), (1, .istore_n 1, 2, 0), (2, .aload_n 0, 3, 0), (3, .getfield 48, 6, 0), (6, .istore_n 2, 7, 0), (7, .iload_n 2, 8, 0), (8, .aload_n 0, 9, 0), (9, .getfield 25, 12, 0), (12, .if_icmp .ge 32, 15, 44), (15, .iload_n 2, 16, 0), (16, .aload_n 0, 17, 0), (17, .getfield 18, 20, 0), (20, .if_icmp .ge 24, 23, 44), (23, .bipush 10, 25, 0), (25, .iload_n 1, 26, 0), (26, .imul, 27, 0), (27, .aload_n 0, 28, 0), (28, .getfield 9, 31, 0), (31, .iload_n 2, 32, 0), (32, .iaload, 33, 0), (33, .iadd, 34, 0), (34, .bipush 48, 36, 0), (36, .isub, 37, 0), (37, .istore_n 1, 38, 0), (38, .iinc 2 1, 41, 0), (41, .goto (-34), 44, 7), (44, .iload_n 1, 45, 0), (45, .ireturn, 46, 0)]
def ct_Reader_addCode : List (Nat × Instr × Nat × Nat) := [(0, .aload_n 0, 1, 0), (1, .getfield 31, 4, 0), (4, .bipush 96, 6, 0), (6, .if_icmp .ge 23, 9, 29), (9, .aload_n 0, 10, 0), (10, .getfield 15, 13, 0), (13, .aload_n 0, 14, 0), (14, .getfield 31, 17, 0), (17, .iload_n 1, 18, 0), (18, .iastore, 19, 0), (19, .aload_n 0, 20, 0), (20, .dup, 21, 0), (21, .getfield 31, 24, 0), (24, .iconst 1, 25, 0), (25, .iadd, 26, 0), (26, .putfield 31, 29, 0), (29, .return_, 30, 0)]
def ct_Row_init : List (Nat × Instr × Nat × Nat) := [(0, .aload_n 0, 1, 0), (1, .invokespecial 3, 4, 0), (4, .aload_n 0, 5, 0), (5, .iconst (-1), 6, 0), (6, .putfield 9, 9, 0), (9, .aload_n 0, 10, 0), (10, .bipush 24, 12, 0), (12, .newarray .int, 14, 0), (14, .putfield 15, 17, 0), (17, .return_, 18, 0)]
def ct_Row_become : List (Nat × Instr × Nat × Nat) := [(0, .aload_n 0, 1, 0), (1, .iload_n 1, 2, 0), (2, .putfield 9, 5, 0), (5, .aload_n 0, 6, 0), (6, .iload_n 2, 7, 0), (7, .putfield 19, 10, 0), (10, .aload_n 0, 11, 0), (11, .getfield 15, 14, 0), (14, .iconst 0, 15, 0), (15, .invokestatic 22, 18, 0), (18, .return_, 19, 0)]
def ct_Row_takeFrom : List (Nat × Instr × Nat × Nat) := [(0, .aload_n 0, 1, 0), (1, .aload_n 1, 2, 0), (2, .getfield 9, 5, 0), (5, .putfield 9, 8, 0), (8, .aload_n 0, 9, 0), (9, .aload_n 1, 10, 0), (10, .getfield 19, 13, 0), (13, .putfield 19, 16, 0), (16, .aload_n 1, 17, 0), (17, .getfield 15, 20, 0), (20, .iconst 0, 21, 0), (21, .aload_n 0, 22, 0), (22, .getfield 15, 25, 0), (25, .iconst 0, 26, 0), (26, .bipush 24, 28, 0), (28, .invokestatic 28, 31, 0), (31, .return_, 32, 0)]
def ct_Row_hasPlace : List (Nat × Instr × Nat × Nat) := [(0, .iload_n 1, 1, 0), (1, .iconst 0, 2, 0), (2, .aload_n 0, 3, 0), (3, .getfield 19, 6, 0), (6, .iconst 1, 7, 0), (7, .isub, 8, 0), (8, .invokestatic 34, 11, 0), (11, .ireturn, 12, 0)]
def ct_Row_hasRun : List (Nat × Instr × Nat × Nat) := [(0, .iload_n 1, 1, 0), (1, .iconst 0, 2, 0), (2, .aload_n 0, 3, 0), (3, .getfield 19, 6, 0), (6, .invokestatic 34, 9, 0), (9, .ifCond .eq 21, 12, 30), (12, .iload_n 2, 13, 0), (13, .iconst 0, 14, 0), (14, .aload_n 0, 15, 0), (15, .getfield 19, 18, 0), (18, .iload_n 1, 19, 0), (19, .isub, 20, 0), (20, .invokestatic 34, 23, 0), (23, .ifCond .eq 7, 26, 30), (26, .iconst 1, 27, 0), (27, .goto 4, 30, 31), (30, .iconst 0, 31, 0), (31, .ireturn, 32, 0)]
def ct_Slot_init : List (Nat × Instr × Nat × Nat) := [(0, .aload_n 0, 1, 0), (1, .invokespecial 3, 4, 0), (4, .aload_n 0, 5, 0), (5, .iconst 0, 6, 0), (6, .putfield 9, 9, 0), (9, .aload_n 0, 10, 0), (10, .new 15, 13, 0), (13, .dup, 14, 0), (14, .invokespecial 17, 17, 0), (17, .putfield 18, 20, 0), (20, .return_, 21, 0)]
def ct_Slot_takeCall : List (Nat × Instr × Nat × Nat) := [(0, .aload_n 0, 1, 0), (1, .aload_n 1, 2, 0), (2, .getfield 22, 5, 0), (5, .iload_n 2, 6, 0), (6, .iaload, 7, 0), (7, .putfield 28, 10, 0), (10, .aload_n 0, 11, 0), (11, .aload_n 1, 12, 0), (12, .getfield 31, 15, 0), (15, .iload_n 2, 16, 0), (16, .iaload, 17, 0), (17, .putfield 34, 20, 0), (20, .aload_n 0, 21, 0), (21, .aload_n 1, 22, 0), (22, .getfield 37, 25, 0), (25, .iload_n 2, 26, 0), (26, .iaload, 27, 0), (27, .putfield 40, 30, 0), (30, .return_, 31, 0)]
def ct_Text_init : List (Nat × Instr × Nat × Nat) := [(0, .aload_n 0, 1, 0), (1, .invokespecial 3, 4, 0), (4, .aload_n 0, 5, 0), (5, .bipush 96, 7, 0), (7, .newarray .int, 9, 0), (9, .putfield 9, 12, 0), (12, .return_, 13, 0)]
def ct_Text_takeFrom : List (Nat × Instr × Nat × Nat) := [(0, .aload_n 0, 1, 0), (1, .aload_n 1, 2, 0), (2, .getfield 15, 5, 0), (5, .putfield 21, 8, 0), (8, .aload_n 0, 9, 0), (9, .aload_n 1, 10, 0), (10, .getfield 22, 13, 0), (13, .putfield 25, 16, 0), (16, .aload_n 0, 17, 0), (17, .aload_n 1, 18, 0), (18, .getfield 26, 21, 0), (21, .putfield 29, 24, 0), (24, .iconst 0, 25, 0), (25, .istore_n 2, 26, 0), (26, .iload_n 2, 27, 0), (27, .aload_n 0, 28, 0), (28, .getfield 29, 31, 0), (31, .if_icmp .ge 21, 34, 52), (34, .aload_n 0, 35, 0), (35, .getfield 9, 38, 0), (38, .iload_n 2, 39, 0), (39, .aload_n 1, 40, 0), (40, .getfield 30, 43, 0), (43, .iload_n 2, 44, 0), (44, .iaload, 45, 0), (45, .iastore, 46, 0), (46, .iinc 2 1, 49, 0), (49, .goto (-23), 52, 26), (52, .return_, 53, 0)]
def ct_Walk_init : List (Nat × Instr × Nat × Nat) := [(0, .aload_n 0, 1, 0), (1, .invokespecial 3, 4, 0), (4, .aload_n 0, 5, 0), (5, .bipush 11, 7, 0), (7, .newarray .int, 9, 0), (9, .putfield 9, 12, 0), (12, .aload_n 0, 13, 0), (13, .bipush 11, 15, 0), (15, .newarray .int, 17, 0), (17, .putfield 15, 20, 0), (20, .aload_n 0, 21, 0), (21, .aload_n 1, 22, 0), (22, .putfield 18, 25, 0), (25, .return_, 26, 0)]
def ct_Walk_setOut : List (Nat × Instr × Nat × Nat) := [(0, .aload_n 0, 1, 0), (1, .aload_n 1, 2, 0), (2, .getfield 22, 5, 0), (5, .putfield 28, 8, 0), (8, .aload_n 0, 9, 0), (9, .aload_n 1, 10, 0), (10, .getfield 31, 13, 0), (13, .putfield 34, 16, 0), (16, .aload_n 0, 17, 0), (17, .iload_n 2, 18, 0), (18, .putfield 37, 21, 0), (21, .aload_n 0, 22, 0), (22, .iload_n 3, 23, 0), (23, .putfield 40, 26, 0), (26, .aload_n 0, 27, 0), (27, .aload_n 0, 28, 0), (28, .getfield 28, 31, 0), (31, .putfield 43, 34, 0), (34, .aload_n 0, 35, 0), (35, .aload_n 0, 36, 0), (36, .getfield 34, 39, 0), (39, .putfield 44, 42, 0), (42, .return_, 43, 0)]
def ct_Walk_stepBy : List (Nat × Instr × Nat × Nat) := [(0, .iload_n 2, 1, 0), (1, .aload_n 0, 2, 0), (2, .getfield 40, 5, 0), (5, .invokestatic 45, 8, 0), (8, .istore_n 3, 9, 0), (9, .iload_n 1, 10, 0), (10, .bipush 7, 12, 0), (12, .iand, 13, 0), (13, .istore 4, 15, 0), (15, .aload_n 0, 16, 0), (16, .dup, 17, 0), (17, .getfield 43, 20, 0), (20, .getstatic 49, 23, 0), (23, .iload 4, 25, 0), (25, .iaload, 26, 0), (26, .iload_n 3, 27, 0), (27, .imul, 28, 0), (28, .iadd, 29, 0), (29, .putfield 43, 32, 0), (32, .aload_n 0, 33, 0), (33, .dup, 34, 0), (34, .getfield 44, 37, 0), (37, .getstatic 52, 40, 0), (40, .iload 4, 42, 0), (42, .iaload, 43, 0), (43, .iload_n 3, 44, 0), (44, .imul, 45, 0), (45, .iadd, 46, 0), (46, .putfield 44, 49, 0), (49, .return_, 50, 0)]
def ct_Walk_goOn : List (Nat × Instr × Nat × Nat) := [(0, .iload_n 1, 1, 0), (1, .iconst 3, 2, 0), (2, .if_icmp .ne 47, 5, 49), (5, .aload_n 0, 6, 0), (6, .getfield 18, 9, 0), (9, .iload_n 3, 10, 0), (10, .iconst 1, 11, 0), (11, .isub, 12, 0), (12, .invokevirtual 55, 15, 0), (15, .ifCond .eq 34, 18, 49), (18, .aload_n 0, 19, 0), (19, .aload_n 0, 20, 0), (20, .getfield 18, 23, 0), (23, .getfield 61, 26, 0), (26, .iload_n 3, 27, 0), (27, .iconst 1, 28, 0), (28, .isub, 29, 0), (29, .iaload, 30, 0), (30, .putfield 43, 33, 0), (33, .aload_n 0, 34, 0), (34, .aload_n 0, 35, 0), (35, .getfield 18, 38, 0), (38, .getfield 64, 41, 0), (41, .iload_n 3, 42, 0), (42, .iconst 1, 43, 0), (43, .isub, 44, 0), (44, .iaload, 45, 0), (45, .putfield 44, 48, 0), (48, .return_, 49, 0), (49, .iload_n 1, 50, 0), (50, .tableswitch 111 1 5 #[34, 43, 34, 62, 95], 84, 0), (84, .aload_n 0, 85, 0), (85, .iload_n 2, 86, 0), (86, .iload_n 3, 87, 0), (87, .invokevirtual 67, 90, 0), (90, .goto 82, 93, 172), (93, .aload_n 0, 94, 0), (94, .aload_n 0, 95, 0), (95, .getfield 28, 98, 0), (98, .putfield 43, 101, 0), (101, .aload_n 0, 102, 0), (102, .aload_n 0, 103, 0), (103, .getfield 34, 106, 0), (106, .putfield 44, 109, 0), (109, .goto 63, 112, 172), (112, .aload_n 0, 113, 0), (113, .aload_n 0, 114, 0), (114, .getfield 43, 117, 0), (117, .aload_n 0, 118, 0), (118, .getfield 28, 121, 0), (121, .iadd, 122, 0), (122, .iconst 2, 123, 0), (123, .idiv, 124, 0), (124, .putfield 43, 127, 0), (127, .aload_n 0, 128, 0), (128, .aload_n 0, 129, 0), (129, .getfield 44, 132, 0), (132, .aload_n 0, 133, 0), (133, .getfield 34, 136, 0), (136, .iadd, 137, 0), (137, .iconst 2, 138, 0), (138, .idiv, 139, 0), (139, .putfield 44, 142, 0), (142, .goto 30, 145, 172), (145, .aload_n 0, 146, 0), (146, .iload_n 2, 147, 0), (147, .aload_n 0, 148, 0), (148, .getfield 37, 151, 0), (151, .iadd, 152, 0), (152, .iconst 4, 153, 0), (153, .iadd, 154, 0), (154, .iload_n 3, 155, 0), (155, .invokevirtual 67, 158, 0), (158, .goto 14, 161, 172), (161, .aload_n 0, 162, 0), (162, .iload_n 2, 163, 0), (163, .aload_n 0, 164, 0), (164, .getfield 37, 167, 0), (167, .iadd, 168, 0), (168, .iload_n 3, 169, 0), (169, .invokevirtual 67, 172, 0), (172, .return_, 173, 0)]
def ct_Walk_traceDeed : List (Nat × Instr × Nat × Nat) := [(0, .aload_n 0, 1, 0), (1, .getfield 18, 4, 0), (4, .getfield 71, 7, 0), (7, .iload_n 1, 8, 0), (8, .aaload, 9, 0), (9, .astore_n 2, 10, 0), (10, .aload_n 0, 11, 0), (11, .aload_n 2, 12, 0), (12, .aload_n 0, 13, 0), (13, .getfield 18, 16, 0), (16, .iload_n 1, 17, 0), (17, .invokevirtual 75, 20, 0), (20, .aload_n 0, 21, 0), (21, .getfield 18, 24, 0), (24, .iload_n 1, 25, 0), (25, .invokevirtual 79, 28, 0), (28, .invokevirtual 82, 31, 0), (31, .aload_n 0, 32, 0), (32, .getfield 9, 35, 0), (35, .iconst 0, 36, 0), (36, .aload_n 0, 37, 0), (37, .getfield 43, 40, 0), (40, .iastore, 41, 0), (41, .aload_n 0, 42, 0), (42, .getfield 15, 45, 0), (45, .iconst 0, 46, 0), (46, .aload_n 0, 47, 0), (47, .getfield 44, 50, 0), (50, .iastore, 51, 0), (51, .iconst 0, 52, 0), (52, .istore_n 3, 53, 0), (53, .iload_n 3, 54, 0), (54, .aload_n 2, 55, 0), (55, .getfield 86, 58, 0), (58, .if_icmp .ge 55, 61, 113), (61, .aload_n 0, 62, 0), (62, .aload_n 2, 63, 0), (63, .getfield 89, 66, 0), (66, .iload_n 3, 67, 0), (67, .iaload, 68, 0), (68, .aload_n 2, 69, 0), (69, .getfield 92, 72, 0), (72, .iload_n 3, 73, 0), (73, .iaload, 74, 0), (74, .aload_n 2, 75, 0), (75, .getfield 95, 78, 0), (78, .iload_n 3, 79, 0), (79, .iaload, 80, 0), (80, .invokevirtual 98, 83, 0), (83, .aload_n 0, 84, 0), (84, .getfield 9, 87, 0), (87, .iload_n 3, 88, 0), (88, .iconst 1, 89, 0), (89, .iadd, 90, 0), (90, .aload_n 0, 91, 0), (91, .getfield 43, 94, 0), (94, .iastore, 95, 0), (95, .aload_n 0, 96, 0), (96, .getfield 15, 99, 0), (99, .iload_n 3, 100, 0), (100, .iconst 1, 101, 0), (101, .iadd, 102, 0), (102, .aload_n 0, 103, 0), (103, .getfield 44, 106, 0), (106, .iastore, 107, 0), (107, .iinc 3 1, 110, 0), (110, .goto (-57), 113, 53), (113, .aload_n 0, 114, 0), (114, .aload_n 2, 115, 0), (115, .getfield 86, 118, 0), (118, .iconst 1, 119, 0), (119, .iadd, 120, 0), (120, .putfield 102, 123, 0), (123, .return_, 124, 0)]
def ct_Walk_cornersInRow : List (Nat × Instr × Nat × Nat) := [(0, .iload_n 1, 1, 0), (1, .iconst 2, 2, 0), (2, .irem, 3, 0), (3, .ifCond .ne 14, 6, 17), (6, .aload_n 0, 7, 0), (7, .getfield 9, 10, 0), (10, .iload_n 1, 11, 0), (11, .iconst 2, 12, 0), (12, .idiv, 13, 0), (13, .iaload, 14, 0), (14, .goto 11, 17, 25), (17, .aload_n 0, 18, 0), (18, .getfield 15, 21, 0), (21, .iload_n 1, 22, 0), (22, .iconst 2, 23, 0), (23, .idiv, 24, 0), (24, .iaload, 25, 0), (25, .ireturn, 26, 0)]
def ct_Walk_twiceArea : List (Nat × Instr × Nat × Nat) := [(0, .iconst 0, 1, 0), (1, .istore_n 1, 2, 0), (2, .iconst 0, 3, 0), (3, .istore_n 2, 4, 0), (4, .iload_n 2, 5, 0), (5, .aload_n 0, 6, 0), (6, .getfield 102, 9, 0), (9, .if_icmp .ge 45, 12, 54), (12, .aload_n 0, 13, 0), (13, .iload_n 2, 14, 0), (14, .invokevirtual 105, 17, 0), (17, .istore_n 3, 18, 0), (18, .iload_n 1, 19, 0), (19, .aload_n 0, 20, 0), (20, .getfield 9, 23, 0), (23, .iload_n 2, 24, 0), (24, .iaload, 25, 0), (25, .aload_n 0, 26, 0), (26, .getfield 15, 29, 0), (29, .iload_n 3, 30, 0), (30, .iaload, 31, 0), (31, .imul, 32, 0), (32, .aload_n 0, 33, 0), (33, .getfield 15, 36, 0), (36, .iload_n 2, 37, 0), (37, .iaload, 38, 0), (38, .aload_n 0, 39, 0), (39, .getfield 9, 42, 0), (42, .iload_n 3, 43, 0), (43, .iaload, 44, 0), (44, .imul, 45, 0), (45, .isub, 46, 0), (46, .iadd, 47, 0), (47, .istore_n 1, 48, 0), (48, .iinc 2 1, 51, 0), (51, .goto (-47), 54, 4), (54, .iload_n 1, 55, 0), (55, .ireturn, 56, 0)]
def ct_Walk_nextCorner : List (Nat × Instr × Nat × Nat) := [(0, .iload_n 1, 1, 0), (1, .iconst 1, 2, 0), (2, .iadd, 3, 0), (3, .aload_n 0, 4, 0), (4, .getfield 102, 7, 0), (7, .if_icmp .ge 9, 10, 16), (10, .iload_n 1, 11, 0), (11, .iconst 1, 12, 0), (12, .iadd, 13, 0), (13, .goto 4, 16, 17), (16, .iconst 0, 17, 0), (17, .ireturn, 18, 0)]
def ct_Walk_gapHere : List (Nat × Instr × Nat × Nat) := [(0, .aload_n 0, 1, 0), (1, .getfield 43, 4, 0), (4, .aload_n 0, 5, 0), (5, .getfield 44, 8, 0), (8, .aload_n 0, 9, 0), (9, .getfield 28, 12, 0), (12, .aload_n 0, 13, 0), (13, .getfield 34, 16, 0), (16, .invokestatic 108, 19, 0), (19, .ireturn, 20, 0)]
def ct_Walk_gapBy : List (Nat × Instr × Nat × Nat) := [(0, .aload_n 0, 1, 0), (1, .getfield 18, 4, 0), (4, .getfield 71, 7, 0), (7, .iload_n 1, 8, 0), (8, .aaload, 9, 0), (9, .astore 4, 11, 0), (11, .aload_n 0, 12, 0), (12, .aload 4, 14, 0), (14, .iload_n 2, 15, 0), (15, .iload_n 3, 16, 0), (16, .invokevirtual 82, 19, 0), (19, .iconst 0, 20, 0), (20, .istore 5, 22, 0), (22, .iload 5, 24, 0), (24, .aload 4, 26, 0), (26, .getfield 86, 29, 0), (29, .if_icmp .ge 37, 32, 66), (32, .aload_n 0, 33, 0), (33, .aload 4, 35, 0), (35, .getfield 89, 38, 0), (38, .iload 5, 40, 0), (40, .iaload, 41, 0), (41, .aload 4, 43, 0), (43, .getfield 92, 46, 0), (46, .iload 5, 48, 0), (48, .iaload, 49, 0), (49, .aload 4, 51, 0), (51, .getfield 95, 54, 0), (54, .iload 5, 56, 0), (56, .iaload, 57, 0), (57, .invokevirtual 98, 60, 0), (60, .iinc 5 1, 63, 0), (63, .goto (-41), 66, 22), (66, .aload_n 0, 67, 0), (67, .invokevirtual 112, 70, 0), (70, .ireturn, 71, 0)]
def ct_Walk_gapWithSlip : List (Nat × Instr × Nat × Nat) := [(0, .aload_n 0, 1, 0), (1, .aload_n 1, 2, 0), (2, .aload_n 0, 3, 0), (3, .getfield 37, 6, 0), (6, .aload_n 0, 7, 0), (7, .getfield 40, 10, 0), (10, .invokevirtual 82, 13, 0), (13, .iconst 0, 14, 0), (14, .istore 4, 16, 0), (16, .iload 4, 18, 0), (18, .aload_n 1, 19, 0), (19, .getfield 86, 22, 0), (22, .if_icmp .ge 125, 25, 147), (25, .iload 4, 27, 0), (27, .istore 5, 29, 0), (29, .iload_n 2, 30, 0), (30, .iconst 3, 31, 0), (31, .if_icmp .ne 29, 34, 60), (34, .iload 4, 36, 0), (36, .iload_n 3, 37, 0), (37, .if_icmp .ne 23, 40, 60), (40, .iload 4, 42, 0), (42, .iconst 1, 43, 0), (43, .iadd, 44, 0), (44, .aload_n 1, 45, 0), (45, .getfield 86, 48, 0), (48, .if_icmp .ge 12, 51, 60), (51, .iload 4, 53, 0), (53, .iconst 1, 54, 0), (54, .iadd, 55, 0), (55, .istore 5, 57, 0), (57, .goto 27, 60, 84), (60, .iload_n 2, 61, 0), (61, .iconst 3, 62, 0), (62, .if_icmp .ne 22, 65, 84), (65, .iload 4, 67, 0), (67, .ifCond .le 17, 70, 84), (70, .iload 4, 72, 0), (72, .iload_n 3, 73, 0), (73, .iconst 1, 74, 0), (74, .iadd, 75, 0), (75, .if_icmp .ne 9, 78, 84), (78, .iload 4, 80, 0), (80, .iconst 1, 81, 0), (81, .isub, 82, 0), (82, .istore 5, 84, 0), (84, .iload_n 2, 85, 0), (85, .iconst 1, 86, 0), (86, .if_icmp .ne 9, 89, 95), (89, .iload 4, 91, 0), (91, .iload_n 3, 92, 0), (92, .if_icmp .eq 49, 95, 141), (95, .iload_n 2, 96, 0), (96, .iconst 2, 97, 0), (97, .if_icmp .ne 13, 100, 110), (100, .iload 4, 102, 0), (102, .iload_n 3, 103, 0), (103, .if_icmp .ne 7, 106, 110), (106, .iconst 4, 107, 0), (107, .goto 4, 110, 111), (110, .iconst 0, 111, 0), (111, .istore 6, 113, 0), (113, .aload_n 0, 114, 0), (114, .aload_n 1, 115, 0), (115, .getfield 89, 118, 0), (118, .iload 5, 120, 0), (120, .iaload, 121, 0), (121, .aload_n 1, 122, 0), (122, .getfield 92, 125, 0), (125, .iload 5, 127, 0), (127, .iaload, 128, 0), (128, .iload 6, 130, 0), (130, .iadd, 131, 0), (131, .aload_n 1, 132, 0), (132, .getfield 95, 135, 0), (135, .iload 5, 137, 0), (137, .iaload, 138, 0), (138, .invokevirtual 98, 141, 0), (141, .iinc 4 1, 144, 0), (144, .goto (-128), 147, 16), (147, .aload_n 0, 148, 0), (148, .invokevirtual 112, 151, 0), (151, .ireturn, 152, 0)]
def ct_Walk_findBestSlip : List (Nat × Instr × Nat × Nat) := [(0, .aload_n 0, 1, 0), (1, .getfield 18, 4, 0), (4, .getfield 71, 7, 0), (7, .iload_n 1, 8, 0), (8, .aaload, 9, 0), (9, .astore_n 2, 10, 0), (10, .aload_n 0, 11, 0), (11, .aload_n 0, 12, 0), (12, .iload_n 1, 13, 0), (13, .aload_n 0, 14, 0), (14, .getfield 18, 17, 0), (17, .iload_n 1, 18, 0), (18, .invokevirtual 75, 21, 0), (21, .aload_n 0, 22, 0), (22, .getfield 18, 25, 0), (25, .iload_n 1, 26, 0), (26, .invokevirtual 79, 29, 0), (29, .invokevirtual 116, 32, 0), (32, .putfield 120, 35, 0), (35, .aload_n 0, 36, 0), (36, .iconst 0, 37, 0), (37, .putfield 123, 40, 0), (40, .aload_n 0, 41, 0), (41, .iconst 0, 42, 0), (42, .putfield 126, 45, 0), (45, .iconst 1, 46, 0), (46, .istore_n 3, 47, 0), (47, .iload_n 3, 48, 0), (48, .iconst 3, 49, 0), (49, .if_icmp .gt 81, 52, 130), (52, .iload_n 3, 53, 0), (53, .iconst 3, 54, 0), (54, .if_icmp .ne 12, 57, 66), (57, .aload_n 2, 58, 0), (58, .getfield 86, 61, 0), (61, .iconst 1, 62, 0), (62, .isub, 63, 0), (63, .goto 7, 66, 70), (66, .aload_n 2, 67, 0), (67, .getfield 86, 70, 0), (70, .istore 4, 72, 0), (72, .iconst 0, 73, 0), (73, .istore 5, 75, 0), (75, .iload 5, 77, 0), (77, .iload 4, 79, 0), (79, .if_icmp .ge 45, 82, 124), (82, .aload_n 0, 83, 0), (83, .aload_n 2, 84, 0), (84, .iload_n 3, 85, 0), (85, .iload 5, 87, 0), (87, .invokevirtual 129, 90, 0), (90, .istore 6, 92, 0), (92, .iload 6, 94, 0), (94, .aload_n 0, 95, 0), (95, .getfield 120, 98, 0), (98, .if_icmp .ge 20, 101, 118), (101, .aload_n 0, 102, 0), (102, .iload 6, 104, 0), (104, .putfield 120, 107, 0), (107, .aload_n 0, 108, 0), (108, .iload_n 3, 109, 0), (109, .putfield 123, 112, 0), (112, .aload_n 0, 113, 0), (113, .iload 5, 115, 0), (115, .putfield 126, 118, 0), (118, .iinc 5 1, 121, 0), (121, .goto (-46), 124, 75), (124, .iinc 3 1, 127, 0), (127, .goto (-80), 130, 47), (130, .return_, 131, 0)]
def ct_Walk_findBestNeedle : List (Nat × Instr × Nat × Nat) := [(0, .aload_n 0, 1, 0), (1, .getfield 18, 4, 0), (4, .iload_n 1, 5, 0), (5, .invokevirtual 79, 8, 0), (8, .istore_n 2, 9, 0), (9, .aload_n 0, 10, 0), (10, .ldc 135, 12, 0), (12, .putfield 120, 15, 0), (15, .iconst 0, 16, 0), (16, .istore_n 3, 17, 0), (17, .iload_n 3, 18, 0), (18, .bipush 8, 20, 0), (20, .if_icmp .ge 21, 23, 41), (23, .aload_n 0, 24, 0), (24, .iload_n 3, 25, 0), (25, .aload_n 0, 26, 0), (26, .iload_n 1, 27, 0), (27, .iload_n 3, 28, 0), (28, .iload_n 2, 29, 0), (29, .invokevirtual 116, 32, 0), (32, .invokevirtual 136, 35, 0), (35, .iinc 3 1, 38, 0), (38, .goto (-21), 41, 17), (41, .return_, 42, 0)]
def ct_Walk_findBestChain : List (Nat × Instr × Nat × Nat) := [(0, .aload_n 0, 1, 0), (1, .getfield 18, 4, 0), (4, .iload_n 1, 5, 0), (5, .invokevirtual 75, 8, 0), (8, .istore_n 2, 9, 0), (9, .aload_n 0, 10, 0), (10, .ldc 135, 12, 0), (12, .putfield 120, 15, 0), (15, .bipush (-9), 17, 0), (17, .istore_n 3, 18, 0), (18, .iload_n 3, 19, 0), (19, .bipush 9, 21, 0), (21, .if_icmp .gt 21, 24, 42), (24, .aload_n 0, 25, 0), (25, .iload_n 3, 26, 0), (26, .aload_n 0, 27, 0), (27, .iload_n 1, 28, 0), (28, .iload_n 2, 29, 0), (29, .iload_n 3, 30, 0), (30, .invokevirtual 116, 33, 0), (33, .invokevirtual 136, 36, 0), (36, .iinc 3 1, 39, 0), (39, .goto (-21), 42, 18), (42, .return_, 43, 0)]
def ct_Walk_takeIfBetter : List (Nat × Instr × Nat × Nat) := [(0, .iload_n 2, 1, 0), (1, .aload_n 0, 2, 0), (2, .getfield 120, 5, 0), (5, .if_icmp .ge 13, 8, 18), (8, .aload_n 0, 9, 0), (9, .iload_n 2, 10, 0), (10, .putfield 120, 13, 0), (13, .aload_n 0, 14, 0), (14, .iload_n 1, 15, 0), (15, .putfield 139, 18, 0), (18, .return_, 19, 0)]
def ct_Walk_learntOf : List (Nat × Instr × Nat × Nat) := [(0, .aload_n 0, 1, 0), (1, .ldc 135, 3, 0), (3, .putfield 120, 6, 0), (6, .iconst 0, 7, 0), (7, .istore_n 2, 8, 0), (8, .iload_n 2, 9, 0), (9, .bipush 8, 11, 0), (11, .if_icmp .ge 74, 14, 85), (14, .iconst 0, 15, 0), (15, .istore_n 3, 16, 0), (16, .iconst 0, 17, 0), (17, .istore 4, 19, 0), (19, .iload 4, 21, 0), (21, .aload_n 0, 22, 0), (22, .getfield 18, 25, 0), (25, .getfield 142, 28, 0), (28, .if_icmp .ge 45, 31, 73), (31, .aload_n 0, 32, 0), (32, .getfield 18, 35, 0), (35, .getfield 71, 38, 0), (38, .iload 4, 40, 0), (40, .aaload, 41, 0), (41, .getfield 145, 44, 0), (44, .iload_n 1, 45, 0), (45, .if_icmp .ne 22, 48, 67), (48, .iload_n 3, 49, 0), (49, .aload_n 0, 50, 0), (50, .iload 4, 52, 0), (52, .iload_n 2, 53, 0), (53, .aload_n 0, 54, 0), (54, .getfield 18, 57, 0), (57, .iload 4, 59, 0), (59, .invokevirtual 79, 62, 0), (62, .invokevirtual 116, 65, 0), (65, .iadd, 66, 0), (66, .istore_n 3, 67, 0), (67, .iinc 4 1, 70, 0), (70, .goto (-51), 73, 19), (73, .aload_n 0, 74, 0), (74, .iload_n 2, 75, 0), (75, .iload_n 3, 76, 0), (76, .invokevirtual 136, 79, 0), (79, .iinc 2 1, 82, 0), (82, .goto (-74), 85, 8), (85, .aload_n 0, 86, 0), (86, .getfield 139, 89, 0), (89, .ireturn, 90, 0)]
def ct_Oak_init : List (Nat × Instr × Nat × Nat) := [(0, .aload_n 0, 1, 0), (1, .invokespecial 3, 4, 0), (4, .aload_n 0, 5, 0), (5, .new 9, 8, 0), (8, .dup, 9, 0), (9, .invokespecial 11, 12, 0), (12, .putfield 12, 15, 0), (15, .aload_n 0, 16, 0), (16, .new 16, 19, 0), (19, .dup, 20, 0), (20, .aload_n 0, 21, 0), (21, .getfield 12, 24, 0), (24, .invokespecial 18, 27, 0), (27, .putfield 21, 30, 0), (30, .aload_n 0, 31, 0), (31, .new 16, 34, 0), (34, .dup, 35, 0), (35, .aload_n 0, 36, 0), (36, .getfield 12, 39, 0), (39, .invokespecial 18, 42, 0), (42, .putfield 25, 45, 0), (45, .aload_n 0, 46, 0), (46, .new 28, 49, 0), (49, .dup, 50, 0), (50, .aload_n 0, 51, 0), (51, .getfield 21, 54, 0), (54, .invokespecial 30, 57, 0), (57, .putfield 33, 60, 0), (60, .aload_n 0, 61, 0), (61, .new 28, 64, 0), (64, .dup, 65, 0), (65, .aload_n 0, 66, 0), (66, .getfield 25, 69, 0), (69, .invokespecial 30, 72, 0), (72, .putfield 37, 75, 0), (75, .aload_n 0, 76, 0), (76, .new 40, 79, 0), (79, .dup, 80, 0), (80, .invokespecial 42, 83, 0), (83, .putfield 43, 86, 0), (86, .aload_n 0, 87, 0), (87, .new 40, 90, 0), (90, .dup, 91, 0), (91, .invokespecial 42, 94, 0), (94, .putfield 47, 97, 0), (97, .aload_n 0, 98, 0), (98, .new 50, 101, 0), (101, .dup, 102, 0), (102, .invokespecial 52, 105, 0), (105, .putfield 53, 108, 0), (108, .aload_n 0, 109, 0), (109, .iconst 4, 110, 0), (110, .anewarray 57, 113, 0), (113, .putfield 59, 116, 0), (116, .iconst 0, 117, 0), (117, .istore_n 1, 118, 0), (118, .iload_n 1, 119, 0), (119, .iconst 4, 120, 0), (120, .if_icmp .ge 22, 123, 142), (123, .aload_n 0, 124, 0), (124, .getfield 59, 127, 0), (127, .iload_n 1, 128, 0), (128, .new 57, 131, 0), (131, .dup, 132, 0), (132, .invokespecial 63, 135, 0), (135, .aastore, 136, 0), (136, .iinc 1 1, 139, 0), (139, .goto (-21), 142, 118), (142, .aload_n 0, 143, 0), (143, .iconst 5, 144, 0), (144, .anewarray 64, 147, 0), (147, .putfield 66, 150, 0), (150, .iconst 0, 151, 0), (151, .istore_n 1, 152, 0), (152, .iload_n 1, 153, 0), (153, .iconst 5, 154, 0), (154, .if_icmp .ge 22, 157, 176), (157, .aload_n 0, 158, 0), (158, .getfield 66, 161, 0), (161, .iload_n 1, 162, 0), (162, .new 64, 165, 0), (165, .dup, 166, 0), (166, .invokespecial 70, 169, 0), (169, .aastore, 170, 0), (170, .iinc 1 1, 173, 0), (173, .goto (-21), 176, 152), (176, .aload_n 0, 177, 0), (177, .bipush 60, 179, 0), (179, .newarray .int, 181, 0), (181, .putfield 71, 184, 0), (184, .return_, 185, 0)]
def ct_Oak_stone : List (Nat × Instr × Nat × Nat) := [(0, .iload_n 1, 1, 0), (1, .iload_n 2, 2, 0), (2, .invokestatic 75, 5, 0), (5, .ifCond .ne 6, 8, 11), (8, .ldc 79, 10, 0), (10, .ireturn, 11, 0), (11, .aload_n 0, 12, 0), (12, .getfield 21, 15, 0), (15, .getfield 80, 18, 0), (18, .bipush 8, 20, 0), (20, .if_icmp .lt 6, 23, 26), (23, .ldc 84, 25, 0), (25, .ireturn, 26, 0), (26, .aload_n 0, 27, 0), (27, .getfield 21, 30, 0), (30, .dup, 31, 0), (31, .getfield 80, 34, 0), (34, .iconst 1, 35, 0), (35, .iadd, 36, 0), (36, .putfield 80, 39, 0), (39, .aload_n 0, 40, 0), (40, .getfield 21, 43, 0), (43, .aload_n 0, 44, 0), (44, .getfield 21, 47, 0), (47, .getfield 80, 50, 0), (50, .iconst 1, 51, 0), (51, .isub, 52, 0), (52, .iload_n 1, 53, 0), (53, .iload_n 2, 54, 0), (54, .invokevirtual 85, 57, 0), (57, .aload_n 0, 58, 0), (58, .getfield 21, 61, 0), (61, .getfield 80, 64, 0), (64, .iconst 1, 65, 0), (65, .isub, 66, 0), (66, .ireturn, 67, 0)]
def ct_Oak_stoneTold : List (Nat × Instr × Nat × Nat) := [(0, .aload_n 0, 1, 0), (1, .getfield 21, 4, 0), (4, .iload_n 1, 5, 0), (5, .invokevirtual 89, 8, 0), (8, .ifCond .eq 12, 11, 20), (11, .iload_n 2, 12, 0), (12, .iconst 0, 13, 0), (13, .iconst 1, 14, 0), (14, .invokestatic 93, 17, 0), (17, .ifCond .ne 6, 20, 23), (20, .ldc 79, 22, 0), (22, .ireturn, 23, 0), (23, .iload_n 2, 24, 0), (24, .ifCond .ne 15, 27, 39), (27, .aload_n 0, 28, 0), (28, .getfield 21, 31, 0), (31, .getfield 97, 34, 0), (34, .iload_n 1, 35, 0), (35, .iaload, 36, 0), (36, .goto 12, 39, 48), (39, .aload_n 0, 40, 0), (40, .getfield 21, 43, 0), (43, .getfield 100, 46, 0), (46, .iload_n 1, 47, 0), (47, .iaload, 48, 0), (48, .ireturn, 49, 0)]
def ct_Oak_move : List (Nat × Instr × Nat × Nat) := [(0, .aload_n 0, 1, 0), (1, .getfield 21, 4, 0), (4, .iload_n 1, 5, 0), (5, .invokevirtual 89, 8, 0), (8, .ifCond .eq 11, 11, 19), (11, .iload_n 2, 12, 0), (12, .iload_n 3, 13, 0), (13, .invokestatic 75, 16, 0), (16, .ifCond .ne 6, 19, 22), (19, .ldc 79, 21, 0), (21, .ireturn, 22, 0), (22, .aload_n 0, 23, 0), (23, .getfield 21, 26, 0), (26, .getfield 97, 29, 0), (29, .iload_n 1, 30, 0), (30, .iaload, 31, 0), (31, .aload_n 0, 32, 0), (32, .getfield 21, 35, 0), (35, .getfield 100, 38, 0), (38, .iload_n 1, 39, 0), (39, .iaload, 40, 0), (40, .iload_n 2, 41, 0), (41, .iload_n 3, 42, 0), (42, .invokestatic 103, 45, 0), (45, .istore 4, 47, 0), (47, .aload_n 0, 48, 0), (48, .getfield 21, 51, 0), (51, .iload_n 1, 52, 0), (52, .iload_n 2, 53, 0), (53, .iload_n 3, 54, 0), (54, .invokevirtual 85, 57, 0), (57, .iload 4, 59, 0), (59, .ireturn, 60, 0)]
def ct_Oak_deed : List (Nat × Instr × Nat × Nat) := [(0, .iload_n 1, 1, 0), (1, .invokestatic 107, 4, 0), (4, .ifCond .eq 17, 7, 21), (7, .iload_n 2, 8, 0), (8, .invokestatic 110, 11, 0), (11, .ifCond .eq 10, 14, 21), (14, .iload_n 3, 15, 0), (15, .invokestatic 113, 18, 0), (18, .ifCond .ne 6, 21, 24), (21, .ldc 79, 23, 0), (23, .ireturn, 24, 0), (24, .aload_n 0, 25, 0), (25, .getfield 21, 28, 0), (28, .getfield 116, 31, 0), (31, .iconst 4, 32, 0), (32, .if_icmp .lt 6, 35, 38), (35, .ldc 84, 37, 0), (37, .ireturn, 38, 0), (38, .aload_n 0, 39, 0), (39, .getfield 21, 42, 0), (42, .getfield 119, 45, 0), (45, .aload_n 0, 46, 0), (46, .getfield 21, 49, 0), (49, .getfield 116, 52, 0), (52, .aaload, 53, 0), (53, .astore 4, 55, 0), (55, .aload 4, 57, 0), (57, .iload_n 1, 58, 0), (58, .invokevirtual 123, 61, 0), (61, .aload 4, 63, 0), (63, .iload_n 2, 64, 0), (64, .putfield 129, 67, 0), (67, .aload 4, 69, 0), (69, .iload_n 3, 70, 0), (70, .putfield 132, 73, 0), (73, .aload 4, 75, 0), (75, .iconst 0, 76, 0), (76, .putfield 135, 79, 0), (79, .aload_n 0, 80, 0), (80, .getfield 21, 83, 0), (83, .dup, 84, 0), (84, .getfield 116, 87, 0), (87, .iconst 1, 88, 0), (88, .iadd, 89, 0), (89, .putfield 116, 92, 0), (92, .aload_n 0, 93, 0), (93, .getfield 21, 96, 0), (96, .getfield 116, 99, 0), (99, .iconst 1, 100, 0), (100, .isub, 101, 0), (101, .ireturn, 102, 0)]
def ct_Oak_deedTold : List (Nat × Instr × Nat × Nat) := [(0, .aload_n 0, 1, 0), (1, .getfield 21, 4, 0), (4, .iload_n 1, 5, 0), (5, .invokevirtual 138, 8, 0), (8, .ifCond .ne 6, 11, 14), (11, .ldc 79, 13, 0), (13, .ireturn, 14, 0), (14, .aload_n 0, 15, 0), (15, .getfield 21, 18, 0), (18, .getfield 119, 21, 0), (21, .iload_n 1, 22, 0), (22, .aaload, 23, 0), (23, .astore_n 3, 24, 0), (24, .iload_n 2, 25, 0), (25, .tableswitch 99 0 7 #[47, 52, 57, 62, 67, 72, 81, 90], 72, 0), (72, .aload_n 3, 73, 0), (73, .getfield 141, 76, 0), (76, .ireturn, 77, 0), (77, .aload_n 3, 78, 0), (78, .getfield 144, 81, 0), (81, .ireturn, 82, 0), (82, .aload_n 3, 83, 0), (83, .getfield 129, 86, 0), (86, .ireturn, 87, 0), (87, .aload_n 3, 88, 0), (88, .getfield 132, 91, 0), (91, .ireturn, 92, 0), (92, .aload_n 3, 93, 0), (93, .getfield 135, 96, 0), (96, .ireturn, 97, 0), (97, .aload_n 0, 98, 0), (98, .getfield 21, 101, 0), (101, .iload_n 1, 102, 0), (102, .invokevirtual 147, 105, 0), (105, .ireturn, 106, 0), (106, .aload_n 0, 107, 0), (107, .getfield 21, 110, 0), (110, .iload_n 1, 111, 0), (111, .invokevirtual 151, 114, 0), (114, .ireturn, 115, 0), (115, .aload_n 0, 116, 0), (116, .getfield 21, 119, 0), (119, .iload_n 1, 120, 0), (120, .invokevirtual 154, 123, 0), (123, .ireturn, 124, 0), (124, .ldc 79, 126, 0), (126, .ireturn, 127, 0)]
def ct_Oak_set : List (Nat × Instr × Nat × Nat) := [(0, .aload_n 0, 1, 0), (1, .getfield 21, 4, 0), (4, .iload_n 1, 5, 0), (5, .invokevirtual 138, 8, 0), (8, .ifCond .ne 6, 11, 14), (11, .ldc 79, 13, 0), (13, .ireturn, 14, 0), (14, .aload_n 0, 15, 0), (15, .getfield 21, 18, 0), (18, .getfield 119, 21, 0), (21, .iload_n 1, 22, 0), (22, .aaload, 23, 0), (23, .astore 4, 25, 0), (25, .ldc 79, 27, 0), (27, .istore 5, 29, 0), (29, .iload_n 2, 30, 0), (30, .ifCond .ne 26, 33, 56), (33, .iload_n 3, 34, 0), (34, .invokestatic 110, 37, 0), (37, .ifCond .eq 19, 40, 56), (40, .aload 4, 42, 0), (42, .getfield 129, 45, 0), (45, .istore 5, 47, 0), (47, .aload 4, 49, 0), (49, .iload_n 3, 50, 0), (50, .putfield 129, 53, 0), (53, .goto 65, 56, 118), (56, .iload_n 2, 57, 0), (57, .iconst 1, 58, 0), (58, .if_icmp .ne 26, 61, 84), (61, .iload_n 3, 62, 0), (62, .invokestatic 113, 65, 0), (65, .ifCond .eq 19, 68, 84), (68, .aload 4, 70, 0), (70, .getfield 132, 73, 0), (73, .istore 5, 75, 0), (75, .aload 4, 77, 0), (77, .iload_n 3, 78, 0), (78, .putfield 132, 81, 0), (81, .goto 37, 84, 118), (84, .iload_n 2, 85, 0), (85, .iconst 2, 86, 0), (86, .if_icmp .ne 32, 89, 118), (89, .iload_n 3, 90, 0), (90, .invokestatic 107, 93, 0), (93, .ifCond .eq 25, 96, 118), (96, .bipush 100, 98, 0), (98, .aload 4, 100, 0), (100, .getfield 141, 103, 0), (103, .imul, 104, 0), (104, .aload 4, 106, 0), (106, .getfield 144, 109, 0), (109, .iadd, 110, 0), (110, .istore 5, 112, 0), (112, .aload 4, 114, 0), (114, .iload_n 3, 115, 0), (115, .invokevirtual 123, 118, 0), (118, .iload 5, 120, 0), (120, .ireturn, 121, 0)]
def ct_Oak_call : List (Nat × Instr × Nat × Nat) := [(0, .aload_n 0, 1, 0), (1, .getfield 21, 4, 0), (4, .iload_n 1, 5, 0), (5, .invokevirtual 138, 8, 0), (8, .ifCond .eq 17, 11, 25), (11, .iload_n 2, 12, 0), (12, .invokestatic 157, 15, 0), (15, .ifCond .eq 10, 18, 25), (18, .iload_n 3, 19, 0), (19, .invokestatic 160, 22, 0), (22, .ifCond .ne 6, 25, 28), (25, .ldc 79, 27, 0), (27, .ireturn, 28, 0), (28, .aload_n 0, 29, 0), (29, .getfield 21, 32, 0), (32, .getfield 119, 35, 0), (35, .iload_n 1, 36, 0), (36, .aaload, 37, 0), (37, .astore 4, 39, 0), (39, .aload 4, 41, 0), (41, .getfield 135, 44, 0), (44, .bipush 10, 46, 0), (46, .if_icmp .lt 6, 49, 52), (49, .ldc 84, 51, 0), (51, .ireturn, 52, 0), (52, .aload 4, 54, 0), (54, .iload_n 2, 55, 0), (55, .iload_n 3, 56, 0), (56, .bipush 100, 58, 0), (58, .idiv, 59, 0), (59, .iload_n 3, 60, 0), (60, .bipush 100, 62, 0), (62, .irem, 63, 0), (63, .invokevirtual 163, 66, 0), (66, .aload 4, 68, 0), (68, .getfield 135, 71, 0), (71, .iconst 1, 72, 0), (72, .isub, 73, 0), (73, .ireturn, 74, 0)]
def ct_Oak_told : List (Nat × Instr × Nat × Nat) := [(0, .aload_n 0, 1, 0), (1, .getfield 21, 4, 0), (4, .iload_n 1, 5, 0), (5, .iload_n 2, 6, 0), (6, .invokevirtual 166, 9, 0), (9, .ifCond .ne 6, 12, 15), (12, .ldc 79, 14, 0), (14, .ireturn, 15, 0), (15, .aload_n 0, 16, 0), (16, .getfield 21, 19, 0), (19, .getfield 119, 22, 0), (22, .iload_n 1, 23, 0), (23, .aaload, 24, 0), (24, .astore 4, 26, 0), (26, .iload_n 3, 27, 0), (27, .tableswitch 101 0 4 #[33, 41, 49, 57, 76], 60, 0), (60, .aload 4, 62, 0), (62, .getfield 169, 65, 0), (65, .iload_n 2, 66, 0), (66, .iaload, 67, 0), (67, .ireturn, 68, 0), (68, .aload 4, 70, 0), (70, .getfield 172, 73, 0), (73, .iload_n 2, 74, 0), (74, .iaload, 75, 0), (75, .ireturn, 76, 0), (76, .aload 4, 78, 0), (78, .getfield 175, 81, 0), (81, .iload_n 2, 82, 0), (82, .iaload, 83, 0), (83, .ireturn, 84, 0), (84, .aload 4, 86, 0), (86, .getfield 175, 89, 0), (89, .iload_n 2, 90, 0), (90, .iaload, 91, 0), (91, .aload_n 0, 92, 0), (92, .getfield 21, 95, 0), (95, .iload_n 1, 96, 0), (96, .invokevirtual 151, 99, 0), (99, .invokestatic 178, 102, 0), (102, .ireturn, 103, 0), (103, .aload 4, 105, 0), (105, .getfield 169, 108, 0), (108, .iload_n 2, 109, 0), (109, .iaload, 110, 0), (110, .aload 4, 112, 0), (112, .getfield 172, 115, 0), (115, .iload_n 2, 116, 0), (116, .iaload, 117, 0), (117, .aload 4, 119, 0), (119, .getfield 175, 122, 0), (122, .iload_n 2, 123, 0), (123, .iaload, 124, 0), (124, .invokestatic 182, 127, 0), (127, .ireturn, 128, 0), (128, .ldc 79, 130, 0), (130, .ireturn, 131, 0)]
def ct_Oak_as : List (Nat × Instr × Nat × Nat) := [(0, .aload_n 0, 1, 0), (1, .getfield 21, 4, 0), (4, .iload_n 1, 5, 0), (5, .iload_n 2, 6, 0), (6, .invokevirtual 166, 9, 0), (9, .ifCond .eq 10, 12, 19), (12, .iload_n 3, 13, 0), (13, .invokestatic 157, 16, 0), (16, .ifCond .ne 6, 19, 22), (19, .ldc 79, 21, 0), (21, .ireturn, 22, 0), (22, .aload_n 0, 23, 0), (23, .getfield 21, 26, 0), (26, .getfield 119, 29, 0), (29, .iload_n 1, 30, 0), (30, .aaload, 31, 0), (31, .astore 4, 33, 0), (33, .aload 4, 35, 0), (35, .getfield 169, 38, 0), (38, .iload_n 2, 39, 0), (39, .iaload, 40, 0), (40, .iload_n 3, 41, 0), (41, .invokestatic 186, 44, 0), (44, .ifCond .eq 13, 47, 57), (47, .aload 4, 49, 0), (49, .getfield 175, 52, 0), (52, .iload_n 2, 53, 0), (53, .iaload, 54, 0), (54, .goto 5, 57, 59), (57, .ldc 189, 59, 0), (59, .ireturn, 60, 0)]
def ct_Oak_turns : List (Nat × Instr × Nat × Nat) := [(0, .aload_n 0, 1, 0), (1, .getfield 21, 4, 0), (4, .iload_n 1, 5, 0), (5, .iload_n 2, 6, 0), (6, .invokevirtual 166, 9, 0), (9, .ifCond .eq 10, 12, 19), (12, .iload_n 3, 13, 0), (13, .invokestatic 157, 16, 0), (16, .ifCond .ne 6, 19, 22), (19, .ldc 79, 21, 0), (21, .ireturn, 22, 0), (22, .aload_n 0, 23, 0), (23, .getfield 21, 26, 0), (26, .getfield 119, 29, 0), (29, .iload_n 1, 30, 0), (30, .aaload, 31, 0), (31, .astore 4, 33, 0), (33, .aload 4, 35, 0), (35, .getfield 169, 38, 0), (38, .iload_n 2, 39, 0), (39, .iaload, 40, 0), (40, .istore 5, 42, 0), (42, .aload 4, 44, 0), (44, .getfield 169, 47, 0), (47, .iload_n 2, 48, 0), (48, .iload_n 3, 49, 0), (49, .iastore, 50, 0), (50, .iload 5, 52, 0), (52, .ireturn, 53, 0)]
def ct_Oak_drop : List (Nat × Instr × Nat × Nat) := [(0, .aload_n 0, 1, 0), (1, .getfield 21, 4, 0), (4, .iload_n 1, 5, 0), (5, .iload_n 2, 6, 0), (6, .invokevirtual 166, 9, 0), (9, .ifCond .ne 6, 12, 15), (12, .ldc 79, 14, 0), (14, .ireturn, 15, 0), (15, .aload_n 0, 16, 0), (16, .getfield 21, 19, 0), (19, .getfield 119, 22, 0), (22, .iload_n 1, 23, 0), (23, .aaload, 24, 0), (24, .iload_n 2, 25, 0), (25, .invokevirtual 190, 28, 0), (28, .aload_n 0, 29, 0), (29, .getfield 21, 32, 0), (32, .getfield 119, 35, 0), (35, .iload_n 1, 36, 0), (36, .aaload, 37, 0), (37, .getfield 135, 40, 0), (40, .ireturn, 41, 0)]
def ct_Oak_deal : List (Nat × Instr × Nat × Nat) := [(0, .aload_n 0, 1, 0), (1, .getfield 21, 4, 0), (4, .iload_n 1, 5, 0), (5, .invokevirtual 138, 8, 0), (8, .ifCond .eq 13, 11, 21), (11, .iload_n 2, 12, 0), (12, .iconst 1, 13, 0), (13, .bipush 10, 15, 0), (15, .invokestatic 93, 18, 0), (18, .ifCond .ne 6, 21, 24), (21, .ldc 79, 23, 0), (23, .ireturn, 24, 0), (24, .aload_n 0, 25, 0), (25, .getfield 21, 28, 0), (28, .getfield 119, 31, 0), (31, .iload_n 1, 32, 0), (32, .aaload, 33, 0), (33, .astore_n 3, 34, 0), (34, .iload_n 2, 35, 0), (35, .bipush 10, 37, 0), (37, .aload_n 3, 38, 0), (38, .getfield 135, 41, 0), (41, .isub, 42, 0), (42, .invokestatic 193, 45, 0), (45, .istore 4, 47, 0), (47, .iconst 0, 48, 0), (48, .istore 5, 50, 0), (50, .iload 5, 52, 0), (52, .iload 4, 54, 0), (54, .if_icmp .ge 56, 57, 110), (57, .aload_n 0, 58, 0), (58, .getfield 21, 61, 0), (61, .invokevirtual 198, 64, 0), (64, .iconst 3, 65, 0), (65, .irem, 66, 0), (66, .istore 6, 68, 0), (68, .aload_n 0, 69, 0), (69, .getfield 21, 72, 0), (72, .invokevirtual 198, 75, 0), (75, .bipush 8, 77, 0), (77, .irem, 78, 0), (78, .istore 7, 80, 0), (80, .iconst 1, 81, 0), (81, .aload_n 0, 82, 0), (82, .getfield 21, 85, 0), (85, .invokevirtual 198, 88, 0), (88, .bipush 12, 90, 0), (90, .irem, 91, 0), (91, .iadd, 92, 0), (92, .istore 8, 94, 0), (94, .aload_n 3, 95, 0), (95, .iload 6, 97, 0), (97, .iload 7, 99, 0), (99, .iload 8, 101, 0), (101, .invokevirtual 163, 104, 0), (104, .iinc 5 1, 107, 0), (107, .goto (-57), 110, 50), (110, .iload 4, 112, 0), (112, .ireturn, 113, 0)]
def ct_Oak_seed : List (Nat × Instr × Nat × Nat) := [(0, .aload_n 0, 1, 0), (1, .getfield 21, 4, 0), (4, .getfield 202, 7, 0), (7, .istore_n 2, 8, 0), (8, .aload_n 0, 9, 0), (9, .getfield 21, 12, 0), (12, .iload_n 1, 13, 0), (13, .putfield 202, 16, 0), (16, .iload_n 2, 17, 0), (17, .ireturn, 18, 0)]
def ct_Oak_corner : List (Nat × Instr × Nat × Nat) := [(0, .aload_n 0, 1, 0), (1, .getfield 21, 4, 0), (4, .iload_n 1, 5, 0), (5, .invokevirtual 138, 8, 0), (8, .ifCond .eq 16, 11, 24), (11, .iload_n 2, 12, 0), (12, .ifCond .lt 12, 15, 24), (15, .iload_n 3, 16, 0), (16, .iconst 0, 17, 0), (17, .iconst 1, 18, 0), (18, .invokestatic 93, 21, 0), (21, .ifCond .ne 6, 24, 27), (24, .ldc 79, 26, 0), (26, .ireturn, 27, 0), (27, .aload_n 0, 28, 0), (28, .getfield 33, 31, 0), (31, .iload_n 1, 32, 0), (32, .invokevirtual 205, 35, 0), (35, .iload_n 2, 36, 0), (36, .aload_n 0, 37, 0), (37, .getfield 33, 40, 0), (40, .getfield 208, 43, 0), (43, .if_icmp .lt 6, 46, 49), (46, .ldc 211, 48, 0), (48, .ireturn, 49, 0), (49, .iload_n 3, 50, 0), (50, .ifCond .ne 15, 53, 65), (53, .aload_n 0, 54, 0), (54, .getfield 33, 57, 0), (57, .getfield 212, 60, 0), (60, .iload_n 2, 61, 0), (61, .iaload, 62, 0), (62, .goto 12, 65, 74), (65, .aload_n 0, 66, 0), (66, .getfield 33, 69, 0), (69, .getfield 215, 72, 0), (72, .iload_n 2, 73, 0), (73, .iaload, 74, 0), (74, .ireturn, 75, 0)]
def ct_Oak_gap : List (Nat × Instr × Nat × Nat) := [(0, .aload_n 0, 1, 0), (1, .getfield 21, 4, 0), (4, .iload_n 1, 5, 0), (5, .invokevirtual 138, 8, 0), (8, .ifCond .ne 6, 11, 14), (11, .ldc 79, 13, 0), (13, .ireturn, 14, 0), (14, .aload_n 0, 15, 0), (15, .getfield 33, 18, 0), (18, .iload_n 1, 19, 0), (19, .aload_n 0, 20, 0), (20, .getfield 21, 23, 0), (23, .iload_n 1, 24, 0), (24, .invokevirtual 147, 27, 0), (27, .aload_n 0, 28, 0), (28, .getfield 21, 31, 0), (31, .iload_n 1, 32, 0), (32, .invokevirtual 151, 35, 0), (35, .invokevirtual 218, 38, 0), (38, .ireturn, 39, 0)]
def ct_Oak_area : List (Nat × Instr × Nat × Nat) := [(0, .aload_n 0, 1, 0), (1, .getfield 21, 4, 0), (4, .iload_n 1, 5, 0), (5, .invokevirtual 138, 8, 0), (8, .ifCond .ne 6, 11, 14), (11, .ldc 79, 13, 0), (13, .ireturn, 14, 0), (14, .aload_n 0, 15, 0), (15, .getfield 33, 18, 0), (18, .iload_n 1, 19, 0), (19, .invokevirtual 205, 22, 0), (22, .aload_n 0, 23, 0), (23, .getfield 33, 26, 0), (26, .invokevirtual 221, 29, 0), (29, .ireturn, 30, 0)]
def ct_Oak_holds : List (Nat × Instr × Nat × Nat) := [(0, .aload_n 0, 1, 0), (1, .getfield 21, 4, 0), (4, .iload_n 1, 5, 0), (5, .invokevirtual 138, 8, 0), (8, .ifCond .eq 10, 11, 18), (11, .iload_n 2, 12, 0), (12, .invokestatic 107, 15, 0), (15, .ifCond .ne 6, 18, 21), (18, .ldc 79, 20, 0), (20, .ireturn, 21, 0), (21, .aload_n 0, 22, 0), (22, .getfield 43, 25, 0), (25, .aload_n 0, 26, 0), (26, .getfield 33, 29, 0), (29, .iload_n 1, 30, 0), (30, .invokevirtual 224, 33, 0), (33, .aload_n 0, 34, 0), (34, .getfield 43, 37, 0), (37, .iload_n 1, 38, 0), (38, .iload_n 2, 39, 0), (39, .bipush 100, 41, 0), (41, .idiv, 42, 0), (42, .iload_n 2, 43, 0), (43, .bipush 100, 45, 0), (45, .irem, 46, 0), (46, .invokevirtual 228, 49, 0), (49, .ifCond .eq 7, 52, 56), (52, .iconst 1, 53, 0), (53, .goto 4, 56, 57), (56, .iconst 0, 57, 0), (57, .ireturn, 58, 0)]
def ct_Oak_field : List (Nat × Instr × Nat × Nat) := [(0, .aload_n 0, 1, 0), (1, .getfield 21, 4, 0), (4, .iload_n 1, 5, 0), (5, .invokevirtual 138, 8, 0), (8, .ifCond .ne 6, 11, 14), (11, .ldc 79, 13, 0), (13, .ireturn, 14, 0), (14, .aload_n 0, 15, 0), (15, .getfield 43, 18, 0), (18, .aload_n 0, 19, 0), (19, .getfield 33, 22, 0), (22, .iload_n 1, 23, 0), (23, .invokevirtual 224, 26, 0), (26, .aload_n 0, 27, 0), (27, .getfield 43, 30, 0), (30, .getfield 231, 33, 0), (33, .iload_n 1, 34, 0), (34, .aaload, 35, 0), (35, .invokestatic 235, 38, 0), (38, .ireturn, 39, 0)]
def ct_Oak_over : List (Nat × Instr × Nat × Nat) := [(0, .aload_n 0, 1, 0), (1, .getfield 21, 4, 0), (4, .iload_n 1, 5, 0), (5, .invokevirtual 138, 8, 0), (8, .ifCond .eq 19, 11, 27), (11, .aload_n 0, 12, 0), (12, .getfield 21, 15, 0), (15, .iload_n 2, 16, 0), (16, .invokevirtual 138, 19, 0), (19, .ifCond .eq 8, 22, 27), (22, .iload_n 1, 23, 0), (23, .iload_n 2, 24, 0), (24, .if_icmp .ne 6, 27, 30), (27, .ldc 79, 29, 0), (29, .ireturn, 30, 0), (30, .aload_n 0, 31, 0), (31, .getfield 43, 34, 0), (34, .aload_n 0, 35, 0), (35, .getfield 33, 38, 0), (38, .iload_n 1, 39, 0), (39, .invokevirtual 224, 42, 0), (42, .aload_n 0, 43, 0), (43, .getfield 43, 46, 0), (46, .aload_n 0, 47, 0), (47, .getfield 33, 50, 0), (50, .iload_n 2, 51, 0), (51, .invokevirtual 224, 54, 0), (54, .iconst 0, 55, 0), (55, .istore_n 3, 56, 0), (56, .iconst 0, 57, 0), (57, .istore 4, 59, 0), (59, .iload 4, 61, 0), (61, .bipush 30, 63, 0), (63, .if_icmp .ge 40, 66, 103), (66, .iload_n 3, 67, 0), (67, .aload_n 0, 68, 0), (68, .getfield 43, 71, 0), (71, .getfield 231, 74, 0), (74, .iload_n 1, 75, 0), (75, .aaload, 76, 0), (76, .iload 4, 78, 0), (78, .iaload, 79, 0), (79, .aload_n 0, 80, 0), (80, .getfield 43, 83, 0), (83, .getfield 231, 86, 0), (86, .iload_n 2, 87, 0), (87, .aaload, 88, 0), (88, .iload 4, 90, 0), (90, .iaload, 91, 0), (91, .iand, 92, 0), (92, .invokestatic 239, 95, 0), (95, .iadd, 96, 0), (96, .istore_n 3, 97, 0), (97, .iinc 4 1, 100, 0), (100, .goto (-41), 103, 59), (103, .iload_n 3, 104, 0), (104, .ireturn, 105, 0)]
def ct_Oak_whose : List (Nat × Instr × Nat × Nat) := [(0, .iload_n 1, 1, 0), (1, .invokestatic 107, 4, 0), (4, .ifCond .ne 6, 7, 10), (7, .ldc 79, 9, 0), (9, .ireturn, 10, 0), (10, .aload_n 0, 11, 0), (11, .getfield 43, 14, 0), (14, .aload_n 0, 15, 0), (15, .getfield 33, 18, 0), (18, .invokevirtual 244, 21, 0), (21, .iconst 0, 22, 0), (22, .istore_n 2, 23, 0), (23, .iload_n 2, 24, 0), (24, .aload_n 0, 25, 0), (25, .getfield 21, 28, 0), (28, .getfield 116, 31, 0), (31, .if_icmp .ge 30, 34, 61), (34, .aload_n 0, 35, 0), (35, .getfield 43, 38, 0), (38, .iload_n 2, 39, 0), (39, .iload_n 1, 40, 0), (40, .bipush 100, 42, 0), (42, .idiv, 43, 0), (43, .iload_n 1, 44, 0), (44, .bipush 100, 46, 0), (46, .irem, 47, 0), (47, .invokevirtual 228, 50, 0), (50, .ifCond .eq 5, 53, 55), (53, .iload_n 2, 54, 0), (54, .ireturn, 55, 0), (55, .iinc 2 1, 58, 0), (58, .goto (-35), 61, 23), (61, .ldc 211, 63, 0), (63, .ireturn, 64, 0)]
def ct_Oak_owned : List (Nat × Instr × Nat × Nat) := [(0, .iload_n 1, 1, 0), (1, .iconst (-1), 2, 0), (2, .if_icmp .eq 17, 5, 19), (5, .aload_n 0, 6, 0), (6, .getfield 21, 9, 0), (9, .iload_n 1, 10, 0), (10, .invokevirtual 138, 13, 0), (13, .ifCond .ne 6, 16, 19), (16, .ldc 79, 18, 0), (18, .ireturn, 19, 0), (19, .aload_n 0, 20, 0), (20, .getfield 43, 23, 0), (23, .aload_n 0, 24, 0), (24, .getfield 33, 27, 0), (27, .invokevirtual 244, 30, 0), (30, .iload_n 1, 31, 0), (31, .iconst (-1), 32, 0), (32, .if_icmp .ne 13, 35, 45), (35, .aload_n 0, 36, 0), (36, .getfield 43, 39, 0), (39, .getfield 248, 42, 0), (42, .goto 12, 45, 54), (45, .aload_n 0, 46, 0), (46, .getfield 43, 49, 0), (49, .getfield 231, 52, 0), (52, .iload_n 1, 53, 0), (53, .aaload, 54, 0), (54, .invokestatic 235, 57, 0), (57, .ireturn, 58, 0)]
def ct_Oak_slip : List (Nat × Instr × Nat × Nat) := [(0, .aload_n 0, 1, 0), (1, .getfield 21, 4, 0), (4, .iload_n 1, 5, 0), (5, .invokevirtual 138, 8, 0), (8, .ifCond .eq 12, 11, 20), (11, .iload_n 2, 12, 0), (12, .iconst 0, 13, 0), (13, .iconst 2, 14, 0), (14, .invokestatic 93, 17, 0), (17, .ifCond .ne 6, 20, 23), (20, .ldc 79, 22, 0), (22, .ireturn, 23, 0), (23, .aload_n 0, 24, 0), (24, .getfield 33, 27, 0), (27, .iload_n 1, 28, 0), (28, .invokevirtual 251, 31, 0), (31, .iload_n 2, 32, 0), (32, .ifCond .ne 11, 35, 43), (35, .aload_n 0, 36, 0), (36, .getfield 33, 39, 0), (39, .getfield 254, 42, 0), (42, .ireturn, 43, 0), (43, .iload_n 2, 44, 0), (44, .iconst 1, 45, 0), (45, .if_icmp .ne 11, 48, 56), (48, .aload_n 0, 49, 0), (49, .getfield 33, 52, 0), (52, .getfield 257, 55, 0), (55, .ireturn, 56, 0), (56, .aload_n 0, 57, 0), (57, .getfield 33, 60, 0), (60, .getfield 257, 63, 0), (63, .ifCond .ne 8, 66, 71), (66, .ldc 211, 68, 0), (68, .goto 10, 71, 78), (71, .aload_n 0, 72, 0), (72, .getfield 33, 75, 0), (75, .getfield 260, 78, 0), (78, .ireturn, 79, 0)]
def ct_Oak_best : List (Nat × Instr × Nat × Nat) := [(0, .aload_n 0, 1, 0), (1, .getfield 21, 4, 0), (4, .iload_n 1, 5, 0), (5, .invokevirtual 138, 8, 0), (8, .ifCond .eq 12, 11, 20), (11, .iload_n 2, 12, 0), (12, .iconst 0, 13, 0), (13, .iconst 3, 14, 0), (14, .invokestatic 93, 17, 0), (17, .ifCond .ne 6, 20, 23), (20, .ldc 79, 22, 0), (22, .ireturn, 23, 0), (23, .iload_n 2, 24, 0), (24, .iconst 2, 25, 0), (25, .if_icmp .ge 33, 28, 58), (28, .aload_n 0, 29, 0), (29, .getfield 33, 32, 0), (32, .iload_n 1, 33, 0), (33, .invokevirtual 263, 36, 0), (36, .iload_n 2, 37, 0), (37, .ifCond .ne 13, 40, 50), (40, .aload_n 0, 41, 0), (41, .getfield 33, 44, 0), (44, .getfield 266, 47, 0), (47, .goto 10, 50, 57), (50, .aload_n 0, 51, 0), (51, .getfield 33, 54, 0), (54, .getfield 254, 57, 0), (57, .ireturn, 58, 0), (58, .aload_n 0, 59, 0), (59, .getfield 33, 62, 0), (62, .iload_n 1, 63, 0), (63, .invokevirtual 269, 66, 0), (66, .iload_n 2, 67, 0), (67, .iconst 2, 68, 0), (68, .if_icmp .ne 13, 71, 81), (71, .aload_n 0, 72, 0), (72, .getfield 33, 75, 0), (75, .getfield 266, 78, 0), (78, .goto 10, 81, 88), (81, .aload_n 0, 82, 0), (82, .getfield 33, 85, 0), (85, .getfield 254, 88, 0), (88, .ireturn, 89, 0)]
def ct_Oak_learn : List (Nat × Instr × Nat × Nat) := [(0, .iload_n 1, 1, 0), (1, .invokestatic 110, 4, 0), (4, .ifCond .ne 6, 7, 10), (7, .ldc 79, 9, 0), (9, .ireturn, 10, 0), (10, .aload_n 0, 11, 0), (11, .getfield 21, 14, 0), (14, .iload_n 1, 15, 0), (15, .invokevirtual 272, 18, 0), (18, .ifCond .ne 6, 21, 24), (21, .ldc 211, 23, 0), (23, .ireturn, 24, 0), (24, .aload_n 0, 25, 0), (25, .getfield 33, 28, 0), (28, .iload_n 1, 29, 0), (29, .invokevirtual 275, 32, 0), (32, .ireturn, 33, 0)]
def ct_Oak_near : List (Nat × Instr × Nat × Nat) := [(0, .aload_n 0, 1, 0), (1, .getfield 21, 4, 0), (4, .iload_n 1, 5, 0), (5, .invokevirtual 89, 8, 0), (8, .ifCond .eq 12, 11, 20), (11, .iload_n 2, 12, 0), (12, .iconst 0, 13, 0), (13, .iconst 1, 14, 0), (14, .invokestatic 93, 17, 0), (17, .ifCond .ne 6, 20, 23), (20, .ldc 79, 22, 0), (22, .ireturn, 23, 0), (23, .aload_n 0, 24, 0), (24, .getfield 21, 27, 0), (27, .getfield 116, 30, 0), (30, .ifCond .ne 6, 33, 36), (33, .ldc 211, 35, 0), (35, .ireturn, 36, 0), (36, .iconst 0, 37, 0), (37, .istore_n 3, 38, 0), (38, .ldc_w 278, 41, 0), (41, .istore 4, 43, 0), (43, .iconst 0, 44, 0), (44, .istore 5, 46, 0), (46, .iload 5, 48, 0), (48, .aload_n 0, 49, 0), (49, .getfield 21, 52, 0), (52, .getfield 116, 55, 0), (55, .if_icmp .ge 102, 58, 157), (58, .aload_n 0, 59, 0), (59, .getfield 33, 62, 0), (62, .iload 5, 64, 0), (64, .invokevirtual 205, 67, 0), (67, .iconst 0, 68, 0), (68, .istore 6, 70, 0), (70, .iload 6, 72, 0), (72, .aload_n 0, 73, 0), (73, .getfield 33, 76, 0), (76, .getfield 208, 79, 0), (79, .if_icmp .ge 72, 82, 151), (82, .aload_n 0, 83, 0), (83, .getfield 33, 86, 0), (86, .getfield 212, 89, 0), (89, .iload 6, 91, 0), (91, .iaload, 92, 0), (92, .aload_n 0, 93, 0), (93, .getfield 33, 96, 0), (96, .getfield 215, 99, 0), (99, .iload 6, 101, 0), (101, .iaload, 102, 0), (102, .aload_n 0, 103, 0), (103, .getfield 21, 106, 0), (106, .getfield 97, 109, 0), (109, .iload_n 1, 110, 0), (110, .iaload, 111, 0), (111, .aload_n 0, 112, 0), (112, .getfield 21, 115, 0), (115, .getfield 100, 118, 0), (118, .iload_n 1, 119, 0), (119, .iaload, 120, 0), (120, .invokestatic 103, 123, 0), (123, .istore 7, 125, 0), (125, .iload 7, 127, 0), (127, .iload 4, 129, 0), (129, .if_icmp .ge 16, 132, 145), (132, .iload 7, 134, 0), (134, .istore 4, 136, 0), (136, .bipush 100, 138, 0), (138, .iload 5, 140, 0), (140, .imul, 141, 0), (141, .iload 6, 143, 0), (143, .iadd, 144, 0), (144, .istore_n 3, 145, 0), (145, .iinc 6 1, 148, 0), (148, .goto (-78), 151, 70), (151, .iinc 5 1, 154, 0), (154, .goto (-108), 157, 46), (157, .iload_n 2, 158, 0), (158, .ifCond .ne 7, 161, 165), (161, .iload_n 3, 162, 0), (162, .goto 5, 165, 167), (165, .iload 4, 167, 0), (167, .ireturn, 168, 0)]
def ct_Oak_would : List (Nat × Instr × Nat × Nat) := [(0, .aload_n 0, 1, 0), (1, .getfield 21, 4, 0), (4, .iload_n 1, 5, 0), (5, .invokevirtual 89, 8, 0), (8, .ifCond .eq 11, 11, 19), (11, .iload_n 2, 12, 0), (12, .iload_n 3, 13, 0), (13, .invokestatic 75, 16, 0), (16, .ifCond .ne 6, 19, 22), (19, .ldc 79, 21, 0), (21, .ireturn, 22, 0), (22, .aload_n 0, 23, 0), (23, .getfield 21, 26, 0), (26, .getfield 97, 29, 0), (29, .iload_n 1, 30, 0), (30, .iaload, 31, 0), (31, .istore 4, 33, 0), (33, .aload_n 0, 34, 0), (34, .getfield 21, 37, 0), (37, .getfield 100, 40, 0), (40, .iload_n 1, 41, 0), (41, .iaload, 42, 0), (42, .istore 5, 44, 0), (44, .aload_n 0, 45, 0), (45, .getfield 43, 48, 0), (48, .aload_n 0, 49, 0), (49, .getfield 33, 52, 0), (52, .invokevirtual 244, 55, 0), (55, .aload_n 0, 56, 0), (56, .getfield 21, 59, 0), (59, .iload_n 1, 60, 0), (60, .iload_n 2, 61, 0), (61, .iload_n 3, 62, 0), (62, .invokevirtual 85, 65, 0), (65, .aload_n 0, 66, 0), (66, .getfield 47, 69, 0), (69, .aload_n 0, 70, 0), (70, .getfield 33, 73, 0), (73, .invokevirtual 244, 76, 0), (76, .aload_n 0, 77, 0), (77, .getfield 21, 80, 0), (80, .iload_n 1, 81, 0), (81, .iload 4, 83, 0), (83, .iload 5, 85, 0), (85, .invokevirtual 85, 88, 0), (88, .aload_n 0, 89, 0), (89, .getfield 43, 92, 0), (92, .aload_n 0, 93, 0), (93, .getfield 47, 96, 0), (96, .aload_n 0, 97, 0), (97, .getfield 21, 100, 0), (100, .getfield 116, 103, 0), (103, .invokevirtual 279, 106, 0), (106, .ireturn, 107, 0)]
def ct_Oak_feed : List (Nat × Instr × Nat × Nat) := [(0, .aload_n 0, 1, 0), (1, .getfield 53, 4, 0), (4, .getfield 283, 7, 0), (7, .bipush 12, 9, 0), (9, .iadd, 10, 0), (10, .bipush 96, 12, 0), (12, .if_icmp .le 6, 15, 18), (15, .ldc 84, 17, 0), (17, .ireturn, 18, 0), (18, .aload_n 0, 19, 0), (19, .getfield 53, 22, 0), (22, .iload_n 1, 23, 0), (23, .invokevirtual 286, 26, 0), (26, .aload_n 0, 27, 0), (27, .getfield 53, 30, 0), (30, .iload_n 2, 31, 0), (31, .invokevirtual 286, 34, 0), (34, .aload_n 0, 35, 0), (35, .getfield 53, 38, 0), (38, .iload_n 3, 39, 0), (39, .invokevirtual 286, 42, 0), (42, .aload_n 0, 43, 0), (43, .getfield 53, 46, 0), (46, .getfield 283, 49, 0), (49, .ireturn, 50, 0)]
def ct_Oak_trim : List (Nat × Instr × Nat × Nat) := [(0, .iload_n 1, 1, 0), (1, .iconst 0, 2, 0), (2, .aload_n 0, 3, 0), (3, .getfield 53, 6, 0), (6, .getfield 283, 9, 0), (9, .invokestatic 93, 12, 0), (12, .ifCond .ne 6, 15, 18), (15, .ldc 79, 17, 0), (17, .ireturn, 18, 0), (18, .aload_n 0, 19, 0), (19, .getfield 53, 22, 0), (22, .iload_n 1, 23, 0), (23, .putfield 283, 26, 0), (26, .iload_n 1, 27, 0), (27, .ireturn, 28, 0)]
def ct_Oak_text : List (Nat × Instr × Nat × Nat) := [(0, .aload_n 0, 1, 0), (1, .getfield 53, 4, 0), (4, .invokevirtual 289, 7, 0), (7, .istore_n 1, 8, 0), (8, .aload_n 0, 9, 0), (9, .getfield 53, 12, 0), (12, .iconst 0, 13, 0), (13, .putfield 283, 16, 0), (16, .iload_n 1, 17, 0), (17, .ifCond .ne 14, 20, 31), (20, .bipush (-100), 22, 0), (22, .aload_n 0, 23, 0), (23, .getfield 53, 26, 0), (26, .getfield 293, 29, 0), (29, .isub, 30, 0), (30, .ireturn, 31, 0), (31, .aload_n 0, 32, 0), (32, .getfield 21, 35, 0), (35, .getfield 296, 38, 0), (38, .bipush 14, 40, 0), (40, .if_icmp .lt 6, 43, 46), (43, .ldc 84, 45, 0), (45, .ireturn, 46, 0), (46, .aload_n 0, 47, 0), (47, .getfield 12, 50, 0), (50, .getfield 299, 53, 0), (53, .aload_n 0, 54, 0), (54, .getfield 21, 57, 0), (57, .getfield 296, 60, 0), (60, .aaload, 61, 0), (61, .aload_n 0, 62, 0), (62, .getfield 53, 65, 0), (65, .invokevirtual 302, 68, 0), (68, .aload_n 0, 69, 0), (69, .getfield 21, 72, 0), (72, .dup, 73, 0), (73, .getfield 296, 76, 0), (76, .iconst 1, 77, 0), (77, .iadd, 78, 0), (78, .putfield 296, 81, 0), (81, .aload_n 0, 82, 0), (82, .getfield 21, 85, 0), (85, .getfield 296, 88, 0), (88, .iconst 1, 89, 0), (89, .isub, 90, 0), (90, .ireturn, 91, 0)]
def ct_Oak_textTold : List (Nat × Instr × Nat × Nat) := [(0, .iload_n 1, 1, 0), (1, .iconst 0, 2, 0), (2, .aload_n 0, 3, 0), (3, .getfield 21, 6, 0), (6, .getfield 296, 9, 0), (9, .iconst 1, 10, 0), (10, .isub, 11, 0), (11, .invokestatic 93, 14, 0), (14, .ifCond .eq 12, 17, 26), (17, .iload_n 2, 18, 0), (18, .iconst 0, 19, 0), (19, .iconst 1, 20, 0), (20, .invokestatic 93, 23, 0), (23, .ifCond .ne 6, 26, 29), (26, .ldc 79, 28, 0), (28, .ireturn, 29, 0), (29, .iload_n 2, 30, 0), (30, .ifCond .ne 18, 33, 48), (33, .aload_n 0, 34, 0), (34, .getfield 12, 37, 0), (37, .getfield 299, 40, 0), (40, .iload_n 1, 41, 0), (41, .aaload, 42, 0), (42, .getfield 308, 45, 0), (45, .goto 15, 48, 60), (48, .aload_n 0, 49, 0), (49, .getfield 12, 52, 0), (52, .getfield 299, 55, 0), (55, .iload_n 1, 56, 0), (56, .aaload, 57, 0), (57, .getfield 311, 60, 0), (60, .ireturn, 61, 0)]
def ct_Oak_why : List (Nat × Instr × Nat × Nat) := [(0, .iload_n 1, 1, 0), (1, .iconst 0, 2, 0), (2, .iconst 2, 3, 0), (3, .invokestatic 93, 6, 0), (6, .ifCond .ne 6, 9, 12), (9, .ldc 79, 11, 0), (11, .ireturn, 12, 0), (12, .aload_n 0, 13, 0), (13, .getfield 12, 16, 0), (16, .iload_n 1, 17, 0), (17, .aload_n 0, 18, 0), (18, .getfield 21, 21, 0), (21, .getfield 296, 24, 0), (24, .invokevirtual 314, 27, 0), (27, .ireturn, 28, 0)]
def ct_Oak_sheet : List (Nat × Instr × Nat × Nat) := [(0, .iload_n 1, 1, 0), (1, .invokestatic 317, 4, 0), (4, .ifCond .eq 12, 7, 16), (7, .iload_n 2, 8, 0), (8, .iconst (-1), 9, 0), (9, .iconst 1, 10, 0), (10, .invokestatic 93, 13, 0), (13, .ifCond .ne 6, 16, 19), (16, .ldc 79, 18, 0), (18, .ireturn, 19, 0), (19, .iload_n 2, 20, 0), (20, .iconst (-1), 21, 0), (21, .if_icmp .ne 16, 24, 37), (24, .aload_n 0, 25, 0), (25, .getfield 59, 28, 0), (28, .iload_n 1, 29, 0), (29, .aaload, 30, 0), (30, .iconst (-1), 31, 0), (31, .iconst 0, 32, 0), (32, .invokevirtual 320, 35, 0), (35, .iconst 0, 36, 0), (36, .ireturn, 37, 0), (37, .iload_n 3, 38, 0), (38, .bipush 24, 40, 0), (40, .if_icmp .le 6, 43, 46), (43, .ldc 79, 45, 0), (45, .ireturn, 46, 0), (46, .iload_n 3, 47, 0), (47, .ifCond .ge 7, 50, 54), (50, .ldc_w 324, 53, 0), (53, .ireturn, 54, 0), (54, .aload_n 0, 55, 0), (55, .getfield 59, 58, 0), (58, .iload_n 1, 59, 0), (59, .aaload, 60, 0), (60, .iload_n 2, 61, 0), (61, .iload_n 3, 62, 0), (62, .invokevirtual 320, 65, 0), (65, .iload_n 3, 66, 0), (66, .ireturn, 67, 0)]
def ct_Oak_mark : List (Nat × Instr × Nat × Nat) := [(0, .iload_n 1, 1, 0), (1, .invokestatic 317, 4, 0), (4, .ifCond .ne 6, 7, 10), (7, .ldc 79, 9, 0), (9, .ireturn, 10, 0), (10, .aload_n 0, 11, 0), (11, .getfield 59, 14, 0), (14, .iload_n 1, 15, 0), (15, .aaload, 16, 0), (16, .astore 4, 18, 0), (18, .aload 4, 20, 0), (20, .getfield 325, 23, 0), (23, .iconst (-1), 24, 0), (24, .if_icmp .ne 7, 27, 31), (27, .ldc_w 328, 30, 0), (30, .ireturn, 31, 0), (31, .aload 4, 33, 0), (33, .iload_n 2, 34, 0), (34, .invokevirtual 329, 37, 0), (37, .ifCond .ne 7, 40, 44), (40, .ldc_w 332, 43, 0), (43, .ireturn, 44, 0), (44, .aload 4, 46, 0), (46, .getfield 325, 49, 0), (49, .ifCond .ne 12, 52, 61), (52, .iload_n 3, 53, 0), (53, .ldc 211, 55, 0), (55, .if_icmp .ne 6, 58, 61), (58, .ldc 189, 60, 0), (60, .ireturn, 61, 0), (61, .aload 4, 63, 0), (63, .getfield 325, 66, 0), (66, .iconst 1, 67, 0), (67, .if_icmp .ne 25, 70, 92), (70, .iload_n 3, 71, 0), (71, .ldc 211, 73, 0), (73, .if_icmp .eq 19, 76, 92), (76, .iload_n 3, 77, 0), (77, .ldc_w 333, 80, 0), (80, .ldc_w 334, 83, 0), (83, .invokestatic 93, 86, 0), (86, .ifCond .ne 6, 89, 92), (89, .ldc 79, 91, 0), (91, .ireturn, 92, 0), (92, .aload 4, 94, 0), (94, .getfield 335, 97, 0), (97, .iload_n 2, 98, 0), (98, .aload 4, 100, 0), (100, .getfield 325, 103, 0), (103, .ifCond .ne 8, 106, 111), (106, .iload_n 3, 107, 0), (107, .i2s, 108, 0), (108, .goto 4, 111, 112), (111, .iload_n 3, 112, 0), (112, .iastore, 113, 0), (113, .iconst 1, 114, 0), (114, .ireturn, 115, 0)]
def ct_Oak_pour : List (Nat × Instr × Nat × Nat) := [(0, .iload_n 1, 1, 0), (1, .invokestatic 317, 4, 0), (4, .ifCond .eq 14, 7, 18), (7, .aload_n 0, 8, 0), (8, .getfield 21, 11, 0), (11, .iload_n 2, 12, 0), (12, .invokevirtual 138, 15, 0), (15, .ifCond .ne 6, 18, 21), (18, .ldc 79, 20, 0), (20, .ireturn, 21, 0), (21, .aload_n 0, 22, 0), (22, .getfield 59, 25, 0), (25, .iload_n 1, 26, 0), (26, .aaload, 27, 0), (27, .astore_n 3, 28, 0), (28, .aload_n 3, 29, 0), (29, .getfield 325, 32, 0), (32, .iconst (-1), 33, 0), (33, .if_icmp .ne 7, 36, 40), (36, .ldc_w 328, 39, 0), (39, .ireturn, 40, 0), (40, .iconst 0, 41, 0), (41, .istore 4, 43, 0), (43, .iload 4, 45, 0), (45, .aload_n 3, 46, 0), (46, .getfield 338, 49, 0), (49, .if_icmp .ge 22, 52, 71), (52, .aload_n 3, 53, 0), (53, .getfield 335, 56, 0), (56, .iload 4, 58, 0), (58, .iaload, 59, 0), (59, .invokestatic 160, 62, 0), (62, .ifCond .eq 9, 65, 71), (65, .iinc 4 1, 68, 0), (68, .goto (-25), 71, 43), (71, .aload_n 0, 72, 0), (72, .getfield 21, 75, 0), (75, .getfield 119, 78, 0), (78, .iload_n 2, 79, 0), (79, .aaload, 80, 0), (80, .astore 5, 82, 0), (82, .iload 4, 84, 0), (84, .bipush 10, 86, 0), (86, .aload 5, 88, 0), (88, .getfield 135, 91, 0), (91, .isub, 92, 0), (92, .if_icmp .le 6, 95, 98), (95, .ldc 84, 97, 0), (97, .ireturn, 98, 0), (98, .iconst 0, 99, 0), (99, .istore 6, 101, 0), (101, .iload 6, 103, 0), (103, .iload 4, 105, 0), (105, .if_icmp .ge 35, 108, 140), (108, .aload 5, 110, 0), (110, .iconst 0, 111, 0), (111, .aload_n 3, 112, 0), (112, .getfield 335, 115, 0), (115, .iload 6, 117, 0), (117, .iaload, 118, 0), (118, .bipush 100, 120, 0), (120, .idiv, 121, 0), (121, .aload_n 3, 122, 0), (122, .getfield 335, 125, 0), (125, .iload 6, 127, 0), (127, .iaload, 128, 0), (128, .bipush 100, 130, 0), (130, .irem, 131, 0), (131, .invokevirtual 163, 134, 0), (134, .iinc 6 1, 137, 0), (137, .goto (-36), 140, 101), (140, .iload 4, 142, 0), (142, .ireturn, 143, 0)]
def ct_Oak_reads : List (Nat × Instr × Nat × Nat) := [(0, .iload_n 1, 1, 0), (1, .invokestatic 317, 4, 0), (4, .ifCond .eq 14, 7, 18), (7, .aload_n 0, 8, 0), (8, .getfield 21, 11, 0), (11, .iload_n 2, 12, 0), (12, .invokevirtual 138, 15, 0), (15, .ifCond .ne 6, 18, 21), (18, .ldc 79, 20, 0), (20, .ireturn, 21, 0), (21, .aload_n 0, 22, 0), (22, .getfield 59, 25, 0), (25, .iload_n 1, 26, 0), (26, .aaload, 27, 0), (27, .astore_n 3, 28, 0), (28, .aload_n 3, 29, 0), (29, .getfield 325, 32, 0), (32, .iconst (-1), 33, 0), (33, .if_icmp .ne 7, 36, 40), (36, .ldc_w 328, 39, 0), (39, .ireturn, 40, 0), (40, .aload_n 0, 41, 0), (41, .getfield 33, 44, 0), (44, .iload_n 2, 45, 0), (45, .invokevirtual 205, 48, 0), (48, .iconst 0, 49, 0), (49, .istore 4, 51, 0), (51, .iload 4, 53, 0), (53, .aload_n 3, 54, 0), (54, .getfield 338, 57, 0), (57, .if_icmp .ge 69, 60, 126), (60, .iload 4, 62, 0), (62, .iconst 2, 63, 0), (63, .aload_n 0, 64, 0), (64, .getfield 33, 67, 0), (67, .getfield 208, 70, 0), (70, .imul, 71, 0), (71, .if_icmp .ge 26, 74, 97), (74, .aload_n 3, 75, 0), (75, .getfield 335, 78, 0), (78, .iload 4, 80, 0), (80, .iaload, 81, 0), (81, .aload_n 0, 82, 0), (82, .getfield 33, 85, 0), (85, .iload 4, 87, 0), (87, .invokevirtual 341, 90, 0), (90, .if_icmp .ne 7, 93, 97), (93, .iconst 1, 94, 0), (94, .goto 4, 97, 98), (97, .iconst 0, 98, 0), (98, .istore 5, 100, 0), (100, .aload_n 3, 101, 0), (101, .getfield 335, 104, 0), (104, .iload 4, 106, 0), (106, .iaload, 107, 0), (107, .ldc 211, 109, 0), (109, .if_icmp .eq 11, 112, 120), (112, .iload 5, 114, 0), (114, .ifCond .ne 6, 117, 120), (117, .iload 4, 119, 0), (119, .ireturn, 120, 0), (120, .iinc 4 1, 123, 0), (123, .goto (-72), 126, 51), (126, .ldc 211, 128, 0), (128, .ireturn, 129, 0)]
def ct_Oak_copy : List (Nat × Instr × Nat × Nat) := [(0, .iload_n 1, 1, 0), (1, .invokestatic 317, 4, 0), (4, .ifCond .eq 10, 7, 14), (7, .iload_n 3, 8, 0), (8, .invokestatic 317, 11, 0), (11, .ifCond .ne 6, 14, 17), (14, .ldc 79, 16, 0), (16, .ireturn, 17, 0), (17, .aload_n 0, 18, 0), (18, .getfield 59, 21, 0), (21, .iload_n 1, 22, 0), (22, .aaload, 23, 0), (23, .astore 6, 25, 0), (25, .aload_n 0, 26, 0), (26, .getfield 59, 29, 0), (29, .iload_n 3, 30, 0), (30, .aaload, 31, 0), (31, .astore 7, 33, 0), (33, .aload 6, 35, 0), (35, .getfield 325, 38, 0), (38, .iconst (-1), 39, 0), (39, .if_icmp .eq 12, 42, 51), (42, .aload 7, 44, 0), (44, .getfield 325, 47, 0), (47, .iconst (-1), 48, 0), (48, .if_icmp .ne 7, 51, 55), (51, .ldc_w 328, 54, 0), (54, .ireturn, 55, 0), (55, .aload 6, 57, 0), (57, .getfield 325, 60, 0), (60, .aload 7, 62, 0), (62, .getfield 325, 65, 0), (65, .if_icmp .eq 6, 68, 71), (68, .ldc 189, 70, 0), (70, .ireturn, 71, 0), (71, .aload 6, 73, 0), (73, .iload_n 2, 74, 0), (74, .iload 5, 76, 0), (76, .invokevirtual 344, 79, 0), (79, .ifCond .eq 15, 82, 94), (82, .aload 7, 84, 0), (84, .iload 4, 86, 0), (86, .iload 5, 88, 0), (88, .invokevirtual 344, 91, 0), (91, .ifCond .ne 7, 94, 98), (94, .ldc_w 332, 97, 0), (97, .ireturn, 98, 0), (98, .aload 6, 100, 0), (100, .getfield 335, 103, 0), (103, .iload_n 2, 104, 0), (104, .aload 7, 106, 0), (106, .getfield 335, 109, 0), (109, .iload 4, 111, 0), (111, .iload 5, 113, 0), (113, .invokestatic 347, 116, 0), (116, .iload 5, 118, 0), (118, .ireturn, 119, 0)]
def ct_Oak_lay : List (Nat × Instr × Nat × Nat) := [(0, .iload_n 1, 1, 0), (1, .invokestatic 353, 4, 0), (4, .ifCond .eq 12, 7, 16), (7, .iload_n 2, 8, 0), (8, .iconst 0, 9, 0), (9, .iconst 3, 10, 0), (10, .invokestatic 93, 13, 0), (13, .ifCond .ne 6, 16, 19), (16, .ldc 79, 18, 0), (18, .ireturn, 19, 0), (19, .aload_n 0, 20, 0), (20, .getfield 66, 23, 0), (23, .iload_n 1, 24, 0), (24, .aaload, 25, 0), (25, .astore 4, 27, 0), (27, .iload_n 2, 28, 0), (28, .iconst 1, 29, 0), (29, .if_icmp .ne 49, 32, 78), (32, .iload_n 3, 33, 0), (33, .ifCond .lt 21, 36, 54), (36, .aload_n 0, 37, 0), (37, .getfield 21, 40, 0), (40, .iload_n 3, 41, 0), (41, .bipush 100, 43, 0), (43, .idiv, 44, 0), (44, .iload_n 3, 45, 0), (45, .bipush 100, 47, 0), (47, .irem, 48, 0), (48, .invokevirtual 166, 51, 0), (51, .ifCond .ne 6, 54, 57), (54, .ldc 79, 56, 0), (56, .ireturn, 57, 0), (57, .aload 4, 59, 0), (59, .aload_n 0, 60, 0), (60, .getfield 21, 63, 0), (63, .getfield 119, 66, 0), (66, .iload_n 3, 67, 0), (67, .bipush 100, 69, 0), (69, .idiv, 70, 0), (70, .aaload, 71, 0), (71, .iload_n 3, 72, 0), (72, .bipush 100, 74, 0), (74, .irem, 75, 0), (75, .invokevirtual 356, 78, 0), (78, .iload_n 2, 79, 0), (79, .iconst 2, 80, 0), (80, .if_icmp .ne 44, 83, 124), (83, .iload_n 3, 84, 0), (84, .invokestatic 317, 87, 0), (87, .ifCond .ne 6, 90, 93), (90, .ldc 79, 92, 0), (92, .ireturn, 93, 0), (93, .aload_n 0, 94, 0), (94, .getfield 59, 97, 0), (97, .iload_n 3, 98, 0), (98, .aaload, 99, 0), (99, .getfield 325, 102, 0), (102, .iconst (-1), 103, 0), (103, .if_icmp .ne 7, 106, 110), (106, .ldc_w 328, 109, 0), (109, .ireturn, 110, 0), (110, .aload 4, 112, 0), (112, .getfield 360, 115, 0), (115, .aload_n 0, 116, 0), (116, .getfield 59, 119, 0), (119, .iload_n 3, 120, 0), (120, .aaload, 121, 0), (121, .invokevirtual 364, 124, 0), (124, .iload_n 2, 125, 0), (125, .iconst 3, 126, 0), (126, .if_icmp .ne 9, 129, 135), (129, .aload 4, 131, 0), (131, .iload_n 3, 132, 0), (132, .putfield 367, 135, 0), (135, .aload 4, 137, 0), (137, .getfield 370, 140, 0), (140, .istore 5, 142, 0), (142, .aload 4, 144, 0), (144, .iload_n 2, 145, 0), (145, .putfield 370, 148, 0), (148, .iload 5, 150, 0), (150, .ireturn, 151, 0)]
def ct_Oak_ask : List (Nat × Instr × Nat × Nat) := [(0, .iload_n 1, 1, 0), (1, .invokestatic 353, 4, 0), (4, .ifCond .eq 10, 7, 14), (7, .iload_n 2, 8, 0), (8, .invokestatic 157, 11, 0), (11, .ifCond .ne 6, 14, 17), (14, .ldc 79, 16, 0), (16, .ireturn, 17, 0), (17, .aload_n 0, 18, 0), (18, .getfield 66, 21, 0), (21, .iload_n 1, 22, 0), (22, .aaload, 23, 0), (23, .astore_n 3, 24, 0), (24, .aload_n 3, 25, 0), (25, .getfield 370, 28, 0), (28, .ifCond .ne 7, 31, 35), (31, .ldc_w 328, 34, 0), (34, .ireturn, 35, 0), (35, .aload_n 3, 36, 0), (36, .getfield 370, 39, 0), (39, .iconst 1, 40, 0), (40, .if_icmp .ne 14, 43, 54), (43, .aload_n 3, 44, 0), (44, .getfield 373, 47, 0), (47, .iload_n 2, 48, 0), (48, .invokestatic 186, 51, 0), (51, .ifCond .ne 6, 54, 57), (54, .ldc 189, 56, 0), (56, .ireturn, 57, 0), (57, .aload_n 3, 58, 0), (58, .getfield 373, 61, 0), (61, .aload_n 3, 62, 0), (62, .getfield 376, 65, 0), (65, .aload_n 3, 66, 0), (66, .getfield 379, 69, 0), (69, .invokestatic 182, 72, 0), (72, .ireturn, 73, 0)]
def ct_Oak_item : List (Nat × Instr × Nat × Nat) := [(0, .iload_n 1, 1, 0), (1, .invokestatic 353, 4, 0), (4, .ifCond .ne 6, 7, 10), (7, .ldc 79, 9, 0), (9, .ireturn, 10, 0), (10, .aload_n 0, 11, 0), (11, .getfield 66, 14, 0), (14, .iload_n 1, 15, 0), (15, .aaload, 16, 0), (16, .astore_n 3, 17, 0), (17, .aload_n 3, 18, 0), (18, .getfield 370, 21, 0), (21, .ifCond .ne 7, 24, 28), (24, .ldc_w 328, 27, 0), (27, .ireturn, 28, 0), (28, .aload_n 3, 29, 0), (29, .getfield 370, 32, 0), (32, .iconst 2, 33, 0), (33, .if_icmp .eq 6, 36, 39), (36, .ldc 189, 38, 0), (38, .ireturn, 39, 0), (39, .aload_n 3, 40, 0), (40, .getfield 360, 43, 0), (43, .iload_n 2, 44, 0), (44, .invokevirtual 329, 47, 0), (47, .ifCond .ne 7, 50, 54), (50, .ldc_w 332, 53, 0), (53, .ireturn, 54, 0), (54, .aload_n 3, 55, 0), (55, .getfield 360, 58, 0), (58, .getfield 335, 61, 0), (61, .iload_n 2, 62, 0), (62, .iaload, 63, 0), (63, .ldc 211, 65, 0), (65, .if_icmp .ne 8, 68, 73), (68, .ldc 189, 70, 0), (70, .goto 12, 73, 82), (73, .aload_n 3, 74, 0), (74, .getfield 360, 77, 0), (77, .getfield 335, 80, 0), (80, .iload_n 2, 81, 0), (81, .iaload, 82, 0), (82, .ireturn, 83, 0)]
def ct_Oak_rest : List (Nat × Instr × Nat × Nat) := [(0, .iload_n 1, 1, 0), (1, .invokestatic 353, 4, 0), (4, .ifCond .ne 6, 7, 10), (7, .ldc 79, 9, 0), (9, .ireturn, 10, 0), (10, .aload_n 0, 11, 0), (11, .getfield 66, 14, 0), (14, .iload_n 1, 15, 0), (15, .aaload, 16, 0), (16, .astore_n 3, 17, 0), (17, .aload_n 3, 18, 0), (18, .getfield 370, 21, 0), (21, .ifCond .ne 7, 24, 28), (24, .ldc_w 328, 27, 0), (27, .ireturn, 28, 0), (28, .aload_n 3, 29, 0), (29, .getfield 370, 32, 0), (32, .iconst 3, 33, 0), (33, .if_icmp .eq 6, 36, 39), (36, .ldc 189, 38, 0), (38, .ireturn, 39, 0), (39, .iload_n 2, 40, 0), (40, .ifCond .ne 9, 43, 49), (43, .ldc_w 380, 46, 0), (46, .goto 9, 49, 55), (49, .aload_n 3, 50, 0), (50, .getfield 367, 53, 0), (53, .iload_n 2, 54, 0), (54, .irem, 55, 0), (55, .ireturn, 56, 0)]
def ct_Oak_tell : List (Nat × Instr × Nat × Nat) := [(0, .aload_n 0, 1, 0), (1, .getfield 381, 4, 0), (4, .bipush 60, 6, 0), (6, .if_icmp .lt 6, 9, 12), (9, .ldc 84, 11, 0), (11, .ireturn, 12, 0), (12, .aload_n 0, 13, 0), (13, .getfield 71, 16, 0), (16, .aload_n 0, 17, 0), (17, .getfield 381, 20, 0), (20, .iload_n 1, 21, 0), (21, .iastore, 22, 0), (22, .aload_n 0, 23, 0), (23, .dup, 24, 0), (24, .getfield 381, 27, 0), (27, .iconst 1, 28, 0), (28, .iadd, 29, 0), (29, .putfield 381, 32, 0), (32, .aload_n 0, 33, 0), (33, .getfield 381, 36, 0), (36, .ireturn, 37, 0)]
def ct_Oak_check : List (Nat × Instr × Nat × Nat) := [(0, .aload_n 0, 1, 0), (1, .getfield 381, 4, 0), (4, .istore_n 2, 5, 0), (5, .aload_n 0, 6, 0), (6, .iconst 0, 7, 0), (7, .putfield 381, 10, 0), (10, .aload_n 0, 11, 0), (11, .getfield 384, 14, 0), (14, .ifCond .ne 7, 17, 21), (17, .ldc_w 380, 20, 0), (20, .ireturn, 21, 0), (21, .aload_n 0, 22, 0), (22, .getfield 25, 25, 0), (25, .iload_n 1, 26, 0), (26, .invokevirtual 138, 29, 0), (29, .ifCond .ne 6, 32, 35), (32, .ldc 79, 34, 0), (34, .ireturn, 35, 0), (35, .aload_n 0, 36, 0), (36, .getfield 37, 39, 0), (39, .iload_n 1, 40, 0), (40, .invokevirtual 205, 43, 0), (43, .iconst 2, 44, 0), (44, .aload_n 0, 45, 0), (45, .getfield 37, 48, 0), (48, .getfield 208, 51, 0), (51, .imul, 52, 0), (52, .iconst 2, 53, 0), (53, .isub, 54, 0), (54, .istore_n 3, 55, 0), (55, .iconst 0, 56, 0), (56, .istore 4, 58, 0), (58, .iload 4, 60, 0), (60, .iload_n 2, 61, 0), (61, .if_icmp .ge 36, 64, 97), (64, .iload 4, 66, 0), (66, .iload_n 3, 67, 0), (67, .if_icmp .ge 30, 70, 97), (70, .aload_n 0, 71, 0), (71, .getfield 71, 74, 0), (74, .iload 4, 76, 0), (76, .iaload, 77, 0), (77, .aload_n 0, 78, 0), (78, .getfield 37, 81, 0), (81, .iload 4, 83, 0), (83, .iconst 2, 84, 0), (84, .iadd, 85, 0), (85, .invokevirtual 341, 88, 0), (88, .if_icmp .ne 9, 91, 97), (91, .iinc 4 1, 94, 0), (94, .goto (-36), 97, 58), (97, .iload 4, 99, 0), (99, .iload_n 2, 100, 0), (100, .if_icmp .ne 13, 103, 113), (103, .iload 4, 105, 0), (105, .iload_n 3, 106, 0), (106, .if_icmp .ne 7, 109, 113), (109, .iconst 0, 110, 0), (110, .goto 7, 113, 117), (113, .iconst 1, 114, 0), (114, .iload 4, 116, 0), (116, .iadd, 117, 0), (117, .ireturn, 118, 0)]
def ct_Oak_keep : List (Nat × Instr × Nat × Nat) := [(0, .aload_n 0, 1, 0), (1, .getfield 25, 4, 0), (4, .aload_n 0, 5, 0), (5, .getfield 21, 8, 0), (8, .invokevirtual 388, 11, 0), (11, .aload_n 0, 12, 0), (12, .iconst 1, 13, 0), (13, .putfield 384, 16, 0), (16, .aload_n 0, 17, 0), (17, .getfield 25, 20, 0), (20, .getfield 116, 23, 0), (23, .ireturn, 24, 0)]
def ct_Oak_back : List (Nat × Instr × Nat × Nat) := [(0, .aload_n 0, 1, 0), (1, .getfield 384, 4, 0), (4, .ifCond .ne 7, 7, 11), (7, .ldc_w 380, 10, 0), (10, .ireturn, 11, 0), (11, .aload_n 0, 12, 0), (12, .getfield 21, 15, 0), (15, .aload_n 0, 16, 0), (16, .getfield 25, 19, 0), (19, .invokevirtual 388, 22, 0), (22, .aload_n 0, 23, 0), (23, .getfield 21, 26, 0), (26, .getfield 116, 29, 0), (29, .ireturn, 30, 0)]
def ct_Oak_count : List (Nat × Instr × Nat × Nat) := [(0, .iload_n 1, 1, 0), (1, .tableswitch 96 0 6 #[43, 51, 59, 67, 75, 80, 88], 44, 0), (44, .aload_n 0, 45, 0), (45, .getfield 21, 48, 0), (48, .getfield 80, 51, 0), (51, .ireturn, 52, 0), (52, .aload_n 0, 53, 0), (53, .getfield 21, 56, 0), (56, .getfield 116, 59, 0), (59, .ireturn, 60, 0), (60, .aload_n 0, 61, 0), (61, .getfield 21, 64, 0), (64, .invokevirtual 390, 67, 0), (67, .ireturn, 68, 0), (68, .aload_n 0, 69, 0), (69, .getfield 21, 72, 0), (72, .getfield 296, 75, 0), (75, .ireturn, 76, 0), (76, .aload_n 0, 77, 0), (77, .getfield 381, 80, 0), (80, .ireturn, 81, 0), (81, .aload_n 0, 82, 0), (82, .getfield 53, 85, 0), (85, .getfield 283, 88, 0), (88, .ireturn, 89, 0), (89, .aload_n 0, 90, 0), (90, .getfield 21, 93, 0), (93, .getfield 202, 96, 0), (96, .ireturn, 97, 0), (97, .ldc 79, 99, 0), (99, .ireturn, 100, 0)]
def ct_Oak_isWithin : List (Nat × Instr × Nat × Nat) := [(0, .iload_n 0, 1, 0), (1, .iload_n 1, 2, 0), (2, .if_icmp .lt 12, 5, 14), (5, .iload_n 0, 6, 0), (6, .iload_n 2, 7, 0), (7, .if_icmp .gt 7, 10, 14), (10, .iconst 1, 11, 0), (11, .goto 4, 14, 15), (14, .iconst 0, 15, 0), (15, .ireturn, 16, 0)]
def ct_Oak_isStonePlace : List (Nat × Instr × Nat × Nat) := [(0, .iload_n 0, 1, 0), (1, .bipush (-99), 3, 0), (3, .bipush 99, 5, 0), (5, .invokestatic 93, 8, 0), (8, .ifCond .eq 18, 11, 26), (11, .iload_n 1, 12, 0), (12, .bipush (-99), 14, 0), (14, .bipush 99, 16, 0), (16, .invokestatic 93, 19, 0), (19, .ifCond .eq 7, 22, 26), (22, .iconst 1, 23, 0), (23, .goto 4, 26, 27), (26, .iconst 0, 27, 0), (27, .ireturn, 28, 0)]
def ct_Oak_isCell : List (Nat × Instr × Nat × Nat) := [(0, .iload_n 0, 1, 0), (1, .ifCond .lt 25, 4, 26), (4, .iload_n 0, 5, 0), (5, .bipush 100, 7, 0), (7, .idiv, 8, 0), (8, .bipush 30, 10, 0), (10, .if_icmp .ge 16, 13, 26), (13, .iload_n 0, 14, 0), (14, .bipush 100, 16, 0), (16, .irem, 17, 0), (17, .bipush 30, 19, 0), (19, .if_icmp .ge 7, 22, 26), (22, .iconst 1, 23, 0), (23, .goto 4, 26, 27), (26, .iconst 0, 27, 0), (27, .ireturn, 28, 0)]
def ct_Oak_isYear : List (Nat × Instr × Nat × Nat) := [(0, .iload_n 0, 1, 0), (1, .iconst 0, 2, 0), (2, .sipush 999, 5, 0), (5, .invokestatic 93, 8, 0), (8, .ireturn, 9, 0)]
def ct_Oak_isSlack : List (Nat × Instr × Nat × Nat) := [(0, .iload_n 0, 1, 0), (1, .bipush (-9), 3, 0), (3, .bipush 9, 5, 0), (5, .invokestatic 93, 8, 0), (8, .ireturn, 9, 0)]
def ct_Oak_isKind : List (Nat × Instr × Nat × Nat) := [(0, .iload_n 0, 1, 0), (1, .iconst 0, 2, 0), (2, .iconst 5, 3, 0), (3, .invokestatic 93, 6, 0), (6, .ireturn, 7, 0)]
def ct_Oak_isRun : List (Nat × Instr × Nat × Nat) := [(0, .iload_n 0, 1, 0), (1, .ifCond .lt 29, 4, 30), (4, .iload_n 0, 5, 0), (5, .bipush 100, 7, 0), (7, .idiv, 8, 0), (8, .bipush 8, 10, 0), (10, .if_icmp .ge 20, 13, 30), (13, .iload_n 0, 14, 0), (14, .bipush 100, 16, 0), (16, .irem, 17, 0), (17, .iconst 1, 18, 0), (18, .bipush 20, 20, 0), (20, .invokestatic 93, 23, 0), (23, .ifCond .eq 7, 26, 30), (26, .iconst 1, 27, 0), (27, .goto 4, 30, 31), (30, .iconst 0, 31, 0), (31, .ireturn, 32, 0)]
def ct_Oak_isSheet : List (Nat × Instr × Nat × Nat) := [(0, .iload_n 0, 1, 0), (1, .iconst 0, 2, 0), (2, .iconst 3, 3, 0), (3, .invokestatic 93, 6, 0), (6, .ireturn, 7, 0)]
def ct_Oak_isSlot : List (Nat × Instr × Nat × Nat) := [(0, .iload_n 0, 1, 0), (1, .iconst 0, 2, 0), (2, .iconst 4, 3, 0), (3, .invokestatic 93, 6, 0), (6, .ireturn, 7, 0)]
def ct_Oak_isOfKind : List (Nat × Instr × Nat × Nat) := [(0, .iload_n 0, 1, 0), (1, .istore_n 2, 2, 0), (2, .iconst 0, 3, 0), (3, .istore_n 3, 4, 0), (4, .iload_n 3, 5, 0), (5, .bipush 6, 7, 0), (7, .if_icmp .ge 29, 10, 36), (10, .iload_n 2, 11, 0), (11, .invokestatic 157, 14, 0), (14, .ifCond .eq 22, 17, 36), (17, .iload_n 2, 18, 0), (18, .iload_n 1, 19, 0), (19, .if_icmp .ne 5, 22, 24), (22, .iconst 1, 23, 0), (23, .ireturn, 24, 0), (24, .getstatic 393, 27, 0), (27, .iload_n 2, 28, 0), (28, .iaload, 29, 0), (29, .istore_n 2, 30, 0), (30, .iinc 3 1, 33, 0), (33, .goto (-29), 36, 4), (36, .iconst 0, 37, 0), (37, .ireturn, 38, 0)]
def ct_Oak_worthOf : List (Nat × Instr × Nat × Nat) := [(0, .iload_n 0, 1, 0), (1, .tableswitch 56 1 5 #[35, 45, 39, 48, 53], 36, 0), (36, .iload_n 2, 37, 0), (37, .iload_n 1, 38, 0), (38, .iadd, 39, 0), (39, .ireturn, 40, 0), (40, .iconst 2, 41, 0), (41, .iload_n 2, 42, 0), (42, .iload_n 1, 43, 0), (43, .iadd, 44, 0), (44, .imul, 45, 0), (45, .ireturn, 46, 0), (46, .bipush 50, 48, 0), (48, .ireturn, 49, 0), (49, .bipush 50, 51, 0), (51, .iload_n 2, 52, 0), (52, .iadd, 53, 0), (53, .ireturn, 54, 0), (54, .iload_n 2, 55, 0), (55, .ineg, 56, 0), (56, .ireturn, 57, 0), (57, .iload_n 2, 58, 0), (58, .ireturn, 59, 0)]
def ct_Oak_trueOf : List (Nat × Instr × Nat × Nat) := [(0, .iload_n 0, 1, 0), (1, .bipush 100, 3, 0), (3, .iload_n 1, 4, 0), (4, .iadd, 5, 0), (5, .imul, 6, 0), (6, .bipush 100, 8, 0), (8, .idiv, 9, 0), (9, .ireturn, 10, 0)]
def ct_Oak_farApart : List (Nat × Instr × Nat × Nat) := [(0, .iload_n 0, 1, 0), (1, .iload_n 2, 2, 0), (2, .isub, 3, 0), (3, .invokestatic 396, 6, 0), (6, .iload_n 1, 7, 0), (7, .iload_n 3, 8, 0), (8, .isub, 9, 0), (9, .invokestatic 396, 12, 0), (12, .iadd, 13, 0), (13, .ireturn, 14, 0)]
def ct_Oak_countBits : List (Nat × Instr × Nat × Nat) := [(0, .iconst 0, 1, 0), (1, .istore_n 1, 2, 0), (2, .iconst 0, 3, 0), (3, .istore_n 2, 4, 0), (4, .iload_n 2, 5, 0), (5, .aload_n 0, 6, 0), (6, .arraylength, 7, 0), (7, .if_icmp .ge 18, 10, 25), (10, .iload_n 1, 11, 0), (11, .aload_n 0, 12, 0), (12, .iload_n 2, 13, 0), (13, .iaload, 14, 0), (14, .invokestatic 239, 17, 0), (17, .iadd, 18, 0), (18, .istore_n 1, 19, 0), (19, .iinc 2 1, 22, 0), (22, .goto (-18), 25, 4), (25, .iload_n 1, 26, 0), (26, .ireturn, 27, 0)]
def ct_Oak_isLetter : List (Nat × Instr × Nat × Nat) := [(0, .iload_n 0, 1, 0), (1, .bipush 97, 3, 0), (3, .if_icmp .lt 13, 6, 16), (6, .iload_n 0, 7, 0), (7, .bipush 122, 9, 0), (9, .if_icmp .gt 7, 12, 16), (12, .iconst 1, 13, 0), (13, .goto 4, 16, 17), (16, .iconst 0, 17, 0), (17, .ireturn, 18, 0)]
set_option maxRecDepth 100000 in
def ct_Mod_init : List (Nat × Instr × Nat × Nat) := [(0, .aload_n 0, 1, 0), (1, .invokespecial 1, 4, 0), (4, .aload_n 0, 5, 0), (5, .sipush 1532, 8, 0), (8, .newarray .int, 10, 0), (10, .putfield 9, 13, 0), (13, .aload_n 0, 14, 0), (14, .sipush 1532, 17, 0), (17, .newarray .int, 19, 0), (19, .putfield 13, 22, 0), (22, .aload_n 0, 23, 0), (23, .sipush 1532, 26, 0), (26, .newarray .int, 28, 0), (28, .putfield 16, 31, 0), (31, .aload_n 0, 32, 0), (32, .bipush 10, 34, 0), (34, .newarray .int, 36, 0), (36, .putfield 19, 39, 0), (39, .aload_n 0, 40, 0), (40, .bipush 10, 42, 0), (42, .newarray .int, 44, 0), (44, .putfield 22, 47, 0), (47, .aload_n 0, 48, 0), (48, .bipush 10, 50, 0), (50, .newarray .int, 52, 0), (52, .putfield 25, 55, 0), (55, .aload_n 0, 56, 0), (56, .bipush 11, 58, 0), (58, .newarray .int, 60, 0), (60, .putfield 28, 63, 0), (63, .aload_n 0, 64, 0), (64, .bipush 11, 66, 0), (66, .newarray .int, 68, 0), (68, .putfield 31, 71, 0), (71, .aload_n 0, 72, 0), (72, .sipush 900, 75, 0), (75, .newarray .int, 77, 0), (77, .putfield 34, 80, 0), (80, .aload_n 0, 81, 0), (81, .iconst 4, 82, 0), (82, .newarray .int, 84, 0), (84, .putfield 37, 87, 0), (87, .aload_n 0, 88, 0), (88, .sipush 900, 91, 0), (91, .newarray .int, 93, 0), (93, .putfield 40, 96, 0), (96, .aload_n 0, 97, 0), (97, .bipush 96, 99, 0), (99, .newarray .int, 101, 0), (101, .putfield 43, 104, 0), (104, .aload_n 0, 105, 0), (105, .bipush 16, 107, 0), (107, .newarray .char, 109, 0), (109, .dup, 110, 0), (110, .iconst 0, 111, 0), (111, .bipush 110, 113, 0), (113, .castore, 114, 0), (114, .dup, 115, 0), (115, .iconst 1, 116, 0), (116, .bipush 101, 118, 0), (118, .castore, 119, 0), (119, .dup, 120, 0), (120, .iconst 2, 121, 0), (121, .bipush 101, 123, 0), (123, .castore, 124, 0), (124, .dup, 125, 0), (125, .iconst 3, 126, 0), (126, .bipush 100, 128, 0), (128, .castore, 129, 0), (129, .dup, 130, 0), (130, .iconst 4, 131, 0), (131, .bipush 108, 133, 0), (133, .castore, 134, 0), (134, .dup, 135, 0), (135, .iconst 5, 136, 0), (136, .bipush 101, 138, 0), (138, .castore, 139, 0), (139, .dup, 140, 0), (140, .bipush 6, 142, 0), (142, .bipush 99, 144, 0), (144, .castore, 145, 0), (145, .dup, 146, 0), (146, .bipush 7, 148, 0), (148, .bipush 104, 150, 0), (150, .castore, 151, 0), (151, .dup, 152, 0), (152, .bipush 8, 154, 0), (154, .bipush 97, 156, 0), (156, .castore, 157, 0), (157, .dup, 158, 0), (158, .bipush 9, 160, 0), (160, .bipush 105, 162, 0), (162, .castore, 163, 0), (163, .dup, 164, 0), (164, .bipush 10, 166, 0), (166, .bipush 110, 168, 0), (168, .castore, 169, 0), (169, .dup, 170, 0), (170, .bipush 11, 172, 0), (172, .bipush 102, 174, 0), (174, .castore, 175, 0), (175, .dup, 176, 0), (176, .bipush 12, 178, 0), (178, .bipush 105, 180, 0), (180, .castore, 181, 0), (181, .dup, 182, 0), (182, .bipush 13, 184, 0), (184, .bipush 114, 186, 0), (186, .castore, 187, 0), (187, .dup, 188, 0), (188, .bipush 14, 190, 0), (190, .bipush 115, 192, 0), (192, .castore, 193, 0), (193, .dup, 194, 0), (194, .bipush 15, 196, 0), (196, .bipush 116, 198, 0), (198, .castore, 199, 0), (199, .putfield 46, 202, 0), (202, .aload_n 0, 203, 0), (203, .iconst 4, 204, 0), (204, .newarray .int, 206, 0), (206, .dup, 207, 0), (207, .iconst 0, 208, 0), (208, .iconst 0, 209, 0), (209, .iastore, 210, 0), (210, .dup, 211, 0), (211, .iconst 1, 212, 0), (212, .bipush 6, 214, 0), (214, .iastore, 215, 0), (215, .dup, 216, 0), (216, .iconst 2, 217, 0), (217, .bipush 11, 219, 0), (219, .iastore, 220, 0), (220, .dup, 221, 0), (221, .iconst 3, 222, 0), (222, .bipush 16, 224, 0), (224, .iastore, 225, 0), (225, .putfield 50, 228, 0), (228, .aload_n 0, 229, 0), (229, .bipush 96, 231, 0), (231, .newarray .int, 233, 0), (233, .putfield 53, 236, 0), (236, .aload_n 0, 237, 0), (237, .bipush 96, 239, 0), (239, .newarray .int, 241, 0), (241, .putfield 56, 244, 0), (244, .aload_n 0, 245, 0), (245, .bipush 10, 247, 0), (247, .newarray .boolean, 249, 0), (249, .putfield 59, 252, 0), (252, .aload_n 0, 253, 0), (253, .bipush 96, 255, 0), (255, .newarray .int, 257, 0), (257, .putfield 63, 260, 0), (260, .aload_n 0, 261, 0), (261, .iconst 4, 262, 0), (262, .newarray .int, 264, 0), (264, .putfield 66, 267, 0), (267, .aload_n 0, 268, 0), (268, .iconst 4, 269, 0), (269, .newarray .int, 271, 0), (271, .dup, 272, 0), (272, .iconst 0, 273, 0), (273, .iconst (-1), 274, 0), (274, .iastore, 275, 0), (275, .dup, 276, 0), (276, .iconst 1, 277, 0), (277, .iconst (-1), 278, 0), (278, .iastore, 279, 0), (279, .dup, 280, 0), (280, .iconst 2, 281, 0), (281, .iconst (-1), 282, 0), (282, .iastore, 283, 0), (283, .dup, 284, 0), (284, .iconst 3, 285, 0), (285, .iconst (-1), 286, 0), (286, .iastore, 287, 0), (287, .putfield 69, 290, 0), (290, .aload_n 0, 291, 0), (291, .iconst 4, 292, 0), (292, .newarray .int, 294, 0), (294, .putfield 72, 297, 0), (297, .aload_n 0, 298, 0), (298, .bipush 96, 300, 0), (300, .newarray .int, 302, 0), (302, .putfield 75, 305, 0), (305, .aload_n 0, 306, 0), (306, .iconst 5, 307, 0), (307, .newarray .int, 309, 0), (309, .putfield 78, 312, 0), (312, .aload_n 0, 313, 0), (313, .iconst 5, 314, 0), (314, .newarray .int, 316, 0), (316, .putfield 81, 319, 0), (319, .aload_n 0, 320, 0), (320, .iconst 5, 321, 0), (321, .newarray .int, 323, 0), (323, .putfield 84, 326, 0), (326, .aload_n 0, 327, 0), (327, .bipush 120, 329, 0), (329, .newarray .int, 331, 0), (331, .putfield 87, 334, 0), (334, .aload_n 0, 335, 0), (335, .bipush 24, 337, 0), (337, .newarray .int, 339, 0), (339, .putfield 90, 342, 0), (342, .aload_n 0, 343, 0), (343, .bipush 60, 345, 0), (345, .newarray .int, 347, 0), (347, .putfield 93, 350, 0), (350, .aload_n 0, 351, 0), (351, .getfield 9, 354, 0), (354, .iconst 0, 355, 0), (355, .iconst 1, 356, 0), (356, .iastore, 357, 0), (357, .return_, 358, 0)]
def ct_Mod_in : List (Nat × Instr × Nat × Nat) := [(0, .iload_n 0, 1, 0), (1, .iload_n 1, 2, 0), (2, .if_icmp .lt 12, 5, 14), (5, .iload_n 0, 6, 0), (6, .iload_n 2, 7, 0), (7, .if_icmp .gt 7, 10, 14), (10, .iconst 1, 11, 0), (11, .goto 4, 14, 15), (14, .iconst 0, 15, 0), (15, .ireturn, 16, 0)]
def ct_Mod_within : List (Nat × Instr × Nat × Nat) := [(0, .iload_n 0, 1, 0), (1, .iload_n 1, 2, 0), (2, .if_icmp .ge 7, 5, 9), (5, .iload_n 1, 6, 0), (6, .goto 13, 9, 19), (9, .iload_n 0, 10, 0), (10, .iload_n 2, 11, 0), (11, .if_icmp .le 7, 14, 18), (14, .iload_n 2, 15, 0), (15, .goto 4, 18, 19), (18, .iload_n 0, 19, 0), (19, .ireturn, 20, 0)]
def ct_Mod_size : List (Nat × Instr × Nat × Nat) := [(0, .iload_n 0, 1, 0), (1, .ifCond .ge 8, 4, 9), (4, .iload_n 0, 5, 0), (5, .ineg, 6, 0), (6, .goto 4, 9, 10), (9, .iload_n 0, 10, 0), (10, .ireturn, 11, 0)]
def ct_Mod_copyAll : List (Nat × Instr × Nat × Nat) := [(0, .iconst 0, 1, 0), (1, .istore_n 2, 2, 0), (2, .iload_n 2, 3, 0), (3, .sipush 1532, 6, 0), (6, .if_icmp .ge 15, 9, 21), (9, .aload_n 1, 10, 0), (10, .iload_n 2, 11, 0), (11, .aload_n 0, 12, 0), (12, .iload_n 2, 13, 0), (13, .iaload, 14, 0), (14, .iastore, 15, 0), (15, .iinc 2 1, 18, 0), (18, .goto (-16), 21, 2), (21, .return_, 22, 0)]
def ct_Mod_isStone : List (Nat × Instr × Nat × Nat) := [(0, .iload_n 1, 1, 0), (1, .iconst 0, 2, 0), (2, .aload_n 0, 3, 0), (3, .getfield 9, 6, 0), (6, .iconst 1, 7, 0), (7, .iaload, 8, 0), (8, .iconst 1, 9, 0), (9, .isub, 10, 0), (10, .invokestatic 96, 13, 0), (13, .ireturn, 14, 0)]
def ct_Mod_isDeed : List (Nat × Instr × Nat × Nat) := [(0, .iload_n 1, 1, 0), (1, .iconst 0, 2, 0), (2, .aload_n 0, 3, 0), (3, .getfield 9, 6, 0), (6, .iconst 2, 7, 0), (7, .iaload, 8, 0), (8, .iconst 1, 9, 0), (9, .isub, 10, 0), (10, .invokestatic 96, 13, 0), (13, .ireturn, 14, 0)]
def ct_Mod_of : List (Nat × Instr × Nat × Nat) := [(0, .aload_n 0, 1, 0), (1, .getfield 9, 4, 0), (4, .bipush 20, 6, 0), (6, .bipush 35, 8, 0), (8, .iload_n 1, 9, 0), (9, .imul, 10, 0), (10, .iadd, 11, 0), (11, .iload_n 2, 12, 0), (12, .iadd, 13, 0), (13, .iaload, 14, 0), (14, .ireturn, 15, 0)]
def ct_Mod_isCall : List (Nat × Instr × Nat × Nat) := [(0, .aload_n 0, 1, 0), (1, .iload_n 1, 2, 0), (2, .invokevirtual 100, 5, 0), (5, .ifCond .eq 23, 8, 28), (8, .iload_n 2, 9, 0), (9, .iconst 0, 10, 0), (10, .aload_n 0, 11, 0), (11, .iload_n 1, 12, 0), (12, .iconst 4, 13, 0), (13, .invokevirtual 104, 16, 0), (16, .iconst 1, 17, 0), (17, .isub, 18, 0), (18, .invokestatic 96, 21, 0), (21, .ifCond .eq 7, 24, 28), (24, .iconst 1, 25, 0), (25, .goto 4, 28, 29), (28, .iconst 0, 29, 0), (29, .ireturn, 30, 0)]
def ct_Mod_callOf : List (Nat × Instr × Nat × Nat) := [(0, .aload_n 0, 1, 0), (1, .getfield 9, 4, 0), (4, .bipush 20, 6, 0), (6, .bipush 35, 8, 0), (8, .iload_n 1, 9, 0), (9, .imul, 10, 0), (10, .iadd, 11, 0), (11, .iconst 5, 12, 0), (12, .iadd, 13, 0), (13, .iconst 3, 14, 0), (14, .iload_n 2, 15, 0), (15, .imul, 16, 0), (16, .iadd, 17, 0), (17, .iload_n 3, 18, 0), (18, .iadd, 19, 0), (19, .iaload, 20, 0), (20, .ireturn, 21, 0)]
def ct_Mod_isSpot : List (Nat × Instr × Nat × Nat) := [(0, .iload_n 0, 1, 0), (1, .bipush (-99), 3, 0), (3, .bipush 99, 5, 0), (5, .invokestatic 96, 8, 0), (8, .ifCond .eq 18, 11, 26), (11, .iload_n 1, 12, 0), (12, .bipush (-99), 14, 0), (14, .bipush 99, 16, 0), (16, .invokestatic 96, 19, 0), (19, .ifCond .eq 7, 22, 26), (22, .iconst 1, 23, 0), (23, .goto 4, 26, 27), (26, .iconst 0, 27, 0), (27, .ireturn, 28, 0)]
def ct_Mod_stone : List (Nat × Instr × Nat × Nat) := [(0, .iload_n 1, 1, 0), (1, .iload_n 2, 2, 0), (2, .invokestatic 108, 5, 0), (5, .ifCond .ne 6, 8, 11), (8, .ldc 112, 10, 0), (10, .ireturn, 11, 0), (11, .aload_n 0, 12, 0), (12, .getfield 9, 15, 0), (15, .iconst 1, 16, 0), (16, .iaload, 17, 0), (17, .bipush 8, 19, 0), (19, .if_icmp .ne 6, 22, 25), (22, .ldc 113, 24, 0), (24, .ireturn, 25, 0), (25, .aload_n 0, 26, 0), (26, .getfield 9, 29, 0), (29, .iconst 4, 30, 0), (30, .iconst 2, 31, 0), (31, .aload_n 0, 32, 0), (32, .getfield 9, 35, 0), (35, .iconst 1, 36, 0), (36, .iaload, 37, 0), (37, .imul, 38, 0), (38, .iadd, 39, 0), (39, .iload_n 1, 40, 0), (40, .iastore, 41, 0), (41, .aload_n 0, 42, 0), (42, .getfield 9, 45, 0), (45, .iconst 4, 46, 0), (46, .iconst 2, 47, 0), (47, .aload_n 0, 48, 0), (48, .getfield 9, 51, 0), (51, .iconst 1, 52, 0), (52, .iaload, 53, 0), (53, .imul, 54, 0), (54, .iadd, 55, 0), (55, .iconst 1, 56, 0), (56, .iadd, 57, 0), (57, .iload_n 2, 58, 0), (58, .iastore, 59, 0), (59, .aload_n 0, 60, 0), (60, .getfield 9, 63, 0), (63, .iconst 1, 64, 0), (64, .dup2, 65, 0), (65, .iaload, 66, 0), (66, .iconst 1, 67, 0), (67, .iadd, 68, 0), (68, .iastore, 69, 0), (69, .aload_n 0, 70, 0), (70, .getfield 9, 73, 0), (73, .iconst 1, 74, 0), (74, .iaload, 75, 0), (75, .iconst 1, 76, 0), (76, .isub, 77, 0), (77, .ireturn, 78, 0)]
def ct_Mod_stoneTold : List (Nat × Instr × Nat × Nat) := [(0, .aload_n 0, 1, 0), (1, .iload_n 1, 2, 0), (2, .invokevirtual 114, 5, 0), (5, .ifCond .eq 27, 8, 32), (8, .iload_n 2, 9, 0), (9, .iconst 0, 10, 0), (10, .iconst 1, 11, 0), (11, .invokestatic 96, 14, 0), (14, .ifCond .eq 18, 17, 32), (17, .aload_n 0, 18, 0), (18, .getfield 9, 21, 0), (21, .iconst 4, 22, 0), (22, .iconst 2, 23, 0), (23, .iload_n 1, 24, 0), (24, .imul, 25, 0), (25, .iadd, 26, 0), (26, .iload_n 2, 27, 0), (27, .iadd, 28, 0), (28, .iaload, 29, 0), (29, .goto 5, 32, 34), (32, .ldc 112, 34, 0), (34, .ireturn, 35, 0)]
def ct_Mod_move : List (Nat × Instr × Nat × Nat) := [(0, .aload_n 0, 1, 0), (1, .iload_n 1, 2, 0), (2, .invokevirtual 114, 5, 0), (5, .ifCond .eq 11, 8, 16), (8, .iload_n 2, 9, 0), (9, .iload_n 3, 10, 0), (10, .invokestatic 108, 13, 0), (13, .ifCond .ne 6, 16, 19), (16, .ldc 112, 18, 0), (18, .ireturn, 19, 0), (19, .iload_n 2, 20, 0), (20, .aload_n 0, 21, 0), (21, .getfield 9, 24, 0), (24, .iconst 4, 25, 0), (25, .iconst 2, 26, 0), (26, .iload_n 1, 27, 0), (27, .imul, 28, 0), (28, .iadd, 29, 0), (29, .iaload, 30, 0), (30, .isub, 31, 0), (31, .invokestatic 117, 34, 0), (34, .iload_n 3, 35, 0), (35, .aload_n 0, 36, 0), (36, .getfield 9, 39, 0), (39, .iconst 4, 40, 0), (40, .iconst 2, 41, 0), (41, .iload_n 1, 42, 0), (42, .imul, 43, 0), (43, .iadd, 44, 0), (44, .iconst 1, 45, 0), (45, .iadd, 46, 0), (46, .iaload, 47, 0), (47, .isub, 48, 0), (48, .invokestatic 117, 51, 0), (51, .iadd, 52, 0), (52, .istore 4, 54, 0), (54, .aload_n 0, 55, 0), (55, .getfield 9, 58, 0), (58, .iconst 4, 59, 0), (59, .iconst 2, 60, 0), (60, .iload_n 1, 61, 0), (61, .imul, 62, 0), (62, .iadd, 63, 0), (63, .iload_n 2, 64, 0), (64, .iastore, 65, 0), (65, .aload_n 0, 66, 0), (66, .getfield 9, 69, 0), (69, .iconst 4, 70, 0), (70, .iconst 2, 71, 0), (71, .iload_n 1, 72, 0), (72, .imul, 73, 0), (73, .iadd, 74, 0), (74, .iconst 1, 75, 0), (75, .iadd, 76, 0), (76, .iload_n 3, 77, 0), (77, .iastore, 78, 0), (78, .iload 4, 80, 0), (80, .ireturn, 81, 0)]
def ct_Mod_isCell : List (Nat × Instr × Nat × Nat) := [(0, .iload_n 0, 1, 0), (1, .ifCond .lt 25, 4, 26), (4, .iload_n 0, 5, 0), (5, .bipush 100, 7, 0), (7, .idiv, 8, 0), (8, .bipush 30, 10, 0), (10, .if_icmp .ge 16, 13, 26), (13, .iload_n 0, 14, 0), (14, .bipush 100, 16, 0), (16, .irem, 17, 0), (17, .bipush 30, 19, 0), (19, .if_icmp .ge 7, 22, 26), (22, .iconst 1, 23, 0), (23, .goto 4, 26, 27), (26, .iconst 0, 27, 0), (27, .ireturn, 28, 0)]
def ct_Mod_deed : List (Nat × Instr × Nat × Nat) := [(0, .iload_n 1, 1, 0), (1, .invokestatic 121, 4, 0), (4, .ifCond .eq 25, 7, 29), (7, .iload_n 2, 8, 0), (8, .iconst 0, 9, 0), (9, .sipush 999, 12, 0), (12, .invokestatic 96, 15, 0), (15, .ifCond .eq 14, 18, 29), (18, .iload_n 3, 19, 0), (19, .bipush (-9), 21, 0), (21, .bipush 9, 23, 0), (23, .invokestatic 96, 26, 0), (26, .ifCond .ne 6, 29, 32), (29, .ldc 112, 31, 0), (31, .ireturn, 32, 0), (32, .aload_n 0, 33, 0), (33, .getfield 9, 36, 0), (36, .iconst 2, 37, 0), (37, .iaload, 38, 0), (38, .iconst 4, 39, 0), (39, .if_icmp .ne 6, 42, 45), (42, .ldc 113, 44, 0), (44, .ireturn, 45, 0), (45, .bipush 20, 47, 0), (47, .bipush 35, 49, 0), (49, .aload_n 0, 50, 0), (50, .getfield 9, 53, 0), (53, .iconst 2, 54, 0), (54, .iaload, 55, 0), (55, .imul, 56, 0), (56, .iadd, 57, 0), (57, .istore 4, 59, 0), (59, .aload_n 0, 60, 0), (60, .getfield 9, 63, 0), (63, .iload 4, 65, 0), (65, .iload_n 1, 66, 0), (66, .bipush 100, 68, 0), (68, .idiv, 69, 0), (69, .iastore, 70, 0), (70, .aload_n 0, 71, 0), (71, .getfield 9, 74, 0), (74, .iload 4, 76, 0), (76, .iconst 1, 77, 0), (77, .iadd, 78, 0), (78, .iload_n 1, 79, 0), (79, .bipush 100, 81, 0), (81, .irem, 82, 0), (82, .iastore, 83, 0), (83, .aload_n 0, 84, 0), (84, .getfield 9, 87, 0), (87, .iload 4, 89, 0), (89, .iconst 2, 90, 0), (90, .iadd, 91, 0), (91, .iload_n 2, 92, 0), (92, .iastore, 93, 0), (93, .aload_n 0, 94, 0), (94, .getfield 9, 97, 0), (97, .iload 4, 99, 0), (99, .iconst 3, 100, 0), (100, .iadd, 101, 0), (101, .iload_n 3, 102, 0), (102, .iastore, 103, 0), (103, .aload_n 0, 104, 0), (104, .getfield 9, 107, 0), (107, .iload 4, 109, 0), (109, .iconst 4, 110, 0), (110, .iadd, 111, 0), (111, .iconst 0, 112, 0), (112, .iastore, 113, 0), (113, .aload_n 0, 114, 0), (114, .getfield 9, 117, 0), (117, .iconst 2, 118, 0), (118, .dup2, 119, 0), (119, .iaload, 120, 0), (120, .iconst 1, 121, 0), (121, .iadd, 122, 0), (122, .iastore, 123, 0), (123, .aload_n 0, 124, 0), (124, .getfield 9, 127, 0), (127, .iconst 2, 128, 0), (128, .iaload, 129, 0), (129, .iconst 1, 130, 0), (130, .isub, 131, 0), (131, .ireturn, 132, 0)]
def ct_Mod_needleOf : List (Nat × Instr × Nat × Nat) := [(0, .aload_n 0, 1, 0), (1, .iconst 0, 2, 0), (2, .invokevirtual 124, 5, 0), (5, .istore_n 2, 6, 0), (6, .aload_n 0, 7, 0), (7, .getfield 66, 10, 0), (10, .iconst 0, 11, 0), (11, .aload_n 0, 12, 0), (12, .iload_n 1, 13, 0), (13, .iconst 2, 14, 0), (14, .invokevirtual 104, 17, 0), (17, .iastore, 18, 0), (18, .iload_n 2, 19, 0), (19, .ifCond .ge 7, 22, 26), (22, .iconst 0, 23, 0), (23, .goto 17, 26, 40), (26, .aload_n 0, 27, 0), (27, .iload_n 2, 28, 0), (28, .invokevirtual 127, 31, 0), (31, .bipush 8, 33, 0), (33, .irem, 34, 0), (34, .bipush 8, 36, 0), (36, .iadd, 37, 0), (37, .bipush 8, 39, 0), (39, .irem, 40, 0), (40, .ireturn, 41, 0)]
def ct_Mod_chainOf : List (Nat × Instr × Nat × Nat) := [(0, .aload_n 0, 1, 0), (1, .iconst 1, 2, 0), (2, .invokevirtual 124, 5, 0), (5, .istore_n 2, 6, 0), (6, .aload_n 0, 7, 0), (7, .getfield 66, 10, 0), (10, .iconst 0, 11, 0), (11, .aload_n 0, 12, 0), (12, .iload_n 1, 13, 0), (13, .iconst 2, 14, 0), (14, .invokevirtual 104, 17, 0), (17, .iastore, 18, 0), (18, .aload_n 0, 19, 0), (19, .getfield 66, 22, 0), (22, .iconst 1, 23, 0), (23, .aload_n 0, 24, 0), (24, .iload_n 1, 25, 0), (25, .iconst 3, 26, 0), (26, .invokevirtual 104, 29, 0), (29, .iastore, 30, 0), (30, .iload_n 2, 31, 0), (31, .ifCond .ge 12, 34, 43), (34, .aload_n 0, 35, 0), (35, .iload_n 1, 36, 0), (36, .iconst 3, 37, 0), (37, .invokevirtual 104, 40, 0), (40, .goto 15, 43, 55), (43, .aload_n 0, 44, 0), (44, .iload_n 2, 45, 0), (45, .invokevirtual 127, 48, 0), (48, .bipush (-9), 50, 0), (50, .bipush 9, 52, 0), (52, .invokestatic 130, 55, 0), (55, .ireturn, 56, 0)]
def ct_Mod_rankOf : List (Nat × Instr × Nat × Nat) := [(0, .aload_n 0, 1, 0), (1, .iconst 2, 2, 0), (2, .invokevirtual 124, 5, 0), (5, .istore_n 2, 6, 0), (6, .aload_n 0, 7, 0), (7, .getfield 66, 10, 0), (10, .iconst 0, 11, 0), (11, .aload_n 0, 12, 0), (12, .iload_n 1, 13, 0), (13, .iconst 2, 14, 0), (14, .invokevirtual 104, 17, 0), (17, .iastore, 18, 0), (18, .aload_n 0, 19, 0), (19, .getfield 66, 22, 0), (22, .iconst 1, 23, 0), (23, .iload_n 1, 24, 0), (24, .iastore, 25, 0), (25, .aload_n 0, 26, 0), (26, .getfield 66, 29, 0), (29, .iconst 2, 30, 0), (30, .aload_n 0, 31, 0), (31, .iload_n 1, 32, 0), (32, .iconst 4, 33, 0), (33, .invokevirtual 104, 36, 0), (36, .iastore, 37, 0), (37, .iload_n 2, 38, 0), (38, .ifCond .ge 12, 41, 50), (41, .aload_n 0, 42, 0), (42, .iload_n 1, 43, 0), (43, .iconst 2, 44, 0), (44, .invokevirtual 104, 47, 0), (47, .goto 8, 50, 55), (50, .aload_n 0, 51, 0), (51, .iload_n 2, 52, 0), (52, .invokevirtual 127, 55, 0), (55, .ireturn, 56, 0)]
def ct_Mod_deedTold : List (Nat × Instr × Nat × Nat) := [(0, .aload_n 0, 1, 0), (1, .iload_n 1, 2, 0), (2, .invokevirtual 100, 5, 0), (5, .ifCond .eq 13, 8, 18), (8, .iload_n 2, 9, 0), (9, .iconst 0, 10, 0), (10, .bipush 7, 12, 0), (12, .invokestatic 96, 15, 0), (15, .ifCond .ne 6, 18, 21), (18, .ldc 112, 20, 0), (20, .ireturn, 21, 0), (21, .iload_n 2, 22, 0), (22, .iconst 5, 23, 0), (23, .if_icmp .ge 12, 26, 35), (26, .aload_n 0, 27, 0), (27, .iload_n 1, 28, 0), (28, .iload_n 2, 29, 0), (29, .invokevirtual 104, 32, 0), (32, .goto 35, 35, 67), (35, .iload_n 2, 36, 0), (36, .iconst 5, 37, 0), (37, .if_icmp .ne 11, 40, 48), (40, .aload_n 0, 41, 0), (41, .iload_n 1, 42, 0), (42, .invokevirtual 134, 45, 0), (45, .goto 22, 48, 67), (48, .iload_n 2, 49, 0), (49, .bipush 6, 51, 0), (51, .if_icmp .ne 11, 54, 62), (54, .aload_n 0, 55, 0), (55, .iload_n 1, 56, 0), (56, .invokevirtual 137, 59, 0), (59, .goto 8, 62, 67), (62, .aload_n 0, 63, 0), (63, .iload_n 1, 64, 0), (64, .invokevirtual 140, 67, 0), (67, .ireturn, 68, 0)]
def ct_Mod_set : List (Nat × Instr × Nat × Nat) := [(0, .aload_n 0, 1, 0), (1, .iload_n 1, 2, 0), (2, .invokevirtual 100, 5, 0), (5, .ifCond .eq 12, 8, 17), (8, .iload_n 2, 9, 0), (9, .iconst 0, 10, 0), (10, .iconst 2, 11, 0), (11, .invokestatic 96, 14, 0), (14, .ifCond .ne 6, 17, 20), (17, .ldc 112, 19, 0), (19, .ireturn, 20, 0), (20, .iload_n 2, 21, 0), (21, .ifCond .ne 14, 24, 35), (24, .iload_n 3, 25, 0), (25, .iconst 0, 26, 0), (26, .sipush 999, 29, 0), (29, .invokestatic 96, 32, 0), (32, .goto 23, 35, 55), (35, .iload_n 2, 36, 0), (36, .iconst 1, 37, 0), (37, .if_icmp .ne 14, 40, 51), (40, .iload_n 3, 41, 0), (41, .bipush (-9), 43, 0), (43, .bipush 9, 45, 0), (45, .invokestatic 96, 48, 0), (48, .goto 7, 51, 55), (51, .iload_n 3, 52, 0), (52, .invokestatic 121, 55, 0), (55, .istore 4, 57, 0), (57, .iload 4, 59, 0), (59, .ifCond .ne 6, 62, 65), (62, .ldc 112, 64, 0), (64, .ireturn, 65, 0), (65, .bipush 20, 67, 0), (67, .bipush 35, 69, 0), (69, .iload_n 1, 70, 0), (70, .imul, 71, 0), (71, .iadd, 72, 0), (72, .istore 5, 74, 0), (74, .iload_n 2, 75, 0), (75, .iconst 2, 76, 0), (76, .if_icmp .ne 52, 79, 128), (79, .bipush 100, 81, 0), (81, .aload_n 0, 82, 0), (82, .getfield 9, 85, 0), (85, .iload 5, 87, 0), (87, .iaload, 88, 0), (88, .imul, 89, 0), (89, .aload_n 0, 90, 0), (90, .getfield 9, 93, 0), (93, .iload 5, 95, 0), (95, .iconst 1, 96, 0), (96, .iadd, 97, 0), (97, .iaload, 98, 0), (98, .iadd, 99, 0), (99, .istore 6, 101, 0), (101, .aload_n 0, 102, 0), (102, .getfield 9, 105, 0), (105, .iload 5, 107, 0), (107, .iload_n 3, 108, 0), (108, .bipush 100, 110, 0), (110, .idiv, 111, 0), (111, .iastore, 112, 0), (112, .aload_n 0, 113, 0), (113, .getfield 9, 116, 0), (116, .iload 5, 118, 0), (118, .iconst 1, 119, 0), (119, .iadd, 120, 0), (120, .iload_n 3, 121, 0), (121, .bipush 100, 123, 0), (123, .irem, 124, 0), (124, .iastore, 125, 0), (125, .iload 6, 127, 0), (127, .ireturn, 128, 0), (128, .aload_n 0, 129, 0), (129, .getfield 9, 132, 0), (132, .iload 5, 134, 0), (134, .iconst 2, 135, 0), (135, .iadd, 136, 0), (136, .iload_n 2, 137, 0), (137, .iadd, 138, 0), (138, .iaload, 139, 0), (139, .istore 6, 141, 0), (141, .aload_n 0, 142, 0), (142, .getfield 9, 145, 0), (145, .iload 5, 147, 0), (147, .iconst 2, 148, 0), (148, .iadd, 149, 0), (149, .iload_n 2, 150, 0), (150, .iadd, 151, 0), (151, .iload_n 3, 152, 0), (152, .iastore, 153, 0), (153, .iload 6, 155, 0), (155, .ireturn, 156, 0)]
def ct_Mod_isRun : List (Nat × Instr × Nat × Nat) := [(0, .iload_n 0, 1, 0), (1, .ifCond .lt 29, 4, 30), (4, .iload_n 0, 5, 0), (5, .bipush 100, 7, 0), (7, .idiv, 8, 0), (8, .bipush 8, 10, 0), (10, .if_icmp .ge 20, 13, 30), (13, .iload_n 0, 14, 0), (14, .bipush 100, 16, 0), (16, .irem, 17, 0), (17, .iconst 1, 18, 0), (18, .bipush 20, 20, 0), (20, .invokestatic 96, 23, 0), (23, .ifCond .eq 7, 26, 30), (26, .iconst 1, 27, 0), (27, .goto 4, 30, 31), (30, .iconst 0, 31, 0), (31, .ireturn, 32, 0)]
def ct_Mod_comes : List (Nat × Instr × Nat × Nat) := [(0, .aload_n 0, 1, 0), (1, .iload_n 1, 2, 0), (2, .iconst 4, 3, 0), (3, .invokevirtual 104, 6, 0), (6, .istore 5, 8, 0), (8, .bipush 20, 10, 0), (10, .bipush 35, 12, 0), (12, .iload_n 1, 13, 0), (13, .imul, 14, 0), (14, .iadd, 15, 0), (15, .iconst 5, 16, 0), (16, .iadd, 17, 0), (17, .iconst 3, 18, 0), (18, .iload 5, 20, 0), (20, .imul, 21, 0), (21, .iadd, 22, 0), (22, .istore 6, 24, 0), (24, .aload_n 0, 25, 0), (25, .getfield 9, 28, 0), (28, .iload 6, 30, 0), (30, .iload_n 2, 31, 0), (31, .iastore, 32, 0), (32, .aload_n 0, 33, 0), (33, .getfield 9, 36, 0), (36, .iload 6, 38, 0), (38, .iconst 1, 39, 0), (39, .iadd, 40, 0), (40, .iload_n 3, 41, 0), (41, .iastore, 42, 0), (42, .aload_n 0, 43, 0), (43, .getfield 9, 46, 0), (46, .iload 6, 48, 0), (48, .iconst 2, 49, 0), (49, .iadd, 50, 0), (50, .iload 4, 52, 0), (52, .iastore, 53, 0), (53, .aload_n 0, 54, 0), (54, .getfield 9, 57, 0), (57, .bipush 20, 59, 0), (59, .bipush 35, 61, 0), (61, .iload_n 1, 62, 0), (62, .imul, 63, 0), (63, .iadd, 64, 0), (64, .iconst 4, 65, 0), (65, .iadd, 66, 0), (66, .iload 5, 68, 0), (68, .iconst 1, 69, 0), (69, .iadd, 70, 0), (70, .iastore, 71, 0), (71, .iload 5, 73, 0), (73, .ireturn, 74, 0)]
def ct_Mod_call : List (Nat × Instr × Nat × Nat) := [(0, .aload_n 0, 1, 0), (1, .iload_n 1, 2, 0), (2, .invokevirtual 100, 5, 0), (5, .ifCond .eq 19, 8, 24), (8, .iload_n 2, 9, 0), (9, .iconst 0, 10, 0), (10, .iconst 5, 11, 0), (11, .invokestatic 96, 14, 0), (14, .ifCond .eq 10, 17, 24), (17, .iload_n 3, 18, 0), (18, .invokestatic 143, 21, 0), (21, .ifCond .ne 6, 24, 27), (24, .ldc 112, 26, 0), (26, .ireturn, 27, 0), (27, .aload_n 0, 28, 0), (28, .iload_n 1, 29, 0), (29, .iconst 4, 30, 0), (30, .invokevirtual 104, 33, 0), (33, .bipush 10, 35, 0), (35, .if_icmp .ne 8, 38, 43), (38, .ldc 113, 40, 0), (40, .goto 17, 43, 57), (43, .aload_n 0, 44, 0), (44, .iload_n 1, 45, 0), (45, .iload_n 2, 46, 0), (46, .iload_n 3, 47, 0), (47, .bipush 100, 49, 0), (49, .idiv, 50, 0), (50, .iload_n 3, 51, 0), (51, .bipush 100, 53, 0), (53, .irem, 54, 0), (54, .invokevirtual 146, 57, 0), (57, .ireturn, 58, 0)]
def ct_Mod_trueBy : List (Nat × Instr × Nat × Nat) := [(0, .iload_n 0, 1, 0), (1, .bipush 100, 3, 0), (3, .iload_n 1, 4, 0), (4, .iadd, 5, 0), (5, .imul, 6, 0), (6, .bipush 100, 8, 0), (8, .idiv, 9, 0), (9, .ireturn, 10, 0)]
def ct_Mod_worthOf : List (Nat × Instr × Nat × Nat) := [(0, .aload_n 0, 1, 0), (1, .iload_n 1, 2, 0), (2, .iload_n 2, 3, 0), (3, .iconst 1, 4, 0), (4, .invokevirtual 150, 7, 0), (7, .istore_n 3, 8, 0), (8, .aload_n 0, 9, 0), (9, .iload_n 1, 10, 0), (10, .iload_n 2, 11, 0), (11, .iconst 2, 12, 0), (12, .invokevirtual 150, 15, 0), (15, .istore 4, 17, 0), (17, .aload_n 0, 18, 0), (18, .iload_n 1, 19, 0), (19, .iload_n 2, 20, 0), (20, .iconst 0, 21, 0), (21, .invokevirtual 150, 24, 0), (24, .tableswitch 61 1 5 #[36, 41, 44, 51, 57], 60, 0), (60, .iload 4, 62, 0), (62, .iload_n 3, 63, 0), (63, .iadd, 64, 0), (64, .ireturn, 65, 0), (65, .bipush 50, 67, 0), (67, .ireturn, 68, 0), (68, .iconst 2, 69, 0), (69, .iload 4, 71, 0), (71, .iload_n 3, 72, 0), (72, .iadd, 73, 0), (73, .imul, 74, 0), (74, .ireturn, 75, 0), (75, .bipush 50, 77, 0), (77, .iload 4, 79, 0), (79, .iadd, 80, 0), (80, .ireturn, 81, 0), (81, .iload 4, 83, 0), (83, .ineg, 84, 0), (84, .ireturn, 85, 0), (85, .iload 4, 87, 0), (87, .ireturn, 88, 0)]
def ct_Mod_told : List (Nat × Instr × Nat × Nat) := [(0, .aload_n 0, 1, 0), (1, .iload_n 1, 2, 0), (2, .iload_n 2, 3, 0), (3, .invokevirtual 153, 6, 0), (6, .ifCond .eq 12, 9, 18), (9, .iload_n 3, 10, 0), (10, .iconst 0, 11, 0), (11, .iconst 4, 12, 0), (12, .invokestatic 96, 15, 0), (15, .ifCond .ne 6, 18, 21), (18, .ldc 112, 20, 0), (20, .ireturn, 21, 0), (21, .iload_n 3, 22, 0), (22, .iconst 3, 23, 0), (23, .if_icmp .ge 13, 26, 36), (26, .aload_n 0, 27, 0), (27, .iload_n 1, 28, 0), (28, .iload_n 2, 29, 0), (29, .iload_n 3, 30, 0), (30, .invokevirtual 150, 33, 0), (33, .goto 32, 36, 65), (36, .iload_n 3, 37, 0), (37, .iconst 3, 38, 0), (38, .if_icmp .ne 21, 41, 59), (41, .aload_n 0, 42, 0), (42, .iload_n 1, 43, 0), (43, .iload_n 2, 44, 0), (44, .iconst 2, 45, 0), (45, .invokevirtual 150, 48, 0), (48, .aload_n 0, 49, 0), (49, .iload_n 1, 50, 0), (50, .invokevirtual 137, 53, 0), (53, .invokestatic 156, 56, 0), (56, .goto 9, 59, 65), (59, .aload_n 0, 60, 0), (60, .iload_n 1, 61, 0), (61, .iload_n 2, 62, 0), (62, .invokevirtual 159, 65, 0), (65, .ireturn, 66, 0)]
def ct_Mod_isUnder : List (Nat × Instr × Nat × Nat) := [(0, .iload_n 1, 1, 0), (1, .ifCond .eq 28, 4, 29), (4, .iload_n 0, 5, 0), (5, .iload_n 1, 6, 0), (6, .if_icmp .eq 23, 9, 29), (9, .iload_n 1, 10, 0), (10, .iconst 1, 11, 0), (11, .if_icmp .ne 8, 14, 19), (14, .iload_n 0, 15, 0), (15, .iconst 3, 16, 0), (16, .if_icmp .eq 13, 19, 29), (19, .iload_n 1, 20, 0), (20, .iconst 2, 21, 0), (21, .if_icmp .ne 12, 24, 33), (24, .iload_n 0, 25, 0), (25, .iconst 4, 26, 0), (26, .if_icmp .ne 7, 29, 33), (29, .iconst 1, 30, 0), (30, .goto 4, 33, 34), (33, .iconst 0, 34, 0), (34, .ireturn, 35, 0)]
def ct_Mod_as : List (Nat × Instr × Nat × Nat) := [(0, .aload_n 0, 1, 0), (1, .iload_n 1, 2, 0), (2, .iload_n 2, 3, 0), (3, .invokevirtual 153, 6, 0), (6, .ifCond .eq 12, 9, 18), (9, .iload_n 3, 10, 0), (10, .iconst 0, 11, 0), (11, .iconst 5, 12, 0), (12, .invokestatic 96, 15, 0), (15, .ifCond .ne 6, 18, 21), (18, .ldc 112, 20, 0), (20, .ireturn, 21, 0), (21, .aload_n 0, 22, 0), (22, .iload_n 1, 23, 0), (23, .iload_n 2, 24, 0), (24, .iconst 0, 25, 0), (25, .invokevirtual 150, 28, 0), (28, .iload_n 3, 29, 0), (29, .invokestatic 162, 32, 0), (32, .ifCond .eq 13, 35, 45), (35, .aload_n 0, 36, 0), (36, .iload_n 1, 37, 0), (37, .iload_n 2, 38, 0), (38, .iconst 2, 39, 0), (39, .invokevirtual 150, 42, 0), (42, .goto 5, 45, 47), (45, .ldc 165, 47, 0), (47, .ireturn, 48, 0)]
def ct_Mod_turns : List (Nat × Instr × Nat × Nat) := [(0, .aload_n 0, 1, 0), (1, .iload_n 1, 2, 0), (2, .iload_n 2, 3, 0), (3, .invokevirtual 153, 6, 0), (6, .ifCond .eq 12, 9, 18), (9, .iload_n 3, 10, 0), (10, .iconst 0, 11, 0), (11, .iconst 5, 12, 0), (12, .invokestatic 96, 15, 0), (15, .ifCond .ne 6, 18, 21), (18, .ldc 112, 20, 0), (20, .ireturn, 21, 0), (21, .aload_n 0, 22, 0), (22, .iload_n 1, 23, 0), (23, .iload_n 2, 24, 0), (24, .iconst 0, 25, 0), (25, .invokevirtual 150, 28, 0), (28, .istore 4, 30, 0), (30, .aload_n 0, 31, 0), (31, .getfield 9, 34, 0), (34, .bipush 20, 36, 0), (36, .bipush 35, 38, 0), (38, .iload_n 1, 39, 0), (39, .imul, 40, 0), (40, .iadd, 41, 0), (41, .iconst 5, 42, 0), (42, .iadd, 43, 0), (43, .iconst 3, 44, 0), (44, .iload_n 2, 45, 0), (45, .imul, 46, 0), (46, .iadd, 47, 0), (47, .iload_n 3, 48, 0), (48, .iastore, 49, 0), (49, .iload 4, 51, 0), (51, .ireturn, 52, 0)]
def ct_Mod_drop : List (Nat × Instr × Nat × Nat) := [(0, .aload_n 0, 1, 0), (1, .iload_n 1, 2, 0), (2, .iload_n 2, 3, 0), (3, .invokevirtual 153, 6, 0), (6, .ifCond .ne 6, 9, 12), (9, .ldc 112, 11, 0), (11, .ireturn, 12, 0), (12, .aload_n 0, 13, 0), (13, .iload_n 1, 14, 0), (14, .iconst 4, 15, 0), (15, .invokevirtual 104, 18, 0), (18, .iconst 1, 19, 0), (19, .isub, 20, 0), (20, .istore_n 3, 21, 0), (21, .bipush 20, 23, 0), (23, .bipush 35, 25, 0), (25, .iload_n 1, 26, 0), (26, .imul, 27, 0), (27, .iadd, 28, 0), (28, .iconst 5, 29, 0), (29, .iadd, 30, 0), (30, .istore 4, 32, 0), (32, .aload_n 0, 33, 0), (33, .getfield 9, 36, 0), (36, .bipush 20, 38, 0), (38, .bipush 35, 40, 0), (40, .iload_n 1, 41, 0), (41, .imul, 42, 0), (42, .iadd, 43, 0), (43, .iconst 4, 44, 0), (44, .iadd, 45, 0), (45, .iload_n 3, 46, 0), (46, .iastore, 47, 0), (47, .iconst 3, 48, 0), (48, .iload_n 2, 49, 0), (49, .imul, 50, 0), (50, .istore 5, 52, 0), (52, .iload 5, 54, 0), (54, .iconst 3, 55, 0), (55, .iload_n 3, 56, 0), (56, .imul, 57, 0), (57, .if_icmp .ge 31, 60, 88), (60, .aload_n 0, 61, 0), (61, .getfield 9, 64, 0), (64, .iload 4, 66, 0), (66, .iload 5, 68, 0), (68, .iadd, 69, 0), (69, .aload_n 0, 70, 0), (70, .getfield 9, 73, 0), (73, .iload 4, 75, 0), (75, .iload 5, 77, 0), (77, .iadd, 78, 0), (78, .iconst 3, 79, 0), (79, .iadd, 80, 0), (80, .iaload, 81, 0), (81, .iastore, 82, 0), (82, .iinc 5 1, 85, 0), (85, .goto (-33), 88, 52), (88, .iload_n 3, 89, 0), (89, .ireturn, 90, 0)]
def ct_Mod_draw : List (Nat × Instr × Nat × Nat) := [(0, .aload_n 0, 1, 0), (1, .getfield 9, 4, 0), (4, .iconst 0, 5, 0), (5, .aload_n 0, 6, 0), (6, .getfield 9, 9, 0), (9, .iconst 0, 10, 0), (10, .iaload, 11, 0), (11, .ldc 166, 13, 0), (13, .imul, 14, 0), (14, .sipush 12345, 17, 0), (17, .iadd, 18, 0), (18, .iastore, 19, 0), (19, .aload_n 0, 20, 0), (20, .getfield 9, 23, 0), (23, .iconst 0, 24, 0), (24, .iaload, 25, 0), (25, .bipush 8, 27, 0), (27, .iushr, 28, 0), (28, .ireturn, 29, 0)]
def ct_Mod_deal : List (Nat × Instr × Nat × Nat) := [(0, .aload_n 0, 1, 0), (1, .iload_n 1, 2, 0), (2, .invokevirtual 100, 5, 0), (5, .ifCond .eq 13, 8, 18), (8, .iload_n 2, 9, 0), (9, .iconst 1, 10, 0), (10, .bipush 10, 12, 0), (12, .invokestatic 96, 15, 0), (15, .ifCond .ne 6, 18, 21), (18, .ldc 112, 20, 0), (20, .ireturn, 21, 0), (21, .iconst 0, 22, 0), (22, .istore_n 3, 23, 0), (23, .iload_n 3, 24, 0), (24, .iload_n 2, 25, 0), (25, .if_icmp .ge 63, 28, 88), (28, .aload_n 0, 29, 0), (29, .iload_n 1, 30, 0), (30, .iconst 4, 31, 0), (31, .invokevirtual 104, 34, 0), (34, .bipush 10, 36, 0), (36, .if_icmp .ge 52, 39, 88), (39, .aload_n 0, 40, 0), (40, .invokevirtual 167, 43, 0), (43, .iconst 3, 44, 0), (44, .irem, 45, 0), (45, .istore 4, 47, 0), (47, .aload_n 0, 48, 0), (48, .invokevirtual 167, 51, 0), (51, .bipush 8, 53, 0), (53, .irem, 54, 0), (54, .istore 5, 56, 0), (56, .iload_n 3, 57, 0), (57, .aload_n 0, 58, 0), (58, .iload_n 1, 59, 0), (59, .iload 4, 61, 0), (61, .iload 5, 63, 0), (63, .iconst 1, 64, 0), (64, .aload_n 0, 65, 0), (65, .invokevirtual 167, 68, 0), (68, .bipush 12, 70, 0), (70, .irem, 71, 0), (71, .iadd, 72, 0), (72, .invokevirtual 146, 75, 0), (75, .ifCond .lt 7, 78, 82), (78, .iconst 1, 79, 0), (79, .goto 4, 82, 83), (82, .iconst 0, 83, 0), (83, .iadd, 84, 0), (84, .istore_n 3, 85, 0), (85, .goto (-62), 88, 23), (88, .iload_n 3, 89, 0), (89, .ireturn, 90, 0)]
def ct_Mod_seed : List (Nat × Instr × Nat × Nat) := [(0, .aload_n 0, 1, 0), (1, .getfield 9, 4, 0), (4, .iconst 0, 5, 0), (5, .iaload, 6, 0), (6, .istore_n 2, 7, 0), (7, .aload_n 0, 8, 0), (8, .getfield 9, 11, 0), (11, .iconst 0, 12, 0), (12, .iload_n 1, 13, 0), (13, .iastore, 14, 0), (14, .iload_n 2, 15, 0), (15, .ireturn, 16, 0)]
def ct_Mod_takeCalls : List (Nat × Instr × Nat × Nat) := [(0, .aload_n 0, 1, 0), (1, .aload_n 0, 2, 0), (2, .iload_n 1, 3, 0), (3, .iconst 4, 4, 0), (4, .invokevirtual 104, 7, 0), (7, .putfield 171, 10, 0), (10, .iconst 0, 11, 0), (11, .istore_n 2, 12, 0), (12, .iload_n 2, 13, 0), (13, .aload_n 0, 14, 0), (14, .getfield 171, 17, 0), (17, .if_icmp .ge 48, 20, 65), (20, .aload_n 0, 21, 0), (21, .getfield 19, 24, 0), (24, .iload_n 2, 25, 0), (25, .aload_n 0, 26, 0), (26, .iload_n 1, 27, 0), (27, .iload_n 2, 28, 0), (28, .iconst 0, 29, 0), (29, .invokevirtual 150, 32, 0), (32, .iastore, 33, 0), (33, .aload_n 0, 34, 0), (34, .getfield 22, 37, 0), (37, .iload_n 2, 38, 0), (38, .aload_n 0, 39, 0), (39, .iload_n 1, 40, 0), (40, .iload_n 2, 41, 0), (41, .iconst 1, 42, 0), (42, .invokevirtual 150, 45, 0), (45, .iastore, 46, 0), (46, .aload_n 0, 47, 0), (47, .getfield 25, 50, 0), (50, .iload_n 2, 51, 0), (51, .aload_n 0, 52, 0), (52, .iload_n 1, 53, 0), (53, .iload_n 2, 54, 0), (54, .iconst 2, 55, 0), (55, .invokevirtual 150, 58, 0), (58, .iastore, 59, 0), (59, .iinc 2 1, 62, 0), (62, .goto (-50), 65, 12), (65, .return_, 66, 0)]
def ct_Mod_acrossBy : List (Nat × Instr × Nat × Nat) := [(0, .iload_n 0, 1, 0), (1, .ifCond .eq 14, 4, 15), (4, .iload_n 0, 5, 0), (5, .iconst 1, 6, 0), (6, .if_icmp .eq 9, 9, 15), (9, .iload_n 0, 10, 0), (10, .bipush 7, 12, 0), (12, .if_icmp .ne 7, 15, 19), (15, .iconst 1, 16, 0), (16, .goto 19, 19, 35), (19, .iload_n 0, 20, 0), (20, .iconst 2, 21, 0), (21, .if_icmp .eq 9, 24, 30), (24, .iload_n 0, 25, 0), (25, .bipush 6, 27, 0), (27, .if_icmp .ne 7, 30, 34), (30, .iconst 0, 31, 0), (31, .goto 4, 34, 35), (34, .iconst (-1), 35, 0), (35, .ireturn, 36, 0)]
def ct_Mod_upBy : List (Nat × Instr × Nat × Nat) := [(0, .iload_n 0, 1, 0), (1, .ifCond .le 12, 4, 13), (4, .iload_n 0, 5, 0), (5, .iconst 4, 6, 0), (6, .if_icmp .ge 7, 9, 13), (9, .iconst 1, 10, 0), (10, .goto 17, 13, 27), (13, .iload_n 0, 14, 0), (14, .ifCond .eq 8, 17, 22), (17, .iload_n 0, 18, 0), (18, .iconst 4, 19, 0), (19, .if_icmp .ne 7, 22, 26), (22, .iconst 0, 23, 0), (23, .goto 4, 26, 27), (26, .iconst (-1), 27, 0), (27, .ireturn, 28, 0)]
set_option maxRecDepth 100000 in
def ct_Mod_walk : List (Nat × Instr × Nat × Nat) := [(0, .aload_n 0, 1, 0), (1, .getfield 28, 4, 0), (4, .iload_n 1, 5, 0), (5, .iaload, 6, 0), (6, .istore 4, 8, 0), (8, .aload_n 0, 9, 0), (9, .getfield 31, 12, 0), (12, .iload_n 1, 13, 0), (13, .iaload, 14, 0), (14, .istore 5, 16, 0), (16, .aload_n 0, 17, 0), (17, .getfield 19, 20, 0), (20, .iload_n 1, 21, 0), (21, .iaload, 22, 0), (22, .istore 6, 24, 0), (24, .iload 6, 26, 0), (26, .iconst 1, 27, 0), (27, .if_icmp .eq 9, 30, 36), (30, .iload 6, 32, 0), (32, .iconst 3, 33, 0), (33, .if_icmp .ne 7, 36, 40), (36, .iconst 1, 37, 0), (37, .goto 4, 40, 41), (40, .iconst 0, 41, 0), (41, .istore 7, 43, 0), (43, .iload 7, 45, 0), (45, .ifCond .eq 12, 48, 57), (48, .aload_n 0, 49, 0), (49, .getfield 22, 52, 0), (52, .iload_n 1, 53, 0), (53, .iaload, 54, 0), (54, .goto 26, 57, 80), (57, .aload_n 0, 58, 0), (58, .getfield 22, 61, 0), (61, .iload_n 1, 62, 0), (62, .iaload, 63, 0), (63, .iload_n 2, 64, 0), (64, .iadd, 65, 0), (65, .iload 6, 67, 0), (67, .iconst 5, 68, 0), (68, .if_icmp .ne 7, 71, 75), (71, .iconst 4, 72, 0), (72, .goto 4, 75, 76), (75, .iconst 0, 76, 0), (76, .iadd, 77, 0), (77, .bipush 8, 79, 0), (79, .irem, 80, 0), (80, .istore 8, 82, 0), (82, .aload_n 0, 83, 0), (83, .getfield 25, 86, 0), (86, .iload_n 1, 87, 0), (87, .iaload, 88, 0), (88, .iload_n 3, 89, 0), (89, .invokestatic 156, 92, 0), (92, .istore 9, 94, 0), (94, .aload_n 0, 95, 0), (95, .getfield 28, 98, 0), (98, .iload_n 1, 99, 0), (99, .iconst 1, 100, 0), (100, .iadd, 101, 0), (101, .iload 4, 103, 0), (103, .iload 9, 105, 0), (105, .iload 8, 107, 0), (107, .invokestatic 175, 110, 0), (110, .imul, 111, 0), (111, .iadd, 112, 0), (112, .iastore, 113, 0), (113, .aload_n 0, 114, 0), (114, .getfield 31, 117, 0), (117, .iload_n 1, 118, 0), (118, .iconst 1, 119, 0), (119, .iadd, 120, 0), (120, .iload 5, 122, 0), (122, .iload 9, 124, 0), (124, .iload 8, 126, 0), (126, .invokestatic 178, 129, 0), (129, .imul, 130, 0), (130, .iadd, 131, 0), (131, .iastore, 132, 0), (132, .iload 6, 134, 0), (134, .iconst 3, 135, 0), (135, .if_icmp .ne 68, 138, 203), (138, .aload_n 0, 139, 0), (139, .aload_n 0, 140, 0), (140, .getfield 25, 143, 0), (143, .iload_n 1, 144, 0), (144, .iaload, 145, 0), (145, .iconst 1, 146, 0), (146, .isub, 147, 0), (147, .invokevirtual 114, 150, 0), (150, .ifCond .eq 53, 153, 203), (153, .aload_n 0, 154, 0), (154, .getfield 28, 157, 0), (157, .iload_n 1, 158, 0), (158, .iconst 1, 159, 0), (159, .iadd, 160, 0), (160, .aload_n 0, 161, 0), (161, .getfield 9, 164, 0), (164, .iconst 4, 165, 0), (165, .iconst 2, 166, 0), (166, .aload_n 0, 167, 0), (167, .getfield 25, 170, 0), (170, .iload_n 1, 171, 0), (171, .iaload, 172, 0), (172, .imul, 173, 0), (173, .iadd, 174, 0), (174, .iconst 2, 175, 0), (175, .isub, 176, 0), (176, .iaload, 177, 0), (177, .iastore, 178, 0), (178, .aload_n 0, 179, 0), (179, .getfield 31, 182, 0), (182, .iload_n 1, 183, 0), (183, .iconst 1, 184, 0), (184, .iadd, 185, 0), (185, .aload_n 0, 186, 0), (186, .getfield 9, 189, 0), (189, .iconst 4, 190, 0), (190, .iconst 2, 191, 0), (191, .aload_n 0, 192, 0), (192, .getfield 25, 195, 0), (195, .iload_n 1, 196, 0), (196, .iaload, 197, 0), (197, .imul, 198, 0), (198, .iadd, 199, 0), (199, .iconst 1, 200, 0), (200, .isub, 201, 0), (201, .iaload, 202, 0), (202, .iastore, 203, 0), (203, .iload 6, 205, 0), (205, .iconst 2, 206, 0), (206, .if_icmp .eq 9, 209, 215), (209, .iload 6, 211, 0), (211, .iconst 4, 212, 0), (212, .if_icmp .ne 71, 215, 283), (215, .aload_n 0, 216, 0), (216, .getfield 28, 219, 0), (219, .iload_n 1, 220, 0), (220, .iconst 1, 221, 0), (221, .iadd, 222, 0), (222, .iload 6, 224, 0), (224, .iconst 2, 225, 0), (225, .if_icmp .ne 12, 228, 237), (228, .aload_n 0, 229, 0), (229, .getfield 28, 232, 0), (232, .iconst 0, 233, 0), (233, .iaload, 234, 0), (234, .goto 14, 237, 248), (237, .iload 4, 239, 0), (239, .aload_n 0, 240, 0), (240, .getfield 28, 243, 0), (243, .iconst 0, 244, 0), (244, .iaload, 245, 0), (245, .iadd, 246, 0), (246, .iconst 2, 247, 0), (247, .idiv, 248, 0), (248, .iastore, 249, 0), (249, .aload_n 0, 250, 0), (250, .getfield 31, 253, 0), (253, .iload_n 1, 254, 0), (254, .iconst 1, 255, 0), (255, .iadd, 256, 0), (256, .iload 6, 258, 0), (258, .iconst 2, 259, 0), (259, .if_icmp .ne 12, 262, 271), (262, .aload_n 0, 263, 0), (263, .getfield 31, 266, 0), (266, .iconst 0, 267, 0), (267, .iaload, 268, 0), (268, .goto 14, 271, 282), (271, .iload 5, 273, 0), (273, .aload_n 0, 274, 0), (274, .getfield 31, 277, 0), (277, .iconst 0, 278, 0), (278, .iaload, 279, 0), (279, .iadd, 280, 0), (280, .iconst 2, 281, 0), (281, .idiv, 282, 0), (282, .iastore, 283, 0), (283, .return_, 284, 0)]
def ct_Mod_walks : List (Nat × Instr × Nat × Nat) := [(0, .aload_n 0, 1, 0), (1, .getfield 28, 4, 0), (4, .iconst 0, 5, 0), (5, .aload_n 0, 6, 0), (6, .iload_n 1, 7, 0), (7, .iconst 0, 8, 0), (8, .invokevirtual 104, 11, 0), (11, .iastore, 12, 0), (12, .aload_n 0, 13, 0), (13, .getfield 31, 16, 0), (16, .iconst 0, 17, 0), (17, .aload_n 0, 18, 0), (18, .iload_n 1, 19, 0), (19, .iconst 1, 20, 0), (20, .invokevirtual 104, 23, 0), (23, .iastore, 24, 0), (24, .iconst 0, 25, 0), (25, .istore 4, 27, 0), (27, .iload 4, 29, 0), (29, .aload_n 0, 30, 0), (30, .getfield 171, 33, 0), (33, .if_icmp .ge 17, 36, 50), (36, .aload_n 0, 37, 0), (37, .iload 4, 39, 0), (39, .iload_n 2, 40, 0), (40, .iload_n 3, 41, 0), (41, .invokevirtual 181, 44, 0), (44, .iinc 4 1, 47, 0), (47, .goto (-20), 50, 27), (50, .aload_n 0, 51, 0), (51, .getfield 28, 54, 0), (54, .aload_n 0, 55, 0), (55, .getfield 171, 58, 0), (58, .iaload, 59, 0), (59, .aload_n 0, 60, 0), (60, .getfield 28, 63, 0), (63, .iconst 0, 64, 0), (64, .iaload, 65, 0), (65, .isub, 66, 0), (66, .invokestatic 117, 69, 0), (69, .aload_n 0, 70, 0), (70, .getfield 31, 73, 0), (73, .aload_n 0, 74, 0), (74, .getfield 171, 77, 0), (77, .iaload, 78, 0), (78, .aload_n 0, 79, 0), (79, .getfield 31, 82, 0), (82, .iconst 0, 83, 0), (83, .iaload, 84, 0), (84, .isub, 85, 0), (85, .invokestatic 117, 88, 0), (88, .iadd, 89, 0), (89, .ireturn, 90, 0)]
def ct_Mod_findCorners : List (Nat × Instr × Nat × Nat) := [(0, .aload_n 0, 1, 0), (1, .iload_n 1, 2, 0), (2, .invokevirtual 185, 5, 0), (5, .aload_n 0, 6, 0), (6, .iload_n 1, 7, 0), (7, .aload_n 0, 8, 0), (8, .iload_n 1, 9, 0), (9, .invokevirtual 134, 12, 0), (12, .aload_n 0, 13, 0), (13, .iload_n 1, 14, 0), (14, .invokevirtual 137, 17, 0), (17, .invokevirtual 189, 20, 0), (20, .ireturn, 21, 0)]
def ct_Mod_corner : List (Nat × Instr × Nat × Nat) := [(0, .aload_n 0, 1, 0), (1, .iload_n 1, 2, 0), (2, .invokevirtual 100, 5, 0), (5, .ifCond .eq 16, 8, 21), (8, .iload_n 2, 9, 0), (9, .ifCond .lt 12, 12, 21), (12, .iload_n 3, 13, 0), (13, .iconst 0, 14, 0), (14, .iconst 1, 15, 0), (15, .invokestatic 96, 18, 0), (18, .ifCond .ne 6, 21, 24), (21, .ldc 112, 23, 0), (23, .ireturn, 24, 0), (24, .aload_n 0, 25, 0), (25, .iload_n 1, 26, 0), (26, .invokevirtual 192, 29, 0), (29, .istore 4, 31, 0), (31, .iload_n 2, 32, 0), (32, .aload_n 0, 33, 0), (33, .getfield 171, 36, 0), (36, .if_icmp .le 8, 39, 44), (39, .ldc 195, 41, 0), (41, .goto 22, 44, 63), (44, .iload_n 3, 45, 0), (45, .ifCond .ne 12, 48, 57), (48, .aload_n 0, 49, 0), (49, .getfield 28, 52, 0), (52, .iload_n 2, 53, 0), (53, .iaload, 54, 0), (54, .goto 9, 57, 63), (57, .aload_n 0, 58, 0), (58, .getfield 31, 61, 0), (61, .iload_n 2, 62, 0), (62, .iaload, 63, 0), (63, .ireturn, 64, 0)]
def ct_Mod_gap : List (Nat × Instr × Nat × Nat) := [(0, .aload_n 0, 1, 0), (1, .iload_n 1, 2, 0), (2, .invokevirtual 100, 5, 0), (5, .ifCond .eq 11, 8, 16), (8, .aload_n 0, 9, 0), (9, .iload_n 1, 10, 0), (10, .invokevirtual 192, 13, 0), (13, .goto 5, 16, 18), (16, .ldc 112, 18, 0), (18, .ireturn, 19, 0)]
def ct_Mod_area : List (Nat × Instr × Nat × Nat) := [(0, .aload_n 0, 1, 0), (1, .iload_n 1, 2, 0), (2, .invokevirtual 100, 5, 0), (5, .ifCond .ne 6, 8, 11), (8, .ldc 112, 10, 0), (10, .ireturn, 11, 0), (11, .aload_n 0, 12, 0), (12, .iload_n 1, 13, 0), (13, .invokevirtual 192, 16, 0), (16, .istore_n 2, 17, 0), (17, .iconst 0, 18, 0), (18, .istore_n 3, 19, 0), (19, .iconst 0, 20, 0), (20, .istore 4, 22, 0), (22, .iload 4, 24, 0), (24, .aload_n 0, 25, 0), (25, .getfield 171, 28, 0), (28, .if_icmp .gt 62, 31, 90), (31, .iload 4, 33, 0), (33, .aload_n 0, 34, 0), (34, .getfield 171, 37, 0), (37, .if_icmp .ne 7, 40, 44), (40, .iconst 0, 41, 0), (41, .goto 7, 44, 48), (44, .iload 4, 46, 0), (46, .iconst 1, 47, 0), (47, .iadd, 48, 0), (48, .istore 5, 50, 0), (50, .iload_n 3, 51, 0), (51, .aload_n 0, 52, 0), (52, .getfield 28, 55, 0), (55, .iload 4, 57, 0), (57, .iaload, 58, 0), (58, .aload_n 0, 59, 0), (59, .getfield 31, 62, 0), (62, .iload 5, 64, 0), (64, .iaload, 65, 0), (65, .imul, 66, 0), (66, .aload_n 0, 67, 0), (67, .getfield 31, 70, 0), (70, .iload 4, 72, 0), (72, .iaload, 73, 0), (73, .aload_n 0, 74, 0), (74, .getfield 28, 77, 0), (77, .iload 5, 79, 0), (79, .iaload, 80, 0), (80, .imul, 81, 0), (81, .isub, 82, 0), (82, .iadd, 83, 0), (83, .istore_n 3, 84, 0), (84, .iinc 4 1, 87, 0), (87, .goto (-65), 90, 22), (90, .iload_n 3, 91, 0), (91, .ireturn, 92, 0)]
def ct_Mod_isHeld : List (Nat × Instr × Nat × Nat) := [(0, .iconst 0, 1, 0), (1, .istore_n 3, 2, 0), (2, .iconst 0, 3, 0), (3, .istore 4, 5, 0), (5, .iload 4, 7, 0), (7, .aload_n 0, 8, 0), (8, .getfield 171, 11, 0), (11, .if_icmp .gt 163, 14, 174), (14, .iload 4, 16, 0), (16, .aload_n 0, 17, 0), (17, .getfield 171, 20, 0), (20, .if_icmp .ne 7, 23, 27), (23, .iconst 0, 24, 0), (24, .goto 7, 27, 31), (27, .iload 4, 29, 0), (29, .iconst 1, 30, 0), (30, .iadd, 31, 0), (31, .istore 5, 33, 0), (33, .aload_n 0, 34, 0), (34, .getfield 31, 37, 0), (37, .iload 5, 39, 0), (39, .iaload, 40, 0), (40, .aload_n 0, 41, 0), (41, .getfield 31, 44, 0), (44, .iload 4, 46, 0), (46, .iaload, 47, 0), (47, .isub, 48, 0), (48, .istore 6, 50, 0), (50, .aload_n 0, 51, 0), (51, .getfield 31, 54, 0), (54, .iload 4, 56, 0), (56, .iaload, 57, 0), (57, .iload_n 2, 58, 0), (58, .if_icmp .gt 7, 61, 65), (61, .iconst 1, 62, 0), (62, .goto 4, 65, 66), (65, .iconst 0, 66, 0), (66, .aload_n 0, 67, 0), (67, .getfield 31, 70, 0), (70, .iload 5, 72, 0), (72, .iaload, 73, 0), (73, .iload_n 2, 74, 0), (74, .if_icmp .gt 7, 77, 81), (77, .iconst 1, 78, 0), (78, .goto 4, 81, 82), (81, .iconst 0, 82, 0), (82, .if_icmp .eq 86, 85, 168), (85, .iconst 2, 86, 0), (86, .iload_n 2, 87, 0), (87, .imul, 88, 0), (88, .iconst 1, 89, 0), (89, .iadd, 90, 0), (90, .iconst 2, 91, 0), (91, .aload_n 0, 92, 0), (92, .getfield 31, 95, 0), (95, .iload 4, 97, 0), (97, .iaload, 98, 0), (98, .imul, 99, 0), (99, .isub, 100, 0), (100, .aload_n 0, 101, 0), (101, .getfield 28, 104, 0), (104, .iload 5, 106, 0), (106, .iaload, 107, 0), (107, .aload_n 0, 108, 0), (108, .getfield 28, 111, 0), (111, .iload 4, 113, 0), (113, .iaload, 114, 0), (114, .isub, 115, 0), (115, .imul, 116, 0), (116, .iconst 2, 117, 0), (117, .aload_n 0, 118, 0), (118, .getfield 28, 121, 0), (121, .iload 4, 123, 0), (123, .iaload, 124, 0), (124, .imul, 125, 0), (125, .iconst 2, 126, 0), (126, .iload_n 1, 127, 0), (127, .imul, 128, 0), (128, .isub, 129, 0), (129, .iconst 1, 130, 0), (130, .isub, 131, 0), (131, .iload 6, 133, 0), (133, .imul, 134, 0), (134, .iadd, 135, 0), (135, .istore 7, 137, 0), (137, .iload_n 3, 138, 0), (138, .iload 6, 140, 0), (140, .ifCond .le 16, 143, 156), (143, .iload 7, 145, 0), (145, .ifCond .le 7, 148, 152), (148, .iconst 1, 149, 0), (149, .goto 17, 152, 166), (152, .iconst 0, 153, 0), (153, .goto 13, 156, 166), (156, .iload 7, 158, 0), (158, .ifCond .ge 7, 161, 165), (161, .iconst 1, 162, 0), (162, .goto 4, 165, 166), (165, .iconst 0, 166, 0), (166, .iadd, 167, 0), (167, .istore_n 3, 168, 0), (168, .iinc 4 1, 171, 0), (171, .goto (-166), 174, 5), (174, .iload_n 3, 175, 0), (175, .iconst 2, 176, 0), (176, .irem, 177, 0), (177, .iconst 1, 178, 0), (178, .if_icmp .ne 7, 181, 185), (181, .iconst 1, 182, 0), (182, .goto 4, 185, 186), (185, .iconst 0, 186, 0), (186, .ireturn, 187, 0)]
def ct_Mod_findHeld : List (Nat × Instr × Nat × Nat) := [(0, .iconst 0, 1, 0), (1, .istore_n 1, 2, 0), (2, .iload_n 1, 3, 0), (3, .sipush 900, 6, 0), (6, .if_icmp .ge 16, 9, 22), (9, .aload_n 0, 10, 0), (10, .getfield 34, 13, 0), (13, .iload_n 1, 14, 0), (14, .iconst 0, 15, 0), (15, .iastore, 16, 0), (16, .iinc 1 1, 19, 0), (19, .goto (-17), 22, 2), (22, .iconst 0, 23, 0), (23, .istore_n 1, 24, 0), (24, .iload_n 1, 25, 0), (25, .aload_n 0, 26, 0), (26, .getfield 9, 29, 0), (29, .iconst 2, 30, 0), (30, .iaload, 31, 0), (31, .if_icmp .ge 72, 34, 103), (34, .aload_n 0, 35, 0), (35, .iload_n 1, 36, 0), (36, .invokevirtual 192, 39, 0), (39, .istore_n 2, 40, 0), (40, .aload_n 0, 41, 0), (41, .getfield 37, 44, 0), (44, .iload_n 1, 45, 0), (45, .aload_n 0, 46, 0), (46, .iload_n 1, 47, 0), (47, .invokevirtual 140, 50, 0), (50, .iastore, 51, 0), (51, .iconst 0, 52, 0), (52, .istore_n 3, 53, 0), (53, .iload_n 3, 54, 0), (54, .sipush 900, 57, 0), (57, .if_icmp .ge 40, 60, 97), (60, .aload_n 0, 61, 0), (61, .getfield 34, 64, 0), (64, .iload_n 3, 65, 0), (65, .dup2, 66, 0), (66, .iaload, 67, 0), (67, .aload_n 0, 68, 0), (68, .iload_n 3, 69, 0), (69, .bipush 30, 71, 0), (71, .idiv, 72, 0), (72, .iload_n 3, 73, 0), (73, .bipush 30, 75, 0), (75, .irem, 76, 0), (76, .invokevirtual 196, 79, 0), (79, .ifCond .eq 9, 82, 88), (82, .iconst 1, 83, 0), (83, .iload_n 1, 84, 0), (84, .ishl, 85, 0), (85, .goto 4, 88, 89), (88, .iconst 0, 89, 0), (89, .ior, 90, 0), (90, .iastore, 91, 0), (91, .iinc 3 1, 94, 0), (94, .goto (-41), 97, 53), (97, .iinc 1 1, 100, 0), (100, .goto (-76), 103, 24), (103, .return_, 104, 0)]
def ct_Mod_ownerOf : List (Nat × Instr × Nat × Nat) := [(0, .iconst (-1), 1, 0), (1, .istore_n 2, 2, 0), (2, .iconst 0, 3, 0), (3, .istore_n 3, 4, 0), (4, .iload_n 3, 5, 0), (5, .aload_n 0, 6, 0), (6, .getfield 9, 9, 0), (9, .iconst 2, 10, 0), (10, .iaload, 11, 0), (11, .if_icmp .ge 48, 14, 59), (14, .aload_n 0, 15, 0), (15, .getfield 34, 18, 0), (18, .iload_n 1, 19, 0), (19, .iaload, 20, 0), (20, .iload_n 3, 21, 0), (21, .ishr, 22, 0), (22, .iconst 1, 23, 0), (23, .iand, 24, 0), (24, .iconst 1, 25, 0), (25, .if_icmp .ne 26, 28, 51), (28, .iload_n 2, 29, 0), (29, .ifCond .lt 18, 32, 47), (32, .aload_n 0, 33, 0), (33, .getfield 37, 36, 0), (36, .iload_n 3, 37, 0), (37, .iaload, 38, 0), (38, .aload_n 0, 39, 0), (39, .getfield 37, 42, 0), (42, .iload_n 2, 43, 0), (43, .iaload, 44, 0), (44, .if_icmp .ge 7, 47, 51), (47, .iload_n 3, 48, 0), (48, .goto 4, 51, 52), (51, .iload_n 2, 52, 0), (52, .istore_n 2, 53, 0), (53, .iinc 3 1, 56, 0), (56, .goto (-52), 59, 4), (59, .iload_n 2, 60, 0), (60, .ireturn, 61, 0)]
def ct_Mod_holds : List (Nat × Instr × Nat × Nat) := [(0, .aload_n 0, 1, 0), (1, .iload_n 1, 2, 0), (2, .invokevirtual 100, 5, 0), (5, .ifCond .eq 10, 8, 15), (8, .iload_n 2, 9, 0), (9, .invokestatic 121, 12, 0), (12, .ifCond .ne 6, 15, 18), (15, .ldc 112, 17, 0), (17, .ireturn, 18, 0), (18, .aload_n 0, 19, 0), (19, .iload_n 1, 20, 0), (20, .invokevirtual 192, 23, 0), (23, .istore_n 3, 24, 0), (24, .aload_n 0, 25, 0), (25, .iload_n 2, 26, 0), (26, .bipush 100, 28, 0), (28, .idiv, 29, 0), (29, .iload_n 2, 30, 0), (30, .bipush 100, 32, 0), (32, .irem, 33, 0), (33, .invokevirtual 196, 36, 0), (36, .ifCond .eq 7, 39, 43), (39, .iconst 1, 40, 0), (40, .goto 4, 43, 44), (43, .iconst 0, 44, 0), (44, .ireturn, 45, 0)]
def ct_Mod_field : List (Nat × Instr × Nat × Nat) := [(0, .aload_n 0, 1, 0), (1, .iload_n 1, 2, 0), (2, .invokevirtual 100, 5, 0), (5, .ifCond .ne 6, 8, 11), (8, .ldc 112, 10, 0), (10, .ireturn, 11, 0), (11, .aload_n 0, 12, 0), (12, .iload_n 1, 13, 0), (13, .invokevirtual 192, 16, 0), (16, .istore_n 2, 17, 0), (17, .iconst 0, 18, 0), (18, .istore_n 3, 19, 0), (19, .iconst 0, 20, 0), (20, .istore 4, 22, 0), (22, .iload 4, 24, 0), (24, .sipush 900, 27, 0), (27, .if_icmp .ge 34, 30, 61), (30, .iload_n 3, 31, 0), (31, .aload_n 0, 32, 0), (32, .iload 4, 34, 0), (34, .bipush 30, 36, 0), (36, .idiv, 37, 0), (37, .iload 4, 39, 0), (39, .bipush 30, 41, 0), (41, .irem, 42, 0), (42, .invokevirtual 196, 45, 0), (45, .ifCond .eq 7, 48, 52), (48, .iconst 1, 49, 0), (49, .goto 4, 52, 53), (52, .iconst 0, 53, 0), (53, .iadd, 54, 0), (54, .istore_n 3, 55, 0), (55, .iinc 4 1, 58, 0), (58, .goto (-36), 61, 22), (61, .iload_n 3, 62, 0), (62, .ireturn, 63, 0)]
def ct_Mod_over : List (Nat × Instr × Nat × Nat) := [(0, .aload_n 0, 1, 0), (1, .iload_n 1, 2, 0), (2, .invokevirtual 100, 5, 0), (5, .ifCond .eq 16, 8, 21), (8, .aload_n 0, 9, 0), (9, .iload_n 2, 10, 0), (10, .invokevirtual 100, 13, 0), (13, .ifCond .eq 8, 16, 21), (16, .iload_n 1, 17, 0), (17, .iload_n 2, 18, 0), (18, .if_icmp .ne 6, 21, 24), (21, .ldc 112, 23, 0), (23, .ireturn, 24, 0), (24, .aload_n 0, 25, 0), (25, .invokevirtual 199, 28, 0), (28, .iconst 0, 29, 0), (29, .istore_n 3, 30, 0), (30, .iconst 0, 31, 0), (31, .istore 4, 33, 0), (33, .iload 4, 35, 0), (35, .sipush 900, 38, 0), (38, .if_icmp .ge 33, 41, 71), (41, .iload_n 3, 42, 0), (42, .aload_n 0, 43, 0), (43, .getfield 34, 46, 0), (46, .iload 4, 48, 0), (48, .iaload, 49, 0), (49, .iload_n 1, 50, 0), (50, .ishr, 51, 0), (51, .aload_n 0, 52, 0), (52, .getfield 34, 55, 0), (55, .iload 4, 57, 0), (57, .iaload, 58, 0), (58, .iload_n 2, 59, 0), (59, .ishr, 60, 0), (60, .iand, 61, 0), (61, .iconst 1, 62, 0), (62, .iand, 63, 0), (63, .iadd, 64, 0), (64, .istore_n 3, 65, 0), (65, .iinc 4 1, 68, 0), (68, .goto (-35), 71, 33), (71, .iload_n 3, 72, 0), (72, .ireturn, 73, 0)]
def ct_Mod_whose : List (Nat × Instr × Nat × Nat) := [(0, .iload_n 1, 1, 0), (1, .invokestatic 121, 4, 0), (4, .ifCond .ne 6, 7, 10), (7, .ldc 112, 9, 0), (9, .ireturn, 10, 0), (10, .iconst (-1), 11, 0), (11, .istore_n 2, 12, 0), (12, .iconst 0, 13, 0), (13, .istore_n 3, 14, 0), (14, .iload_n 3, 15, 0), (15, .aload_n 0, 16, 0), (16, .getfield 9, 19, 0), (19, .iconst 2, 20, 0), (20, .iaload, 21, 0), (21, .if_icmp .ge 67, 24, 88), (24, .aload_n 0, 25, 0), (25, .iload_n 3, 26, 0), (26, .invokevirtual 192, 29, 0), (29, .istore 4, 31, 0), (31, .aload_n 0, 32, 0), (32, .getfield 37, 35, 0), (35, .iload_n 3, 36, 0), (36, .aload_n 0, 37, 0), (37, .iload_n 3, 38, 0), (38, .invokevirtual 140, 41, 0), (41, .iastore, 42, 0), (42, .aload_n 0, 43, 0), (43, .iload_n 1, 44, 0), (44, .bipush 100, 46, 0), (46, .idiv, 47, 0), (47, .iload_n 1, 48, 0), (48, .bipush 100, 50, 0), (50, .irem, 51, 0), (51, .invokevirtual 196, 54, 0), (54, .ifCond .eq 26, 57, 80), (57, .iload_n 2, 58, 0), (58, .ifCond .lt 18, 61, 76), (61, .aload_n 0, 62, 0), (62, .getfield 37, 65, 0), (65, .iload_n 3, 66, 0), (66, .iaload, 67, 0), (67, .aload_n 0, 68, 0), (68, .getfield 37, 71, 0), (71, .iload_n 2, 72, 0), (72, .iaload, 73, 0), (73, .if_icmp .ge 7, 76, 80), (76, .iload_n 3, 77, 0), (77, .goto 4, 80, 81), (80, .iload_n 2, 81, 0), (81, .istore_n 2, 82, 0), (82, .iinc 3 1, 85, 0), (85, .goto (-71), 88, 14), (88, .iload_n 2, 89, 0), (89, .ifCond .ge 8, 92, 97), (92, .ldc 195, 94, 0), (94, .goto 4, 97, 98), (97, .iload_n 2, 98, 0), (98, .ireturn, 99, 0)]
def ct_Mod_owned : List (Nat × Instr × Nat × Nat) := [(0, .iload_n 1, 1, 0), (1, .iconst (-1), 2, 0), (2, .if_icmp .eq 14, 5, 16), (5, .aload_n 0, 6, 0), (6, .iload_n 1, 7, 0), (7, .invokevirtual 100, 10, 0), (10, .ifCond .ne 6, 13, 16), (13, .ldc 112, 15, 0), (15, .ireturn, 16, 0), (16, .aload_n 0, 17, 0), (17, .invokevirtual 199, 20, 0), (20, .iconst 0, 21, 0), (21, .istore_n 2, 22, 0), (22, .iconst 0, 23, 0), (23, .istore_n 3, 24, 0), (24, .iload_n 3, 25, 0), (25, .sipush 900, 28, 0), (28, .if_icmp .ge 26, 31, 54), (31, .iload_n 2, 32, 0), (32, .aload_n 0, 33, 0), (33, .iload_n 3, 34, 0), (34, .invokevirtual 202, 37, 0), (37, .iload_n 1, 38, 0), (38, .if_icmp .ne 7, 41, 45), (41, .iconst 1, 42, 0), (42, .goto 4, 45, 46), (45, .iconst 0, 46, 0), (46, .iadd, 47, 0), (47, .istore_n 2, 48, 0), (48, .iinc 3 1, 51, 0), (51, .goto (-27), 54, 24), (54, .iload_n 2, 55, 0), (55, .ireturn, 56, 0)]
def ct_Mod_exchange : List (Nat × Instr × Nat × Nat) := [(0, .aload_n 1, 1, 0), (1, .iload_n 2, 2, 0), (2, .iaload, 3, 0), (3, .istore_n 3, 4, 0), (4, .aload_n 1, 5, 0), (5, .iload_n 2, 6, 0), (6, .aload_n 1, 7, 0), (7, .iload_n 2, 8, 0), (8, .iconst 1, 9, 0), (9, .iadd, 10, 0), (10, .iaload, 11, 0), (11, .iastore, 12, 0), (12, .aload_n 1, 13, 0), (13, .iload_n 2, 14, 0), (14, .iconst 1, 15, 0), (15, .iadd, 16, 0), (16, .iload_n 3, 17, 0), (17, .iastore, 18, 0), (18, .return_, 19, 0)]
def ct_Mod_takeSlipped : List (Nat × Instr × Nat × Nat) := [(0, .aload_n 0, 1, 0), (1, .iload_n 1, 2, 0), (2, .invokevirtual 185, 5, 0), (5, .iload_n 2, 6, 0), (6, .iconst 1, 7, 0), (7, .if_icmp .ne 82, 10, 89), (10, .aload_n 0, 11, 0), (11, .dup, 12, 0), (12, .getfield 171, 15, 0), (15, .iconst 1, 16, 0), (16, .isub, 17, 0), (17, .putfield 171, 20, 0), (20, .iload_n 3, 21, 0), (21, .istore 4, 23, 0), (23, .iload 4, 25, 0), (25, .aload_n 0, 26, 0), (26, .getfield 171, 29, 0), (29, .if_icmp .ge 57, 32, 86), (32, .aload_n 0, 33, 0), (33, .getfield 19, 36, 0), (36, .iload 4, 38, 0), (38, .aload_n 0, 39, 0), (39, .getfield 19, 42, 0), (42, .iload 4, 44, 0), (44, .iconst 1, 45, 0), (45, .iadd, 46, 0), (46, .iaload, 47, 0), (47, .iastore, 48, 0), (48, .aload_n 0, 49, 0), (49, .getfield 22, 52, 0), (52, .iload 4, 54, 0), (54, .aload_n 0, 55, 0), (55, .getfield 22, 58, 0), (58, .iload 4, 60, 0), (60, .iconst 1, 61, 0), (61, .iadd, 62, 0), (62, .iaload, 63, 0), (63, .iastore, 64, 0), (64, .aload_n 0, 65, 0), (65, .getfield 25, 68, 0), (68, .iload 4, 70, 0), (70, .aload_n 0, 71, 0), (71, .getfield 25, 74, 0), (74, .iload 4, 76, 0), (76, .iconst 1, 77, 0), (77, .iadd, 78, 0), (78, .iaload, 79, 0), (79, .iastore, 80, 0), (80, .iinc 4 1, 83, 0), (83, .goto (-60), 86, 23), (86, .goto 55, 89, 141), (89, .iload_n 2, 90, 0), (90, .iconst 2, 91, 0), (91, .if_icmp .ne 23, 94, 114), (94, .aload_n 0, 95, 0), (95, .getfield 22, 98, 0), (98, .iload_n 3, 99, 0), (99, .aload_n 0, 100, 0), (100, .getfield 22, 103, 0), (103, .iload_n 3, 104, 0), (104, .iaload, 105, 0), (105, .iconst 4, 106, 0), (106, .iadd, 107, 0), (107, .bipush 8, 109, 0), (109, .irem, 110, 0), (110, .iastore, 111, 0), (111, .goto 30, 114, 141), (114, .aload_n 0, 115, 0), (115, .aload_n 0, 116, 0), (116, .getfield 19, 119, 0), (119, .iload_n 3, 120, 0), (120, .invokevirtual 205, 123, 0), (123, .aload_n 0, 124, 0), (124, .aload_n 0, 125, 0), (125, .getfield 22, 128, 0), (128, .iload_n 3, 129, 0), (129, .invokevirtual 205, 132, 0), (132, .aload_n 0, 133, 0), (133, .aload_n 0, 134, 0), (134, .getfield 25, 137, 0), (137, .iload_n 3, 138, 0), (138, .invokevirtual 205, 141, 0), (141, .return_, 142, 0)]
def ct_Mod_slip : List (Nat × Instr × Nat × Nat) := [(0, .aload_n 0, 1, 0), (1, .iload_n 1, 2, 0), (2, .invokevirtual 100, 5, 0), (5, .ifCond .eq 12, 8, 17), (8, .iload_n 2, 9, 0), (9, .iconst 0, 10, 0), (10, .iconst 2, 11, 0), (11, .invokestatic 96, 14, 0), (14, .ifCond .ne 6, 17, 20), (17, .ldc 112, 19, 0), (19, .ireturn, 20, 0), (20, .aload_n 0, 21, 0), (21, .iload_n 1, 22, 0), (22, .invokevirtual 134, 25, 0), (25, .istore_n 3, 26, 0), (26, .aload_n 0, 27, 0), (27, .iload_n 1, 28, 0), (28, .invokevirtual 137, 31, 0), (31, .istore 4, 33, 0), (33, .aload_n 0, 34, 0), (34, .iload_n 1, 35, 0), (35, .invokevirtual 192, 38, 0), (38, .istore 5, 40, 0), (40, .iconst 0, 41, 0), (41, .istore 6, 43, 0), (43, .ldc 195, 45, 0), (45, .istore 7, 47, 0), (47, .iconst 1, 48, 0), (48, .istore 8, 50, 0), (50, .iload 8, 52, 0), (52, .iconst 4, 53, 0), (53, .if_icmp .ge 112, 56, 165), (56, .aload_n 0, 57, 0), (57, .iload_n 1, 58, 0), (58, .iconst 4, 59, 0), (59, .invokevirtual 104, 62, 0), (62, .iload 8, 64, 0), (64, .iconst 3, 65, 0), (65, .if_icmp .ne 7, 68, 72), (68, .iconst 1, 69, 0), (69, .goto 4, 72, 73), (72, .iconst 0, 73, 0), (73, .isub, 74, 0), (74, .istore 9, 76, 0), (76, .iconst 0, 77, 0), (77, .istore 10, 79, 0), (79, .iload 10, 81, 0), (81, .iload 9, 83, 0), (83, .if_icmp .ge 76, 86, 159), (86, .aload_n 0, 87, 0), (87, .iload_n 1, 88, 0), (88, .iload 8, 90, 0), (90, .iload 10, 92, 0), (92, .invokevirtual 209, 95, 0), (95, .aload_n 0, 96, 0), (96, .iload_n 1, 97, 0), (97, .iload_n 3, 98, 0), (98, .iload 4, 100, 0), (100, .invokevirtual 189, 103, 0), (103, .istore 11, 105, 0), (105, .iload 11, 107, 0), (107, .iload 5, 109, 0), (109, .if_icmp .ge 8, 112, 117), (112, .iload 8, 114, 0), (114, .goto 5, 117, 119), (117, .iload 6, 119, 0), (119, .istore 6, 121, 0), (121, .iload 11, 123, 0), (123, .iload 5, 125, 0), (125, .if_icmp .ge 8, 128, 133), (128, .iload 10, 130, 0), (130, .goto 5, 133, 135), (133, .iload 7, 135, 0), (135, .istore 7, 137, 0), (137, .iload 11, 139, 0), (139, .iload 5, 141, 0), (141, .if_icmp .ge 8, 144, 149), (144, .iload 11, 146, 0), (146, .goto 5, 149, 151), (149, .iload 5, 151, 0), (151, .istore 5, 153, 0), (153, .iinc 10 1, 156, 0), (156, .goto (-77), 159, 79), (159, .iinc 8 1, 162, 0), (162, .goto (-112), 165, 50), (165, .iload_n 2, 166, 0), (166, .ifCond .ne 8, 169, 174), (169, .iload 5, 171, 0), (171, .goto 15, 174, 186), (174, .iload_n 2, 175, 0), (175, .iconst 1, 176, 0), (176, .if_icmp .ne 8, 179, 184), (179, .iload 6, 181, 0), (181, .goto 5, 184, 186), (184, .iload 7, 186, 0), (186, .ireturn, 187, 0)]
def ct_Mod_best : List (Nat × Instr × Nat × Nat) := [(0, .aload_n 0, 1, 0), (1, .iload_n 1, 2, 0), (2, .invokevirtual 100, 5, 0), (5, .ifCond .eq 12, 8, 17), (8, .iload_n 2, 9, 0), (9, .iconst 0, 10, 0), (10, .iconst 3, 11, 0), (11, .invokestatic 96, 14, 0), (14, .ifCond .ne 6, 17, 20), (17, .ldc 112, 19, 0), (19, .ireturn, 20, 0), (20, .aload_n 0, 21, 0), (21, .iload_n 1, 22, 0), (22, .invokevirtual 185, 25, 0), (25, .iconst 0, 26, 0), (26, .istore_n 3, 27, 0), (27, .iconst (-1), 28, 0), (28, .istore 4, 30, 0), (30, .iload_n 2, 31, 0), (31, .iconst 2, 32, 0), (32, .if_icmp .ge 7, 35, 39), (35, .iconst 0, 36, 0), (36, .goto 5, 39, 41), (39, .bipush (-9), 41, 0), (41, .istore 5, 43, 0), (43, .iload 5, 45, 0), (45, .iload_n 2, 46, 0), (46, .iconst 2, 47, 0), (47, .if_icmp .ge 8, 50, 55), (50, .bipush 7, 52, 0), (52, .goto 5, 55, 57), (55, .bipush 9, 57, 0), (57, .if_icmp .gt 83, 60, 140), (60, .iload_n 2, 61, 0), (61, .iconst 2, 62, 0), (62, .if_icmp .ge 18, 65, 80), (65, .aload_n 0, 66, 0), (66, .iload_n 1, 67, 0), (67, .iload 5, 69, 0), (69, .aload_n 0, 70, 0), (70, .iload_n 1, 71, 0), (71, .invokevirtual 137, 74, 0), (74, .invokevirtual 189, 77, 0), (77, .goto 15, 80, 92), (80, .aload_n 0, 81, 0), (81, .iload_n 1, 82, 0), (82, .aload_n 0, 83, 0), (83, .iload_n 1, 84, 0), (84, .invokevirtual 134, 87, 0), (87, .iload 5, 89, 0), (89, .invokevirtual 189, 92, 0), (92, .istore 6, 94, 0), (94, .iload 4, 96, 0), (96, .ifCond .lt 10, 99, 106), (99, .iload 6, 101, 0), (101, .iload 4, 103, 0), (103, .if_icmp .ge 8, 106, 111), (106, .iload 5, 108, 0), (108, .goto 4, 111, 112), (111, .iload_n 3, 112, 0), (112, .istore_n 3, 113, 0), (113, .iload 4, 115, 0), (115, .ifCond .lt 10, 118, 125), (118, .iload 6, 120, 0), (120, .iload 4, 122, 0), (122, .if_icmp .ge 8, 125, 130), (125, .iload 6, 127, 0), (127, .goto 5, 130, 132), (130, .iload 4, 132, 0), (132, .istore 4, 134, 0), (134, .iinc 5 1, 137, 0), (137, .goto (-94), 140, 43), (140, .iload_n 2, 141, 0), (141, .iconst 2, 142, 0), (142, .irem, 143, 0), (143, .ifCond .ne 7, 146, 150), (146, .iload_n 3, 147, 0), (147, .goto 5, 150, 152), (150, .iload 4, 152, 0), (152, .ireturn, 153, 0)]
def ct_Mod_learn : List (Nat × Instr × Nat × Nat) := [(0, .iload_n 1, 1, 0), (1, .iconst 0, 2, 0), (2, .sipush 999, 5, 0), (5, .invokestatic 96, 8, 0), (8, .ifCond .ne 6, 11, 14), (11, .ldc 112, 13, 0), (13, .ireturn, 14, 0), (14, .iconst (-1), 15, 0), (15, .istore_n 2, 16, 0), (16, .iconst 0, 17, 0), (17, .istore_n 3, 18, 0), (18, .iconst 0, 19, 0), (19, .istore 4, 21, 0), (21, .iload 4, 23, 0), (23, .bipush 8, 25, 0), (25, .if_icmp .ge 95, 28, 120), (28, .iconst 0, 29, 0), (29, .istore 5, 31, 0), (31, .iconst 0, 32, 0), (32, .istore 6, 34, 0), (34, .iconst 0, 35, 0), (35, .istore 7, 37, 0), (37, .iload 7, 39, 0), (39, .aload_n 0, 40, 0), (40, .getfield 9, 43, 0), (43, .iconst 2, 44, 0), (44, .iaload, 45, 0), (45, .if_icmp .ge 48, 48, 93), (48, .aload_n 0, 49, 0), (49, .iload 7, 51, 0), (51, .iconst 2, 52, 0), (52, .invokevirtual 104, 55, 0), (55, .iload_n 1, 56, 0), (56, .if_icmp .ne 31, 59, 87), (59, .aload_n 0, 60, 0), (60, .iload 7, 62, 0), (62, .invokevirtual 185, 65, 0), (65, .iload 6, 67, 0), (67, .aload_n 0, 68, 0), (68, .iload 7, 70, 0), (70, .iload 4, 72, 0), (72, .aload_n 0, 73, 0), (73, .iload 7, 75, 0), (75, .invokevirtual 137, 78, 0), (78, .invokevirtual 189, 81, 0), (81, .iadd, 82, 0), (82, .istore 6, 84, 0), (84, .iinc 5 1, 87, 0), (87, .iinc 7 1, 90, 0), (90, .goto (-53), 93, 37), (93, .iload 5, 95, 0), (95, .ifCond .le 19, 98, 114), (98, .iload_n 2, 99, 0), (99, .ifCond .lt 9, 102, 108), (102, .iload 6, 104, 0), (104, .iload_n 3, 105, 0), (105, .if_icmp .ge 9, 108, 114), (108, .iload 4, 110, 0), (110, .istore_n 2, 111, 0), (111, .iload 6, 113, 0), (113, .istore_n 3, 114, 0), (114, .iinc 4 1, 117, 0), (117, .goto (-96), 120, 21), (120, .iload_n 2, 121, 0), (121, .ifCond .ge 8, 124, 129), (124, .ldc 195, 126, 0), (126, .goto 4, 129, 130), (129, .iload_n 2, 130, 0), (130, .ireturn, 131, 0)]
def ct_Mod_near : List (Nat × Instr × Nat × Nat) := [(0, .aload_n 0, 1, 0), (1, .iload_n 1, 2, 0), (2, .invokevirtual 114, 5, 0), (5, .ifCond .eq 12, 8, 17), (8, .iload_n 2, 9, 0), (9, .iconst 0, 10, 0), (10, .iconst 1, 11, 0), (11, .invokestatic 96, 14, 0), (14, .ifCond .ne 6, 17, 20), (17, .ldc 112, 19, 0), (19, .ireturn, 20, 0), (20, .ldc 195, 22, 0), (22, .istore_n 3, 23, 0), (23, .iconst (-1), 24, 0), (24, .istore 4, 26, 0), (26, .iconst 0, 27, 0), (27, .istore 5, 29, 0), (29, .iload 5, 31, 0), (31, .aload_n 0, 32, 0), (32, .getfield 9, 35, 0), (35, .iconst 2, 36, 0), (36, .iaload, 37, 0), (37, .if_icmp .ge 128, 40, 165), (40, .aload_n 0, 41, 0), (41, .iload 5, 43, 0), (43, .invokevirtual 192, 46, 0), (46, .istore 6, 48, 0), (48, .iconst 0, 49, 0), (49, .istore 7, 51, 0), (51, .iload 7, 53, 0), (53, .aload_n 0, 54, 0), (54, .getfield 171, 57, 0), (57, .if_icmp .gt 102, 60, 159), (60, .aload_n 0, 61, 0), (61, .getfield 28, 64, 0), (64, .iload 7, 66, 0), (66, .iaload, 67, 0), (67, .aload_n 0, 68, 0), (68, .getfield 9, 71, 0), (71, .iconst 4, 72, 0), (72, .iconst 2, 73, 0), (73, .iload_n 1, 74, 0), (74, .imul, 75, 0), (75, .iadd, 76, 0), (76, .iaload, 77, 0), (77, .isub, 78, 0), (78, .invokestatic 117, 81, 0), (81, .aload_n 0, 82, 0), (82, .getfield 31, 85, 0), (85, .iload 7, 87, 0), (87, .iaload, 88, 0), (88, .aload_n 0, 89, 0), (89, .getfield 9, 92, 0), (92, .iconst 4, 93, 0), (93, .iconst 2, 94, 0), (94, .iload_n 1, 95, 0), (95, .imul, 96, 0), (96, .iadd, 97, 0), (97, .iconst 1, 98, 0), (98, .iadd, 99, 0), (99, .iaload, 100, 0), (100, .isub, 101, 0), (101, .invokestatic 117, 104, 0), (104, .iadd, 105, 0), (105, .istore 8, 107, 0), (107, .iload 4, 109, 0), (109, .ifCond .lt 10, 112, 119), (112, .iload 8, 114, 0), (114, .iload 4, 116, 0), (116, .if_icmp .ge 14, 119, 130), (119, .bipush 100, 121, 0), (121, .iload 5, 123, 0), (123, .imul, 124, 0), (124, .iload 7, 126, 0), (126, .iadd, 127, 0), (127, .goto 4, 130, 131), (130, .iload_n 3, 131, 0), (131, .istore_n 3, 132, 0), (132, .iload 4, 134, 0), (134, .ifCond .lt 10, 137, 144), (137, .iload 8, 139, 0), (139, .iload 4, 141, 0), (141, .if_icmp .ge 8, 144, 149), (144, .iload 8, 146, 0), (146, .goto 5, 149, 151), (149, .iload 4, 151, 0), (151, .istore 4, 153, 0), (153, .iinc 7 1, 156, 0), (156, .goto (-105), 159, 51), (159, .iinc 5 1, 162, 0), (162, .goto (-133), 165, 29), (165, .iload_n 3, 166, 0), (166, .ldc 195, 168, 0), (168, .if_icmp .ne 8, 171, 176), (171, .ldc 195, 173, 0), (173, .goto 13, 176, 186), (176, .iload_n 2, 177, 0), (177, .ifCond .ne 7, 180, 184), (180, .iload_n 3, 181, 0), (181, .goto 5, 184, 186), (184, .iload 4, 186, 0), (186, .ireturn, 187, 0)]
def ct_Mod_would : List (Nat × Instr × Nat × Nat) := [(0, .aload_n 0, 1, 0), (1, .iload_n 1, 2, 0), (2, .invokevirtual 114, 5, 0), (5, .ifCond .eq 11, 8, 16), (8, .iload_n 2, 9, 0), (9, .iload_n 3, 10, 0), (10, .invokestatic 108, 13, 0), (13, .ifCond .ne 6, 16, 19), (16, .ldc 112, 18, 0), (18, .ireturn, 19, 0), (19, .aload_n 0, 20, 0), (20, .invokevirtual 199, 23, 0), (23, .iconst 0, 24, 0), (24, .istore 4, 26, 0), (26, .iload 4, 28, 0), (28, .sipush 900, 31, 0), (31, .if_icmp .ge 22, 34, 53), (34, .aload_n 0, 35, 0), (35, .getfield 40, 38, 0), (38, .iload 4, 40, 0), (40, .aload_n 0, 41, 0), (41, .iload 4, 43, 0), (43, .invokevirtual 202, 46, 0), (46, .iastore, 47, 0), (47, .iinc 4 1, 50, 0), (50, .goto (-24), 53, 26), (53, .aload_n 0, 54, 0), (54, .getfield 9, 57, 0), (57, .iconst 4, 58, 0), (58, .iconst 2, 59, 0), (59, .iload_n 1, 60, 0), (60, .imul, 61, 0), (61, .iadd, 62, 0), (62, .iaload, 63, 0), (63, .istore 4, 65, 0), (65, .aload_n 0, 66, 0), (66, .getfield 9, 69, 0), (69, .iconst 4, 70, 0), (70, .iconst 2, 71, 0), (71, .iload_n 1, 72, 0), (72, .imul, 73, 0), (73, .iadd, 74, 0), (74, .iconst 1, 75, 0), (75, .iadd, 76, 0), (76, .iaload, 77, 0), (77, .istore 5, 79, 0), (79, .aload_n 0, 80, 0), (80, .getfield 9, 83, 0), (83, .iconst 4, 84, 0), (84, .iconst 2, 85, 0), (85, .iload_n 1, 86, 0), (86, .imul, 87, 0), (87, .iadd, 88, 0), (88, .iload_n 2, 89, 0), (89, .iastore, 90, 0), (90, .aload_n 0, 91, 0), (91, .getfield 9, 94, 0), (94, .iconst 4, 95, 0), (95, .iconst 2, 96, 0), (96, .iload_n 1, 97, 0), (97, .imul, 98, 0), (98, .iadd, 99, 0), (99, .iconst 1, 100, 0), (100, .iadd, 101, 0), (101, .iload_n 3, 102, 0), (102, .iastore, 103, 0), (103, .aload_n 0, 104, 0), (104, .invokevirtual 199, 107, 0), (107, .aload_n 0, 108, 0), (108, .getfield 9, 111, 0), (111, .iconst 4, 112, 0), (112, .iconst 2, 113, 0), (113, .iload_n 1, 114, 0), (114, .imul, 115, 0), (115, .iadd, 116, 0), (116, .iload 4, 118, 0), (118, .iastore, 119, 0), (119, .aload_n 0, 120, 0), (120, .getfield 9, 123, 0), (123, .iconst 4, 124, 0), (124, .iconst 2, 125, 0), (125, .iload_n 1, 126, 0), (126, .imul, 127, 0), (127, .iadd, 128, 0), (128, .iconst 1, 129, 0), (129, .iadd, 130, 0), (130, .iload 5, 132, 0), (132, .iastore, 133, 0), (133, .iconst 0, 134, 0), (134, .istore 6, 136, 0), (136, .iconst 0, 137, 0), (137, .istore 7, 139, 0), (139, .iload 7, 141, 0), (141, .sipush 900, 144, 0), (144, .if_icmp .ge 35, 147, 179), (147, .iload 6, 149, 0), (149, .aload_n 0, 150, 0), (150, .getfield 40, 153, 0), (153, .iload 7, 155, 0), (155, .iaload, 156, 0), (156, .aload_n 0, 157, 0), (157, .iload 7, 159, 0), (159, .invokevirtual 202, 162, 0), (162, .if_icmp .ne 7, 165, 169), (165, .iconst 0, 166, 0), (166, .goto 4, 169, 170), (169, .iconst 1, 170, 0), (170, .iadd, 171, 0), (171, .istore 6, 173, 0), (173, .iinc 7 1, 176, 0), (176, .goto (-37), 179, 139), (179, .iload 6, 181, 0), (181, .ireturn, 182, 0)]
def ct_Mod_feed : List (Nat × Instr × Nat × Nat) := [(0, .aload_n 0, 1, 0), (1, .getfield 212, 4, 0), (4, .bipush 12, 6, 0), (6, .iadd, 7, 0), (7, .bipush 96, 9, 0), (9, .if_icmp .le 6, 12, 15), (12, .ldc 113, 14, 0), (14, .ireturn, 15, 0), (15, .iconst 0, 16, 0), (16, .istore 4, 18, 0), (18, .iload 4, 20, 0), (20, .bipush 12, 22, 0), (22, .if_icmp .ge 62, 25, 84), (25, .iload 4, 27, 0), (27, .iconst 4, 28, 0), (28, .if_icmp .ge 7, 31, 35), (31, .iload_n 1, 32, 0), (32, .goto 15, 35, 47), (35, .iload 4, 37, 0), (37, .bipush 8, 39, 0), (39, .if_icmp .ge 7, 42, 46), (42, .iload_n 2, 43, 0), (43, .goto 4, 46, 47), (46, .iload_n 3, 47, 0), (47, .istore 5, 49, 0), (49, .aload_n 0, 50, 0), (50, .getfield 43, 53, 0), (53, .aload_n 0, 54, 0), (54, .getfield 212, 57, 0), (57, .iload 4, 59, 0), (59, .iadd, 60, 0), (60, .iload 5, 62, 0), (62, .bipush 24, 64, 0), (64, .bipush 8, 66, 0), (66, .iload 4, 68, 0), (68, .iconst 4, 69, 0), (69, .irem, 70, 0), (70, .imul, 71, 0), (71, .isub, 72, 0), (72, .ishr, 73, 0), (73, .sipush 255, 76, 0), (76, .iand, 77, 0), (77, .iastore, 78, 0), (78, .iinc 4 1, 81, 0), (81, .goto (-63), 84, 18), (84, .aload_n 0, 85, 0), (85, .dup, 86, 0), (86, .getfield 212, 89, 0), (89, .bipush 12, 91, 0), (91, .iadd, 92, 0), (92, .putfield 212, 95, 0), (95, .aload_n 0, 96, 0), (96, .getfield 212, 99, 0), (99, .ireturn, 100, 0)]
def ct_Mod_trim : List (Nat × Instr × Nat × Nat) := [(0, .iload_n 1, 1, 0), (1, .iconst 0, 2, 0), (2, .aload_n 0, 3, 0), (3, .getfield 212, 6, 0), (6, .invokestatic 96, 9, 0), (9, .ifCond .ne 6, 12, 15), (12, .ldc 112, 14, 0), (14, .ireturn, 15, 0), (15, .aload_n 0, 16, 0), (16, .iload_n 1, 17, 0), (17, .putfield 212, 20, 0), (20, .iload_n 1, 21, 0), (21, .ireturn, 22, 0)]
def ct_Mod_isLetter : List (Nat × Instr × Nat × Nat) := [(0, .iload_n 1, 1, 0), (1, .aload_n 0, 2, 0), (2, .getfield 212, 5, 0), (5, .if_icmp .ge 29, 8, 34), (8, .aload_n 0, 9, 0), (9, .getfield 43, 12, 0), (12, .iload_n 1, 13, 0), (13, .iaload, 14, 0), (14, .bipush 97, 16, 0), (16, .if_icmp .lt 18, 19, 34), (19, .aload_n 0, 20, 0), (20, .getfield 43, 23, 0), (23, .iload_n 1, 24, 0), (24, .iaload, 25, 0), (25, .bipush 122, 27, 0), (27, .if_icmp .gt 7, 30, 34), (30, .iconst 1, 31, 0), (31, .goto 4, 34, 35), (34, .iconst 0, 35, 0), (35, .ireturn, 36, 0)]
def ct_Mod_isFigure : List (Nat × Instr × Nat × Nat) := [(0, .iload_n 1, 1, 0), (1, .aload_n 0, 2, 0), (2, .getfield 212, 5, 0), (5, .if_icmp .ge 29, 8, 34), (8, .aload_n 0, 9, 0), (9, .getfield 43, 12, 0), (12, .iload_n 1, 13, 0), (13, .iaload, 14, 0), (14, .bipush 48, 16, 0), (16, .if_icmp .lt 18, 19, 34), (19, .aload_n 0, 20, 0), (20, .getfield 43, 23, 0), (23, .iload_n 1, 24, 0), (24, .iaload, 25, 0), (25, .bipush 57, 27, 0), (27, .if_icmp .gt 7, 30, 34), (30, .iconst 1, 31, 0), (31, .goto 4, 34, 35), (34, .iconst 0, 35, 0), (35, .ireturn, 36, 0)]
set_option maxRecDepth 100000 in
def ct_Mod_go : List (Nat × Instr × Nat × Nat) := [(0, .aload_n 0, 1, 0), (1, .getfield 215, 4, 0), (4, .aload_n 0, 5, 0), (5, .getfield 212, 8, 0), (8, .if_icmp .ge 30, 11, 38), (11, .aload_n 0, 12, 0), (12, .getfield 43, 15, 0), (15, .aload_n 0, 16, 0), (16, .getfield 215, 19, 0), (19, .iaload, 20, 0), (20, .bipush 32, 22, 0), (22, .if_icmp .ne 16, 25, 38), (25, .aload_n 0, 26, 0), (26, .dup, 27, 0), (27, .getfield 215, 30, 0), (30, .iconst 1, 31, 0), (31, .iadd, 32, 0), (32, .putfield 215, 35, 0), (35, .goto (-35), 38, 0), (38, .aload_n 0, 39, 0), (39, .aload_n 0, 40, 0), (40, .getfield 215, 43, 0), (43, .putfield 218, 46, 0), (46, .aload_n 0, 47, 0), (47, .getfield 218, 50, 0), (50, .aload_n 0, 51, 0), (51, .getfield 221, 54, 0), (54, .if_icmp .ne 7, 57, 61), (57, .iconst 1, 58, 0), (58, .goto 4, 61, 62), (61, .iconst 0, 62, 0), (62, .istore_n 1, 63, 0), (63, .aload_n 0, 64, 0), (64, .getfield 218, 67, 0), (67, .aload_n 0, 68, 0), (68, .getfield 212, 71, 0), (71, .if_icmp .ne 11, 74, 82), (74, .aload_n 0, 75, 0), (75, .iconst 0, 76, 0), (76, .putfield 224, 79, 0), (79, .goto 224, 82, 303), (82, .aload_n 0, 83, 0), (83, .aload_n 0, 84, 0), (84, .getfield 218, 87, 0), (87, .invokevirtual 227, 90, 0), (90, .ifCond .eq 64, 93, 154), (93, .aload_n 0, 94, 0), (94, .aload_n 0, 95, 0), (95, .getfield 215, 98, 0), (98, .invokevirtual 227, 101, 0), (101, .ifCond .eq 16, 104, 117), (104, .aload_n 0, 105, 0), (105, .dup, 106, 0), (106, .getfield 215, 109, 0), (109, .iconst 1, 110, 0), (110, .iadd, 111, 0), (111, .putfield 215, 114, 0), (114, .goto (-21), 117, 93), (117, .aload_n 0, 118, 0), (118, .iload_n 1, 119, 0), (119, .ifCond .eq 7, 122, 126), (122, .iconst 4, 123, 0), (123, .goto 4, 126, 127), (126, .iconst 1, 127, 0), (127, .putfield 224, 130, 0), (130, .aload_n 0, 131, 0), (131, .aload_n 0, 132, 0), (132, .getfield 43, 135, 0), (135, .aload_n 0, 136, 0), (136, .getfield 218, 139, 0), (139, .iaload, 140, 0), (140, .putfield 230, 143, 0), (143, .aload_n 0, 144, 0), (144, .aload_n 0, 145, 0), (145, .getfield 215, 148, 0), (148, .putfield 221, 151, 0), (151, .goto 152, 154, 303), (154, .aload_n 0, 155, 0), (155, .aload_n 0, 156, 0), (156, .getfield 218, 159, 0), (159, .invokevirtual 233, 162, 0), (162, .ifCond .eq 113, 165, 275), (165, .aload_n 0, 166, 0), (166, .iconst 0, 167, 0), (167, .putfield 230, 170, 0), (170, .aload_n 0, 171, 0), (171, .aload_n 0, 172, 0), (172, .getfield 215, 175, 0), (175, .invokevirtual 233, 178, 0), (178, .ifCond .eq 60, 181, 238), (181, .aload_n 0, 182, 0), (182, .aload_n 0, 183, 0), (183, .getfield 215, 186, 0), (186, .aload_n 0, 187, 0), (187, .getfield 218, 190, 0), (190, .isub, 191, 0), (191, .iconst 4, 192, 0), (192, .if_icmp .ge 26, 195, 218), (195, .bipush 10, 197, 0), (197, .aload_n 0, 198, 0), (198, .getfield 230, 201, 0), (201, .imul, 202, 0), (202, .aload_n 0, 203, 0), (203, .getfield 43, 206, 0), (206, .aload_n 0, 207, 0), (207, .getfield 215, 210, 0), (210, .iaload, 211, 0), (211, .iadd, 212, 0), (212, .bipush 48, 214, 0), (214, .isub, 215, 0), (215, .goto 7, 218, 222), (218, .aload_n 0, 219, 0), (219, .getfield 230, 222, 0), (222, .putfield 230, 225, 0), (225, .aload_n 0, 226, 0), (226, .dup, 227, 0), (227, .getfield 215, 230, 0), (230, .iconst 1, 231, 0), (231, .iadd, 232, 0), (232, .putfield 215, 235, 0), (235, .goto (-65), 238, 170), (238, .aload_n 0, 239, 0), (239, .iload_n 1, 240, 0), (240, .ifCond .ne 16, 243, 256), (243, .aload_n 0, 244, 0), (244, .getfield 215, 247, 0), (247, .aload_n 0, 248, 0), (248, .getfield 218, 251, 0), (251, .isub, 252, 0), (252, .iconst 4, 253, 0), (253, .if_icmp .le 7, 256, 260), (256, .iconst 4, 257, 0), (257, .goto 4, 260, 261), (260, .iconst 2, 261, 0), (261, .putfield 224, 264, 0), (264, .aload_n 0, 265, 0), (265, .aload_n 0, 266, 0), (266, .getfield 215, 269, 0), (269, .putfield 221, 272, 0), (272, .goto 31, 275, 303), (275, .aload_n 0, 276, 0), (276, .iconst 3, 277, 0), (277, .putfield 224, 280, 0), (280, .aload_n 0, 281, 0), (281, .aload_n 0, 282, 0), (282, .getfield 43, 285, 0), (285, .aload_n 0, 286, 0), (286, .getfield 218, 289, 0), (289, .iaload, 290, 0), (290, .putfield 230, 293, 0), (293, .aload_n 0, 294, 0), (294, .dup, 295, 0), (295, .getfield 215, 298, 0), (298, .iconst 1, 299, 0), (299, .iadd, 300, 0), (300, .putfield 215, 303, 0), (303, .return_, 304, 0)]
def ct_Mod_takesKey : List (Nat × Instr × Nat × Nat) := [(0, .aload_n 0, 1, 0), (1, .getfield 224, 4, 0), (4, .iconst 1, 5, 0), (5, .if_icmp .eq 5, 8, 10), (8, .iconst 0, 9, 0), (9, .ireturn, 10, 0), (10, .iconst 0, 11, 0), (11, .istore_n 1, 12, 0), (12, .iload_n 1, 13, 0), (13, .iconst 3, 14, 0), (14, .if_icmp .ge 113, 17, 127), (17, .aload_n 0, 18, 0), (18, .getfield 50, 21, 0), (21, .iload_n 1, 22, 0), (22, .iconst 1, 23, 0), (23, .iadd, 24, 0), (24, .iaload, 25, 0), (25, .aload_n 0, 26, 0), (26, .getfield 50, 29, 0), (29, .iload_n 1, 30, 0), (30, .iaload, 31, 0), (31, .isub, 32, 0), (32, .istore_n 2, 33, 0), (33, .iload_n 2, 34, 0), (34, .aload_n 0, 35, 0), (35, .getfield 215, 38, 0), (38, .aload_n 0, 39, 0), (39, .getfield 218, 42, 0), (42, .isub, 43, 0), (43, .if_icmp .ne 7, 46, 50), (46, .iconst 1, 47, 0), (47, .goto 4, 50, 51), (50, .iconst 0, 51, 0), (51, .istore_n 3, 52, 0), (52, .iconst 0, 53, 0), (53, .istore 4, 55, 0), (55, .iload 4, 57, 0), (57, .iload_n 2, 58, 0), (58, .if_icmp .ge 48, 61, 106), (61, .iload_n 3, 62, 0), (62, .ifCond .eq 44, 65, 106), (65, .aload_n 0, 66, 0), (66, .getfield 43, 69, 0), (69, .aload_n 0, 70, 0), (70, .getfield 218, 73, 0), (73, .iload 4, 75, 0), (75, .iadd, 76, 0), (76, .iaload, 77, 0), (77, .aload_n 0, 78, 0), (78, .getfield 46, 81, 0), (81, .aload_n 0, 82, 0), (82, .getfield 50, 85, 0), (85, .iload_n 1, 86, 0), (86, .iaload, 87, 0), (87, .iload 4, 89, 0), (89, .iadd, 90, 0), (90, .caload, 91, 0), (91, .if_icmp .ne 7, 94, 98), (94, .iconst 1, 95, 0), (95, .goto 4, 98, 99), (98, .iconst 0, 99, 0), (99, .istore_n 3, 100, 0), (100, .iinc 4 1, 103, 0), (103, .goto (-48), 106, 55), (106, .iload_n 3, 107, 0), (107, .ifCond .eq 14, 110, 121), (110, .aload_n 0, 111, 0), (111, .iload_n 1, 112, 0), (112, .putfield 236, 115, 0), (115, .aload_n 0, 116, 0), (116, .invokevirtual 239, 119, 0), (119, .iconst 1, 120, 0), (120, .ireturn, 121, 0), (121, .iinc 1 1, 124, 0), (124, .goto (-112), 127, 12), (127, .iconst 0, 128, 0), (128, .ireturn, 129, 0)]
def ct_Mod_nameOf : List (Nat × Instr × Nat × Nat) := [(0, .iload_n 1, 1, 0), (1, .bipush 121, 3, 0), (3, .if_icmp .ne 5, 6, 8), (6, .iconst 0, 7, 0), (7, .ireturn, 8, 0), (8, .aload_n 0, 9, 0), (9, .getfield 236, 12, 0), (12, .iconst 1, 13, 0), (13, .if_icmp .ne 9, 16, 22), (16, .iload_n 1, 17, 0), (17, .bipush 115, 19, 0), (19, .if_icmp .eq 17, 22, 36), (22, .aload_n 0, 23, 0), (23, .getfield 236, 26, 0), (26, .iconst 2, 27, 0), (27, .if_icmp .ne 13, 30, 40), (30, .iload_n 1, 31, 0), (31, .bipush 110, 33, 0), (33, .if_icmp .ne 7, 36, 40), (36, .iconst 1, 37, 0), (37, .goto 22, 40, 59), (40, .aload_n 0, 41, 0), (41, .getfield 236, 44, 0), (44, .iconst 2, 45, 0), (45, .if_icmp .ne 13, 48, 58), (48, .iload_n 1, 49, 0), (49, .bipush 99, 51, 0), (51, .if_icmp .ne 7, 54, 58), (54, .iconst 2, 55, 0), (55, .goto 4, 58, 59), (58, .iconst (-1), 59, 0), (59, .ireturn, 60, 0)]
def ct_Mod_rank : List (Nat × Instr × Nat × Nat) := [(0, .iload_n 0, 1, 0), (1, .iconst (-1), 2, 0), (2, .if_icmp .ne 7, 5, 9), (5, .iconst 1, 6, 0), (6, .goto 45, 9, 51), (9, .iload_n 0, 10, 0), (10, .bipush (-2), 12, 0), (12, .if_icmp .ne 7, 15, 19), (15, .iconst 2, 16, 0), (16, .goto 35, 19, 51), (19, .iload_n 0, 20, 0), (20, .bipush (-5), 22, 0), (22, .if_icmp .lt 7, 25, 29), (25, .iconst 3, 26, 0), (26, .goto 25, 29, 51), (29, .iload_n 0, 30, 0), (30, .bipush (-7), 32, 0), (32, .if_icmp .lt 7, 35, 39), (35, .iconst 4, 36, 0), (36, .goto 15, 39, 51), (39, .iload_n 0, 40, 0), (40, .bipush (-9), 42, 0), (42, .if_icmp .lt 7, 45, 49), (45, .iconst 5, 46, 0), (46, .goto 5, 49, 51), (49, .bipush 6, 51, 0), (51, .ireturn, 52, 0)]
def ct_Mod_settle : List (Nat × Instr × Nat × Nat) := [(0, .aload_n 0, 1, 0), (1, .getfield 242, 4, 0), (4, .ifCond .le 78, 7, 82), (7, .aload_n 0, 8, 0), (8, .getfield 56, 11, 0), (11, .aload_n 0, 12, 0), (12, .getfield 242, 15, 0), (15, .iconst 1, 16, 0), (16, .isub, 17, 0), (17, .iaload, 18, 0), (18, .bipush (-11), 20, 0), (20, .if_icmp .eq 62, 23, 82), (23, .aload_n 0, 24, 0), (24, .getfield 56, 27, 0), (27, .aload_n 0, 28, 0), (28, .getfield 242, 31, 0), (31, .iconst 1, 32, 0), (32, .isub, 33, 0), (33, .iaload, 34, 0), (34, .invokestatic 245, 37, 0), (37, .iload_n 1, 38, 0), (38, .if_icmp .lt 44, 41, 82), (41, .aload_n 0, 42, 0), (42, .dup, 43, 0), (43, .getfield 242, 46, 0), (46, .iconst 1, 47, 0), (47, .isub, 48, 0), (48, .putfield 242, 51, 0), (51, .aload_n 0, 52, 0), (52, .getfield 53, 55, 0), (55, .aload_n 0, 56, 0), (56, .getfield 248, 59, 0), (59, .aload_n 0, 60, 0), (60, .getfield 56, 63, 0), (63, .aload_n 0, 64, 0), (64, .getfield 242, 67, 0), (67, .iaload, 68, 0), (68, .iastore, 69, 0), (69, .aload_n 0, 70, 0), (70, .dup, 71, 0), (71, .getfield 248, 74, 0), (74, .iconst 1, 75, 0), (75, .iadd, 76, 0), (76, .putfield 248, 79, 0), (79, .goto (-79), 82, 0), (82, .return_, 83, 0)]
def ct_Mod_signHere : List (Nat × Instr × Nat × Nat) := [(0, .aload_n 0, 1, 0), (1, .getfield 224, 4, 0), (4, .iconst 3, 5, 0), (5, .if_icmp .eq 5, 8, 10), (8, .iconst 0, 9, 0), (9, .ireturn, 10, 0), (10, .aload_n 0, 11, 0), (11, .getfield 230, 14, 0), (14, .lookupswitch 108 #[(38, 84), (42, 102), (43, 96), (45, 99), (47, 105), (60, 87), (61, 90), (62, 93), (124, 82)], 96, 0), (96, .iconst (-1), 97, 0), (97, .ireturn, 98, 0), (98, .bipush (-2), 100, 0), (100, .ireturn, 101, 0), (101, .bipush (-3), 103, 0), (103, .ireturn, 104, 0), (104, .bipush (-4), 106, 0), (106, .ireturn, 107, 0), (107, .bipush (-5), 109, 0), (109, .ireturn, 110, 0), (110, .bipush (-6), 112, 0), (112, .ireturn, 113, 0), (113, .bipush (-7), 115, 0), (115, .ireturn, 116, 0), (116, .bipush (-8), 118, 0), (118, .ireturn, 119, 0), (119, .bipush (-9), 121, 0), (121, .ireturn, 122, 0), (122, .iconst 0, 123, 0), (123, .ireturn, 124, 0)]
def ct_Mod_takesPart : List (Nat × Instr × Nat × Nat) := [(0, .aload_n 0, 1, 0), (1, .getfield 224, 4, 0), (4, .iconst 1, 5, 0), (5, .if_icmp .ne 31, 8, 36), (8, .aload_n 0, 9, 0), (9, .getfield 215, 12, 0), (12, .aload_n 0, 13, 0), (13, .getfield 218, 16, 0), (16, .isub, 17, 0), (17, .iconst 1, 18, 0), (18, .if_icmp .ne 18, 21, 36), (21, .aload_n 0, 22, 0), (22, .aload_n 0, 23, 0), (23, .getfield 230, 26, 0), (26, .invokevirtual 251, 29, 0), (29, .ifCond .lt 7, 32, 36), (32, .iconst 1, 33, 0), (33, .goto 4, 36, 37), (36, .iconst 0, 37, 0), (37, .istore_n 1, 38, 0), (38, .aload_n 0, 39, 0), (39, .getfield 224, 42, 0), (42, .iconst 2, 43, 0), (43, .if_icmp .eq 9, 46, 52), (46, .iload_n 1, 47, 0), (47, .ifCond .ne 5, 50, 52), (50, .iconst 0, 51, 0), (51, .ireturn, 52, 0), (52, .aload_n 0, 53, 0), (53, .getfield 53, 56, 0), (56, .aload_n 0, 57, 0), (57, .getfield 248, 60, 0), (60, .aload_n 0, 61, 0), (61, .getfield 224, 64, 0), (64, .iconst 2, 65, 0), (65, .if_icmp .ne 10, 68, 75), (68, .aload_n 0, 69, 0), (69, .getfield 230, 72, 0), (72, .goto 15, 75, 87), (75, .sipush 10000, 78, 0), (78, .aload_n 0, 79, 0), (79, .aload_n 0, 80, 0), (80, .getfield 230, 83, 0), (83, .invokevirtual 251, 86, 0), (86, .iadd, 87, 0), (87, .iastore, 88, 0), (88, .aload_n 0, 89, 0), (89, .dup, 90, 0), (90, .getfield 248, 93, 0), (93, .iconst 1, 94, 0), (94, .iadd, 95, 0), (95, .putfield 248, 98, 0), (98, .aload_n 0, 99, 0), (99, .dup, 100, 0), (100, .getfield 254, 103, 0), (103, .iconst 1, 104, 0), (104, .iadd, 105, 0), (105, .putfield 254, 108, 0), (108, .aload_n 0, 109, 0), (109, .bipush 6, 111, 0), (111, .invokevirtual 257, 114, 0), (114, .aload_n 0, 115, 0), (115, .invokevirtual 239, 118, 0), (118, .iconst 1, 119, 0), (119, .ireturn, 120, 0)]
set_option maxRecDepth 100000 in
def ct_Mod_takesE : List (Nat × Instr × Nat × Nat) := [(0, .iconst 0, 1, 0), (1, .istore_n 1, 2, 0), (2, .iconst 0, 3, 0), (3, .istore_n 2, 4, 0), (4, .iconst 1, 5, 0), (5, .istore_n 3, 6, 0), (6, .aload_n 0, 7, 0), (7, .iconst 0, 8, 0), (8, .putfield 248, 11, 0), (11, .aload_n 0, 12, 0), (12, .iconst 0, 13, 0), (13, .putfield 254, 16, 0), (16, .aload_n 0, 17, 0), (17, .iconst 0, 18, 0), (18, .putfield 242, 21, 0), (21, .aload_n 0, 22, 0), (22, .getfield 59, 25, 0), (25, .iconst 0, 26, 0), (26, .iconst 0, 27, 0), (27, .bastore, 28, 0), (28, .iload_n 3, 29, 0), (29, .ifCond .ne 10, 32, 39), (32, .aload_n 0, 33, 0), (33, .getfield 224, 36, 0), (36, .ifCond .eq 309, 39, 345), (39, .iload_n 3, 40, 0), (40, .ifCond .eq 140, 43, 180), (43, .aload_n 0, 44, 0), (44, .getfield 224, 47, 0), (47, .iconst 3, 48, 0), (48, .if_icmp .ne 49, 51, 97), (51, .aload_n 0, 52, 0), (52, .getfield 230, 55, 0), (55, .bipush 33, 57, 0), (57, .if_icmp .ne 40, 60, 97), (60, .iload_n 2, 61, 0), (61, .bipush 8, 63, 0), (63, .if_icmp .ge 34, 66, 97), (66, .aload_n 0, 67, 0), (67, .getfield 56, 70, 0), (70, .aload_n 0, 71, 0), (71, .getfield 242, 74, 0), (74, .bipush (-10), 76, 0), (76, .iastore, 77, 0), (77, .aload_n 0, 78, 0), (78, .dup, 79, 0), (79, .getfield 242, 82, 0), (82, .iconst 1, 83, 0), (83, .iadd, 84, 0), (84, .putfield 242, 87, 0), (87, .iinc 2 1, 90, 0), (90, .aload_n 0, 91, 0), (91, .invokevirtual 239, 94, 0), (94, .goto 78, 97, 172), (97, .aload_n 0, 98, 0), (98, .getfield 224, 101, 0), (101, .iconst 3, 102, 0), (102, .if_icmp .ne 56, 105, 158), (105, .aload_n 0, 106, 0), (106, .getfield 230, 109, 0), (109, .bipush 40, 111, 0), (111, .if_icmp .ne 47, 114, 158), (114, .iload_n 1, 115, 0), (115, .bipush 8, 117, 0), (117, .if_icmp .ge 41, 120, 158), (120, .aload_n 0, 121, 0), (121, .getfield 56, 124, 0), (124, .aload_n 0, 125, 0), (125, .getfield 242, 128, 0), (128, .bipush (-11), 130, 0), (130, .iastore, 131, 0), (131, .aload_n 0, 132, 0), (132, .dup, 133, 0), (133, .getfield 242, 136, 0), (136, .iconst 1, 137, 0), (137, .iadd, 138, 0), (138, .putfield 242, 141, 0), (141, .iinc 1 1, 144, 0), (144, .aload_n 0, 145, 0), (145, .getfield 59, 148, 0), (148, .iload_n 1, 149, 0), (149, .iconst 0, 150, 0), (150, .bastore, 151, 0), (151, .aload_n 0, 152, 0), (152, .invokevirtual 239, 155, 0), (155, .goto 17, 158, 172), (158, .aload_n 0, 159, 0), (159, .invokevirtual 260, 162, 0), (162, .ifCond .eq 8, 165, 170), (165, .iconst 0, 166, 0), (166, .istore_n 3, 167, 0), (167, .goto 5, 170, 172), (170, .iconst 0, 171, 0), (171, .ireturn, 172, 0), (172, .aload_n 0, 173, 0), (173, .invokevirtual 264, 176, 0), (176, .istore_n 2, 177, 0), (177, .goto (-149), 180, 28), (180, .aload_n 0, 181, 0), (181, .getfield 224, 184, 0), (184, .iconst 3, 185, 0), (185, .if_icmp .ne 52, 188, 237), (188, .aload_n 0, 189, 0), (189, .getfield 230, 192, 0), (192, .bipush 41, 194, 0), (194, .if_icmp .ne 43, 197, 237), (197, .iload_n 1, 198, 0), (198, .ifCond .le 39, 201, 237), (201, .aload_n 0, 202, 0), (202, .iconst 0, 203, 0), (203, .invokevirtual 257, 206, 0), (206, .aload_n 0, 207, 0), (207, .dup, 208, 0), (208, .getfield 242, 211, 0), (211, .iconst 1, 212, 0), (212, .isub, 213, 0), (213, .putfield 242, 216, 0), (216, .iinc 1 (-1), 219, 0), (219, .aload_n 0, 220, 0), (220, .bipush 6, 222, 0), (222, .invokevirtual 257, 225, 0), (225, .aload_n 0, 226, 0), (226, .invokevirtual 264, 229, 0), (229, .istore_n 2, 230, 0), (230, .aload_n 0, 231, 0), (231, .invokevirtual 239, 234, 0), (234, .goto (-206), 237, 28), (237, .aload_n 0, 238, 0), (238, .invokevirtual 267, 241, 0), (241, .istore 4, 243, 0), (243, .iload 4, 245, 0), (245, .ifCond .eq 21, 248, 266), (248, .iload 4, 250, 0), (250, .invokestatic 245, 253, 0), (253, .iconst 3, 254, 0), (254, .if_icmp .ne 14, 257, 268), (257, .aload_n 0, 258, 0), (258, .getfield 59, 261, 0), (261, .iload_n 1, 262, 0), (262, .baload, 263, 0), (263, .ifCond .eq 5, 266, 268), (266, .iconst 0, 267, 0), (267, .ireturn, 268, 0), (268, .aload_n 0, 269, 0), (269, .getfield 59, 272, 0), (272, .iload_n 1, 273, 0), (273, .iload 4, 275, 0), (275, .invokestatic 245, 278, 0), (278, .iconst 3, 279, 0), (279, .if_icmp .eq 21, 282, 300), (282, .iload 4, 284, 0), (284, .invokestatic 245, 287, 0), (287, .iconst 3, 288, 0), (288, .if_icmp .le 16, 291, 304), (291, .aload_n 0, 292, 0), (292, .getfield 59, 295, 0), (295, .iload_n 1, 296, 0), (296, .baload, 297, 0), (297, .ifCond .eq 7, 300, 304), (300, .iconst 1, 301, 0), (301, .goto 4, 304, 305), (304, .iconst 0, 305, 0), (305, .bastore, 306, 0), (306, .aload_n 0, 307, 0), (307, .iload 4, 309, 0), (309, .invokestatic 245, 312, 0), (312, .invokevirtual 257, 315, 0), (315, .aload_n 0, 316, 0), (316, .getfield 56, 319, 0), (319, .aload_n 0, 320, 0), (320, .getfield 242, 323, 0), (323, .iload 4, 325, 0), (325, .iastore, 326, 0), (326, .aload_n 0, 327, 0), (327, .dup, 328, 0), (328, .getfield 242, 331, 0), (331, .iconst 1, 332, 0), (332, .iadd, 333, 0), (333, .putfield 242, 336, 0), (336, .iconst 1, 337, 0), (337, .istore_n 3, 338, 0), (338, .aload_n 0, 339, 0), (339, .invokevirtual 239, 342, 0), (342, .goto (-314), 345, 28), (345, .aload_n 0, 346, 0), (346, .iconst 0, 347, 0), (347, .invokevirtual 257, 350, 0), (350, .iload_n 1, 351, 0), (351, .ifCond .ne 7, 354, 358), (354, .iconst 1, 355, 0), (355, .goto 4, 358, 359), (358, .iconst 0, 359, 0), (359, .ireturn, 360, 0)]
def ct_Mod_notsOpen : List (Nat × Instr × Nat × Nat) := [(0, .iconst 0, 1, 0), (1, .istore_n 1, 2, 0), (2, .iconst 0, 3, 0), (3, .istore_n 2, 4, 0), (4, .iload_n 2, 5, 0), (5, .aload_n 0, 6, 0), (6, .getfield 242, 9, 0), (9, .if_icmp .ge 28, 12, 37), (12, .iload_n 1, 13, 0), (13, .aload_n 0, 14, 0), (14, .getfield 56, 17, 0), (17, .iload_n 2, 18, 0), (18, .iaload, 19, 0), (19, .bipush (-10), 21, 0), (21, .if_icmp .ne 7, 24, 28), (24, .iconst 1, 25, 0), (25, .goto 4, 28, 29), (28, .iconst 0, 29, 0), (29, .iadd, 30, 0), (30, .istore_n 1, 31, 0), (31, .iinc 2 1, 34, 0), (34, .goto (-30), 37, 4), (37, .iload_n 1, 38, 0), (38, .ireturn, 39, 0)]
def ct_Mod_text : List (Nat × Instr × Nat × Nat) := [(0, .aload_n 0, 1, 0), (1, .iconst 0, 2, 0), (2, .putfield 215, 5, 0), (5, .aload_n 0, 6, 0), (6, .iconst (-1), 7, 0), (7, .putfield 221, 10, 0), (10, .aload_n 0, 11, 0), (11, .invokevirtual 239, 14, 0), (14, .aload_n 0, 15, 0), (15, .invokevirtual 270, 18, 0), (18, .ifCond .eq 14, 21, 32), (21, .aload_n 0, 22, 0), (22, .invokevirtual 273, 25, 0), (25, .ifCond .eq 7, 28, 32), (28, .iconst 1, 29, 0), (29, .goto 4, 32, 33), (32, .iconst 0, 33, 0), (33, .istore_n 1, 34, 0), (34, .aload_n 0, 35, 0), (35, .iconst 0, 36, 0), (36, .putfield 212, 39, 0), (39, .iload_n 1, 40, 0), (40, .ifCond .ne 11, 43, 51), (43, .bipush (-100), 45, 0), (45, .aload_n 0, 46, 0), (46, .getfield 218, 49, 0), (49, .isub, 50, 0), (50, .ireturn, 51, 0), (51, .aload_n 0, 52, 0), (52, .getfield 9, 55, 0), (55, .iconst 3, 56, 0), (56, .iaload, 57, 0), (57, .bipush 14, 59, 0), (59, .if_icmp .ne 6, 62, 65), (62, .ldc 113, 64, 0), (64, .ireturn, 65, 0), (65, .aload_n 0, 66, 0), (66, .getfield 9, 69, 0), (69, .iconst 3, 70, 0), (70, .iaload, 71, 0), (71, .istore_n 2, 72, 0), (72, .aload_n 0, 73, 0), (73, .getfield 9, 76, 0), (76, .sipush 160, 79, 0), (79, .iconst 2, 80, 0), (80, .iload_n 2, 81, 0), (81, .imul, 82, 0), (82, .iadd, 83, 0), (83, .sipush 1000, 86, 0), (86, .aload_n 0, 87, 0), (87, .getfield 236, 90, 0), (90, .imul, 91, 0), (91, .aload_n 0, 92, 0), (92, .getfield 248, 95, 0), (95, .iadd, 96, 0), (96, .iastore, 97, 0), (97, .aload_n 0, 98, 0), (98, .getfield 9, 101, 0), (101, .sipush 160, 104, 0), (104, .iconst 2, 105, 0), (105, .iload_n 2, 106, 0), (106, .imul, 107, 0), (107, .iadd, 108, 0), (108, .iconst 1, 109, 0), (109, .iadd, 110, 0), (110, .aload_n 0, 111, 0), (111, .getfield 254, 114, 0), (114, .iastore, 115, 0), (115, .iconst 0, 116, 0), (116, .istore_n 3, 117, 0), (117, .iload_n 3, 118, 0), (118, .aload_n 0, 119, 0), (119, .getfield 248, 122, 0), (122, .if_icmp .ge 30, 125, 152), (125, .aload_n 0, 126, 0), (126, .getfield 9, 129, 0), (129, .sipush 188, 132, 0), (132, .bipush 96, 134, 0), (134, .iload_n 2, 135, 0), (135, .imul, 136, 0), (136, .iadd, 137, 0), (137, .iload_n 3, 138, 0), (138, .iadd, 139, 0), (139, .aload_n 0, 140, 0), (140, .getfield 53, 143, 0), (143, .iload_n 3, 144, 0), (144, .iaload, 145, 0), (145, .iastore, 146, 0), (146, .iinc 3 1, 149, 0), (149, .goto (-32), 152, 117), (152, .aload_n 0, 153, 0), (153, .getfield 9, 156, 0), (156, .iconst 3, 157, 0), (157, .dup2, 158, 0), (158, .iaload, 159, 0), (159, .iconst 1, 160, 0), (160, .iadd, 161, 0), (161, .iastore, 162, 0), (162, .iload_n 2, 163, 0), (163, .ireturn, 164, 0)]
def ct_Mod_textTold : List (Nat × Instr × Nat × Nat) := [(0, .iload_n 1, 1, 0), (1, .iconst 0, 2, 0), (2, .aload_n 0, 3, 0), (3, .getfield 9, 6, 0), (6, .iconst 3, 7, 0), (7, .iaload, 8, 0), (8, .iconst 1, 9, 0), (9, .isub, 10, 0), (10, .invokestatic 96, 13, 0), (13, .ifCond .eq 12, 16, 25), (16, .iload_n 2, 17, 0), (17, .iconst 0, 18, 0), (18, .iconst 1, 19, 0), (19, .invokestatic 96, 22, 0), (22, .ifCond .ne 6, 25, 28), (25, .ldc 112, 27, 0), (27, .ireturn, 28, 0), (28, .iload_n 2, 29, 0), (29, .ifCond .ne 22, 32, 51), (32, .aload_n 0, 33, 0), (33, .getfield 9, 36, 0), (36, .sipush 160, 39, 0), (39, .iconst 2, 40, 0), (40, .iload_n 1, 41, 0), (41, .imul, 42, 0), (42, .iadd, 43, 0), (43, .iaload, 44, 0), (44, .sipush 1000, 47, 0), (47, .idiv, 48, 0), (48, .goto 17, 51, 65), (51, .aload_n 0, 52, 0), (52, .getfield 9, 55, 0), (55, .sipush 160, 58, 0), (58, .iconst 2, 59, 0), (59, .iload_n 1, 60, 0), (60, .imul, 61, 0), (61, .iadd, 62, 0), (62, .iconst 1, 63, 0), (63, .iadd, 64, 0), (64, .iaload, 65, 0), (65, .ireturn, 66, 0)]
def ct_Mod_counts : List (Nat × Instr × Nat × Nat) := [(0, .aload_n 0, 1, 0), (1, .getfield 9, 4, 0), (4, .iconst 3, 5, 0), (5, .iaload, 6, 0), (6, .iconst 1, 7, 0), (7, .isub, 8, 0), (8, .istore_n 2, 9, 0), (9, .iload_n 2, 10, 0), (10, .ifCond .lt 31, 13, 41), (13, .aload_n 0, 14, 0), (14, .getfield 9, 17, 0), (17, .sipush 160, 20, 0), (20, .iconst 2, 21, 0), (21, .iload_n 2, 22, 0), (22, .imul, 23, 0), (23, .iadd, 24, 0), (24, .iaload, 25, 0), (25, .sipush 1000, 28, 0), (28, .idiv, 29, 0), (29, .iload_n 1, 30, 0), (30, .if_icmp .ne 5, 33, 35), (33, .iload_n 2, 34, 0), (34, .ireturn, 35, 0), (35, .iinc 2 (-1), 38, 0), (38, .goto (-29), 41, 9), (41, .iconst (-1), 42, 0), (42, .ireturn, 43, 0)]
def ct_Mod_why : List (Nat × Instr × Nat × Nat) := [(0, .iload_n 1, 1, 0), (1, .iconst 0, 2, 0), (2, .iconst 2, 3, 0), (3, .invokestatic 96, 6, 0), (6, .ifCond .ne 6, 9, 12), (9, .ldc 112, 11, 0), (11, .ireturn, 12, 0), (12, .aload_n 0, 13, 0), (13, .iload_n 1, 14, 0), (14, .invokevirtual 124, 17, 0), (17, .istore_n 2, 18, 0), (18, .iload_n 2, 19, 0), (19, .ifCond .ge 8, 22, 27), (22, .ldc 195, 24, 0), (24, .goto 4, 27, 28), (27, .iload_n 2, 28, 0), (28, .ireturn, 29, 0)]
def ct_Mod_two : List (Nat × Instr × Nat × Nat) := [(0, .iload_n 0, 1, 0), (1, .tableswitch 120 (-8) (-1) #[116, 112, 108, 97, 86, 75, 61, 47], 48, 0), (48, .iload_n 1, 49, 0), (49, .ifCond .ne 7, 52, 56), (52, .iload_n 2, 53, 0), (53, .ifCond .eq 7, 56, 60), (56, .iconst 1, 57, 0), (57, .goto 4, 60, 61), (60, .iconst 0, 61, 0), (61, .ireturn, 62, 0), (62, .iload_n 1, 63, 0), (63, .ifCond .eq 11, 66, 74), (66, .iload_n 2, 67, 0), (67, .ifCond .eq 7, 70, 74), (70, .iconst 1, 71, 0), (71, .goto 4, 74, 75), (74, .iconst 0, 75, 0), (75, .ireturn, 76, 0), (76, .iload_n 1, 77, 0), (77, .iload_n 2, 78, 0), (78, .if_icmp .ge 7, 81, 85), (81, .iconst 1, 82, 0), (82, .goto 4, 85, 86), (85, .iconst 0, 86, 0), (86, .ireturn, 87, 0), (87, .iload_n 1, 88, 0), (88, .iload_n 2, 89, 0), (89, .if_icmp .ne 7, 92, 96), (92, .iconst 1, 93, 0), (93, .goto 4, 96, 97), (96, .iconst 0, 97, 0), (97, .ireturn, 98, 0), (98, .iload_n 1, 99, 0), (99, .iload_n 2, 100, 0), (100, .if_icmp .le 7, 103, 107), (103, .iconst 1, 104, 0), (104, .goto 4, 107, 108), (107, .iconst 0, 108, 0), (108, .ireturn, 109, 0), (109, .iload_n 1, 110, 0), (110, .iload_n 2, 111, 0), (111, .iadd, 112, 0), (112, .ireturn, 113, 0), (113, .iload_n 1, 114, 0), (114, .iload_n 2, 115, 0), (115, .isub, 116, 0), (116, .ireturn, 117, 0), (117, .iload_n 1, 118, 0), (118, .iload_n 2, 119, 0), (119, .imul, 120, 0), (120, .ireturn, 121, 0), (121, .iload_n 2, 122, 0), (122, .ifCond .ne 7, 125, 129), (125, .iconst 0, 126, 0), (126, .goto 6, 129, 132), (129, .iload_n 1, 130, 0), (130, .iload_n 2, 131, 0), (131, .idiv, 132, 0), (132, .ireturn, 133, 0)]
def ct_Mod_worksOut : List (Nat × Instr × Nat × Nat) := [(0, .iconst 0, 1, 0), (1, .istore_n 2, 2, 0), (2, .aload_n 0, 3, 0), (3, .getfield 9, 6, 0), (6, .sipush 160, 9, 0), (9, .iconst 2, 10, 0), (10, .iload_n 1, 11, 0), (11, .imul, 12, 0), (12, .iadd, 13, 0), (13, .iaload, 14, 0), (14, .sipush 1000, 17, 0), (17, .irem, 18, 0), (18, .istore_n 3, 19, 0), (19, .iconst 0, 20, 0), (20, .istore 4, 22, 0), (22, .iload 4, 24, 0), (24, .iload_n 3, 25, 0), (25, .if_icmp .ge 132, 28, 157), (28, .aload_n 0, 29, 0), (29, .getfield 9, 32, 0), (32, .sipush 188, 35, 0), (35, .bipush 96, 37, 0), (37, .iload_n 1, 38, 0), (38, .imul, 39, 0), (39, .iadd, 40, 0), (40, .iload 4, 42, 0), (42, .iadd, 43, 0), (43, .iaload, 44, 0), (44, .istore 5, 46, 0), (46, .iload 5, 48, 0), (48, .ifCond .lt 39, 51, 87), (51, .aload_n 0, 52, 0), (52, .getfield 63, 55, 0), (55, .iload_n 2, 56, 0), (56, .iload 5, 58, 0), (58, .sipush 10000, 61, 0), (61, .if_icmp .ge 8, 64, 69), (64, .iload 5, 66, 0), (66, .goto 14, 69, 80), (69, .aload_n 0, 70, 0), (70, .getfield 66, 73, 0), (73, .iload 5, 75, 0), (75, .sipush 10000, 78, 0), (78, .isub, 79, 0), (79, .iaload, 80, 0), (80, .iastore, 81, 0), (81, .iinc 2 1, 84, 0), (84, .goto 67, 87, 151), (87, .iload 5, 89, 0), (89, .bipush (-10), 91, 0), (91, .if_icmp .ne 30, 94, 121), (94, .aload_n 0, 95, 0), (95, .getfield 63, 98, 0), (98, .iload_n 2, 99, 0), (99, .iconst 1, 100, 0), (100, .isub, 101, 0), (101, .aload_n 0, 102, 0), (102, .getfield 63, 105, 0), (105, .iload_n 2, 106, 0), (106, .iconst 1, 107, 0), (107, .isub, 108, 0), (108, .iaload, 109, 0), (109, .ifCond .ne 7, 112, 116), (112, .iconst 1, 113, 0), (113, .goto 4, 116, 117), (116, .iconst 0, 117, 0), (117, .iastore, 118, 0), (118, .goto 33, 121, 151), (121, .iinc 2 (-1), 124, 0), (124, .aload_n 0, 125, 0), (125, .getfield 63, 128, 0), (128, .iload_n 2, 129, 0), (129, .iconst 1, 130, 0), (130, .isub, 131, 0), (131, .iload 5, 133, 0), (133, .aload_n 0, 134, 0), (134, .getfield 63, 137, 0), (137, .iload_n 2, 138, 0), (138, .iconst 1, 139, 0), (139, .isub, 140, 0), (140, .iaload, 141, 0), (141, .aload_n 0, 142, 0), (142, .getfield 63, 145, 0), (145, .iload_n 2, 146, 0), (146, .iaload, 147, 0), (147, .invokestatic 276, 150, 0), (150, .iastore, 151, 0), (151, .iinc 4 1, 154, 0), (154, .goto (-132), 157, 22), (157, .aload_n 0, 158, 0), (158, .getfield 63, 161, 0), (161, .iconst 0, 162, 0), (162, .iaload, 163, 0), (163, .ireturn, 164, 0)]
def ct_Mod_isSheet : List (Nat × Instr × Nat × Nat) := [(0, .iload_n 0, 1, 0), (1, .iconst 0, 2, 0), (2, .iconst 3, 3, 0), (3, .invokestatic 96, 6, 0), (6, .ireturn, 7, 0)]
def ct_Mod_isSlot : List (Nat × Instr × Nat × Nat) := [(0, .iload_n 0, 1, 0), (1, .iconst 0, 2, 0), (2, .iconst 4, 3, 0), (3, .invokestatic 96, 6, 0), (6, .ireturn, 7, 0)]
def ct_Mod_sheet : List (Nat × Instr × Nat × Nat) := [(0, .iload_n 1, 1, 0), (1, .invokestatic 279, 4, 0), (4, .ifCond .eq 22, 7, 26), (7, .iload_n 2, 8, 0), (8, .iconst (-1), 9, 0), (9, .iconst 1, 10, 0), (10, .invokestatic 96, 13, 0), (13, .ifCond .eq 13, 16, 26), (16, .iload_n 2, 17, 0), (17, .ifCond .lt 12, 20, 29), (20, .iload_n 3, 21, 0), (21, .bipush 24, 23, 0), (23, .if_icmp .le 6, 26, 29), (26, .ldc 112, 28, 0), (28, .ireturn, 29, 0), (29, .iload_n 2, 30, 0), (30, .ifCond .lt 11, 33, 41), (33, .iload_n 3, 34, 0), (34, .ifCond .ge 7, 37, 41), (37, .ldc_w 282, 40, 0), (40, .ireturn, 41, 0), (41, .aload_n 0, 42, 0), (42, .getfield 69, 45, 0), (45, .iload_n 1, 46, 0), (46, .iload_n 2, 47, 0), (47, .iastore, 48, 0), (48, .aload_n 0, 49, 0), (49, .getfield 72, 52, 0), (52, .iload_n 1, 53, 0), (53, .iload_n 2, 54, 0), (54, .ifCond .ge 7, 57, 61), (57, .iconst 0, 58, 0), (58, .goto 4, 61, 62), (61, .iload_n 3, 62, 0), (62, .iastore, 63, 0), (63, .iconst 0, 64, 0), (64, .istore 4, 66, 0), (66, .iload 4, 68, 0), (68, .bipush 24, 70, 0), (70, .if_icmp .ge 22, 73, 92), (73, .aload_n 0, 74, 0), (74, .getfield 75, 77, 0), (77, .bipush 24, 79, 0), (79, .iload_n 1, 80, 0), (80, .imul, 81, 0), (81, .iload 4, 83, 0), (83, .iadd, 84, 0), (84, .iconst 0, 85, 0), (85, .iastore, 86, 0), (86, .iinc 4 1, 89, 0), (89, .goto (-23), 92, 66), (92, .aload_n 0, 93, 0), (93, .getfield 72, 96, 0), (96, .iload_n 1, 97, 0), (97, .iaload, 98, 0), (98, .ireturn, 99, 0)]
def ct_Mod_mark : List (Nat × Instr × Nat × Nat) := [(0, .iload_n 1, 1, 0), (1, .invokestatic 279, 4, 0), (4, .ifCond .ne 6, 7, 10), (7, .ldc 112, 9, 0), (9, .ireturn, 10, 0), (10, .aload_n 0, 11, 0), (11, .getfield 69, 14, 0), (14, .iload_n 1, 15, 0), (15, .iaload, 16, 0), (16, .ifCond .ge 7, 19, 23), (19, .ldc_w 283, 22, 0), (22, .ireturn, 23, 0), (23, .iload_n 2, 24, 0), (24, .iconst 0, 25, 0), (25, .aload_n 0, 26, 0), (26, .getfield 72, 29, 0), (29, .iload_n 1, 30, 0), (30, .iaload, 31, 0), (31, .iconst 1, 32, 0), (32, .isub, 33, 0), (33, .invokestatic 96, 36, 0), (36, .ifCond .ne 7, 39, 43), (39, .ldc_w 284, 42, 0), (42, .ireturn, 43, 0), (43, .aload_n 0, 44, 0), (44, .getfield 69, 47, 0), (47, .iload_n 1, 48, 0), (48, .iaload, 49, 0), (49, .ifCond .ne 12, 52, 61), (52, .iload_n 3, 53, 0), (53, .ldc 195, 55, 0), (55, .if_icmp .ne 6, 58, 61), (58, .ldc 165, 60, 0), (60, .ireturn, 61, 0), (61, .aload_n 0, 62, 0), (62, .getfield 69, 65, 0), (65, .iload_n 1, 66, 0), (66, .iaload, 67, 0), (67, .iconst 1, 68, 0), (68, .if_icmp .ne 25, 71, 93), (71, .iload_n 3, 72, 0), (72, .ldc 195, 74, 0), (74, .if_icmp .eq 19, 77, 93), (77, .iload_n 3, 78, 0), (78, .ldc_w 285, 81, 0), (81, .ldc_w 286, 84, 0), (84, .invokestatic 96, 87, 0), (87, .ifCond .ne 6, 90, 93), (90, .ldc 112, 92, 0), (92, .ireturn, 93, 0), (93, .aload_n 0, 94, 0), (94, .getfield 75, 97, 0), (97, .bipush 24, 99, 0), (99, .iload_n 1, 100, 0), (100, .imul, 101, 0), (101, .iload_n 2, 102, 0), (102, .iadd, 103, 0), (103, .aload_n 0, 104, 0), (104, .getfield 69, 107, 0), (107, .iload_n 1, 108, 0), (108, .iaload, 109, 0), (109, .ifCond .ne 8, 112, 117), (112, .iload_n 3, 113, 0), (113, .i2s, 114, 0), (114, .goto 4, 117, 118), (117, .iload_n 3, 118, 0), (118, .iastore, 119, 0), (119, .iconst 1, 120, 0), (120, .ireturn, 121, 0)]
def ct_Mod_pour : List (Nat × Instr × Nat × Nat) := [(0, .iload_n 1, 1, 0), (1, .invokestatic 279, 4, 0), (4, .ifCond .eq 11, 7, 15), (7, .aload_n 0, 8, 0), (8, .iload_n 2, 9, 0), (9, .invokevirtual 100, 12, 0), (12, .ifCond .ne 6, 15, 18), (15, .ldc 112, 17, 0), (17, .ireturn, 18, 0), (18, .aload_n 0, 19, 0), (19, .getfield 69, 22, 0), (22, .iload_n 1, 23, 0), (23, .iaload, 24, 0), (24, .ifCond .ge 7, 27, 31), (27, .ldc_w 283, 30, 0), (30, .ireturn, 31, 0), (31, .iconst 0, 32, 0), (32, .istore_n 3, 33, 0), (33, .iload_n 3, 34, 0), (34, .aload_n 0, 35, 0), (35, .getfield 72, 38, 0), (38, .iload_n 1, 39, 0), (39, .iaload, 40, 0), (40, .if_icmp .ge 26, 43, 66), (43, .aload_n 0, 44, 0), (44, .getfield 75, 47, 0), (47, .bipush 24, 49, 0), (49, .iload_n 1, 50, 0), (50, .imul, 51, 0), (51, .iload_n 3, 52, 0), (52, .iadd, 53, 0), (53, .iaload, 54, 0), (54, .invokestatic 143, 57, 0), (57, .ifCond .eq 9, 60, 66), (60, .iinc 3 1, 63, 0), (63, .goto (-30), 66, 33), (66, .aload_n 0, 67, 0), (67, .iload_n 2, 68, 0), (68, .iconst 4, 69, 0), (69, .invokevirtual 104, 72, 0), (72, .iload_n 3, 73, 0), (73, .iadd, 74, 0), (74, .bipush 10, 76, 0), (76, .if_icmp .le 6, 79, 82), (79, .ldc 113, 81, 0), (81, .ireturn, 82, 0), (82, .iconst 0, 83, 0), (83, .istore 4, 85, 0), (85, .iload 4, 87, 0), (87, .iload_n 3, 88, 0), (88, .if_icmp .ge 41, 91, 129), (91, .aload_n 0, 92, 0), (92, .getfield 75, 95, 0), (95, .bipush 24, 97, 0), (97, .iload_n 1, 98, 0), (98, .imul, 99, 0), (99, .iload 4, 101, 0), (101, .iadd, 102, 0), (102, .iaload, 103, 0), (103, .istore 5, 105, 0), (105, .aload_n 0, 106, 0), (106, .iload_n 2, 107, 0), (107, .iconst 0, 108, 0), (108, .iload 5, 110, 0), (110, .bipush 100, 112, 0), (112, .idiv, 113, 0), (113, .iload 5, 115, 0), (115, .bipush 100, 117, 0), (117, .irem, 118, 0), (118, .invokevirtual 146, 121, 0), (121, .istore 6, 123, 0), (123, .iinc 4 1, 126, 0), (126, .goto (-41), 129, 85), (129, .iload_n 3, 130, 0), (130, .ireturn, 131, 0)]
def ct_Mod_reads : List (Nat × Instr × Nat × Nat) := [(0, .iload_n 1, 1, 0), (1, .invokestatic 279, 4, 0), (4, .ifCond .eq 11, 7, 15), (7, .aload_n 0, 8, 0), (8, .iload_n 2, 9, 0), (9, .invokevirtual 100, 12, 0), (12, .ifCond .ne 6, 15, 18), (15, .ldc 112, 17, 0), (17, .ireturn, 18, 0), (18, .aload_n 0, 19, 0), (19, .getfield 69, 22, 0), (22, .iload_n 1, 23, 0), (23, .iaload, 24, 0), (24, .ifCond .ge 7, 27, 31), (27, .ldc_w 283, 30, 0), (30, .ireturn, 31, 0), (31, .aload_n 0, 32, 0), (32, .iload_n 2, 33, 0), (33, .invokevirtual 192, 36, 0), (36, .istore_n 3, 37, 0), (37, .iconst 0, 38, 0), (38, .istore 4, 40, 0), (40, .iload 4, 42, 0), (42, .aload_n 0, 43, 0), (43, .getfield 72, 46, 0), (46, .iload_n 1, 47, 0), (47, .iaload, 48, 0), (48, .if_icmp .ge 89, 51, 137), (51, .aload_n 0, 52, 0), (52, .getfield 75, 55, 0), (55, .bipush 24, 57, 0), (57, .iload_n 1, 58, 0), (58, .imul, 59, 0), (59, .iload 4, 61, 0), (61, .iadd, 62, 0), (62, .iaload, 63, 0), (63, .istore 5, 65, 0), (65, .iload 4, 67, 0), (67, .iconst 2, 68, 0), (68, .idiv, 69, 0), (69, .aload_n 0, 70, 0), (70, .getfield 171, 73, 0), (73, .if_icmp .gt 40, 76, 113), (76, .iload 5, 78, 0), (78, .iload 4, 80, 0), (80, .iconst 2, 81, 0), (81, .irem, 82, 0), (82, .ifCond .ne 15, 85, 97), (85, .aload_n 0, 86, 0), (86, .getfield 28, 89, 0), (89, .iload 4, 91, 0), (91, .iconst 2, 92, 0), (92, .idiv, 93, 0), (93, .iaload, 94, 0), (94, .goto 12, 97, 106), (97, .aload_n 0, 98, 0), (98, .getfield 31, 101, 0), (101, .iload 4, 103, 0), (103, .iconst 2, 104, 0), (104, .idiv, 105, 0), (105, .iaload, 106, 0), (106, .if_icmp .ne 7, 109, 113), (109, .iconst 1, 110, 0), (110, .goto 4, 113, 114), (113, .iconst 0, 114, 0), (114, .istore 6, 116, 0), (116, .iload 5, 118, 0), (118, .ldc 195, 120, 0), (120, .if_icmp .eq 11, 123, 131), (123, .iload 6, 125, 0), (125, .ifCond .ne 6, 128, 131), (128, .iload 4, 130, 0), (130, .ireturn, 131, 0), (131, .iinc 4 1, 134, 0), (134, .goto (-94), 137, 40), (137, .ldc 195, 139, 0), (139, .ireturn, 140, 0)]
def ct_Mod_copy : List (Nat × Instr × Nat × Nat) := [(0, .iload_n 1, 1, 0), (1, .invokestatic 279, 4, 0), (4, .ifCond .eq 10, 7, 14), (7, .iload_n 3, 8, 0), (8, .invokestatic 279, 11, 0), (11, .ifCond .ne 6, 14, 17), (14, .ldc 112, 16, 0), (16, .ireturn, 17, 0), (17, .aload_n 0, 18, 0), (18, .getfield 69, 21, 0), (21, .iload_n 1, 22, 0), (22, .iaload, 23, 0), (23, .ifCond .lt 12, 26, 35), (26, .aload_n 0, 27, 0), (27, .getfield 69, 30, 0), (30, .iload_n 3, 31, 0), (31, .iaload, 32, 0), (32, .ifCond .ge 7, 35, 39), (35, .ldc_w 283, 38, 0), (38, .ireturn, 39, 0), (39, .aload_n 0, 40, 0), (40, .getfield 69, 43, 0), (43, .iload_n 1, 44, 0), (44, .iaload, 45, 0), (45, .aload_n 0, 46, 0), (46, .getfield 69, 49, 0), (49, .iload_n 3, 50, 0), (50, .iaload, 51, 0), (51, .if_icmp .eq 6, 54, 57), (54, .ldc 165, 56, 0), (56, .ireturn, 57, 0), (57, .iload_n 2, 58, 0), (58, .ifCond .lt 40, 61, 98), (61, .iload 4, 63, 0), (63, .ifCond .lt 35, 66, 98), (66, .iload 5, 68, 0), (68, .ifCond .lt 30, 71, 98), (71, .iload_n 2, 72, 0), (72, .aload_n 0, 73, 0), (73, .getfield 72, 76, 0), (76, .iload_n 1, 77, 0), (77, .iaload, 78, 0), (78, .iload 5, 80, 0), (80, .isub, 81, 0), (81, .if_icmp .gt 17, 84, 98), (84, .iload 4, 86, 0), (86, .aload_n 0, 87, 0), (87, .getfield 72, 90, 0), (90, .iload_n 3, 91, 0), (91, .iaload, 92, 0), (92, .iload 5, 94, 0), (94, .isub, 95, 0), (95, .if_icmp .le 7, 98, 102), (98, .ldc_w 284, 101, 0), (101, .ireturn, 102, 0), (102, .iconst 0, 103, 0), (103, .istore 6, 105, 0), (105, .iload 6, 107, 0), (107, .iload 5, 109, 0), (109, .if_icmp .ge 30, 112, 139), (112, .aload_n 0, 113, 0), (113, .getfield 90, 116, 0), (116, .iload 6, 118, 0), (118, .aload_n 0, 119, 0), (119, .getfield 75, 122, 0), (122, .bipush 24, 124, 0), (124, .iload_n 1, 125, 0), (125, .imul, 126, 0), (126, .iload_n 2, 127, 0), (127, .iadd, 128, 0), (128, .iload 6, 130, 0), (130, .iadd, 131, 0), (131, .iaload, 132, 0), (132, .iastore, 133, 0), (133, .iinc 6 1, 136, 0), (136, .goto (-31), 139, 105), (139, .iconst 0, 140, 0), (140, .istore 6, 142, 0), (142, .iload 6, 144, 0), (144, .iload 5, 146, 0), (146, .if_icmp .ge 31, 149, 177), (149, .aload_n 0, 150, 0), (150, .getfield 75, 153, 0), (153, .bipush 24, 155, 0), (155, .iload_n 3, 156, 0), (156, .imul, 157, 0), (157, .iload 4, 159, 0), (159, .iadd, 160, 0), (160, .iload 6, 162, 0), (162, .iadd, 163, 0), (163, .aload_n 0, 164, 0), (164, .getfield 90, 167, 0), (167, .iload 6, 169, 0), (169, .iaload, 170, 0), (170, .iastore, 171, 0), (171, .iinc 6 1, 174, 0), (174, .goto (-32), 177, 142), (177, .iload 5, 179, 0), (179, .ireturn, 180, 0)]
def ct_Mod_lay : List (Nat × Instr × Nat × Nat) := [(0, .iload_n 1, 1, 0), (1, .invokestatic 287, 4, 0), (4, .ifCond .eq 48, 7, 52), (7, .iload_n 2, 8, 0), (8, .iconst 0, 9, 0), (9, .iconst 3, 10, 0), (10, .invokestatic 96, 13, 0), (13, .ifCond .eq 39, 16, 52), (16, .iload_n 2, 17, 0), (17, .iconst 1, 18, 0), (18, .if_icmp .ne 22, 21, 40), (21, .iload_n 3, 22, 0), (22, .ifCond .lt 30, 25, 52), (25, .aload_n 0, 26, 0), (26, .iload_n 3, 27, 0), (27, .bipush 100, 29, 0), (29, .idiv, 30, 0), (30, .iload_n 3, 31, 0), (31, .bipush 100, 33, 0), (33, .irem, 34, 0), (34, .invokevirtual 153, 37, 0), (37, .ifCond .eq 15, 40, 52), (40, .iload_n 2, 41, 0), (41, .iconst 2, 42, 0), (42, .if_icmp .ne 13, 45, 55), (45, .iload_n 3, 46, 0), (46, .invokestatic 279, 49, 0), (49, .ifCond .ne 6, 52, 55), (52, .ldc 112, 54, 0), (54, .ireturn, 55, 0), (55, .iload_n 2, 56, 0), (56, .iconst 2, 57, 0), (57, .if_icmp .ne 16, 60, 73), (60, .aload_n 0, 61, 0), (61, .getfield 69, 64, 0), (64, .iload_n 3, 65, 0), (65, .iaload, 66, 0), (66, .ifCond .ge 7, 69, 73), (69, .ldc_w 283, 72, 0), (72, .ireturn, 73, 0), (73, .aload_n 0, 74, 0), (74, .getfield 78, 77, 0), (77, .iload_n 1, 78, 0), (78, .iaload, 79, 0), (79, .istore 4, 81, 0), (81, .aload_n 0, 82, 0), (82, .getfield 78, 85, 0), (85, .iload_n 1, 86, 0), (86, .iload_n 2, 87, 0), (87, .iastore, 88, 0), (88, .aload_n 0, 89, 0), (89, .getfield 81, 92, 0), (92, .iload_n 1, 93, 0), (93, .iload_n 2, 94, 0), (94, .iconst 1, 95, 0), (95, .if_icmp .ne 19, 98, 114), (98, .aload_n 0, 99, 0), (99, .iload_n 3, 100, 0), (100, .bipush 100, 102, 0), (102, .idiv, 103, 0), (103, .iload_n 3, 104, 0), (104, .bipush 100, 106, 0), (106, .irem, 107, 0), (107, .iconst 0, 108, 0), (108, .invokevirtual 150, 111, 0), (111, .goto 18, 114, 129), (114, .iload_n 2, 115, 0), (115, .iconst 2, 116, 0), (116, .if_icmp .ne 12, 119, 128), (119, .aload_n 0, 120, 0), (120, .getfield 72, 123, 0), (123, .iload_n 3, 124, 0), (124, .iaload, 125, 0), (125, .goto 4, 128, 129), (128, .iload_n 3, 129, 0), (129, .iastore, 130, 0), (130, .aload_n 0, 131, 0), (131, .getfield 84, 134, 0), (134, .iload_n 1, 135, 0), (135, .iload_n 2, 136, 0), (136, .iconst 1, 137, 0), (137, .if_icmp .ne 18, 140, 155), (140, .aload_n 0, 141, 0), (141, .iload_n 3, 142, 0), (142, .bipush 100, 144, 0), (144, .idiv, 145, 0), (145, .iload_n 3, 146, 0), (146, .bipush 100, 148, 0), (148, .irem, 149, 0), (149, .invokevirtual 159, 152, 0), (152, .goto 4, 155, 156), (155, .iconst 0, 156, 0), (156, .iastore, 157, 0), (157, .iconst 0, 158, 0), (158, .istore 5, 160, 0), (160, .iload 5, 162, 0), (162, .bipush 24, 164, 0), (164, .if_icmp .ge 38, 167, 202), (167, .iload_n 2, 168, 0), (168, .iconst 2, 169, 0), (169, .if_icmp .ne 33, 172, 202), (172, .aload_n 0, 173, 0), (173, .getfield 87, 176, 0), (176, .bipush 24, 178, 0), (178, .iload_n 1, 179, 0), (179, .imul, 180, 0), (180, .iload 5, 182, 0), (182, .iadd, 183, 0), (183, .aload_n 0, 184, 0), (184, .getfield 75, 187, 0), (187, .bipush 24, 189, 0), (189, .iload_n 3, 190, 0), (190, .imul, 191, 0), (191, .iload 5, 193, 0), (193, .iadd, 194, 0), (194, .iaload, 195, 0), (195, .iastore, 196, 0), (196, .iinc 5 1, 199, 0), (199, .goto (-39), 202, 160), (202, .iload 4, 204, 0), (204, .ireturn, 205, 0)]
def ct_Mod_ask : List (Nat × Instr × Nat × Nat) := [(0, .iload_n 1, 1, 0), (1, .invokestatic 287, 4, 0), (4, .ifCond .eq 12, 7, 16), (7, .iload_n 2, 8, 0), (8, .iconst 0, 9, 0), (9, .iconst 5, 10, 0), (10, .invokestatic 96, 13, 0), (13, .ifCond .ne 6, 16, 19), (16, .ldc 112, 18, 0), (18, .ireturn, 19, 0), (19, .aload_n 0, 20, 0), (20, .getfield 78, 23, 0), (23, .iload_n 1, 24, 0), (24, .iaload, 25, 0), (25, .ifCond .ne 7, 28, 32), (28, .ldc_w 283, 31, 0), (31, .ireturn, 32, 0), (32, .aload_n 0, 33, 0), (33, .getfield 78, 36, 0), (36, .iload_n 1, 37, 0), (37, .iaload, 38, 0), (38, .iconst 1, 39, 0), (39, .if_icmp .ne 25, 42, 64), (42, .aload_n 0, 43, 0), (43, .getfield 81, 46, 0), (46, .iload_n 1, 47, 0), (47, .iaload, 48, 0), (48, .iload_n 2, 49, 0), (49, .invokestatic 162, 52, 0), (52, .ifCond .eq 12, 55, 64), (55, .aload_n 0, 56, 0), (56, .getfield 84, 59, 0), (59, .iload_n 1, 60, 0), (60, .iaload, 61, 0), (61, .goto 5, 64, 66), (64, .ldc 165, 66, 0), (66, .ireturn, 67, 0)]
def ct_Mod_item : List (Nat × Instr × Nat × Nat) := [(0, .iload_n 1, 1, 0), (1, .invokestatic 287, 4, 0), (4, .ifCond .ne 6, 7, 10), (7, .ldc 112, 9, 0), (9, .ireturn, 10, 0), (10, .aload_n 0, 11, 0), (11, .getfield 78, 14, 0), (14, .iload_n 1, 15, 0), (15, .iaload, 16, 0), (16, .ifCond .ne 7, 19, 23), (19, .ldc_w 283, 22, 0), (22, .ireturn, 23, 0), (23, .aload_n 0, 24, 0), (24, .getfield 78, 27, 0), (27, .iload_n 1, 28, 0), (28, .iaload, 29, 0), (29, .iconst 2, 30, 0), (30, .if_icmp .eq 6, 33, 36), (33, .ldc 165, 35, 0), (35, .ireturn, 36, 0), (36, .iload_n 2, 37, 0), (37, .iconst 0, 38, 0), (38, .aload_n 0, 39, 0), (39, .getfield 81, 42, 0), (42, .iload_n 1, 43, 0), (43, .iaload, 44, 0), (44, .iconst 1, 45, 0), (45, .isub, 46, 0), (46, .invokestatic 96, 49, 0), (49, .ifCond .ne 7, 52, 56), (52, .ldc_w 284, 55, 0), (55, .ireturn, 56, 0), (56, .aload_n 0, 57, 0), (57, .getfield 87, 60, 0), (60, .bipush 24, 62, 0), (62, .iload_n 1, 63, 0), (63, .imul, 64, 0), (64, .iload_n 2, 65, 0), (65, .iadd, 66, 0), (66, .iaload, 67, 0), (67, .istore_n 3, 68, 0), (68, .iload_n 3, 69, 0), (69, .ldc 195, 71, 0), (71, .if_icmp .ne 8, 74, 79), (74, .ldc 165, 76, 0), (76, .goto 4, 79, 80), (79, .iload_n 3, 80, 0), (80, .ireturn, 81, 0)]
def ct_Mod_rest : List (Nat × Instr × Nat × Nat) := [(0, .iload_n 1, 1, 0), (1, .invokestatic 287, 4, 0), (4, .ifCond .ne 6, 7, 10), (7, .ldc 112, 9, 0), (9, .ireturn, 10, 0), (10, .aload_n 0, 11, 0), (11, .getfield 78, 14, 0), (14, .iload_n 1, 15, 0), (15, .iaload, 16, 0), (16, .ifCond .ne 7, 19, 23), (19, .ldc_w 283, 22, 0), (22, .ireturn, 23, 0), (23, .aload_n 0, 24, 0), (24, .getfield 78, 27, 0), (27, .iload_n 1, 28, 0), (28, .iaload, 29, 0), (29, .iconst 3, 30, 0), (30, .if_icmp .eq 6, 33, 36), (33, .ldc 165, 35, 0), (35, .ireturn, 36, 0), (36, .iload_n 2, 37, 0), (37, .ifCond .ne 9, 40, 46), (40, .ldc_w 290, 43, 0), (43, .goto 20, 46, 63), (46, .iload_n 2, 47, 0), (47, .iconst (-1), 48, 0), (48, .if_icmp .ne 7, 51, 55), (51, .iconst 0, 52, 0), (52, .goto 11, 55, 63), (55, .aload_n 0, 56, 0), (56, .getfield 81, 59, 0), (59, .iload_n 1, 60, 0), (60, .iaload, 61, 0), (61, .iload_n 2, 62, 0), (62, .irem, 63, 0), (63, .ireturn, 64, 0)]
def ct_Mod_tell : List (Nat × Instr × Nat × Nat) := [(0, .aload_n 0, 1, 0), (1, .getfield 291, 4, 0), (4, .bipush 60, 6, 0), (6, .if_icmp .ne 6, 9, 12), (9, .ldc 113, 11, 0), (11, .ireturn, 12, 0), (12, .aload_n 0, 13, 0), (13, .getfield 93, 16, 0), (16, .aload_n 0, 17, 0), (17, .getfield 291, 20, 0), (20, .iload_n 1, 21, 0), (21, .iastore, 22, 0), (22, .aload_n 0, 23, 0), (23, .dup, 24, 0), (24, .getfield 291, 27, 0), (27, .iconst 1, 28, 0), (28, .iadd, 29, 0), (29, .putfield 291, 32, 0), (32, .aload_n 0, 33, 0), (33, .getfield 291, 36, 0), (36, .ireturn, 37, 0)]
def ct_Mod_check : List (Nat × Instr × Nat × Nat) := [(0, .aload_n 0, 1, 0), (1, .getfield 291, 4, 0), (4, .istore_n 2, 5, 0), (5, .aload_n 0, 6, 0), (6, .iconst 0, 7, 0), (7, .putfield 291, 10, 0), (10, .aload_n 0, 11, 0), (11, .getfield 294, 14, 0), (14, .ifCond .ne 7, 17, 21), (17, .ldc_w 290, 20, 0), (20, .ireturn, 21, 0), (21, .iload_n 1, 22, 0), (22, .iconst 0, 23, 0), (23, .aload_n 0, 24, 0), (24, .getfield 13, 27, 0), (27, .iconst 2, 28, 0), (28, .iaload, 29, 0), (29, .iconst 1, 30, 0), (30, .isub, 31, 0), (31, .invokestatic 96, 34, 0), (34, .ifCond .ne 6, 37, 40), (37, .ldc 112, 39, 0), (39, .ireturn, 40, 0), (40, .aload_n 0, 41, 0), (41, .getfield 9, 44, 0), (44, .aload_n 0, 45, 0), (45, .getfield 16, 48, 0), (48, .invokestatic 298, 51, 0), (51, .aload_n 0, 52, 0), (52, .getfield 13, 55, 0), (55, .aload_n 0, 56, 0), (56, .getfield 9, 59, 0), (59, .invokestatic 298, 62, 0), (62, .aload_n 0, 63, 0), (63, .iload_n 1, 64, 0), (64, .invokevirtual 192, 67, 0), (67, .istore_n 3, 68, 0), (68, .aload_n 0, 69, 0), (69, .getfield 16, 72, 0), (72, .aload_n 0, 73, 0), (73, .getfield 9, 76, 0), (76, .invokestatic 298, 79, 0), (79, .iconst 0, 80, 0), (80, .istore 4, 82, 0), (82, .iload 4, 84, 0), (84, .iload_n 2, 85, 0), (85, .if_icmp .ge 62, 88, 147), (88, .iload 4, 90, 0), (90, .iconst 2, 91, 0), (91, .aload_n 0, 92, 0), (92, .getfield 171, 95, 0), (95, .imul, 96, 0), (96, .if_icmp .ge 51, 99, 147), (99, .aload_n 0, 100, 0), (100, .getfield 93, 103, 0), (103, .iload 4, 105, 0), (105, .iaload, 106, 0), (106, .iload 4, 108, 0), (108, .iconst 2, 109, 0), (109, .irem, 110, 0), (110, .ifCond .ne 17, 113, 127), (113, .aload_n 0, 114, 0), (114, .getfield 28, 117, 0), (117, .iload 4, 119, 0), (119, .iconst 2, 120, 0), (120, .idiv, 121, 0), (121, .iconst 1, 122, 0), (122, .iadd, 123, 0), (123, .iaload, 124, 0), (124, .goto 14, 127, 138), (127, .aload_n 0, 128, 0), (128, .getfield 31, 131, 0), (131, .iload 4, 133, 0), (133, .iconst 2, 134, 0), (134, .idiv, 135, 0), (135, .iconst 1, 136, 0), (136, .iadd, 137, 0), (137, .iaload, 138, 0), (138, .if_icmp .ne 9, 141, 147), (141, .iinc 4 1, 144, 0), (144, .goto (-62), 147, 82), (147, .iload 4, 149, 0), (149, .iload_n 2, 150, 0), (150, .if_icmp .ne 18, 153, 168), (153, .iload 4, 155, 0), (155, .iconst 2, 156, 0), (156, .aload_n 0, 157, 0), (157, .getfield 171, 160, 0), (160, .imul, 161, 0), (161, .if_icmp .ne 7, 164, 168), (164, .iconst 0, 165, 0), (165, .goto 7, 168, 172), (168, .iconst 1, 169, 0), (169, .iload 4, 171, 0), (171, .iadd, 172, 0), (172, .ireturn, 173, 0)]
def ct_Mod_keep : List (Nat × Instr × Nat × Nat) := [(0, .aload_n 0, 1, 0), (1, .getfield 9, 4, 0), (4, .aload_n 0, 5, 0), (5, .getfield 13, 8, 0), (8, .invokestatic 298, 11, 0), (11, .aload_n 0, 12, 0), (12, .iconst 1, 13, 0), (13, .putfield 294, 16, 0), (16, .aload_n 0, 17, 0), (17, .getfield 9, 20, 0), (20, .iconst 2, 21, 0), (21, .iaload, 22, 0), (22, .ireturn, 23, 0)]
def ct_Mod_back : List (Nat × Instr × Nat × Nat) := [(0, .aload_n 0, 1, 0), (1, .getfield 294, 4, 0), (4, .ifCond .ne 7, 7, 11), (7, .ldc_w 290, 10, 0), (10, .ireturn, 11, 0), (11, .aload_n 0, 12, 0), (12, .getfield 13, 15, 0), (15, .aload_n 0, 16, 0), (16, .getfield 9, 19, 0), (19, .invokestatic 298, 22, 0), (22, .aload_n 0, 23, 0), (23, .getfield 9, 26, 0), (26, .iconst 2, 27, 0), (27, .iaload, 28, 0), (28, .ireturn, 29, 0)]
def ct_Mod_count : List (Nat × Instr × Nat × Nat) := [(0, .iconst 0, 1, 0), (1, .istore_n 2, 2, 0), (2, .iload_n 1, 3, 0), (3, .tableswitch 108 0 6 #[41, 48, 55, 84, 91, 96, 101], 44, 0), (44, .aload_n 0, 45, 0), (45, .getfield 9, 48, 0), (48, .iconst 1, 49, 0), (49, .iaload, 50, 0), (50, .ireturn, 51, 0), (51, .aload_n 0, 52, 0), (52, .getfield 9, 55, 0), (55, .iconst 2, 56, 0), (56, .iaload, 57, 0), (57, .ireturn, 58, 0), (58, .iconst 0, 59, 0), (59, .istore_n 3, 60, 0), (60, .iload_n 3, 61, 0), (61, .aload_n 0, 62, 0), (62, .getfield 9, 65, 0), (65, .iconst 2, 66, 0), (66, .iaload, 67, 0), (67, .if_icmp .ge 18, 70, 85), (70, .iload_n 2, 71, 0), (71, .aload_n 0, 72, 0), (72, .iload_n 3, 73, 0), (73, .iconst 4, 74, 0), (74, .invokevirtual 104, 77, 0), (77, .iadd, 78, 0), (78, .istore_n 2, 79, 0), (79, .iinc 3 1, 82, 0), (82, .goto (-22), 85, 60), (85, .iload_n 2, 86, 0), (86, .ireturn, 87, 0), (87, .aload_n 0, 88, 0), (88, .getfield 9, 91, 0), (91, .iconst 3, 92, 0), (92, .iaload, 93, 0), (93, .ireturn, 94, 0), (94, .aload_n 0, 95, 0), (95, .getfield 291, 98, 0), (98, .ireturn, 99, 0), (99, .aload_n 0, 100, 0), (100, .getfield 212, 103, 0), (103, .ireturn, 104, 0), (104, .aload_n 0, 105, 0), (105, .getfield 9, 108, 0), (108, .iconst 0, 109, 0), (109, .iaload, 110, 0), (110, .ireturn, 111, 0), (111, .ldc 112, 113, 0), (113, .ireturn, 114, 0)]
def ct_Integer_bitCount : List (Nat × Instr × Nat × Nat) := [(0, .iload_n 0, 1, 0), (1, .iload_n 0, 2, 0), (2, .iconst 1, 3, 0), (3, .iushr, 4, 0), (4, .ldc_w 265, 7, 0), (7, .iand, 8, 0), (8, .isub, 9, 0), (9, .istore_n 0, 10, 0), (10, .iload_n 0, 11, 0), (11, .ldc_w 266, 14, 0), (14, .iand, 15, 0), (15, .iload_n 0, 16, 0), (16, .iconst 2, 17, 0), (17, .iushr, 18, 0), (18, .ldc_w 266, 21, 0), (21, .iand, 22, 0), (22, .iadd, 23, 0), (23, .istore_n 0, 24, 0), (24, .iload_n 0, 25, 0), (25, .iload_n 0, 26, 0), (26, .iconst 4, 27, 0), (27, .iushr, 28, 0), (28, .iadd, 29, 0), (29, .ldc_w 267, 32, 0), (32, .iand, 33, 0), (33, .istore_n 0, 34, 0), (34, .iload_n 0, 35, 0), (35, .iload_n 0, 36, 0), (36, .bipush 8, 38, 0), (38, .iushr, 39, 0), (39, .iadd, 40, 0), (40, .istore_n 0, 41, 0), (41, .iload_n 0, 42, 0), (42, .iload_n 0, 43, 0), (43, .bipush 16, 45, 0), (45, .iushr, 46, 0), (46, .iadd, 47, 0), (47, .istore_n 0, 48, 0), (48, .iload_n 0, 49, 0), (49, .bipush 63, 51, 0), (51, .iand, 52, 0), (52, .ireturn, 53, 0)]
def ct_Math_floorDiv : List (Nat × Instr × Nat × Nat) := [(0, .iload_n 0, 1, 0), (1, .iload_n 1, 2, 0), (2, .idiv, 3, 0), (3, .istore_n 2, 4, 0), (4, .iload_n 0, 5, 0), (5, .iload_n 1, 6, 0), (6, .ixor, 7, 0), (7, .ifCond .ge 14, 10, 21), (10, .iload_n 2, 11, 0), (11, .iload_n 1, 12, 0), (12, .imul, 13, 0), (13, .iload_n 0, 14, 0), (14, .if_icmp .eq 7, 17, 21), (17, .iload_n 2, 18, 0), (18, .iconst 1, 19, 0), (19, .isub, 20, 0), (20, .ireturn, 21, 0), (21, .iload_n 2, 22, 0), (22, .ireturn, 23, 0)]
def ct_Math_abs : List (Nat × Instr × Nat × Nat) := [(0, .iload_n 0, 1, 0), (1, .ifCond .ge 8, 4, 9), (4, .iload_n 0, 5, 0), (5, .ineg, 6, 0), (6, .goto 4, 9, 10), (9, .iload_n 0, 10, 0), (10, .ireturn, 11, 0)]
def ct_Math_max : List (Nat × Instr × Nat × Nat) := [(0, .iload_n 0, 1, 0), (1, .iload_n 1, 2, 0), (2, .if_icmp .lt 7, 5, 9), (5, .iload_n 0, 6, 0), (6, .goto 4, 9, 10), (9, .iload_n 1, 10, 0), (10, .ireturn, 11, 0)]
def ct_Math_min : List (Nat × Instr × Nat × Nat) := [(0, .iload_n 0, 1, 0), (1, .iload_n 1, 2, 0), (2, .if_icmp .gt 7, 5, 9), (5, .iload_n 0, 6, 0), (6, .goto 4, 9, 10), (9, .iload_n 1, 10, 0), (10, .ireturn, 11, 0)]
def ct_String_length : List (Nat × Instr × Nat × Nat) := [(0, .aload_n 0, 1, 0), (1, .getfield 9, 4, 0), (4, .arraylength, 5, 0), (5, .aload_n 0, 6, 0), (6, .invokevirtual 335, 9, 0), (9, .ishr, 10, 0), (10, .ireturn, 11, 0)]
def ct_String_charAt : List (Nat × Instr × Nat × Nat) := [(0, .aload_n 0, 1, 0), (1, .invokevirtual 492, 4, 0), (4, .ifCond .eq 12, 7, 16), (7, .aload_n 0, 8, 0), (8, .getfield 9, 11, 0), (11, .iload_n 1, 12, 0), (12, .invokestatic 495, 15, 0), (15, .ireturn, 16, 0), (16, .aload_n 0, 17, 0), (17, .getfield 9, 20, 0), (20, .iload_n 1, 21, 0), (21, .invokestatic 498, 24, 0), (24, .ireturn, 25, 0)]
def ct_String_coder : List (Nat × Instr × Nat × Nat) := [(0, .getstatic 38, 3, 0), (3, .ifCond .eq 10, 6, 13), (6, .aload_n 0, 7, 0), (7, .getfield 15, 10, 0), (10, .goto 4, 13, 14), (13, .iconst 1, 14, 0), (14, .ireturn, 15, 0)]
def ct_String_isLatin1 : List (Nat × Instr × Nat × Nat) := [(0, .getstatic 38, 3, 0), (3, .ifCond .eq 14, 6, 17), (6, .aload_n 0, 7, 0), (7, .getfield 15, 10, 0), (10, .ifCond .ne 7, 13, 17), (13, .iconst 1, 14, 0), (14, .goto 4, 17, 18), (17, .iconst 0, 18, 0), (18, .ireturn, 19, 0)]
def ct_String_checkIndex : List (Nat × Instr × Nat × Nat) := [(0, .iload_n 0, 1, 0), (1, .iload_n 1, 2, 0), (2, .getstatic 1053, 5, 0), (5, .invokestatic 1059, 8, 0), (8, .pop, 9, 0), (9, .return_, 10, 0)]
def ct_StringLatin1_charAt : List (Nat × Instr × Nat × Nat) := [(0, .iload_n 1, 1, 0), (1, .aload_n 0, 2, 0), (2, .arraylength, 3, 0), (3, .invokestatic 9, 6, 0), (6, .aload_n 0, 7, 0), (7, .iload_n 1, 8, 0), (8, .baload, 9, 0), (9, .sipush 255, 12, 0), (12, .iand, 13, 0), (13, .i2c, 14, 0), (14, .ireturn, 15, 0)]
def ct_Arrays_fill : List (Nat × Instr × Nat × Nat) := [(0, .iconst 0, 1, 0), (1, .istore_n 2, 2, 0), (2, .aload_n 0, 3, 0), (3, .arraylength, 4, 0), (4, .istore_n 3, 5, 0), (5, .iload_n 2, 6, 0), (6, .iload_n 3, 7, 0), (7, .if_icmp .ge 13, 10, 20), (10, .aload_n 0, 11, 0), (11, .iload_n 2, 12, 0), (12, .iload_n 1, 13, 0), (13, .iastore, 14, 0), (14, .iinc 2 1, 17, 0), (17, .goto (-12), 20, 5), (20, .return_, 21, 0)]
def ct_Preconditions_checkIndex : List (Nat × Instr × Nat × Nat) := [(0, .iload_n 0, 1, 0), (1, .ifCond .lt 8, 4, 9), (4, .iload_n 0, 5, 0), (5, .iload_n 1, 6, 0), (6, .if_icmp .lt 10, 9, 16), (9, .aload_n 2, 10, 0), (10, .iload_n 0, 11, 0), (11, .iload_n 1, 12, 0), (12, .invokestatic 95, 15, 0), (15, .athrow, 16, 0), (16, .iload_n 0, 17, 0), (17, .ireturn, 18, 0)]
set_option maxRecDepth 100000 in
def ct_Law_law : List (Nat × Instr × Nat × Nat) := [(0, .new 7, 3, 0), (3, .dup, 4, 0), (4, .invokespecial 9, 7, 0), (7, .astore_n 1, 8, 0), (8, .new 10, 11, 0), (11, .dup, 12, 0), (12, .invokespecial 12, 15, 0), (15, .astore_n 2, 16, 0), (16, .iconst 0, 17, 0), (17, .istore_n 3, 18, 0), (18, .iload_n 3, 19, 0), (19, .aload_n 0, 20, 0), (20, .arraylength, 21, 0), (21, .bipush 6, 23, 0), (23, .isub, 24, 0), (24, .if_icmp .gt 1675, 27, 1699), (27, .aload_n 0, 28, 0), (28, .iload_n 3, 29, 0), (29, .iaload, 30, 0), (30, .bipush 63, 32, 0), (32, .iand, 33, 0), (33, .tableswitch 1660 0 44 #[195, 228, 261, 304, 347, 380, 423, 466, 509, 552, 595, 628, 661, 684, 727, 750, 773, 806, 829, 862, 885, 908, 941, 974, 997, 1030, 1073, 1116, 1139, 1152, 1185, 1208, 1251, 1294, 1327, 1360, 1423, 1466, 1499, 1532, 1565, 1588, 1611, 1624, 1637], 228, 0), (228, .aload_n 1, 229, 0), (229, .aload_n 0, 230, 0), (230, .iload_n 3, 231, 0), (231, .iconst 1, 232, 0), (232, .iadd, 233, 0), (233, .iaload, 234, 0), (234, .aload_n 0, 235, 0), (235, .iload_n 3, 236, 0), (236, .iconst 2, 237, 0), (237, .iadd, 238, 0), (238, .iaload, 239, 0), (239, .invokevirtual 13, 242, 0), (242, .aload_n 2, 243, 0), (243, .aload_n 0, 244, 0), (244, .iload_n 3, 245, 0), (245, .iconst 1, 246, 0), (246, .iadd, 247, 0), (247, .iaload, 248, 0), (248, .aload_n 0, 249, 0), (249, .iload_n 3, 250, 0), (250, .iconst 2, 251, 0), (251, .iadd, 252, 0), (252, .iaload, 253, 0), (253, .invokevirtual 17, 256, 0), (256, .if_icmp .eq 1437, 259, 1693), (259, .iconst 0, 260, 0), (260, .ireturn, 261, 0), (261, .aload_n 1, 262, 0), (262, .aload_n 0, 263, 0), (263, .iload_n 3, 264, 0), (264, .iconst 1, 265, 0), (265, .iadd, 266, 0), (266, .iaload, 267, 0), (267, .aload_n 0, 268, 0), (268, .iload_n 3, 269, 0), (269, .iconst 2, 270, 0), (270, .iadd, 271, 0), (271, .iaload, 272, 0), (272, .invokevirtual 18, 275, 0), (275, .aload_n 2, 276, 0), (276, .aload_n 0, 277, 0), (277, .iload_n 3, 278, 0), (278, .iconst 1, 279, 0), (279, .iadd, 280, 0), (280, .iaload, 281, 0), (281, .aload_n 0, 282, 0), (282, .iload_n 3, 283, 0), (283, .iconst 2, 284, 0), (284, .iadd, 285, 0), (285, .iaload, 286, 0), (286, .invokevirtual 21, 289, 0), (289, .if_icmp .eq 1404, 292, 1693), (292, .iconst 0, 293, 0), (293, .ireturn, 294, 0), (294, .aload_n 1, 295, 0), (295, .aload_n 0, 296, 0), (296, .iload_n 3, 297, 0), (297, .iconst 1, 298, 0), (298, .iadd, 299, 0), (299, .iaload, 300, 0), (300, .aload_n 0, 301, 0), (301, .iload_n 3, 302, 0), (302, .iconst 2, 303, 0), (303, .iadd, 304, 0), (304, .iaload, 305, 0), (305, .aload_n 0, 306, 0), (306, .iload_n 3, 307, 0), (307, .iconst 3, 308, 0), (308, .iadd, 309, 0), (309, .iaload, 310, 0), (310, .invokevirtual 22, 313, 0), (313, .aload_n 2, 314, 0), (314, .aload_n 0, 315, 0), (315, .iload_n 3, 316, 0), (316, .iconst 1, 317, 0), (317, .iadd, 318, 0), (318, .iaload, 319, 0), (319, .aload_n 0, 320, 0), (320, .iload_n 3, 321, 0), (321, .iconst 2, 322, 0), (322, .iadd, 323, 0), (323, .iaload, 324, 0), (324, .aload_n 0, 325, 0), (325, .iload_n 3, 326, 0), (326, .iconst 3, 327, 0), (327, .iadd, 328, 0), (328, .iaload, 329, 0), (329, .invokevirtual 26, 332, 0), (332, .if_icmp .eq 1361, 335, 1693), (335, .iconst 0, 336, 0), (336, .ireturn, 337, 0), (337, .aload_n 1, 338, 0), (338, .aload_n 0, 339, 0), (339, .iload_n 3, 340, 0), (340, .iconst 1, 341, 0), (341, .iadd, 342, 0), (342, .iaload, 343, 0), (343, .aload_n 0, 344, 0), (344, .iload_n 3, 345, 0), (345, .iconst 2, 346, 0), (346, .iadd, 347, 0), (347, .iaload, 348, 0), (348, .aload_n 0, 349, 0), (349, .iload_n 3, 350, 0), (350, .iconst 3, 351, 0), (351, .iadd, 352, 0), (352, .iaload, 353, 0), (353, .invokevirtual 27, 356, 0), (356, .aload_n 2, 357, 0), (357, .aload_n 0, 358, 0), (358, .iload_n 3, 359, 0), (359, .iconst 1, 360, 0), (360, .iadd, 361, 0), (361, .iaload, 362, 0), (362, .aload_n 0, 363, 0), (363, .iload_n 3, 364, 0), (364, .iconst 2, 365, 0), (365, .iadd, 366, 0), (366, .iaload, 367, 0), (367, .aload_n 0, 368, 0), (368, .iload_n 3, 369, 0), (369, .iconst 3, 370, 0), (370, .iadd, 371, 0), (371, .iaload, 372, 0), (372, .invokevirtual 30, 375, 0), (375, .if_icmp .eq 1318, 378, 1693), (378, .iconst 0, 379, 0), (379, .ireturn, 380, 0), (380, .aload_n 1, 381, 0), (381, .aload_n 0, 382, 0), (382, .iload_n 3, 383, 0), (383, .iconst 1, 384, 0), (384, .iadd, 385, 0), (385, .iaload, 386, 0), (386, .aload_n 0, 387, 0), (387, .iload_n 3, 388, 0), (388, .iconst 2, 389, 0), (389, .iadd, 390, 0), (390, .iaload, 391, 0), (391, .invokevirtual 31, 394, 0), (394, .aload_n 2, 395, 0), (395, .aload_n 0, 396, 0), (396, .iload_n 3, 397, 0), (397, .iconst 1, 398, 0), (398, .iadd, 399, 0), (399, .iaload, 400, 0), (400, .aload_n 0, 401, 0), (401, .iload_n 3, 402, 0), (402, .iconst 2, 403, 0), (403, .iadd, 404, 0), (404, .iaload, 405, 0), (405, .invokevirtual 34, 408, 0), (408, .if_icmp .eq 1285, 411, 1693), (411, .iconst 0, 412, 0), (412, .ireturn, 413, 0), (413, .aload_n 1, 414, 0), (414, .aload_n 0, 415, 0), (415, .iload_n 3, 416, 0), (416, .iconst 1, 417, 0), (417, .iadd, 418, 0), (418, .iaload, 419, 0), (419, .aload_n 0, 420, 0), (420, .iload_n 3, 421, 0), (421, .iconst 2, 422, 0), (422, .iadd, 423, 0), (423, .iaload, 424, 0), (424, .aload_n 0, 425, 0), (425, .iload_n 3, 426, 0), (426, .iconst 3, 427, 0), (427, .iadd, 428, 0), (428, .iaload, 429, 0), (429, .invokevirtual 35, 432, 0), (432, .aload_n 2, 433, 0), (433, .aload_n 0, 434, 0), (434, .iload_n 3, 435, 0), (435, .iconst 1, 436, 0), (436, .iadd, 437, 0), (437, .iaload, 438, 0), (438, .aload_n 0, 439, 0), (439, .iload_n 3, 440, 0), (440, .iconst 2, 441, 0), (441, .iadd, 442, 0), (442, .iaload, 443, 0), (443, .aload_n 0, 444, 0), (444, .iload_n 3, 445, 0), (445, .iconst 3, 446, 0), (446, .iadd, 447, 0), (447, .iaload, 448, 0), (448, .invokevirtual 38, 451, 0), (451, .if_icmp .eq 1242, 454, 1693), (454, .iconst 0, 455, 0), (455, .ireturn, 456, 0), (456, .aload_n 1, 457, 0), (457, .aload_n 0, 458, 0), (458, .iload_n 3, 459, 0), (459, .iconst 1, 460, 0), (460, .iadd, 461, 0), (461, .iaload, 462, 0), (462, .aload_n 0, 463, 0), (463, .iload_n 3, 464, 0), (464, .iconst 2, 465, 0), (465, .iadd, 466, 0), (466, .iaload, 467, 0), (467, .aload_n 0, 468, 0), (468, .iload_n 3, 469, 0), (469, .iconst 3, 470, 0), (470, .iadd, 471, 0), (471, .iaload, 472, 0), (472, .invokevirtual 39, 475, 0), (475, .aload_n 2, 476, 0), (476, .aload_n 0, 477, 0), (477, .iload_n 3, 478, 0), (478, .iconst 1, 479, 0), (479, .iadd, 480, 0), (480, .iaload, 481, 0), (481, .aload_n 0, 482, 0), (482, .iload_n 3, 483, 0), (483, .iconst 2, 484, 0), (484, .iadd, 485, 0), (485, .iaload, 486, 0), (486, .aload_n 0, 487, 0), (487, .iload_n 3, 488, 0), (488, .iconst 3, 489, 0), (489, .iadd, 490, 0), (490, .iaload, 491, 0), (491, .invokevirtual 42, 494, 0), (494, .if_icmp .eq 1199, 497, 1693), (497, .iconst 0, 498, 0), (498, .ireturn, 499, 0), (499, .aload_n 1, 500, 0), (500, .aload_n 0, 501, 0), (501, .iload_n 3, 502, 0), (502, .iconst 1, 503, 0), (503, .iadd, 504, 0), (504, .iaload, 505, 0), (505, .aload_n 0, 506, 0), (506, .iload_n 3, 507, 0), (507, .iconst 2, 508, 0), (508, .iadd, 509, 0), (509, .iaload, 510, 0), (510, .aload_n 0, 511, 0), (511, .iload_n 3, 512, 0), (512, .iconst 3, 513, 0), (513, .iadd, 514, 0), (514, .iaload, 515, 0), (515, .invokevirtual 43, 518, 0), (518, .aload_n 2, 519, 0), (519, .aload_n 0, 520, 0), (520, .iload_n 3, 521, 0), (521, .iconst 1, 522, 0), (522, .iadd, 523, 0), (523, .iaload, 524, 0), (524, .aload_n 0, 525, 0), (525, .iload_n 3, 526, 0), (526, .iconst 2, 527, 0), (527, .iadd, 528, 0), (528, .iaload, 529, 0), (529, .aload_n 0, 530, 0), (530, .iload_n 3, 531, 0), (531, .iconst 3, 532, 0), (532, .iadd, 533, 0), (533, .iaload, 534, 0), (534, .invokevirtual 46, 537, 0), (537, .if_icmp .eq 1156, 540, 1693), (540, .iconst 0, 541, 0), (541, .ireturn, 542, 0), (542, .aload_n 1, 543, 0), (543, .aload_n 0, 544, 0), (544, .iload_n 3, 545, 0), (545, .iconst 1, 546, 0), (546, .iadd, 547, 0), (547, .iaload, 548, 0), (548, .aload_n 0, 549, 0), (549, .iload_n 3, 550, 0), (550, .iconst 2, 551, 0), (551, .iadd, 552, 0), (552, .iaload, 553, 0), (553, .aload_n 0, 554, 0), (554, .iload_n 3, 555, 0), (555, .iconst 3, 556, 0), (556, .iadd, 557, 0), (557, .iaload, 558, 0), (558, .invokevirtual 47, 561, 0), (561, .aload_n 2, 562, 0), (562, .aload_n 0, 563, 0), (563, .iload_n 3, 564, 0), (564, .iconst 1, 565, 0), (565, .iadd, 566, 0), (566, .iaload, 567, 0), (567, .aload_n 0, 568, 0), (568, .iload_n 3, 569, 0), (569, .iconst 2, 570, 0), (570, .iadd, 571, 0), (571, .iaload, 572, 0), (572, .aload_n 0, 573, 0), (573, .iload_n 3, 574, 0), (574, .iconst 3, 575, 0), (575, .iadd, 576, 0), (576, .iaload, 577, 0), (577, .invokevirtual 50, 580, 0), (580, .if_icmp .eq 1113, 583, 1693), (583, .iconst 0, 584, 0), (584, .ireturn, 585, 0), (585, .aload_n 1, 586, 0), (586, .aload_n 0, 587, 0), (587, .iload_n 3, 588, 0), (588, .iconst 1, 589, 0), (589, .iadd, 590, 0), (590, .iaload, 591, 0), (591, .aload_n 0, 592, 0), (592, .iload_n 3, 593, 0), (593, .iconst 2, 594, 0), (594, .iadd, 595, 0), (595, .iaload, 596, 0), (596, .aload_n 0, 597, 0), (597, .iload_n 3, 598, 0), (598, .iconst 3, 599, 0), (599, .iadd, 600, 0), (600, .iaload, 601, 0), (601, .invokevirtual 51, 604, 0), (604, .aload_n 2, 605, 0), (605, .aload_n 0, 606, 0), (606, .iload_n 3, 607, 0), (607, .iconst 1, 608, 0), (608, .iadd, 609, 0), (609, .iaload, 610, 0), (610, .aload_n 0, 611, 0), (611, .iload_n 3, 612, 0), (612, .iconst 2, 613, 0), (613, .iadd, 614, 0), (614, .iaload, 615, 0), (615, .aload_n 0, 616, 0), (616, .iload_n 3, 617, 0), (617, .iconst 3, 618, 0), (618, .iadd, 619, 0), (619, .iaload, 620, 0), (620, .invokevirtual 54, 623, 0), (623, .if_icmp .eq 1070, 626, 1693), (626, .iconst 0, 627, 0), (627, .ireturn, 628, 0), (628, .aload_n 1, 629, 0), (629, .aload_n 0, 630, 0), (630, .iload_n 3, 631, 0), (631, .iconst 1, 632, 0), (632, .iadd, 633, 0), (633, .iaload, 634, 0), (634, .aload_n 0, 635, 0), (635, .iload_n 3, 636, 0), (636, .iconst 2, 637, 0), (637, .iadd, 638, 0), (638, .iaload, 639, 0), (639, .invokevirtual 55, 642, 0), (642, .aload_n 2, 643, 0), (643, .aload_n 0, 644, 0), (644, .iload_n 3, 645, 0), (645, .iconst 1, 646, 0), (646, .iadd, 647, 0), (647, .iaload, 648, 0), (648, .aload_n 0, 649, 0), (649, .iload_n 3, 650, 0), (650, .iconst 2, 651, 0), (651, .iadd, 652, 0), (652, .iaload, 653, 0), (653, .invokevirtual 58, 656, 0), (656, .if_icmp .eq 1037, 659, 1693), (659, .iconst 0, 660, 0), (660, .ireturn, 661, 0), (661, .aload_n 1, 662, 0), (662, .aload_n 0, 663, 0), (663, .iload_n 3, 664, 0), (664, .iconst 1, 665, 0), (665, .iadd, 666, 0), (666, .iaload, 667, 0), (667, .aload_n 0, 668, 0), (668, .iload_n 3, 669, 0), (669, .iconst 2, 670, 0), (670, .iadd, 671, 0), (671, .iaload, 672, 0), (672, .invokevirtual 59, 675, 0), (675, .aload_n 2, 676, 0), (676, .aload_n 0, 677, 0), (677, .iload_n 3, 678, 0), (678, .iconst 1, 679, 0), (679, .iadd, 680, 0), (680, .iaload, 681, 0), (681, .aload_n 0, 682, 0), (682, .iload_n 3, 683, 0), (683, .iconst 2, 684, 0), (684, .iadd, 685, 0), (685, .iaload, 686, 0), (686, .invokevirtual 62, 689, 0), (689, .if_icmp .eq 1004, 692, 1693), (692, .iconst 0, 693, 0), (693, .ireturn, 694, 0), (694, .aload_n 1, 695, 0), (695, .aload_n 0, 696, 0), (696, .iload_n 3, 697, 0), (697, .iconst 1, 698, 0), (698, .iadd, 699, 0), (699, .iaload, 700, 0), (700, .invokevirtual 63, 703, 0), (703, .aload_n 2, 704, 0), (704, .aload_n 0, 705, 0), (705, .iload_n 3, 706, 0), (706, .iconst 1, 707, 0), (707, .iadd, 708, 0), (708, .iaload, 709, 0), (709, .invokevirtual 67, 712, 0), (712, .if_icmp .eq 981, 715, 1693), (715, .iconst 0, 716, 0), (716, .ireturn, 717, 0), (717, .aload_n 1, 718, 0), (718, .aload_n 0, 719, 0), (719, .iload_n 3, 720, 0), (720, .iconst 1, 721, 0), (721, .iadd, 722, 0), (722, .iaload, 723, 0), (723, .aload_n 0, 724, 0), (724, .iload_n 3, 725, 0), (725, .iconst 2, 726, 0), (726, .iadd, 727, 0), (727, .iaload, 728, 0), (728, .aload_n 0, 729, 0), (729, .iload_n 3, 730, 0), (730, .iconst 3, 731, 0), (731, .iadd, 732, 0), (732, .iaload, 733, 0), (733, .invokevirtual 68, 736, 0), (736, .aload_n 2, 737, 0), (737, .aload_n 0, 738, 0), (738, .iload_n 3, 739, 0), (739, .iconst 1, 740, 0), (740, .iadd, 741, 0), (741, .iaload, 742, 0), (742, .aload_n 0, 743, 0), (743, .iload_n 3, 744, 0), (744, .iconst 2, 745, 0), (745, .iadd, 746, 0), (746, .iaload, 747, 0), (747, .aload_n 0, 748, 0), (748, .iload_n 3, 749, 0), (749, .iconst 3, 750, 0), (750, .iadd, 751, 0), (751, .iaload, 752, 0), (752, .invokevirtual 71, 755, 0), (755, .if_icmp .eq 938, 758, 1693), (758, .iconst 0, 759, 0), (759, .ireturn, 760, 0), (760, .aload_n 1, 761, 0), (761, .aload_n 0, 762, 0), (762, .iload_n 3, 763, 0), (763, .iconst 1, 764, 0), (764, .iadd, 765, 0), (765, .iaload, 766, 0), (766, .invokevirtual 72, 769, 0), (769, .aload_n 2, 770, 0), (770, .aload_n 0, 771, 0), (771, .iload_n 3, 772, 0), (772, .iconst 1, 773, 0), (773, .iadd, 774, 0), (774, .iaload, 775, 0), (775, .invokevirtual 75, 778, 0), (778, .if_icmp .eq 915, 781, 1693), (781, .iconst 0, 782, 0), (782, .ireturn, 783, 0), (783, .aload_n 1, 784, 0), (784, .aload_n 0, 785, 0), (785, .iload_n 3, 786, 0), (786, .iconst 1, 787, 0), (787, .iadd, 788, 0), (788, .iaload, 789, 0), (789, .invokevirtual 76, 792, 0), (792, .aload_n 2, 793, 0), (793, .aload_n 0, 794, 0), (794, .iload_n 3, 795, 0), (795, .iconst 1, 796, 0), (796, .iadd, 797, 0), (797, .iaload, 798, 0), (798, .invokevirtual 79, 801, 0), (801, .if_icmp .eq 892, 804, 1693), (804, .iconst 0, 805, 0), (805, .ireturn, 806, 0), (806, .aload_n 1, 807, 0), (807, .aload_n 0, 808, 0), (808, .iload_n 3, 809, 0), (809, .iconst 1, 810, 0), (810, .iadd, 811, 0), (811, .iaload, 812, 0), (812, .aload_n 0, 813, 0), (813, .iload_n 3, 814, 0), (814, .iconst 2, 815, 0), (815, .iadd, 816, 0), (816, .iaload, 817, 0), (817, .invokevirtual 80, 820, 0), (820, .aload_n 2, 821, 0), (821, .aload_n 0, 822, 0), (822, .iload_n 3, 823, 0), (823, .iconst 1, 824, 0), (824, .iadd, 825, 0), (825, .iaload, 826, 0), (826, .aload_n 0, 827, 0), (827, .iload_n 3, 828, 0), (828, .iconst 2, 829, 0), (829, .iadd, 830, 0), (830, .iaload, 831, 0), (831, .invokevirtual 83, 834, 0), (834, .if_icmp .eq 859, 837, 1693), (837, .iconst 0, 838, 0), (838, .ireturn, 839, 0), (839, .aload_n 1, 840, 0), (840, .aload_n 0, 841, 0), (841, .iload_n 3, 842, 0), (842, .iconst 1, 843, 0), (843, .iadd, 844, 0), (844, .iaload, 845, 0), (845, .invokevirtual 84, 848, 0), (848, .aload_n 2, 849, 0), (849, .aload_n 0, 850, 0), (850, .iload_n 3, 851, 0), (851, .iconst 1, 852, 0), (852, .iadd, 853, 0), (853, .iaload, 854, 0), (854, .invokevirtual 87, 857, 0), (857, .if_icmp .eq 836, 860, 1693), (860, .iconst 0, 861, 0), (861, .ireturn, 862, 0), (862, .aload_n 1, 863, 0), (863, .aload_n 0, 864, 0), (864, .iload_n 3, 865, 0), (865, .iconst 1, 866, 0), (866, .iadd, 867, 0), (867, .iaload, 868, 0), (868, .aload_n 0, 869, 0), (869, .iload_n 3, 870, 0), (870, .iconst 2, 871, 0), (871, .iadd, 872, 0), (872, .iaload, 873, 0), (873, .invokevirtual 88, 876, 0), (876, .aload_n 2, 877, 0), (877, .aload_n 0, 878, 0), (878, .iload_n 3, 879, 0), (879, .iconst 1, 880, 0), (880, .iadd, 881, 0), (881, .iaload, 882, 0), (882, .aload_n 0, 883, 0), (883, .iload_n 3, 884, 0), (884, .iconst 2, 885, 0), (885, .iadd, 886, 0), (886, .iaload, 887, 0), (887, .invokevirtual 91, 890, 0), (890, .if_icmp .eq 803, 893, 1693), (893, .iconst 0, 894, 0), (894, .ireturn, 895, 0), (895, .aload_n 1, 896, 0), (896, .aload_n 0, 897, 0), (897, .iload_n 3, 898, 0), (898, .iconst 1, 899, 0), (899, .iadd, 900, 0), (900, .iaload, 901, 0), (901, .invokevirtual 92, 904, 0), (904, .aload_n 2, 905, 0), (905, .aload_n 0, 906, 0), (906, .iload_n 3, 907, 0), (907, .iconst 1, 908, 0), (908, .iadd, 909, 0), (909, .iaload, 910, 0), (910, .invokevirtual 95, 913, 0), (913, .if_icmp .eq 780, 916, 1693), (916, .iconst 0, 917, 0), (917, .ireturn, 918, 0), (918, .aload_n 1, 919, 0), (919, .aload_n 0, 920, 0), (920, .iload_n 3, 921, 0), (921, .iconst 1, 922, 0), (922, .iadd, 923, 0), (923, .iaload, 924, 0), (924, .invokevirtual 96, 927, 0), (927, .aload_n 2, 928, 0), (928, .aload_n 0, 929, 0), (929, .iload_n 3, 930, 0), (930, .iconst 1, 931, 0), (931, .iadd, 932, 0), (932, .iaload, 933, 0), (933, .invokevirtual 99, 936, 0), (936, .if_icmp .eq 757, 939, 1693), (939, .iconst 0, 940, 0), (940, .ireturn, 941, 0), (941, .aload_n 1, 942, 0), (942, .aload_n 0, 943, 0), (943, .iload_n 3, 944, 0), (944, .iconst 1, 945, 0), (945, .iadd, 946, 0), (946, .iaload, 947, 0), (947, .aload_n 0, 948, 0), (948, .iload_n 3, 949, 0), (949, .iconst 2, 950, 0), (950, .iadd, 951, 0), (951, .iaload, 952, 0), (952, .invokevirtual 100, 955, 0), (955, .aload_n 2, 956, 0), (956, .aload_n 0, 957, 0), (957, .iload_n 3, 958, 0), (958, .iconst 1, 959, 0), (959, .iadd, 960, 0), (960, .iaload, 961, 0), (961, .aload_n 0, 962, 0), (962, .iload_n 3, 963, 0), (963, .iconst 2, 964, 0), (964, .iadd, 965, 0), (965, .iaload, 966, 0), (966, .invokevirtual 103, 969, 0), (969, .if_icmp .eq 724, 972, 1693), (972, .iconst 0, 973, 0), (973, .ireturn, 974, 0), (974, .aload_n 1, 975, 0), (975, .aload_n 0, 976, 0), (976, .iload_n 3, 977, 0), (977, .iconst 1, 978, 0), (978, .iadd, 979, 0), (979, .iaload, 980, 0), (980, .aload_n 0, 981, 0), (981, .iload_n 3, 982, 0), (982, .iconst 2, 983, 0), (983, .iadd, 984, 0), (984, .iaload, 985, 0), (985, .invokevirtual 104, 988, 0), (988, .aload_n 2, 989, 0), (989, .aload_n 0, 990, 0), (990, .iload_n 3, 991, 0), (991, .iconst 1, 992, 0), (992, .iadd, 993, 0), (993, .iaload, 994, 0), (994, .aload_n 0, 995, 0), (995, .iload_n 3, 996, 0), (996, .iconst 2, 997, 0), (997, .iadd, 998, 0), (998, .iaload, 999, 0), (999, .invokevirtual 107, 1002, 0), (1002, .if_icmp .eq 691, 1005, 1693), (1005, .iconst 0, 1006, 0), (1006, .ireturn, 1007, 0), (1007, .aload_n 1, 1008, 0), (1008, .aload_n 0, 1009, 0), (1009, .iload_n 3, 1010, 0), (1010, .iconst 1, 1011, 0), (1011, .iadd, 1012, 0), (1012, .iaload, 1013, 0), (1013, .invokevirtual 108, 1016, 0), (1016, .aload_n 2, 1017, 0), (1017, .aload_n 0, 1018, 0), (1018, .iload_n 3, 1019, 0), (1019, .iconst 1, 1020, 0), (1020, .iadd, 1021, 0), (1021, .iaload, 1022, 0), (1022, .invokevirtual 111, 1025, 0), (1025, .if_icmp .eq 668, 1028, 1693), (1028, .iconst 0, 1029, 0), (1029, .ireturn, 1030, 0), (1030, .aload_n 1, 1031, 0), (1031, .aload_n 0, 1032, 0), (1032, .iload_n 3, 1033, 0), (1033, .iconst 1, 1034, 0), (1034, .iadd, 1035, 0), (1035, .iaload, 1036, 0), (1036, .aload_n 0, 1037, 0), (1037, .iload_n 3, 1038, 0), (1038, .iconst 2, 1039, 0), (1039, .iadd, 1040, 0), (1040, .iaload, 1041, 0), (1041, .invokevirtual 112, 1044, 0), (1044, .aload_n 2, 1045, 0), (1045, .aload_n 0, 1046, 0), (1046, .iload_n 3, 1047, 0), (1047, .iconst 1, 1048, 0), (1048, .iadd, 1049, 0), (1049, .iaload, 1050, 0), (1050, .aload_n 0, 1051, 0), (1051, .iload_n 3, 1052, 0), (1052, .iconst 2, 1053, 0), (1053, .iadd, 1054, 0), (1054, .iaload, 1055, 0), (1055, .invokevirtual 115, 1058, 0), (1058, .if_icmp .eq 635, 1061, 1693), (1061, .iconst 0, 1062, 0), (1062, .ireturn, 1063, 0), (1063, .aload_n 1, 1064, 0), (1064, .aload_n 0, 1065, 0), (1065, .iload_n 3, 1066, 0), (1066, .iconst 1, 1067, 0), (1067, .iadd, 1068, 0), (1068, .iaload, 1069, 0), (1069, .aload_n 0, 1070, 0), (1070, .iload_n 3, 1071, 0), (1071, .iconst 2, 1072, 0), (1072, .iadd, 1073, 0), (1073, .iaload, 1074, 0), (1074, .aload_n 0, 1075, 0), (1075, .iload_n 3, 1076, 0), (1076, .iconst 3, 1077, 0), (1077, .iadd, 1078, 0), (1078, .iaload, 1079, 0), (1079, .invokevirtual 116, 1082, 0), (1082, .aload_n 2, 1083, 0), (1083, .aload_n 0, 1084, 0), (1084, .iload_n 3, 1085, 0), (1085, .iconst 1, 1086, 0), (1086, .iadd, 1087, 0), (1087, .iaload, 1088, 0), (1088, .aload_n 0, 1089, 0), (1089, .iload_n 3, 1090, 0), (1090, .iconst 2, 1091, 0), (1091, .iadd, 1092, 0), (1092, .iaload, 1093, 0), (1093, .aload_n 0, 1094, 0), (1094, .iload_n 3, 1095, 0), (1095, .iconst 3, 1096, 0), (1096, .iadd, 1097, 0), (1097, .iaload, 1098, 0), (1098, .invokevirtual 119, 1101, 0), (1101, .if_icmp .eq 592, 1104, 1693), (1104, .iconst 0, 1105, 0), (1105, .ireturn, 1106, 0), (1106, .aload_n 1, 1107, 0), (1107, .aload_n 0, 1108, 0), (1108, .iload_n 3, 1109, 0), (1109, .iconst 1, 1110, 0), (1110, .iadd, 1111, 0), (1111, .iaload, 1112, 0), (1112, .aload_n 0, 1113, 0), (1113, .iload_n 3, 1114, 0), (1114, .iconst 2, 1115, 0), (1115, .iadd, 1116, 0), (1116, .iaload, 1117, 0), (1117, .aload_n 0, 1118, 0), (1118, .iload_n 3, 1119, 0), (1119, .iconst 3, 1120, 0), (1120, .iadd, 1121, 0), (1121, .iaload, 1122, 0), (1122, .invokevirtual 120, 1125, 0), (1125, .aload_n 2, 1126, 0), (1126, .aload_n 0, 1127, 0), (1127, .iload_n 3, 1128, 0), (1128, .iconst 1, 1129, 0), (1129, .iadd, 1130, 0), (1130, .iaload, 1131, 0), (1131, .aload_n 0, 1132, 0), (1132, .iload_n 3, 1133, 0), (1133, .iconst 2, 1134, 0), (1134, .iadd, 1135, 0), (1135, .iaload, 1136, 0), (1136, .aload_n 0, 1137, 0), (1137, .iload_n 3, 1138, 0), (1138, .iconst 3, 1139, 0), (1139, .iadd, 1140, 0), (1140, .iaload, 1141, 0), (1141, .invokevirtual 123, 1144, 0), (1144, .if_icmp .eq 549, 1147, 1693), (1147, .iconst 0, 1148, 0), (1148, .ireturn, 1149, 0), (1149, .aload_n 1, 1150, 0), (1150, .aload_n 0, 1151, 0), (1151, .iload_n 3, 1152, 0), (1152, .iconst 1, 1153, 0), (1153, .iadd, 1154, 0), (1154, .iaload, 1155, 0), (1155, .invokevirtual 124, 1158, 0), (1158, .aload_n 2, 1159, 0), (1159, .aload_n 0, 1160, 0), (1160, .iload_n 3, 1161, 0), (1161, .iconst 1, 1162, 0), (1162, .iadd, 1163, 0), (1163, .iaload, 1164, 0), (1164, .invokevirtual 127, 1167, 0), (1167, .if_icmp .eq 526, 1170, 1693), (1170, .iconst 0, 1171, 0), (1171, .ireturn, 1172, 0), (1172, .aload_n 1, 1173, 0), (1173, .invokevirtual 128, 1176, 0), (1176, .aload_n 2, 1177, 0), (1177, .invokevirtual 132, 1180, 0), (1180, .if_icmp .eq 513, 1183, 1693), (1183, .iconst 0, 1184, 0), (1184, .ireturn, 1185, 0), (1185, .aload_n 1, 1186, 0), (1186, .aload_n 0, 1187, 0), (1187, .iload_n 3, 1188, 0), (1188, .iconst 1, 1189, 0), (1189, .iadd, 1190, 0), (1190, .iaload, 1191, 0), (1191, .aload_n 0, 1192, 0), (1192, .iload_n 3, 1193, 0), (1193, .iconst 2, 1194, 0), (1194, .iadd, 1195, 0), (1195, .iaload, 1196, 0), (1196, .invokevirtual 133, 1199, 0), (1199, .aload_n 2, 1200, 0), (1200, .aload_n 0, 1201, 0), (1201, .iload_n 3, 1202, 0), (1202, .iconst 1, 1203, 0), (1203, .iadd, 1204, 0), (1204, .iaload, 1205, 0), (1205, .aload_n 0, 1206, 0), (1206, .iload_n 3, 1207, 0), (1207, .iconst 2, 1208, 0), (1208, .iadd, 1209, 0), (1209, .iaload, 1210, 0), (1210, .invokevirtual 136, 1213, 0), (1213, .if_icmp .eq 480, 1216, 1693), (1216, .iconst 0, 1217, 0), (1217, .ireturn, 1218, 0), (1218, .aload_n 1, 1219, 0), (1219, .aload_n 0, 1220, 0), (1220, .iload_n 3, 1221, 0), (1221, .iconst 1, 1222, 0), (1222, .iadd, 1223, 0), (1223, .iaload, 1224, 0), (1224, .invokevirtual 137, 1227, 0), (1227, .aload_n 2, 1228, 0), (1228, .aload_n 0, 1229, 0), (1229, .iload_n 3, 1230, 0), (1230, .iconst 1, 1231, 0), (1231, .iadd, 1232, 0), (1232, .iaload, 1233, 0), (1233, .invokevirtual 140, 1236, 0), (1236, .if_icmp .eq 457, 1239, 1693), (1239, .iconst 0, 1240, 0), (1240, .ireturn, 1241, 0), (1241, .aload_n 1, 1242, 0), (1242, .aload_n 0, 1243, 0), (1243, .iload_n 3, 1244, 0), (1244, .iconst 1, 1245, 0), (1245, .iadd, 1246, 0), (1246, .iaload, 1247, 0), (1247, .aload_n 0, 1248, 0), (1248, .iload_n 3, 1249, 0), (1249, .iconst 2, 1250, 0), (1250, .iadd, 1251, 0), (1251, .iaload, 1252, 0), (1252, .aload_n 0, 1253, 0), (1253, .iload_n 3, 1254, 0), (1254, .iconst 3, 1255, 0), (1255, .iadd, 1256, 0), (1256, .iaload, 1257, 0), (1257, .invokevirtual 141, 1260, 0), (1260, .aload_n 2, 1261, 0), (1261, .aload_n 0, 1262, 0), (1262, .iload_n 3, 1263, 0), (1263, .iconst 1, 1264, 0), (1264, .iadd, 1265, 0), (1265, .iaload, 1266, 0), (1266, .aload_n 0, 1267, 0), (1267, .iload_n 3, 1268, 0), (1268, .iconst 2, 1269, 0), (1269, .iadd, 1270, 0), (1270, .iaload, 1271, 0), (1271, .aload_n 0, 1272, 0), (1272, .iload_n 3, 1273, 0), (1273, .iconst 3, 1274, 0), (1274, .iadd, 1275, 0), (1275, .iaload, 1276, 0), (1276, .invokevirtual 144, 1279, 0), (1279, .if_icmp .eq 414, 1282, 1693), (1282, .iconst 0, 1283, 0), (1283, .ireturn, 1284, 0), (1284, .aload_n 1, 1285, 0), (1285, .aload_n 0, 1286, 0), (1286, .iload_n 3, 1287, 0), (1287, .iconst 1, 1288, 0), (1288, .iadd, 1289, 0), (1289, .iaload, 1290, 0), (1290, .aload_n 0, 1291, 0), (1291, .iload_n 3, 1292, 0), (1292, .iconst 2, 1293, 0), (1293, .iadd, 1294, 0), (1294, .iaload, 1295, 0), (1295, .aload_n 0, 1296, 0), (1296, .iload_n 3, 1297, 0), (1297, .iconst 3, 1298, 0), (1298, .iadd, 1299, 0), (1299, .iaload, 1300, 0), (1300, .invokevirtual 145, 1303, 0), (1303, .aload_n 2, 1304, 0), (1304, .aload_n 0, 1305, 0), (1305, .iload_n 3, 1306, 0), (1306, .iconst 1, 1307, 0), (1307, .iadd, 1308, 0), (1308, .iaload, 1309, 0), (1309, .aload_n 0, 1310, 0), (1310, .iload_n 3, 1311, 0), (1311, .iconst 2, 1312, 0), (1312, .iadd, 1313, 0), (1313, .iaload, 1314, 0), (1314, .aload_n 0, 1315, 0), (1315, .iload_n 3, 1316, 0), (1316, .iconst 3, 1317, 0), (1317, .iadd, 1318, 0), (1318, .iaload, 1319, 0), (1319, .invokevirtual 148, 1322, 0), (1322, .if_icmp .eq 371, 1325, 1693), (1325, .iconst 0, 1326, 0), (1326, .ireturn, 1327, 0), (1327, .aload_n 1, 1328, 0), (1328, .aload_n 0, 1329, 0), (1329, .iload_n 3, 1330, 0), (1330, .iconst 1, 1331, 0), (1331, .iadd, 1332, 0), (1332, .iaload, 1333, 0), (1333, .aload_n 0, 1334, 0), (1334, .iload_n 3, 1335, 0), (1335, .iconst 2, 1336, 0), (1336, .iadd, 1337, 0), (1337, .iaload, 1338, 0), (1338, .invokevirtual 149, 1341, 0), (1341, .aload_n 2, 1342, 0), (1342, .aload_n 0, 1343, 0), (1343, .iload_n 3, 1344, 0), (1344, .iconst 1, 1345, 0), (1345, .iadd, 1346, 0), (1346, .iaload, 1347, 0), (1347, .aload_n 0, 1348, 0), (1348, .iload_n 3, 1349, 0), (1349, .iconst 2, 1350, 0), (1350, .iadd, 1351, 0), (1351, .iaload, 1352, 0), (1352, .invokevirtual 152, 1355, 0), (1355, .if_icmp .eq 338, 1358, 1693), (1358, .iconst 0, 1359, 0), (1359, .ireturn, 1360, 0), (1360, .aload_n 1, 1361, 0), (1361, .aload_n 0, 1362, 0), (1362, .iload_n 3, 1363, 0), (1363, .iconst 1, 1364, 0), (1364, .iadd, 1365, 0), (1365, .iaload, 1366, 0), (1366, .aload_n 0, 1367, 0), (1367, .iload_n 3, 1368, 0), (1368, .iconst 2, 1369, 0), (1369, .iadd, 1370, 0), (1370, .iaload, 1371, 0), (1371, .invokevirtual 153, 1374, 0), (1374, .aload_n 2, 1375, 0), (1375, .aload_n 0, 1376, 0), (1376, .iload_n 3, 1377, 0), (1377, .iconst 1, 1378, 0), (1378, .iadd, 1379, 0), (1379, .iaload, 1380, 0), (1380, .aload_n 0, 1381, 0), (1381, .iload_n 3, 1382, 0), (1382, .iconst 2, 1383, 0), (1383, .iadd, 1384, 0), (1384, .iaload, 1385, 0), (1385, .invokevirtual 156, 1388, 0), (1388, .if_icmp .eq 305, 1391, 1693), (1391, .iconst 0, 1392, 0), (1392, .ireturn, 1393, 0), (1393, .aload_n 1, 1394, 0), (1394, .aload_n 0, 1395, 0), (1395, .iload_n 3, 1396, 0), (1396, .iconst 1, 1397, 0), (1397, .iadd, 1398, 0), (1398, .iaload, 1399, 0), (1399, .aload_n 0, 1400, 0), (1400, .iload_n 3, 1401, 0), (1401, .iconst 2, 1402, 0), (1402, .iadd, 1403, 0), (1403, .iaload, 1404, 0), (1404, .aload_n 0, 1405, 0), (1405, .iload_n 3, 1406, 0), (1406, .iconst 3, 1407, 0), (1407, .iadd, 1408, 0), (1408, .iaload, 1409, 0), (1409, .aload_n 0, 1410, 0), (1410, .iload_n 3, 1411, 0), (1411, .iconst 4, 1412, 0), (1412, .iadd, 1413, 0), (1413, .iaload, 1414, 0), (1414, .aload_n 0, 1415, 0), (1415, .iload_n 3, 1416, 0), (1416, .iconst 5, 1417, 0), (1417, .iadd, 1418, 0), (1418, .iaload, 1419, 0), (1419, .invokevirtual 157, 1422, 0), (1422, .aload_n 2, 1423, 0), (1423, .aload_n 0, 1424, 0), (1424, .iload_n 3, 1425, 0), (1425, .iconst 1, 1426, 0), (1426, .iadd, 1427, 0), (1427, .iaload, 1428, 0), (1428, .aload_n 0, 1429, 0), (1429, .iload_n 3, 1430, 0), (1430, .iconst 2, 1431, 0), (1431, .iadd, 1432, 0), (1432, .iaload, 1433, 0), (1433, .aload_n 0, 1434, 0), (1434, .iload_n 3, 1435, 0), (1435, .iconst 3, 1436, 0), (1436, .iadd, 1437, 0), (1437, .iaload, 1438, 0), (1438, .aload_n 0, 1439, 0), (1439, .iload_n 3, 1440, 0), (1440, .iconst 4, 1441, 0), (1441, .iadd, 1442, 0), (1442, .iaload, 1443, 0), (1443, .aload_n 0, 1444, 0), (1444, .iload_n 3, 1445, 0), (1445, .iconst 5, 1446, 0), (1446, .iadd, 1447, 0), (1447, .iaload, 1448, 0), (1448, .invokevirtual 161, 1451, 0), (1451, .if_icmp .eq 242, 1454, 1693), (1454, .iconst 0, 1455, 0), (1455, .ireturn, 1456, 0), (1456, .aload_n 1, 1457, 0), (1457, .aload_n 0, 1458, 0), (1458, .iload_n 3, 1459, 0), (1459, .iconst 1, 1460, 0), (1460, .iadd, 1461, 0), (1461, .iaload, 1462, 0), (1462, .aload_n 0, 1463, 0), (1463, .iload_n 3, 1464, 0), (1464, .iconst 2, 1465, 0), (1465, .iadd, 1466, 0), (1466, .iaload, 1467, 0), (1467, .aload_n 0, 1468, 0), (1468, .iload_n 3, 1469, 0), (1469, .iconst 3, 1470, 0), (1470, .iadd, 1471, 0), (1471, .iaload, 1472, 0), (1472, .invokevirtual 162, 1475, 0), (1475, .aload_n 2, 1476, 0), (1476, .aload_n 0, 1477, 0), (1477, .iload_n 3, 1478, 0), (1478, .iconst 1, 1479, 0), (1479, .iadd, 1480, 0), (1480, .iaload, 1481, 0), (1481, .aload_n 0, 1482, 0), (1482, .iload_n 3, 1483, 0), (1483, .iconst 2, 1484, 0), (1484, .iadd, 1485, 0), (1485, .iaload, 1486, 0), (1486, .aload_n 0, 1487, 0), (1487, .iload_n 3, 1488, 0), (1488, .iconst 3, 1489, 0), (1489, .iadd, 1490, 0), (1490, .iaload, 1491, 0), (1491, .invokevirtual 165, 1494, 0), (1494, .if_icmp .eq 199, 1497, 1693), (1497, .iconst 0, 1498, 0), (1498, .ireturn, 1499, 0), (1499, .aload_n 1, 1500, 0), (1500, .aload_n 0, 1501, 0), (1501, .iload_n 3, 1502, 0), (1502, .iconst 1, 1503, 0), (1503, .iadd, 1504, 0), (1504, .iaload, 1505, 0), (1505, .aload_n 0, 1506, 0), (1506, .iload_n 3, 1507, 0), (1507, .iconst 2, 1508, 0), (1508, .iadd, 1509, 0), (1509, .iaload, 1510, 0), (1510, .invokevirtual 166, 1513, 0), (1513, .aload_n 2, 1514, 0), (1514, .aload_n 0, 1515, 0), (1515, .iload_n 3, 1516, 0), (1516, .iconst 1, 1517, 0), (1517, .iadd, 1518, 0), (1518, .iaload, 1519, 0), (1519, .aload_n 0, 1520, 0), (1520, .iload_n 3, 1521, 0), (1521, .iconst 2, 1522, 0), (1522, .iadd, 1523, 0), (1523, .iaload, 1524, 0), (1524, .invokevirtual 169, 1527, 0), (1527, .if_icmp .eq 166, 1530, 1693), (1530, .iconst 0, 1531, 0), (1531, .ireturn, 1532, 0), (1532, .aload_n 1, 1533, 0), (1533, .aload_n 0, 1534, 0), (1534, .iload_n 3, 1535, 0), (1535, .iconst 1, 1536, 0), (1536, .iadd, 1537, 0), (1537, .iaload, 1538, 0), (1538, .aload_n 0, 1539, 0), (1539, .iload_n 3, 1540, 0), (1540, .iconst 2, 1541, 0), (1541, .iadd, 1542, 0), (1542, .iaload, 1543, 0), (1543, .invokevirtual 170, 1546, 0), (1546, .aload_n 2, 1547, 0), (1547, .aload_n 0, 1548, 0), (1548, .iload_n 3, 1549, 0), (1549, .iconst 1, 1550, 0), (1550, .iadd, 1551, 0), (1551, .iaload, 1552, 0), (1552, .aload_n 0, 1553, 0), (1553, .iload_n 3, 1554, 0), (1554, .iconst 2, 1555, 0), (1555, .iadd, 1556, 0), (1556, .iaload, 1557, 0), (1557, .invokevirtual 173, 1560, 0), (1560, .if_icmp .eq 133, 1563, 1693), (1563, .iconst 0, 1564, 0), (1564, .ireturn, 1565, 0), (1565, .aload_n 1, 1566, 0), (1566, .aload_n 0, 1567, 0), (1567, .iload_n 3, 1568, 0), (1568, .iconst 1, 1569, 0), (1569, .iadd, 1570, 0), (1570, .iaload, 1571, 0), (1571, .aload_n 0, 1572, 0), (1572, .iload_n 3, 1573, 0), (1573, .iconst 2, 1574, 0), (1574, .iadd, 1575, 0), (1575, .iaload, 1576, 0), (1576, .invokevirtual 174, 1579, 0), (1579, .aload_n 2, 1580, 0), (1580, .aload_n 0, 1581, 0), (1581, .iload_n 3, 1582, 0), (1582, .iconst 1, 1583, 0), (1583, .iadd, 1584, 0), (1584, .iaload, 1585, 0), (1585, .aload_n 0, 1586, 0), (1586, .iload_n 3, 1587, 0), (1587, .iconst 2, 1588, 0), (1588, .iadd, 1589, 0), (1589, .iaload, 1590, 0), (1590, .invokevirtual 177, 1593, 0), (1593, .if_icmp .eq 100, 1596, 1693), (1596, .iconst 0, 1597, 0), (1597, .ireturn, 1598, 0), (1598, .aload_n 1, 1599, 0), (1599, .aload_n 0, 1600, 0), (1600, .iload_n 3, 1601, 0), (1601, .iconst 1, 1602, 0), (1602, .iadd, 1603, 0), (1603, .iaload, 1604, 0), (1604, .invokevirtual 178, 1607, 0), (1607, .aload_n 2, 1608, 0), (1608, .aload_n 0, 1609, 0), (1609, .iload_n 3, 1610, 0), (1610, .iconst 1, 1611, 0), (1611, .iadd, 1612, 0), (1612, .iaload, 1613, 0), (1613, .invokevirtual 181, 1616, 0), (1616, .if_icmp .eq 77, 1619, 1693), (1619, .iconst 0, 1620, 0), (1620, .ireturn, 1621, 0), (1621, .aload_n 1, 1622, 0), (1622, .aload_n 0, 1623, 0), (1623, .iload_n 3, 1624, 0), (1624, .iconst 1, 1625, 0), (1625, .iadd, 1626, 0), (1626, .iaload, 1627, 0), (1627, .invokevirtual 182, 1630, 0), (1630, .aload_n 2, 1631, 0), (1631, .aload_n 0, 1632, 0), (1632, .iload_n 3, 1633, 0), (1633, .iconst 1, 1634, 0), (1634, .iadd, 1635, 0), (1635, .iaload, 1636, 0), (1636, .invokevirtual 185, 1639, 0), (1639, .if_icmp .eq 54, 1642, 1693), (1642, .iconst 0, 1643, 0), (1643, .ireturn, 1644, 0), (1644, .aload_n 1, 1645, 0), (1645, .invokevirtual 186, 1648, 0), (1648, .aload_n 2, 1649, 0), (1649, .invokevirtual 189, 1652, 0), (1652, .if_icmp .eq 41, 1655, 1693), (1655, .iconst 0, 1656, 0), (1656, .ireturn, 1657, 0), (1657, .aload_n 1, 1658, 0), (1658, .invokevirtual 190, 1661, 0), (1661, .aload_n 2, 1662, 0), (1662, .invokevirtual 193, 1665, 0), (1665, .if_icmp .eq 28, 1668, 1693), (1668, .iconst 0, 1669, 0), (1669, .ireturn, 1670, 0), (1670, .aload_n 1, 1671, 0), (1671, .aload_n 0, 1672, 0), (1672, .iload_n 3, 1673, 0), (1673, .iconst 1, 1674, 0), (1674, .iadd, 1675, 0), (1675, .iaload, 1676, 0), (1676, .invokevirtual 194, 1679, 0), (1679, .aload_n 2, 1680, 0), (1680, .aload_n 0, 1681, 0), (1681, .iload_n 3, 1682, 0), (1682, .iconst 1, 1683, 0), (1683, .iadd, 1684, 0), (1684, .iaload, 1685, 0), (1685, .invokevirtual 197, 1688, 0), (1688, .if_icmp .eq 5, 1691, 1693), (1691, .iconst 0, 1692, 0), (1692, .ireturn, 1693, 0), (1693, .iinc 3 6, 1696, 0), (1696, .goto (-1678), 1699, 18), (1699, .iconst 1, 1700, 0), (1700, .ireturn, 1701, 0)]
def oCT (k : Nat) : List (Nat × Instr × Nat × Nat) := (cond (Nat.blt k 119) (cond (Nat.blt k 59) (cond (Nat.blt k 29) (cond (Nat.blt k 14) (cond (Nat.blt k 7) (cond (Nat.blt k 3) (cond (Nat.blt k 1) ct_Cells_init (cond (Nat.blt k 2) ct_Cells_isHeld ct_Cells_fillDeed)) (cond (Nat.blt k 5) (cond (Nat.blt k 4) ct_Cells_addSide ct_Cells_fillOwners) (cond (Nat.blt k 6) ct_Cells_firstUnserved ct_Cells_countUnlike))) (cond (Nat.blt k 10) (cond (Nat.blt k 8) ct_Deed_init (cond (Nat.blt k 9) ct_Deed_beginAt ct_Deed_hasNumber)) (cond (Nat.blt k 12) (cond (Nat.blt k 11) ct_Deed_addCall ct_Deed_removeCall) (cond (Nat.blt k 13) ct_Deed_takeFrom ct_Land_init)))) (cond (Nat.blt k 21) (cond (Nat.blt k 17) (cond (Nat.blt k 15) ct_Land_takeFrom (cond (Nat.blt k 16) ct_Land_hasStone ct_Land_hasDeed)) (cond (Nat.blt k 19) (cond (Nat.blt k 18) ct_Land_hasCall ct_Land_hasYear) (cond (Nat.blt k 20) ct_Land_putStone ct_Land_callsOfAll))) (cond (Nat.blt k 25) (cond (Nat.blt k 23) (cond (Nat.blt k 22) ct_Land_drawNumber ct_Land_needleOf) (cond (Nat.blt k 24) ct_Land_chainOf ct_Land_rankOf)) (cond (Nat.blt k 27) (cond (Nat.blt k 26) ct_Laws_init ct_Laws_lastOf) (cond (Nat.blt k 28) ct_Laws_workOut ct_Laws_named))))) (cond (Nat.blt k 44) (cond (Nat.blt k 36) (cond (Nat.blt k 32) (cond (Nat.blt k 30) ct_Laws_joined (cond (Nat.blt k 31) ct_Reader_init ct_Reader_addFour)) (cond (Nat.blt k 34) (cond (Nat.blt k 33) ct_Reader_parseTape ct_Reader_advance) (cond (Nat.blt k 35) ct_Reader_sortOf ct_Reader_keyHere))) (cond (Nat.blt k 40) (cond (Nat.blt k 38) (cond (Nat.blt k 37) ct_Reader_isWord ct_Reader_isSign) (cond (Nat.blt k 39) ct_Reader_isName ct_Reader_isJoin)) (cond (Nat.blt k 42) (cond (Nat.blt k 41) ct_Reader_parseLevel ct_Reader_parsePiece) (cond (Nat.blt k 43) ct_Reader_parseAtom ct_Reader_numberHere)))) (cond (Nat.blt k 51) (cond (Nat.blt k 47) (cond (Nat.blt k 45) ct_Reader_addCode (cond (Nat.blt k 46) ct_Row_init ct_Row_become)) (cond (Nat.blt k 49) (cond (Nat.blt k 48) ct_Row_takeFrom ct_Row_hasPlace) (cond (Nat.blt k 50) ct_Row_hasRun ct_Slot_init))) (cond (Nat.blt k 55) (cond (Nat.blt k 53) (cond (Nat.blt k 52) ct_Slot_takeCall ct_Text_init) (cond (Nat.blt k 54) ct_Text_takeFrom ct_Walk_init)) (cond (Nat.blt k 57) (cond (Nat.blt k 56) ct_Walk_setOut ct_Walk_stepBy) (cond (Nat.blt k 58) ct_Walk_goOn ct_Walk_traceDeed)))))) (cond (Nat.blt k 89) (cond (Nat.blt k 74) (cond (Nat.blt k 66) (cond (Nat.blt k 62) (cond (Nat.blt k 60) ct_Walk_cornersInRow (cond (Nat.blt k 61) ct_Walk_twiceArea ct_Walk_nextCorner)) (cond (Nat.blt k 64) (cond (Nat.blt k 63) ct_Walk_gapHere ct_Walk_gapBy) (cond (Nat.blt k 65) ct_Walk_gapWithSlip ct_Walk_findBestSlip))) (cond (Nat.blt k 70) (cond (Nat.blt k 68) (cond (Nat.blt k 67) ct_Walk_findBestNeedle ct_Walk_findBestChain) (cond (Nat.blt k 69) ct_Walk_takeIfBetter ct_Walk_learntOf)) (cond (Nat.blt k 72) (cond (Nat.blt k 71) ct_Oak_init ct_Oak_stone) (cond (Nat.blt k 73) ct_Oak_stoneTold ct_Oak_move)))) (cond (Nat.blt k 81) (cond (Nat.blt k 77) (cond (Nat.blt k 75) ct_Oak_deed (cond (Nat.blt k 76) ct_Oak_deedTold ct_Oak_set)) (cond (Nat.blt k 79) (cond (Nat.blt k 78) ct_Oak_call ct_Oak_told) (cond (Nat.blt k 80) ct_Oak_as ct_Oak_turns))) (cond (Nat.blt k 85) (cond (Nat.blt k 83) (cond (Nat.blt k 82) ct_Oak_drop ct_Oak_deal) (cond (Nat.blt k 84) ct_Oak_seed ct_Oak_corner)) (cond (Nat.blt k 87) (cond (Nat.blt k 86) ct_Oak_gap ct_Oak_area) (cond (Nat.blt k 88) ct_Oak_holds ct_Oak_field))))) (cond (Nat.blt k 104) (cond (Nat.blt k 96) (cond (Nat.blt k 92) (cond (Nat.blt k 90) ct_Oak_over (cond (Nat.blt k 91) ct_Oak_whose ct_Oak_owned)) (cond (Nat.blt k 94) (cond (Nat.blt k 93) ct_Oak_slip ct_Oak_best) (cond (Nat.blt k 95) ct_Oak_learn ct_Oak_near))) (cond (Nat.blt k 100) (cond (Nat.blt k 98) (cond (Nat.blt k 97) ct_Oak_would ct_Oak_feed) (cond (Nat.blt k 99) ct_Oak_trim ct_Oak_text)) (cond (Nat.blt k 102) (cond (Nat.blt k 101) ct_Oak_textTold ct_Oak_why) (cond (Nat.blt k 103) ct_Oak_sheet ct_Oak_mark)))) (cond (Nat.blt k 111) (cond (Nat.blt k 107) (cond (Nat.blt k 105) ct_Oak_pour (cond (Nat.blt k 106) ct_Oak_reads ct_Oak_copy)) (cond (Nat.blt k 109) (cond (Nat.blt k 108) ct_Oak_lay ct_Oak_ask) (cond (Nat.blt k 110) ct_Oak_item ct_Oak_rest))) (cond (Nat.blt k 115) (cond (Nat.blt k 113) (cond (Nat.blt k 112) ct_Oak_tell ct_Oak_check) (cond (Nat.blt k 114) ct_Oak_keep ct_Oak_back)) (cond (Nat.blt k 117) (cond (Nat.blt k 116) ct_Oak_count ct_Oak_isWithin) (cond (Nat.blt k 118) ct_Oak_isStonePlace ct_Oak_isCell))))))) (cond (Nat.blt k 178) (cond (Nat.blt k 148) (cond (Nat.blt k 133) (cond (Nat.blt k 126) (cond (Nat.blt k 122) (cond (Nat.blt k 120) ct_Oak_isYear (cond (Nat.blt k 121) ct_Oak_isSlack ct_Oak_isKind)) (cond (Nat.blt k 124) (cond (Nat.blt k 123) ct_Oak_isRun ct_Oak_isSheet) (cond (Nat.blt k 125) ct_Oak_isSlot ct_Oak_isOfKind))) (cond (Nat.blt k 129) (cond (Nat.blt k 127) ct_Oak_worthOf (cond (Nat.blt k 128) ct_Oak_trueOf ct_Oak_farApart)) (cond (Nat.blt k 131) (cond (Nat.blt k 130) ct_Oak_countBits ct_Oak_isLetter) (cond (Nat.blt k 132) ct_Mod_init ct_Mod_in)))) (cond (Nat.blt k 140) (cond (Nat.blt k 136) (cond (Nat.blt k 134) ct_Mod_within (cond (Nat.blt k 135) ct_Mod_size ct_Mod_copyAll)) (cond (Nat.blt k 138) (cond (Nat.blt k 137) ct_Mod_isStone ct_Mod_isDeed) (cond (Nat.blt k 139) ct_Mod_of ct_Mod_isCall))) (cond (Nat.blt k 144) (cond (Nat.blt k 142) (cond (Nat.blt k 141) ct_Mod_callOf ct_Mod_isSpot) (cond (Nat.blt k 143) ct_Mod_stone ct_Mod_stoneTold)) (cond (Nat.blt k 146) (cond (Nat.blt k 145) ct_Mod_move ct_Mod_isCell) (cond (Nat.blt k 147) ct_Mod_deed ct_Mod_needleOf))))) (cond (Nat.blt k 163) (cond (Nat.blt k 155) (cond (Nat.blt k 151) (cond (Nat.blt k 149) ct_Mod_chainOf (cond (Nat.blt k 150) ct_Mod_rankOf ct_Mod_deedTold)) (cond (Nat.blt k 153) (cond (Nat.blt k 152) ct_Mod_set ct_Mod_isRun) (cond (Nat.blt k 154) ct_Mod_comes ct_Mod_call))) (cond (Nat.blt k 159) (cond (Nat.blt k 157) (cond (Nat.blt k 156) ct_Mod_trueBy ct_Mod_worthOf) (cond (Nat.blt k 158) ct_Mod_told ct_Mod_isUnder)) (cond (Nat.blt k 161) (cond (Nat.blt k 160) ct_Mod_as ct_Mod_turns) (cond (Nat.blt k 162) ct_Mod_drop ct_Mod_draw)))) (cond (Nat.blt k 170) (cond (Nat.blt k 166) (cond (Nat.blt k 164) ct_Mod_deal (cond (Nat.blt k 165) ct_Mod_seed ct_Mod_takeCalls)) (cond (Nat.blt k 168) (cond (Nat.blt k 167) ct_Mod_acrossBy ct_Mod_upBy) (cond (Nat.blt k 169) ct_Mod_walk ct_Mod_walks))) (cond (Nat.blt k 174) (cond (Nat.blt k 172) (cond (Nat.blt k 171) ct_Mod_findCorners ct_Mod_corner) (cond (Nat.blt k 173) ct_Mod_gap ct_Mod_area)) (cond (Nat.blt k 176) (cond (Nat.blt k 175) ct_Mod_isHeld ct_Mod_findHeld) (cond (Nat.blt k 177) ct_Mod_ownerOf ct_Mod_holds)))))) (cond (Nat.blt k 208) (cond (Nat.blt k 193) (cond (Nat.blt k 185) (cond (Nat.blt k 181) (cond (Nat.blt k 179) ct_Mod_field (cond (Nat.blt k 180) ct_Mod_over ct_Mod_whose)) (cond (Nat.blt k 183) (cond (Nat.blt k 182) ct_Mod_owned ct_Mod_exchange) (cond (Nat.blt k 184) ct_Mod_takeSlipped ct_Mod_slip))) (cond (Nat.blt k 189) (cond (Nat.blt k 187) (cond (Nat.blt k 186) ct_Mod_best ct_Mod_learn) (cond (Nat.blt k 188) ct_Mod_near ct_Mod_would)) (cond (Nat.blt k 191) (cond (Nat.blt k 190) ct_Mod_feed ct_Mod_trim) (cond (Nat.blt k 192) ct_Mod_isLetter ct_Mod_isFigure)))) (cond (Nat.blt k 200) (cond (Nat.blt k 196) (cond (Nat.blt k 194) ct_Mod_go (cond (Nat.blt k 195) ct_Mod_takesKey ct_Mod_nameOf)) (cond (Nat.blt k 198) (cond (Nat.blt k 197) ct_Mod_rank ct_Mod_settle) (cond (Nat.blt k 199) ct_Mod_signHere ct_Mod_takesPart))) (cond (Nat.blt k 204) (cond (Nat.blt k 202) (cond (Nat.blt k 201) ct_Mod_takesE ct_Mod_notsOpen) (cond (Nat.blt k 203) ct_Mod_text ct_Mod_textTold)) (cond (Nat.blt k 206) (cond (Nat.blt k 205) ct_Mod_counts ct_Mod_why) (cond (Nat.blt k 207) ct_Mod_two ct_Mod_worksOut))))) (cond (Nat.blt k 223) (cond (Nat.blt k 215) (cond (Nat.blt k 211) (cond (Nat.blt k 209) ct_Mod_isSheet (cond (Nat.blt k 210) ct_Mod_isSlot ct_Mod_sheet)) (cond (Nat.blt k 213) (cond (Nat.blt k 212) ct_Mod_mark ct_Mod_pour) (cond (Nat.blt k 214) ct_Mod_reads ct_Mod_copy))) (cond (Nat.blt k 219) (cond (Nat.blt k 217) (cond (Nat.blt k 216) ct_Mod_lay ct_Mod_ask) (cond (Nat.blt k 218) ct_Mod_item ct_Mod_rest)) (cond (Nat.blt k 221) (cond (Nat.blt k 220) ct_Mod_tell ct_Mod_check) (cond (Nat.blt k 222) ct_Mod_keep ct_Mod_back)))) (cond (Nat.blt k 230) (cond (Nat.blt k 226) (cond (Nat.blt k 224) ct_Mod_count (cond (Nat.blt k 225) ct_Integer_bitCount ct_Math_floorDiv)) (cond (Nat.blt k 228) (cond (Nat.blt k 227) ct_Math_abs ct_Math_max) (cond (Nat.blt k 229) ct_Math_min ct_String_length))) (cond (Nat.blt k 234) (cond (Nat.blt k 232) (cond (Nat.blt k 231) ct_String_charAt ct_String_coder) (cond (Nat.blt k 233) ct_String_isLatin1 ct_String_checkIndex)) (cond (Nat.blt k 236) (cond (Nat.blt k 235) ct_StringLatin1_charAt ct_Arrays_fill) (cond (Nat.blt k 237) ct_Preconditions_checkIndex ct_Law_law))))))))
def oMY (k : Nat) : MethodName := (cond (Nat.blt k 119) (cond (Nat.blt k 59) (cond (Nat.blt k 29) (cond (Nat.blt k 14) (cond (Nat.blt k 7) (cond (Nat.blt k 3) (cond (Nat.blt k 1) y_Cells_init (cond (Nat.blt k 2) y_Cells_isHeld y_Cells_fillDeed)) (cond (Nat.blt k 5) (cond (Nat.blt k 4) y_Cells_addSide y_Cells_fillOwners) (cond (Nat.blt k 6) y_Cells_firstUnserved y_Cells_countUnlike))) (cond (Nat.blt k 10) (cond (Nat.blt k 8) y_Deed_init (cond (Nat.blt k 9) y_Deed_beginAt y_Deed_hasNumber)) (cond (Nat.blt k 12) (cond (Nat.blt k 11) y_Deed_addCall y_Deed_removeCall) (cond (Nat.blt k 13) y_Deed_takeFrom y_Land_init)))) (cond (Nat.blt k 21) (cond (Nat.blt k 17) (cond (Nat.blt k 15) y_Land_takeFrom (cond (Nat.blt k 16) y_Land_hasStone y_Land_hasDeed)) (cond (Nat.blt k 19) (cond (Nat.blt k 18) y_Land_hasCall y_Land_hasYear) (cond (Nat.blt k 20) y_Land_putStone y_Land_callsOfAll))) (cond (Nat.blt k 25) (cond (Nat.blt k 23) (cond (Nat.blt k 22) y_Land_drawNumber y_Land_needleOf) (cond (Nat.blt k 24) y_Land_chainOf y_Land_rankOf)) (cond (Nat.blt k 27) (cond (Nat.blt k 26) y_Laws_init y_Laws_lastOf) (cond (Nat.blt k 28) y_Laws_workOut y_Laws_named))))) (cond (Nat.blt k 44) (cond (Nat.blt k 36) (cond (Nat.blt k 32) (cond (Nat.blt k 30) y_Laws_joined (cond (Nat.blt k 31) y_Reader_init y_Reader_addFour)) (cond (Nat.blt k 34) (cond (Nat.blt k 33) y_Reader_parseTape y_Reader_advance) (cond (Nat.blt k 35) y_Reader_sortOf y_Reader_keyHere))) (cond (Nat.blt k 40) (cond (Nat.blt k 38) (cond (Nat.blt k 37) y_Reader_isWord y_Reader_isSign) (cond (Nat.blt k 39) y_Reader_isName y_Reader_isJoin)) (cond (Nat.blt k 42) (cond (Nat.blt k 41) y_Reader_parseLevel y_Reader_parsePiece) (cond (Nat.blt k 43) y_Reader_parseAtom y_Reader_numberHere)))) (cond (Nat.blt k 51) (cond (Nat.blt k 47) (cond (Nat.blt k 45) y_Reader_addCode (cond (Nat.blt k 46) y_Row_init y_Row_become)) (cond (Nat.blt k 49) (cond (Nat.blt k 48) y_Row_takeFrom y_Row_hasPlace) (cond (Nat.blt k 50) y_Row_hasRun y_Slot_init))) (cond (Nat.blt k 55) (cond (Nat.blt k 53) (cond (Nat.blt k 52) y_Slot_takeCall y_Text_init) (cond (Nat.blt k 54) y_Text_takeFrom y_Walk_init)) (cond (Nat.blt k 57) (cond (Nat.blt k 56) y_Walk_setOut y_Walk_stepBy) (cond (Nat.blt k 58) y_Walk_goOn y_Walk_traceDeed)))))) (cond (Nat.blt k 89) (cond (Nat.blt k 74) (cond (Nat.blt k 66) (cond (Nat.blt k 62) (cond (Nat.blt k 60) y_Walk_cornersInRow (cond (Nat.blt k 61) y_Walk_twiceArea y_Walk_nextCorner)) (cond (Nat.blt k 64) (cond (Nat.blt k 63) y_Walk_gapHere y_Walk_gapBy) (cond (Nat.blt k 65) y_Walk_gapWithSlip y_Walk_findBestSlip))) (cond (Nat.blt k 70) (cond (Nat.blt k 68) (cond (Nat.blt k 67) y_Walk_findBestNeedle y_Walk_findBestChain) (cond (Nat.blt k 69) y_Walk_takeIfBetter y_Walk_learntOf)) (cond (Nat.blt k 72) (cond (Nat.blt k 71) y_Oak_init y_Oak_stone) (cond (Nat.blt k 73) y_Oak_stoneTold y_Oak_move)))) (cond (Nat.blt k 81) (cond (Nat.blt k 77) (cond (Nat.blt k 75) y_Oak_deed (cond (Nat.blt k 76) y_Oak_deedTold y_Oak_set)) (cond (Nat.blt k 79) (cond (Nat.blt k 78) y_Oak_call y_Oak_told) (cond (Nat.blt k 80) y_Oak_as y_Oak_turns))) (cond (Nat.blt k 85) (cond (Nat.blt k 83) (cond (Nat.blt k 82) y_Oak_drop y_Oak_deal) (cond (Nat.blt k 84) y_Oak_seed y_Oak_corner)) (cond (Nat.blt k 87) (cond (Nat.blt k 86) y_Oak_gap y_Oak_area) (cond (Nat.blt k 88) y_Oak_holds y_Oak_field))))) (cond (Nat.blt k 104) (cond (Nat.blt k 96) (cond (Nat.blt k 92) (cond (Nat.blt k 90) y_Oak_over (cond (Nat.blt k 91) y_Oak_whose y_Oak_owned)) (cond (Nat.blt k 94) (cond (Nat.blt k 93) y_Oak_slip y_Oak_best) (cond (Nat.blt k 95) y_Oak_learn y_Oak_near))) (cond (Nat.blt k 100) (cond (Nat.blt k 98) (cond (Nat.blt k 97) y_Oak_would y_Oak_feed) (cond (Nat.blt k 99) y_Oak_trim y_Oak_text)) (cond (Nat.blt k 102) (cond (Nat.blt k 101) y_Oak_textTold y_Oak_why) (cond (Nat.blt k 103) y_Oak_sheet y_Oak_mark)))) (cond (Nat.blt k 111) (cond (Nat.blt k 107) (cond (Nat.blt k 105) y_Oak_pour (cond (Nat.blt k 106) y_Oak_reads y_Oak_copy)) (cond (Nat.blt k 109) (cond (Nat.blt k 108) y_Oak_lay y_Oak_ask) (cond (Nat.blt k 110) y_Oak_item y_Oak_rest))) (cond (Nat.blt k 115) (cond (Nat.blt k 113) (cond (Nat.blt k 112) y_Oak_tell y_Oak_check) (cond (Nat.blt k 114) y_Oak_keep y_Oak_back)) (cond (Nat.blt k 117) (cond (Nat.blt k 116) y_Oak_count y_Oak_isWithin) (cond (Nat.blt k 118) y_Oak_isStonePlace y_Oak_isCell))))))) (cond (Nat.blt k 178) (cond (Nat.blt k 148) (cond (Nat.blt k 133) (cond (Nat.blt k 126) (cond (Nat.blt k 122) (cond (Nat.blt k 120) y_Oak_isYear (cond (Nat.blt k 121) y_Oak_isSlack y_Oak_isKind)) (cond (Nat.blt k 124) (cond (Nat.blt k 123) y_Oak_isRun y_Oak_isSheet) (cond (Nat.blt k 125) y_Oak_isSlot y_Oak_isOfKind))) (cond (Nat.blt k 129) (cond (Nat.blt k 127) y_Oak_worthOf (cond (Nat.blt k 128) y_Oak_trueOf y_Oak_farApart)) (cond (Nat.blt k 131) (cond (Nat.blt k 130) y_Oak_countBits y_Oak_isLetter) (cond (Nat.blt k 132) y_Mod_init y_Mod_in)))) (cond (Nat.blt k 140) (cond (Nat.blt k 136) (cond (Nat.blt k 134) y_Mod_within (cond (Nat.blt k 135) y_Mod_size y_Mod_copyAll)) (cond (Nat.blt k 138) (cond (Nat.blt k 137) y_Mod_isStone y_Mod_isDeed) (cond (Nat.blt k 139) y_Mod_of y_Mod_isCall))) (cond (Nat.blt k 144) (cond (Nat.blt k 142) (cond (Nat.blt k 141) y_Mod_callOf y_Mod_isSpot) (cond (Nat.blt k 143) y_Mod_stone y_Mod_stoneTold)) (cond (Nat.blt k 146) (cond (Nat.blt k 145) y_Mod_move y_Mod_isCell) (cond (Nat.blt k 147) y_Mod_deed y_Mod_needleOf))))) (cond (Nat.blt k 163) (cond (Nat.blt k 155) (cond (Nat.blt k 151) (cond (Nat.blt k 149) y_Mod_chainOf (cond (Nat.blt k 150) y_Mod_rankOf y_Mod_deedTold)) (cond (Nat.blt k 153) (cond (Nat.blt k 152) y_Mod_set y_Mod_isRun) (cond (Nat.blt k 154) y_Mod_comes y_Mod_call))) (cond (Nat.blt k 159) (cond (Nat.blt k 157) (cond (Nat.blt k 156) y_Mod_trueBy y_Mod_worthOf) (cond (Nat.blt k 158) y_Mod_told y_Mod_isUnder)) (cond (Nat.blt k 161) (cond (Nat.blt k 160) y_Mod_as y_Mod_turns) (cond (Nat.blt k 162) y_Mod_drop y_Mod_draw)))) (cond (Nat.blt k 170) (cond (Nat.blt k 166) (cond (Nat.blt k 164) y_Mod_deal (cond (Nat.blt k 165) y_Mod_seed y_Mod_takeCalls)) (cond (Nat.blt k 168) (cond (Nat.blt k 167) y_Mod_acrossBy y_Mod_upBy) (cond (Nat.blt k 169) y_Mod_walk y_Mod_walks))) (cond (Nat.blt k 174) (cond (Nat.blt k 172) (cond (Nat.blt k 171) y_Mod_findCorners y_Mod_corner) (cond (Nat.blt k 173) y_Mod_gap y_Mod_area)) (cond (Nat.blt k 176) (cond (Nat.blt k 175) y_Mod_isHeld y_Mod_findHeld) (cond (Nat.blt k 177) y_Mod_ownerOf y_Mod_holds)))))) (cond (Nat.blt k 208) (cond (Nat.blt k 193) (cond (Nat.blt k 185) (cond (Nat.blt k 181) (cond (Nat.blt k 179) y_Mod_field (cond (Nat.blt k 180) y_Mod_over y_Mod_whose)) (cond (Nat.blt k 183) (cond (Nat.blt k 182) y_Mod_owned y_Mod_exchange) (cond (Nat.blt k 184) y_Mod_takeSlipped y_Mod_slip))) (cond (Nat.blt k 189) (cond (Nat.blt k 187) (cond (Nat.blt k 186) y_Mod_best y_Mod_learn) (cond (Nat.blt k 188) y_Mod_near y_Mod_would)) (cond (Nat.blt k 191) (cond (Nat.blt k 190) y_Mod_feed y_Mod_trim) (cond (Nat.blt k 192) y_Mod_isLetter y_Mod_isFigure)))) (cond (Nat.blt k 200) (cond (Nat.blt k 196) (cond (Nat.blt k 194) y_Mod_go (cond (Nat.blt k 195) y_Mod_takesKey y_Mod_nameOf)) (cond (Nat.blt k 198) (cond (Nat.blt k 197) y_Mod_rank y_Mod_settle) (cond (Nat.blt k 199) y_Mod_signHere y_Mod_takesPart))) (cond (Nat.blt k 204) (cond (Nat.blt k 202) (cond (Nat.blt k 201) y_Mod_takesE y_Mod_notsOpen) (cond (Nat.blt k 203) y_Mod_text y_Mod_textTold)) (cond (Nat.blt k 206) (cond (Nat.blt k 205) y_Mod_counts y_Mod_why) (cond (Nat.blt k 207) y_Mod_two y_Mod_worksOut))))) (cond (Nat.blt k 223) (cond (Nat.blt k 215) (cond (Nat.blt k 211) (cond (Nat.blt k 209) y_Mod_isSheet (cond (Nat.blt k 210) y_Mod_isSlot y_Mod_sheet)) (cond (Nat.blt k 213) (cond (Nat.blt k 212) y_Mod_mark y_Mod_pour) (cond (Nat.blt k 214) y_Mod_reads y_Mod_copy))) (cond (Nat.blt k 219) (cond (Nat.blt k 217) (cond (Nat.blt k 216) y_Mod_lay y_Mod_ask) (cond (Nat.blt k 218) y_Mod_item y_Mod_rest)) (cond (Nat.blt k 221) (cond (Nat.blt k 220) y_Mod_tell y_Mod_check) (cond (Nat.blt k 222) y_Mod_keep y_Mod_back)))) (cond (Nat.blt k 230) (cond (Nat.blt k 226) (cond (Nat.blt k 224) y_Mod_count (cond (Nat.blt k 225) y_Integer_bitCount y_Math_floorDiv)) (cond (Nat.blt k 228) (cond (Nat.blt k 227) y_Math_abs y_Math_max) (cond (Nat.blt k 229) y_Math_min y_String_length))) (cond (Nat.blt k 234) (cond (Nat.blt k 232) (cond (Nat.blt k 231) y_String_charAt y_String_coder) (cond (Nat.blt k 233) y_String_isLatin1 y_String_checkIndex)) (cond (Nat.blt k 236) (cond (Nat.blt k 235) y_StringLatin1_charAt y_Arrays_fill) (cond (Nat.blt k 237) y_Preconditions_checkIndex y_Law_law))))))))
def oMC (k : Nat) : ByteArray := (cond (Nat.blt k 119) (cond (Nat.blt k 59) (cond (Nat.blt k 29) (cond (Nat.blt k 14) (cond (Nat.blt k 7) (cond (Nat.blt k 3) (cond (Nat.blt k 1) prog_2_method_1_code (cond (Nat.blt k 2) prog_2_method_2_code prog_2_method_3_code)) (cond (Nat.blt k 5) (cond (Nat.blt k 4) prog_2_method_4_code prog_2_method_5_code) (cond (Nat.blt k 6) prog_2_method_6_code prog_2_method_7_code))) (cond (Nat.blt k 10) (cond (Nat.blt k 8) prog_3_method_1_code (cond (Nat.blt k 9) prog_3_method_2_code prog_3_method_3_code)) (cond (Nat.blt k 12) (cond (Nat.blt k 11) prog_3_method_4_code prog_3_method_5_code) (cond (Nat.blt k 13) prog_3_method_6_code prog_4_method_1_code)))) (cond (Nat.blt k 21) (cond (Nat.blt k 17) (cond (Nat.blt k 15) prog_4_method_2_code (cond (Nat.blt k 16) prog_4_method_3_code prog_4_method_4_code)) (cond (Nat.blt k 19) (cond (Nat.blt k 18) prog_4_method_5_code prog_4_method_6_code) (cond (Nat.blt k 20) prog_4_method_7_code prog_4_method_8_code))) (cond (Nat.blt k 25) (cond (Nat.blt k 23) (cond (Nat.blt k 22) prog_4_method_9_code prog_4_method_10_code) (cond (Nat.blt k 24) prog_4_method_11_code prog_4_method_12_code)) (cond (Nat.blt k 27) (cond (Nat.blt k 26) prog_5_method_1_code prog_5_method_2_code) (cond (Nat.blt k 28) prog_5_method_3_code prog_5_method_4_code))))) (cond (Nat.blt k 44) (cond (Nat.blt k 36) (cond (Nat.blt k 32) (cond (Nat.blt k 30) prog_5_method_5_code (cond (Nat.blt k 31) prog_6_method_1_code prog_6_method_2_code)) (cond (Nat.blt k 34) (cond (Nat.blt k 33) prog_6_method_3_code prog_6_method_4_code) (cond (Nat.blt k 35) prog_6_method_5_code prog_6_method_6_code))) (cond (Nat.blt k 40) (cond (Nat.blt k 38) (cond (Nat.blt k 37) prog_6_method_7_code prog_6_method_8_code) (cond (Nat.blt k 39) prog_6_method_9_code prog_6_method_10_code)) (cond (Nat.blt k 42) (cond (Nat.blt k 41) prog_6_method_11_code prog_6_method_12_code) (cond (Nat.blt k 43) prog_6_method_13_code prog_6_method_14_code)))) (cond (Nat.blt k 51) (cond (Nat.blt k 47) (cond (Nat.blt k 45) prog_6_method_15_code (cond (Nat.blt k 46) prog_7_method_1_code prog_7_method_2_code)) (cond (Nat.blt k 49) (cond (Nat.blt k 48) prog_7_method_3_code prog_7_method_4_code) (cond (Nat.blt k 50) prog_7_method_5_code prog_8_method_1_code))) (cond (Nat.blt k 55) (cond (Nat.blt k 53) (cond (Nat.blt k 52) prog_8_method_2_code prog_9_method_1_code) (cond (Nat.blt k 54) prog_9_method_2_code prog_10_method_1_code)) (cond (Nat.blt k 57) (cond (Nat.blt k 56) prog_10_method_2_code prog_10_method_3_code) (cond (Nat.blt k 58) prog_10_method_4_code prog_10_method_5_code)))))) (cond (Nat.blt k 89) (cond (Nat.blt k 74) (cond (Nat.blt k 66) (cond (Nat.blt k 62) (cond (Nat.blt k 60) prog_10_method_6_code (cond (Nat.blt k 61) prog_10_method_7_code prog_10_method_8_code)) (cond (Nat.blt k 64) (cond (Nat.blt k 63) prog_10_method_9_code prog_10_method_10_code) (cond (Nat.blt k 65) prog_10_method_11_code prog_10_method_12_code))) (cond (Nat.blt k 70) (cond (Nat.blt k 68) (cond (Nat.blt k 67) prog_10_method_13_code prog_10_method_14_code) (cond (Nat.blt k 69) prog_10_method_15_code prog_10_method_16_code)) (cond (Nat.blt k 72) (cond (Nat.blt k 71) prog_1_method_1_code prog_1_method_2_code) (cond (Nat.blt k 73) prog_1_method_3_code prog_1_method_4_code)))) (cond (Nat.blt k 81) (cond (Nat.blt k 77) (cond (Nat.blt k 75) prog_1_method_5_code (cond (Nat.blt k 76) prog_1_method_6_code prog_1_method_7_code)) (cond (Nat.blt k 79) (cond (Nat.blt k 78) prog_1_method_8_code prog_1_method_9_code) (cond (Nat.blt k 80) prog_1_method_10_code prog_1_method_11_code))) (cond (Nat.blt k 85) (cond (Nat.blt k 83) (cond (Nat.blt k 82) prog_1_method_12_code prog_1_method_13_code) (cond (Nat.blt k 84) prog_1_method_14_code prog_1_method_15_code)) (cond (Nat.blt k 87) (cond (Nat.blt k 86) prog_1_method_16_code prog_1_method_17_code) (cond (Nat.blt k 88) prog_1_method_18_code prog_1_method_19_code))))) (cond (Nat.blt k 104) (cond (Nat.blt k 96) (cond (Nat.blt k 92) (cond (Nat.blt k 90) prog_1_method_20_code (cond (Nat.blt k 91) prog_1_method_21_code prog_1_method_22_code)) (cond (Nat.blt k 94) (cond (Nat.blt k 93) prog_1_method_23_code prog_1_method_24_code) (cond (Nat.blt k 95) prog_1_method_25_code prog_1_method_26_code))) (cond (Nat.blt k 100) (cond (Nat.blt k 98) (cond (Nat.blt k 97) prog_1_method_27_code prog_1_method_28_code) (cond (Nat.blt k 99) prog_1_method_29_code prog_1_method_30_code)) (cond (Nat.blt k 102) (cond (Nat.blt k 101) prog_1_method_31_code prog_1_method_32_code) (cond (Nat.blt k 103) prog_1_method_33_code prog_1_method_34_code)))) (cond (Nat.blt k 111) (cond (Nat.blt k 107) (cond (Nat.blt k 105) prog_1_method_35_code (cond (Nat.blt k 106) prog_1_method_36_code prog_1_method_37_code)) (cond (Nat.blt k 109) (cond (Nat.blt k 108) prog_1_method_38_code prog_1_method_39_code) (cond (Nat.blt k 110) prog_1_method_40_code prog_1_method_41_code))) (cond (Nat.blt k 115) (cond (Nat.blt k 113) (cond (Nat.blt k 112) prog_1_method_42_code prog_1_method_43_code) (cond (Nat.blt k 114) prog_1_method_44_code prog_1_method_45_code)) (cond (Nat.blt k 117) (cond (Nat.blt k 116) prog_1_method_46_code prog_1_method_47_code) (cond (Nat.blt k 118) prog_1_method_48_code prog_1_method_49_code))))))) (cond (Nat.blt k 178) (cond (Nat.blt k 148) (cond (Nat.blt k 133) (cond (Nat.blt k 126) (cond (Nat.blt k 122) (cond (Nat.blt k 120) prog_1_method_50_code (cond (Nat.blt k 121) prog_1_method_51_code prog_1_method_52_code)) (cond (Nat.blt k 124) (cond (Nat.blt k 123) prog_1_method_53_code prog_1_method_54_code) (cond (Nat.blt k 125) prog_1_method_55_code prog_1_method_56_code))) (cond (Nat.blt k 129) (cond (Nat.blt k 127) prog_1_method_57_code (cond (Nat.blt k 128) prog_1_method_58_code prog_1_method_59_code)) (cond (Nat.blt k 131) (cond (Nat.blt k 130) prog_1_method_60_code prog_1_method_61_code) (cond (Nat.blt k 132) prog_12_method_1_code prog_12_method_2_code)))) (cond (Nat.blt k 140) (cond (Nat.blt k 136) (cond (Nat.blt k 134) prog_12_method_3_code (cond (Nat.blt k 135) prog_12_method_4_code prog_12_method_5_code)) (cond (Nat.blt k 138) (cond (Nat.blt k 137) prog_12_method_6_code prog_12_method_7_code) (cond (Nat.blt k 139) prog_12_method_8_code prog_12_method_9_code))) (cond (Nat.blt k 144) (cond (Nat.blt k 142) (cond (Nat.blt k 141) prog_12_method_10_code prog_12_method_11_code) (cond (Nat.blt k 143) prog_12_method_12_code prog_12_method_13_code)) (cond (Nat.blt k 146) (cond (Nat.blt k 145) prog_12_method_14_code prog_12_method_15_code) (cond (Nat.blt k 147) prog_12_method_16_code prog_12_method_17_code))))) (cond (Nat.blt k 163) (cond (Nat.blt k 155) (cond (Nat.blt k 151) (cond (Nat.blt k 149) prog_12_method_18_code (cond (Nat.blt k 150) prog_12_method_19_code prog_12_method_20_code)) (cond (Nat.blt k 153) (cond (Nat.blt k 152) prog_12_method_21_code prog_12_method_22_code) (cond (Nat.blt k 154) prog_12_method_23_code prog_12_method_24_code))) (cond (Nat.blt k 159) (cond (Nat.blt k 157) (cond (Nat.blt k 156) prog_12_method_25_code prog_12_method_26_code) (cond (Nat.blt k 158) prog_12_method_27_code prog_12_method_28_code)) (cond (Nat.blt k 161) (cond (Nat.blt k 160) prog_12_method_29_code prog_12_method_30_code) (cond (Nat.blt k 162) prog_12_method_31_code prog_12_method_32_code)))) (cond (Nat.blt k 170) (cond (Nat.blt k 166) (cond (Nat.blt k 164) prog_12_method_33_code (cond (Nat.blt k 165) prog_12_method_34_code prog_12_method_35_code)) (cond (Nat.blt k 168) (cond (Nat.blt k 167) prog_12_method_36_code prog_12_method_37_code) (cond (Nat.blt k 169) prog_12_method_38_code prog_12_method_39_code))) (cond (Nat.blt k 174) (cond (Nat.blt k 172) (cond (Nat.blt k 171) prog_12_method_40_code prog_12_method_41_code) (cond (Nat.blt k 173) prog_12_method_42_code prog_12_method_43_code)) (cond (Nat.blt k 176) (cond (Nat.blt k 175) prog_12_method_44_code prog_12_method_45_code) (cond (Nat.blt k 177) prog_12_method_46_code prog_12_method_47_code)))))) (cond (Nat.blt k 208) (cond (Nat.blt k 193) (cond (Nat.blt k 185) (cond (Nat.blt k 181) (cond (Nat.blt k 179) prog_12_method_48_code (cond (Nat.blt k 180) prog_12_method_49_code prog_12_method_50_code)) (cond (Nat.blt k 183) (cond (Nat.blt k 182) prog_12_method_51_code prog_12_method_52_code) (cond (Nat.blt k 184) prog_12_method_53_code prog_12_method_54_code))) (cond (Nat.blt k 189) (cond (Nat.blt k 187) (cond (Nat.blt k 186) prog_12_method_55_code prog_12_method_56_code) (cond (Nat.blt k 188) prog_12_method_57_code prog_12_method_58_code)) (cond (Nat.blt k 191) (cond (Nat.blt k 190) prog_12_method_59_code prog_12_method_60_code) (cond (Nat.blt k 192) prog_12_method_61_code prog_12_method_62_code)))) (cond (Nat.blt k 200) (cond (Nat.blt k 196) (cond (Nat.blt k 194) prog_12_method_63_code (cond (Nat.blt k 195) prog_12_method_64_code prog_12_method_65_code)) (cond (Nat.blt k 198) (cond (Nat.blt k 197) prog_12_method_66_code prog_12_method_67_code) (cond (Nat.blt k 199) prog_12_method_68_code prog_12_method_69_code))) (cond (Nat.blt k 204) (cond (Nat.blt k 202) (cond (Nat.blt k 201) prog_12_method_70_code prog_12_method_71_code) (cond (Nat.blt k 203) prog_12_method_72_code prog_12_method_73_code)) (cond (Nat.blt k 206) (cond (Nat.blt k 205) prog_12_method_74_code prog_12_method_75_code) (cond (Nat.blt k 207) prog_12_method_76_code prog_12_method_77_code))))) (cond (Nat.blt k 223) (cond (Nat.blt k 215) (cond (Nat.blt k 211) (cond (Nat.blt k 209) prog_12_method_78_code (cond (Nat.blt k 210) prog_12_method_79_code prog_12_method_80_code)) (cond (Nat.blt k 213) (cond (Nat.blt k 212) prog_12_method_81_code prog_12_method_82_code) (cond (Nat.blt k 214) prog_12_method_83_code prog_12_method_84_code))) (cond (Nat.blt k 219) (cond (Nat.blt k 217) (cond (Nat.blt k 216) prog_12_method_85_code prog_12_method_86_code) (cond (Nat.blt k 218) prog_12_method_87_code prog_12_method_88_code)) (cond (Nat.blt k 221) (cond (Nat.blt k 220) prog_12_method_89_code prog_12_method_90_code) (cond (Nat.blt k 222) prog_12_method_91_code prog_12_method_92_code)))) (cond (Nat.blt k 230) (cond (Nat.blt k 226) (cond (Nat.blt k 224) prog_12_method_93_code (cond (Nat.blt k 225) prog_13_method_49_code prog_14_method_47_code)) (cond (Nat.blt k 228) (cond (Nat.blt k 227) prog_14_method_59_code prog_14_method_65_code) (cond (Nat.blt k 229) prog_14_method_69_code prog_15_method_54_code))) (cond (Nat.blt k 234) (cond (Nat.blt k 232) (cond (Nat.blt k 231) prog_15_method_56_code prog_15_method_152_code) (cond (Nat.blt k 233) prog_15_method_154_code prog_15_method_155_code)) (cond (Nat.blt k 236) (cond (Nat.blt k 235) prog_16_method_2_code prog_19_method_103_code) (cond (Nat.blt k 237) prog_20_method_11_code code))))))))
def oML (k : Nat) : Nat := (cond (Nat.blt k 119) (cond (Nat.blt k 59) (cond (Nat.blt k 29) (cond (Nat.blt k 14) (cond (Nat.blt k 7) (cond (Nat.blt k 3) (cond (Nat.blt k 1) 1 (cond (Nat.blt k 2) 4 6)) (cond (Nat.blt k 5) (cond (Nat.blt k 4) 12 7) (cond (Nat.blt k 6) 5 7))) (cond (Nat.blt k 10) (cond (Nat.blt k 8) 1 (cond (Nat.blt k 9) 2 2)) (cond (Nat.blt k 12) (cond (Nat.blt k 11) 4 3) (cond (Nat.blt k 13) 3 3)))) (cond (Nat.blt k 21) (cond (Nat.blt k 17) (cond (Nat.blt k 15) 3 (cond (Nat.blt k 16) 2 2)) (cond (Nat.blt k 19) (cond (Nat.blt k 18) 3 3) (cond (Nat.blt k 20) 4 3))) (cond (Nat.blt k 25) (cond (Nat.blt k 23) (cond (Nat.blt k 22) 1 3) (cond (Nat.blt k 24) 3 3)) (cond (Nat.blt k 27) (cond (Nat.blt k 26) 2 4) (cond (Nat.blt k 28) 8 3))))) (cond (Nat.blt k 44) (cond (Nat.blt k 36) (cond (Nat.blt k 32) (cond (Nat.blt k 30) 3 (cond (Nat.blt k 31) 1 3)) (cond (Nat.blt k 34) (cond (Nat.blt k 33) 1 3) (cond (Nat.blt k 35) 1 1))) (cond (Nat.blt k 40) (cond (Nat.blt k 38) (cond (Nat.blt k 37) 3 2) (cond (Nat.blt k 39) 2 2)) (cond (Nat.blt k 42) (cond (Nat.blt k 41) 7 4) (cond (Nat.blt k 43) 1 3)))) (cond (Nat.blt k 51) (cond (Nat.blt k 47) (cond (Nat.blt k 45) 2 (cond (Nat.blt k 46) 1 3)) (cond (Nat.blt k 49) (cond (Nat.blt k 48) 2 2) (cond (Nat.blt k 50) 3 1))) (cond (Nat.blt k 55) (cond (Nat.blt k 53) (cond (Nat.blt k 52) 3 1) (cond (Nat.blt k 54) 3 2)) (cond (Nat.blt k 57) (cond (Nat.blt k 56) 4 5) (cond (Nat.blt k 58) 4 4)))))) (cond (Nat.blt k 89) (cond (Nat.blt k 74) (cond (Nat.blt k 66) (cond (Nat.blt k 62) (cond (Nat.blt k 60) 2 (cond (Nat.blt k 61) 4 2)) (cond (Nat.blt k 64) (cond (Nat.blt k 63) 1 6) (cond (Nat.blt k 65) 7 7))) (cond (Nat.blt k 70) (cond (Nat.blt k 68) (cond (Nat.blt k 67) 4 4) (cond (Nat.blt k 69) 3 5)) (cond (Nat.blt k 72) (cond (Nat.blt k 71) 2 3) (cond (Nat.blt k 73) 3 5)))) (cond (Nat.blt k 81) (cond (Nat.blt k 77) (cond (Nat.blt k 75) 5 (cond (Nat.blt k 76) 4 6)) (cond (Nat.blt k 79) (cond (Nat.blt k 78) 5 5) (cond (Nat.blt k 80) 5 6))) (cond (Nat.blt k 85) (cond (Nat.blt k 83) (cond (Nat.blt k 82) 3 9) (cond (Nat.blt k 84) 3 4)) (cond (Nat.blt k 87) (cond (Nat.blt k 86) 2 2) (cond (Nat.blt k 88) 3 2))))) (cond (Nat.blt k 104) (cond (Nat.blt k 96) (cond (Nat.blt k 92) (cond (Nat.blt k 90) 5 (cond (Nat.blt k 91) 3 2)) (cond (Nat.blt k 94) (cond (Nat.blt k 93) 3 3) (cond (Nat.blt k 95) 2 8))) (cond (Nat.blt k 100) (cond (Nat.blt k 98) (cond (Nat.blt k 97) 6 4) (cond (Nat.blt k 99) 2 2)) (cond (Nat.blt k 102) (cond (Nat.blt k 101) 3 2) (cond (Nat.blt k 103) 4 5)))) (cond (Nat.blt k 111) (cond (Nat.blt k 107) (cond (Nat.blt k 105) 7 (cond (Nat.blt k 106) 6 8)) (cond (Nat.blt k 109) (cond (Nat.blt k 108) 6 4) (cond (Nat.blt k 110) 4 4))) (cond (Nat.blt k 115) (cond (Nat.blt k 113) (cond (Nat.blt k 112) 2 5) (cond (Nat.blt k 114) 1 1)) (cond (Nat.blt k 117) (cond (Nat.blt k 116) 2 3) (cond (Nat.blt k 118) 2 1))))))) (cond (Nat.blt k 178) (cond (Nat.blt k 148) (cond (Nat.blt k 133) (cond (Nat.blt k 126) (cond (Nat.blt k 122) (cond (Nat.blt k 120) 1 (cond (Nat.blt k 121) 1 1)) (cond (Nat.blt k 124) (cond (Nat.blt k 123) 1 1) (cond (Nat.blt k 125) 1 4))) (cond (Nat.blt k 129) (cond (Nat.blt k 127) 3 (cond (Nat.blt k 128) 2 4)) (cond (Nat.blt k 131) (cond (Nat.blt k 130) 3 1) (cond (Nat.blt k 132) 1 3)))) (cond (Nat.blt k 140) (cond (Nat.blt k 136) (cond (Nat.blt k 134) 3 (cond (Nat.blt k 135) 1 3)) (cond (Nat.blt k 138) (cond (Nat.blt k 137) 2 2) (cond (Nat.blt k 139) 3 3))) (cond (Nat.blt k 144) (cond (Nat.blt k 142) (cond (Nat.blt k 141) 4 2) (cond (Nat.blt k 143) 3 3)) (cond (Nat.blt k 146) (cond (Nat.blt k 145) 5 1) (cond (Nat.blt k 147) 5 3))))) (cond (Nat.blt k 163) (cond (Nat.blt k 155) (cond (Nat.blt k 151) (cond (Nat.blt k 149) 3 (cond (Nat.blt k 150) 3 3)) (cond (Nat.blt k 153) (cond (Nat.blt k 152) 7 1) (cond (Nat.blt k 154) 7 4))) (cond (Nat.blt k 159) (cond (Nat.blt k 157) (cond (Nat.blt k 156) 2 5) (cond (Nat.blt k 158) 4 2)) (cond (Nat.blt k 161) (cond (Nat.blt k 160) 4 5) (cond (Nat.blt k 162) 6 1)))) (cond (Nat.blt k 170) (cond (Nat.blt k 166) (cond (Nat.blt k 164) 6 (cond (Nat.blt k 165) 3 3)) (cond (Nat.blt k 168) (cond (Nat.blt k 167) 1 1) (cond (Nat.blt k 169) 10 5))) (cond (Nat.blt k 174) (cond (Nat.blt k 172) (cond (Nat.blt k 171) 2 5) (cond (Nat.blt k 173) 2 6)) (cond (Nat.blt k 176) (cond (Nat.blt k 175) 8 4) (cond (Nat.blt k 177) 4 4)))))) (cond (Nat.blt k 208) (cond (Nat.blt k 193) (cond (Nat.blt k 185) (cond (Nat.blt k 181) (cond (Nat.blt k 179) 5 (cond (Nat.blt k 180) 5 5)) (cond (Nat.blt k 183) (cond (Nat.blt k 182) 4 4) (cond (Nat.blt k 184) 5 12))) (cond (Nat.blt k 189) (cond (Nat.blt k 187) (cond (Nat.blt k 186) 7 8) (cond (Nat.blt k 188) 9 8)) (cond (Nat.blt k 191) (cond (Nat.blt k 190) 6 2) (cond (Nat.blt k 192) 2 2)))) (cond (Nat.blt k 200) (cond (Nat.blt k 196) (cond (Nat.blt k 194) 2 (cond (Nat.blt k 195) 5 2)) (cond (Nat.blt k 198) (cond (Nat.blt k 197) 1 2) (cond (Nat.blt k 199) 1 2))) (cond (Nat.blt k 204) (cond (Nat.blt k 202) (cond (Nat.blt k 201) 5 3) (cond (Nat.blt k 203) 4 3)) (cond (Nat.blt k 206) (cond (Nat.blt k 205) 3 3) (cond (Nat.blt k 207) 3 6))))) (cond (Nat.blt k 223) (cond (Nat.blt k 215) (cond (Nat.blt k 211) (cond (Nat.blt k 209) 1 (cond (Nat.blt k 210) 1 5)) (cond (Nat.blt k 213) (cond (Nat.blt k 212) 4 7) (cond (Nat.blt k 214) 7 7))) (cond (Nat.blt k 219) (cond (Nat.blt k 217) (cond (Nat.blt k 216) 6 3) (cond (Nat.blt k 218) 4 3)) (cond (Nat.blt k 221) (cond (Nat.blt k 220) 2 5) (cond (Nat.blt k 222) 1 1)))) (cond (Nat.blt k 230) (cond (Nat.blt k 226) (cond (Nat.blt k 224) 4 (cond (Nat.blt k 225) 1 3)) (cond (Nat.blt k 228) (cond (Nat.blt k 227) 1 2) (cond (Nat.blt k 229) 2 1))) (cond (Nat.blt k 234) (cond (Nat.blt k 232) (cond (Nat.blt k 231) 2 1) (cond (Nat.blt k 233) 1 2)) (cond (Nat.blt k 236) (cond (Nat.blt k 235) 2 4) (cond (Nat.blt k 237) 3 4))))))))
def oMR (k : Nat) : Option FieldType := (cond (Nat.blt k 119) (cond (Nat.blt k 59) (cond (Nat.blt k 29) (cond (Nat.blt k 14) (cond (Nat.blt k 7) (cond (Nat.blt k 3) (cond (Nat.blt k 1) none (cond (Nat.blt k 2) (some .boolean) none)) (cond (Nat.blt k 5) (cond (Nat.blt k 4) none none) (cond (Nat.blt k 6) (some .int) (some .int)))) (cond (Nat.blt k 10) (cond (Nat.blt k 8) none (cond (Nat.blt k 9) none (some .boolean))) (cond (Nat.blt k 12) (cond (Nat.blt k 11) none none) (cond (Nat.blt k 13) none none)))) (cond (Nat.blt k 21) (cond (Nat.blt k 17) (cond (Nat.blt k 15) none (cond (Nat.blt k 16) (some .boolean) (some .boolean))) (cond (Nat.blt k 19) (cond (Nat.blt k 18) (some .boolean) (some .boolean)) (cond (Nat.blt k 20) none (some .int)))) (cond (Nat.blt k 25) (cond (Nat.blt k 23) (cond (Nat.blt k 22) (some .int) (some .int)) (cond (Nat.blt k 24) (some .int) (some .int))) (cond (Nat.blt k 27) (cond (Nat.blt k 26) none (some .int)) (cond (Nat.blt k 28) (some .int) (some .int)))))) (cond (Nat.blt k 44) (cond (Nat.blt k 36) (cond (Nat.blt k 32) (cond (Nat.blt k 30) (some .int) (cond (Nat.blt k 31) none none)) (cond (Nat.blt k 34) (cond (Nat.blt k 33) (some .boolean) none) (cond (Nat.blt k 35) (some .int) (some .int)))) (cond (Nat.blt k 40) (cond (Nat.blt k 38) (cond (Nat.blt k 37) (some .boolean) (some .boolean)) (cond (Nat.blt k 39) (some .boolean) (some .boolean))) (cond (Nat.blt k 42) (cond (Nat.blt k 41) (some .boolean) (some .boolean)) (cond (Nat.blt k 43) (some .boolean) (some .int))))) (cond (Nat.blt k 51) (cond (Nat.blt k 47) (cond (Nat.blt k 45) none (cond (Nat.blt k 46) none none)) (cond (Nat.blt k 49) (cond (Nat.blt k 48) none (some .boolean)) (cond (Nat.blt k 50) (some .boolean) none))) (cond (Nat.blt k 55) (cond (Nat.blt k 53) (cond (Nat.blt k 52) none none) (cond (Nat.blt k 54) none none)) (cond (Nat.blt k 57) (cond (Nat.blt k 56) none none) (cond (Nat.blt k 58) none none)))))) (cond (Nat.blt k 89) (cond (Nat.blt k 74) (cond (Nat.blt k 66) (cond (Nat.blt k 62) (cond (Nat.blt k 60) (some .int) (cond (Nat.blt k 61) (some .int) (some .int))) (cond (Nat.blt k 64) (cond (Nat.blt k 63) (some .int) (some .int)) (cond (Nat.blt k 65) (some .int) none))) (cond (Nat.blt k 70) (cond (Nat.blt k 68) (cond (Nat.blt k 67) none none) (cond (Nat.blt k 69) none (some .int))) (cond (Nat.blt k 72) (cond (Nat.blt k 71) none (some .int)) (cond (Nat.blt k 73) (some .int) (some .int))))) (cond (Nat.blt k 81) (cond (Nat.blt k 77) (cond (Nat.blt k 75) (some .int) (cond (Nat.blt k 76) (some .int) (some .int))) (cond (Nat.blt k 79) (cond (Nat.blt k 78) (some .int) (some .int)) (cond (Nat.blt k 80) (some .int) (some .int)))) (cond (Nat.blt k 85) (cond (Nat.blt k 83) (cond (Nat.blt k 82) (some .int) (some .int)) (cond (Nat.blt k 84) (some .int) (some .int))) (cond (Nat.blt k 87) (cond (Nat.blt k 86) (some .int) (some .int)) (cond (Nat.blt k 88) (some .int) (some .int)))))) (cond (Nat.blt k 104) (cond (Nat.blt k 96) (cond (Nat.blt k 92) (cond (Nat.blt k 90) (some .int) (cond (Nat.blt k 91) (some .int) (some .int))) (cond (Nat.blt k 94) (cond (Nat.blt k 93) (some .int) (some .int)) (cond (Nat.blt k 95) (some .int) (some .int)))) (cond (Nat.blt k 100) (cond (Nat.blt k 98) (cond (Nat.blt k 97) (some .int) (some .int)) (cond (Nat.blt k 99) (some .int) (some .int))) (cond (Nat.blt k 102) (cond (Nat.blt k 101) (some .int) (some .int)) (cond (Nat.blt k 103) (some .int) (some .int))))) (cond (Nat.blt k 111) (cond (Nat.blt k 107) (cond (Nat.blt k 105) (some .int) (cond (Nat.blt k 106) (some .int) (some .int))) (cond (Nat.blt k 109) (cond (Nat.blt k 108) (some .int) (some .int)) (cond (Nat.blt k 110) (some .int) (some .int)))) (cond (Nat.blt k 115) (cond (Nat.blt k 113) (cond (Nat.blt k 112) (some .int) (some .int)) (cond (Nat.blt k 114) (some .int) (some .int))) (cond (Nat.blt k 117) (cond (Nat.blt k 116) (some .int) (some .boolean)) (cond (Nat.blt k 118) (some .boolean) (some .boolean)))))))) (cond (Nat.blt k 178) (cond (Nat.blt k 148) (cond (Nat.blt k 133) (cond (Nat.blt k 126) (cond (Nat.blt k 122) (cond (Nat.blt k 120) (some .boolean) (cond (Nat.blt k 121) (some .boolean) (some .boolean))) (cond (Nat.blt k 124) (cond (Nat.blt k 123) (some .boolean) (some .boolean)) (cond (Nat.blt k 125) (some .boolean) (some .boolean)))) (cond (Nat.blt k 129) (cond (Nat.blt k 127) (some .int) (cond (Nat.blt k 128) (some .int) (some .int))) (cond (Nat.blt k 131) (cond (Nat.blt k 130) (some .int) (some .boolean)) (cond (Nat.blt k 132) none (some .boolean))))) (cond (Nat.blt k 140) (cond (Nat.blt k 136) (cond (Nat.blt k 134) (some .int) (cond (Nat.blt k 135) (some .int) none)) (cond (Nat.blt k 138) (cond (Nat.blt k 137) (some .boolean) (some .boolean)) (cond (Nat.blt k 139) (some .int) (some .boolean)))) (cond (Nat.blt k 144) (cond (Nat.blt k 142) (cond (Nat.blt k 141) (some .int) (some .boolean)) (cond (Nat.blt k 143) (some .int) (some .int))) (cond (Nat.blt k 146) (cond (Nat.blt k 145) (some .int) (some .boolean)) (cond (Nat.blt k 147) (some .int) (some .int)))))) (cond (Nat.blt k 163) (cond (Nat.blt k 155) (cond (Nat.blt k 151) (cond (Nat.blt k 149) (some .int) (cond (Nat.blt k 150) (some .int) (some .int))) (cond (Nat.blt k 153) (cond (Nat.blt k 152) (some .int) (some .boolean)) (cond (Nat.blt k 154) (some .int) (some .int)))) (cond (Nat.blt k 159) (cond (Nat.blt k 157) (cond (Nat.blt k 156) (some .int) (some .int)) (cond (Nat.blt k 158) (some .int) (some .boolean))) (cond (Nat.blt k 161) (cond (Nat.blt k 160) (some .int) (some .int)) (cond (Nat.blt k 162) (some .int) (some .int))))) (cond (Nat.blt k 170) (cond (Nat.blt k 166) (cond (Nat.blt k 164) (some .int) (cond (Nat.blt k 165) (some .int) none)) (cond (Nat.blt k 168) (cond (Nat.blt k 167) (some .int) (some .int)) (cond (Nat.blt k 169) none (some .int)))) (cond (Nat.blt k 174) (cond (Nat.blt k 172) (cond (Nat.blt k 171) (some .int) (some .int)) (cond (Nat.blt k 173) (some .int) (some .int))) (cond (Nat.blt k 176) (cond (Nat.blt k 175) (some .boolean) none) (cond (Nat.blt k 177) (some .int) (some .int))))))) (cond (Nat.blt k 208) (cond (Nat.blt k 193) (cond (Nat.blt k 185) (cond (Nat.blt k 181) (cond (Nat.blt k 179) (some .int) (cond (Nat.blt k 180) (some .int) (some .int))) (cond (Nat.blt k 183) (cond (Nat.blt k 182) (some .int) none) (cond (Nat.blt k 184) none (some .int)))) (cond (Nat.blt k 189) (cond (Nat.blt k 187) (cond (Nat.blt k 186) (some .int) (some .int)) (cond (Nat.blt k 188) (some .int) (some .int))) (cond (Nat.blt k 191) (cond (Nat.blt k 190) (some .int) (some .int)) (cond (Nat.blt k 192) (some .boolean) (some .boolean))))) (cond (Nat.blt k 200) (cond (Nat.blt k 196) (cond (Nat.blt k 194) none (cond (Nat.blt k 195) (some .boolean) (some .int))) (cond (Nat.blt k 198) (cond (Nat.blt k 197) (some .int) none) (cond (Nat.blt k 199) (some .int) (some .boolean)))) (cond (Nat.blt k 204) (cond (Nat.blt k 202) (cond (Nat.blt k 201) (some .boolean) (some .int)) (cond (Nat.blt k 203) (some .int) (some .int))) (cond (Nat.blt k 206) (cond (Nat.blt k 205) (some .int) (some .int)) (cond (Nat.blt k 207) (some .int) (some .int)))))) (cond (Nat.blt k 223) (cond (Nat.blt k 215) (cond (Nat.blt k 211) (cond (Nat.blt k 209) (some .boolean) (cond (Nat.blt k 210) (some .boolean) (some .int))) (cond (Nat.blt k 213) (cond (Nat.blt k 212) (some .int) (some .int)) (cond (Nat.blt k 214) (some .int) (some .int)))) (cond (Nat.blt k 219) (cond (Nat.blt k 217) (cond (Nat.blt k 216) (some .int) (some .int)) (cond (Nat.blt k 218) (some .int) (some .int))) (cond (Nat.blt k 221) (cond (Nat.blt k 220) (some .int) (some .int)) (cond (Nat.blt k 222) (some .int) (some .int))))) (cond (Nat.blt k 230) (cond (Nat.blt k 226) (cond (Nat.blt k 224) (some .int) (cond (Nat.blt k 225) (some .int) (some .int))) (cond (Nat.blt k 228) (cond (Nat.blt k 227) (some .int) (some .int)) (cond (Nat.blt k 229) (some .int) (some .int)))) (cond (Nat.blt k 234) (cond (Nat.blt k 232) (cond (Nat.blt k 231) (some .char) (some .byte)) (cond (Nat.blt k 233) (some .boolean) none)) (cond (Nat.blt k 236) (cond (Nat.blt k 235) (some .char) none) (cond (Nat.blt k 237) (some .int) (some .boolean)))))))))
def oMO (k : Nat) : Nat := (cond (Nat.blt k 119) (cond (Nat.blt k 59) (cond (Nat.blt k 29) (cond (Nat.blt k 14) (cond (Nat.blt k 7) (cond (Nat.blt k 3) (cond (Nat.blt k 1) 0 (cond (Nat.blt k 2) 0 0)) (cond (Nat.blt k 5) (cond (Nat.blt k 4) 0 0) (cond (Nat.blt k 6) 0 0))) (cond (Nat.blt k 10) (cond (Nat.blt k 8) 1 (cond (Nat.blt k 9) 1 1)) (cond (Nat.blt k 12) (cond (Nat.blt k 11) 1 1) (cond (Nat.blt k 13) 1 2)))) (cond (Nat.blt k 21) (cond (Nat.blt k 17) (cond (Nat.blt k 15) 2 (cond (Nat.blt k 16) 2 2)) (cond (Nat.blt k 19) (cond (Nat.blt k 18) 2 2) (cond (Nat.blt k 20) 2 2))) (cond (Nat.blt k 25) (cond (Nat.blt k 23) (cond (Nat.blt k 22) 2 2) (cond (Nat.blt k 24) 2 2)) (cond (Nat.blt k 27) (cond (Nat.blt k 26) 3 3) (cond (Nat.blt k 28) 3 3))))) (cond (Nat.blt k 44) (cond (Nat.blt k 36) (cond (Nat.blt k 32) (cond (Nat.blt k 30) 3 (cond (Nat.blt k 31) 4 4)) (cond (Nat.blt k 34) (cond (Nat.blt k 33) 4 4) (cond (Nat.blt k 35) 4 4))) (cond (Nat.blt k 40) (cond (Nat.blt k 38) (cond (Nat.blt k 37) 4 4) (cond (Nat.blt k 39) 4 4)) (cond (Nat.blt k 42) (cond (Nat.blt k 41) 4 4) (cond (Nat.blt k 43) 4 4)))) (cond (Nat.blt k 51) (cond (Nat.blt k 47) (cond (Nat.blt k 45) 4 (cond (Nat.blt k 46) 5 5)) (cond (Nat.blt k 49) (cond (Nat.blt k 48) 5 5) (cond (Nat.blt k 50) 5 6))) (cond (Nat.blt k 55) (cond (Nat.blt k 53) (cond (Nat.blt k 52) 6 7) (cond (Nat.blt k 54) 7 8)) (cond (Nat.blt k 57) (cond (Nat.blt k 56) 8 8) (cond (Nat.blt k 58) 8 8)))))) (cond (Nat.blt k 89) (cond (Nat.blt k 74) (cond (Nat.blt k 66) (cond (Nat.blt k 62) (cond (Nat.blt k 60) 8 (cond (Nat.blt k 61) 8 8)) (cond (Nat.blt k 64) (cond (Nat.blt k 63) 8 8) (cond (Nat.blt k 65) 8 8))) (cond (Nat.blt k 70) (cond (Nat.blt k 68) (cond (Nat.blt k 67) 8 8) (cond (Nat.blt k 69) 8 8)) (cond (Nat.blt k 72) (cond (Nat.blt k 71) 9 9) (cond (Nat.blt k 73) 9 9)))) (cond (Nat.blt k 81) (cond (Nat.blt k 77) (cond (Nat.blt k 75) 9 (cond (Nat.blt k 76) 9 9)) (cond (Nat.blt k 79) (cond (Nat.blt k 78) 9 9) (cond (Nat.blt k 80) 9 9))) (cond (Nat.blt k 85) (cond (Nat.blt k 83) (cond (Nat.blt k 82) 9 9) (cond (Nat.blt k 84) 9 9)) (cond (Nat.blt k 87) (cond (Nat.blt k 86) 9 9) (cond (Nat.blt k 88) 9 9))))) (cond (Nat.blt k 104) (cond (Nat.blt k 96) (cond (Nat.blt k 92) (cond (Nat.blt k 90) 9 (cond (Nat.blt k 91) 9 9)) (cond (Nat.blt k 94) (cond (Nat.blt k 93) 9 9) (cond (Nat.blt k 95) 9 9))) (cond (Nat.blt k 100) (cond (Nat.blt k 98) (cond (Nat.blt k 97) 9 9) (cond (Nat.blt k 99) 9 9)) (cond (Nat.blt k 102) (cond (Nat.blt k 101) 9 9) (cond (Nat.blt k 103) 9 9)))) (cond (Nat.blt k 111) (cond (Nat.blt k 107) (cond (Nat.blt k 105) 9 (cond (Nat.blt k 106) 9 9)) (cond (Nat.blt k 109) (cond (Nat.blt k 108) 9 9) (cond (Nat.blt k 110) 9 9))) (cond (Nat.blt k 115) (cond (Nat.blt k 113) (cond (Nat.blt k 112) 9 9) (cond (Nat.blt k 114) 9 9)) (cond (Nat.blt k 117) (cond (Nat.blt k 116) 9 9) (cond (Nat.blt k 118) 9 9))))))) (cond (Nat.blt k 178) (cond (Nat.blt k 148) (cond (Nat.blt k 133) (cond (Nat.blt k 126) (cond (Nat.blt k 122) (cond (Nat.blt k 120) 9 (cond (Nat.blt k 121) 9 9)) (cond (Nat.blt k 124) (cond (Nat.blt k 123) 9 9) (cond (Nat.blt k 125) 9 9))) (cond (Nat.blt k 129) (cond (Nat.blt k 127) 9 (cond (Nat.blt k 128) 9 9)) (cond (Nat.blt k 131) (cond (Nat.blt k 130) 9 9) (cond (Nat.blt k 132) 10 10)))) (cond (Nat.blt k 140) (cond (Nat.blt k 136) (cond (Nat.blt k 134) 10 (cond (Nat.blt k 135) 10 10)) (cond (Nat.blt k 138) (cond (Nat.blt k 137) 10 10) (cond (Nat.blt k 139) 10 10))) (cond (Nat.blt k 144) (cond (Nat.blt k 142) (cond (Nat.blt k 141) 10 10) (cond (Nat.blt k 143) 10 10)) (cond (Nat.blt k 146) (cond (Nat.blt k 145) 10 10) (cond (Nat.blt k 147) 10 10))))) (cond (Nat.blt k 163) (cond (Nat.blt k 155) (cond (Nat.blt k 151) (cond (Nat.blt k 149) 10 (cond (Nat.blt k 150) 10 10)) (cond (Nat.blt k 153) (cond (Nat.blt k 152) 10 10) (cond (Nat.blt k 154) 10 10))) (cond (Nat.blt k 159) (cond (Nat.blt k 157) (cond (Nat.blt k 156) 10 10) (cond (Nat.blt k 158) 10 10)) (cond (Nat.blt k 161) (cond (Nat.blt k 160) 10 10) (cond (Nat.blt k 162) 10 10)))) (cond (Nat.blt k 170) (cond (Nat.blt k 166) (cond (Nat.blt k 164) 10 (cond (Nat.blt k 165) 10 10)) (cond (Nat.blt k 168) (cond (Nat.blt k 167) 10 10) (cond (Nat.blt k 169) 10 10))) (cond (Nat.blt k 174) (cond (Nat.blt k 172) (cond (Nat.blt k 171) 10 10) (cond (Nat.blt k 173) 10 10)) (cond (Nat.blt k 176) (cond (Nat.blt k 175) 10 10) (cond (Nat.blt k 177) 10 10)))))) (cond (Nat.blt k 208) (cond (Nat.blt k 193) (cond (Nat.blt k 185) (cond (Nat.blt k 181) (cond (Nat.blt k 179) 10 (cond (Nat.blt k 180) 10 10)) (cond (Nat.blt k 183) (cond (Nat.blt k 182) 10 10) (cond (Nat.blt k 184) 10 10))) (cond (Nat.blt k 189) (cond (Nat.blt k 187) (cond (Nat.blt k 186) 10 10) (cond (Nat.blt k 188) 10 10)) (cond (Nat.blt k 191) (cond (Nat.blt k 190) 10 10) (cond (Nat.blt k 192) 10 10)))) (cond (Nat.blt k 200) (cond (Nat.blt k 196) (cond (Nat.blt k 194) 10 (cond (Nat.blt k 195) 10 10)) (cond (Nat.blt k 198) (cond (Nat.blt k 197) 10 10) (cond (Nat.blt k 199) 10 10))) (cond (Nat.blt k 204) (cond (Nat.blt k 202) (cond (Nat.blt k 201) 10 10) (cond (Nat.blt k 203) 10 10)) (cond (Nat.blt k 206) (cond (Nat.blt k 205) 10 10) (cond (Nat.blt k 207) 10 10))))) (cond (Nat.blt k 223) (cond (Nat.blt k 215) (cond (Nat.blt k 211) (cond (Nat.blt k 209) 10 (cond (Nat.blt k 210) 10 10)) (cond (Nat.blt k 213) (cond (Nat.blt k 212) 10 10) (cond (Nat.blt k 214) 10 10))) (cond (Nat.blt k 219) (cond (Nat.blt k 217) (cond (Nat.blt k 216) 10 10) (cond (Nat.blt k 218) 10 10)) (cond (Nat.blt k 221) (cond (Nat.blt k 220) 10 10) (cond (Nat.blt k 222) 10 10)))) (cond (Nat.blt k 230) (cond (Nat.blt k 226) (cond (Nat.blt k 224) 10 (cond (Nat.blt k 225) 14 15)) (cond (Nat.blt k 228) (cond (Nat.blt k 227) 15 15) (cond (Nat.blt k 229) 15 16))) (cond (Nat.blt k 234) (cond (Nat.blt k 232) (cond (Nat.blt k 231) 16 16) (cond (Nat.blt k 233) 16 16)) (cond (Nat.blt k 236) (cond (Nat.blt k 235) 17 22) (cond (Nat.blt k 237) 23 24))))))))
def oCN (k : Nat) : String := ([RX0, RX1, RX2, RX3, RX4, RX5, RX6, RX7, RX8, RX9, RX10, RJx145de, RJx9f9b0, RJxb160c, RJ6, RJ9, RJ0, RJ1, RJ2, RJ10, RJxfd54e, RJx3cf43, RJ7, RJ3, RL] : List String).getD k ""
def oFL (k : Nat) : List (Nat × Nat × Nat) := ([[(69, 2, 4), (65, 8, 0), (46, 8, 1), (43, 8, 2), (35, 8, 3), (11, 0, 0), (16, 0, 1), (20, 0, 2)], [(21, 1, 0), (25, 1, 1), (39, 1, 2), (42, 1, 3), (28, 1, 4), (9, 1, 5), (15, 1, 6), (18, 1, 7)], [(57, 1, 2), (78, 1, 3), (63, 1, 4), (28, 2, 0), (33, 2, 1), (9, 2, 2), (15, 2, 3), (36, 2, 4), (20, 2, 5), (43, 2, 6), (24, 2, 7)], [(28, 7, 0), (33, 7, 2), (36, 7, 3), (11, 3, 0), (17, 3, 1), (59, 1, 2), (51, 1, 3), (56, 1, 4)], [(9, 4, 0), (18, 4, 1), (22, 4, 2), (48, 4, 3), (25, 4, 4), (41, 4, 5), (28, 4, 6), (15, 4, 7), (31, 4, 8)], [(9, 5, 0), (19, 5, 1), (15, 5, 2)], [(22, 1, 5), (31, 1, 6), (37, 1, 7), (9, 6, 0), (28, 6, 1), (34, 6, 2), (40, 6, 3), (18, 6, 5)], [(21, 7, 0), (25, 7, 1), (29, 7, 2), (9, 7, 3), (15, 4, 5), (22, 4, 6), (30, 4, 7), (26, 4, 8)], [(22, 1, 0), (31, 1, 1), (145, 1, 2), (86, 1, 4), (89, 1, 5), (92, 1, 6), (95, 1, 7), (61, 2, 2), (64, 2, 3), (142, 2, 4), (71, 2, 5), (18, 8, 0), (9, 8, 1), (15, 8, 2), (102, 8, 3), (120, 8, 4), (123, 8, 5), (126, 8, 6), (139, 8, 7), (28, 8, 8), (34, 8, 9), (37, 8, 10), (40, 8, 11), (43, 8, 12), (44, 8, 13)], [(308, 7, 0), (311, 7, 1), (299, 3, 0), (141, 1, 0), (144, 1, 1), (129, 1, 2), (132, 1, 3), (135, 1, 4), (169, 1, 5), (172, 1, 6), (175, 1, 7), (80, 2, 1), (97, 2, 2), (100, 2, 3), (116, 2, 4), (119, 2, 5), (296, 2, 6), (202, 2, 7), (212, 8, 1), (215, 8, 2), (208, 8, 3), (254, 8, 4), (257, 8, 5), (260, 8, 6), (266, 8, 7), (231, 0, 0), (248, 0, 1), (283, 4, 1), (293, 4, 3), (325, 5, 0), (338, 5, 1), (335, 5, 2), (370, 6, 0), (373, 6, 1), (376, 6, 2), (379, 6, 3), (367, 6, 4), (360, 6, 5), (21, 9, 0), (25, 9, 1), (384, 9, 2), (33, 9, 3), (37, 9, 4), (43, 9, 5), (47, 9, 6), (12, 9, 7), (53, 9, 8), (59, 9, 9), (66, 9, 10), (71, 9, 11), (381, 9, 12)], [(9, 10, 0), (13, 10, 1), (16, 10, 2), (294, 10, 3), (19, 10, 4), (22, 10, 5), (25, 10, 6), (171, 10, 7), (28, 10, 8), (31, 10, 9), (34, 10, 10), (37, 10, 11), (40, 10, 12), (43, 10, 13), (212, 10, 14), (215, 10, 15), (218, 10, 16), (224, 10, 17), (230, 10, 18), (221, 10, 19), (236, 10, 20), (46, 10, 21), (50, 10, 22), (53, 10, 23), (248, 10, 24), (254, 10, 25), (56, 10, 26), (242, 10, 27), (59, 10, 28), (63, 10, 29), (66, 10, 30), (69, 10, 31), (72, 10, 32), (75, 10, 33), (78, 10, 34), (81, 10, 35), (84, 10, 36), (87, 10, 37), (90, 10, 38), (93, 10, 39), (291, 10, 40)], [], [], [], [], [], [], [], [], [], [], [], [], [], []] : List (List (Nat × Nat × Nat))).getD k []
def oCL (k : Nat) : List (Nat × Int32) := ([[(81, 1073741823)], [], [(73, -1000000005), (66, 1103515245)], [(32, -1000000005)], [], [], [], [], [(135, 2147483647)], [(79, -1000000001), (84, -1000000003), (189, -1000000012), (211, -1000000005), (278, 2147483647), (324, -1000000014), (328, -1000000011), (332, -1000000013), (333, -99999), (334, 99999), (380, -1000000002)], [(112, -1000000001), (113, -1000000003), (165, -1000000012), (166, 1103515245), (195, -1000000005), (282, -1000000014), (283, -1000000011), (284, -1000000013), (285, -99999), (286, 99999), (290, -1000000002)], [], [], [], [(265, 1431655765), (266, 858993459), (267, 252645135)], [], [], [], [], [], [], [], [], [], []] : List (List (Nat × Int32))).getD k []
def oLK (k : Nat) : List (Nat × Nat × Nat × Nat) := ([[(23, 1, 235, 2), (29, 0, 58, 1), (39, 0, 61, 1), (49, 0, 3, 5), (53, 1, 228, 2), (59, 1, 227, 2), (62, 1, 225, 2), (74, 0, 2, 2), (78, 0, 24, 1), (82, 0, 5, 2), (85, 1, 224, 1)], [(31, 2, 116, 3), (35, 0, 9, 1)], [(32, 4, 7, 0), (60, 0, 15, 1), (46, 2, 116, 3), (67, 0, 26, 2), (74, 0, 27, 3), (81, 1, 228, 2), (86, 1, 227, 2), (50, 0, 16, 1), (54, 0, 9, 1), (39, 0, 12, 1)], [(21, 4, 52, 0), (22, 1, 228, 2), (39, 2, 130, 1), (43, 1, 28, 3), (47, 1, 29, 3)], [(34, 0, 33, 0), (51, 1, 34, 1), (55, 2, 130, 1), (37, 0, 35, 0), (61, 0, 36, 1), (69, 0, 229, 0), (73, 0, 230, 1), (44, 0, 40, 3), (80, 0, 41, 2), (77, 0, 37, 1), (87, 0, 44, 1), (91, 0, 42, 0), (95, 0, 38, 0), (98, 0, 43, 0), (84, 0, 39, 1)], [(22, 1, 235, 2), (34, 2, 116, 3)], [(17, 4, 45, 0)], [], [(75, 0, 22, 1), (79, 0, 23, 1), (82, 0, 55, 3), (98, 0, 57, 3), (55, 0, 15, 1), (67, 0, 56, 2), (45, 2, 127, 2), (112, 0, 62, 0), (108, 2, 128, 4), (105, 0, 61, 1), (116, 0, 63, 3), (129, 0, 64, 3), (136, 0, 68, 2)], [(11, 3, 25, 0), (18, 3, 13, 1), (30, 3, 54, 1), (42, 4, 0, 0), (52, 4, 30, 0), (63, 4, 45, 0), (70, 4, 50, 0), (75, 1, 117, 2), (93, 1, 116, 3), (85, 0, 19, 3), (89, 0, 15, 1), (103, 1, 128, 4), (396, 1, 226, 1), (107, 1, 118, 1), (110, 1, 119, 1), (113, 1, 120, 1), (123, 0, 8, 1), (138, 0, 16, 1), (147, 0, 22, 1), (151, 0, 23, 1), (154, 0, 24, 1), (157, 1, 121, 1), (160, 1, 122, 1), (163, 0, 10, 3), (166, 0, 17, 2), (178, 1, 127, 2), (182, 1, 126, 3), (186, 1, 125, 2), (190, 0, 11, 1), (193, 1, 228, 2), (198, 0, 21, 0), (205, 0, 58, 1), (218, 0, 63, 3), (221, 0, 60, 0), (224, 0, 2, 2), (228, 0, 1, 3), (235, 1, 129, 1), (239, 1, 224, 1), (244, 0, 4, 1), (251, 0, 65, 1), (263, 0, 66, 1), (269, 0, 67, 1), (272, 0, 18, 1), (275, 0, 69, 1), (279, 0, 6, 2), (286, 0, 31, 1), (289, 0, 32, 0), (302, 0, 53, 1), (314, 0, 26, 2), (317, 1, 123, 1), (320, 0, 46, 2), (329, 0, 48, 1), (341, 0, 59, 1), (344, 0, 49, 2), (353, 1, 124, 1), (356, 0, 51, 2), (364, 0, 47, 1), (388, 0, 14, 1), (390, 0, 20, 0)], [(108, 1, 141, 2), (96, 1, 132, 3), (114, 0, 136, 1), (117, 1, 134, 1), (121, 1, 145, 1), (100, 0, 137, 1), (104, 0, 138, 2), (134, 0, 147, 1), (124, 0, 204, 1), (127, 0, 207, 1), (276, 1, 206, 3), (137, 0, 148, 1), (130, 1, 133, 3), (140, 0, 149, 1), (143, 1, 152, 1), (146, 0, 153, 4), (153, 0, 139, 2), (150, 0, 140, 3), (156, 1, 155, 2), (159, 0, 156, 2), (162, 1, 158, 2), (167, 0, 162, 0), (192, 0, 170, 1), (185, 0, 165, 1), (189, 0, 169, 3), (181, 0, 168, 3), (175, 1, 166, 1), (178, 1, 167, 1), (196, 0, 174, 2), (199, 0, 175, 0), (202, 0, 176, 1), (209, 0, 183, 3), (205, 0, 182, 2), (239, 0, 193, 0), (227, 0, 191, 1), (233, 0, 192, 1), (270, 0, 194, 0), (273, 0, 200, 0), (260, 0, 199, 0), (251, 0, 195, 1), (257, 0, 197, 1), (245, 1, 196, 1), (264, 0, 201, 0), (267, 0, 198, 0), (279, 1, 208, 1), (287, 1, 209, 1), (298, 1, 135, 2)], [], [], [], [], [], [(335, 0, 231, 0), (492, 0, 232, 0), (495, 1, 234, 2), (1059, 1, 236, 3)], [(9, 1, 233, 2)], [(414, 1, 233, 2)], [], [], [], [], [], [(9, 3, 70, 0), (13, 0, 71, 2), (18, 0, 72, 2), (22, 0, 73, 3), (27, 0, 74, 3), (31, 0, 75, 2), (35, 0, 76, 3), (39, 0, 77, 3), (43, 0, 78, 3), (47, 0, 79, 3), (51, 0, 80, 3), (55, 0, 81, 2), (59, 0, 82, 2), (63, 0, 83, 1), (68, 0, 84, 3), (72, 0, 85, 1), (76, 0, 86, 1), (80, 0, 87, 2), (84, 0, 88, 1), (88, 0, 89, 2), (92, 0, 90, 1), (96, 0, 91, 1), (100, 0, 92, 2), (104, 0, 93, 2), (108, 0, 94, 1), (112, 0, 95, 2), (116, 0, 96, 3), (120, 0, 97, 3), (124, 0, 98, 1), (128, 0, 99, 0), (133, 0, 100, 2), (137, 0, 101, 1), (141, 0, 102, 3), (145, 0, 103, 3), (149, 0, 104, 2), (153, 0, 105, 2), (157, 0, 106, 5), (162, 0, 107, 3), (166, 0, 108, 2), (170, 0, 109, 2), (174, 0, 110, 2), (178, 0, 111, 1), (182, 0, 112, 1), (186, 0, 113, 0), (190, 0, 114, 0), (194, 0, 115, 1), (12, 3, 131, 0), (17, 0, 142, 2), (21, 0, 143, 2), (26, 0, 144, 3), (30, 0, 146, 3), (34, 0, 150, 2), (38, 0, 151, 3), (42, 0, 154, 3), (46, 0, 157, 3), (50, 0, 159, 3), (54, 0, 160, 3), (58, 0, 161, 2), (62, 0, 163, 2), (67, 0, 164, 1), (71, 0, 171, 3), (75, 0, 172, 1), (79, 0, 173, 1), (83, 0, 177, 2), (87, 0, 178, 1), (91, 0, 179, 2), (95, 0, 180, 1), (99, 0, 181, 1), (103, 0, 184, 2), (107, 0, 185, 2), (111, 0, 186, 1), (115, 0, 187, 2), (119, 0, 188, 3), (123, 0, 189, 3), (127, 0, 190, 1), (132, 0, 202, 0), (136, 0, 203, 2), (140, 0, 205, 1), (144, 0, 210, 3), (148, 0, 211, 3), (152, 0, 212, 2), (156, 0, 213, 2), (161, 0, 214, 5), (165, 0, 215, 3), (169, 0, 216, 2), (173, 0, 217, 2), (177, 0, 218, 2), (181, 0, 219, 1), (185, 0, 220, 1), (189, 0, 221, 0), (193, 0, 222, 0), (197, 0, 223, 1)]] : List (List (Nat × Nat × Nat × Nat))).getD k []
def oNW : List Cond := [(Jvm.Cond.methodLinkNest "OakDeeds$Laws" (21 : Nat) ({ cls := "OakDeeds$Text", name := "<init>", desc := "()V" } : Jvm.MethodName) "OakDeeds"), (Jvm.Cond.methodLinkNest "OakDeeds$Land" (32 : Nat) ({ cls := "OakDeeds$Deed", name := "<init>", desc := "()V" } : Jvm.MethodName) "OakDeeds"), (Jvm.Cond.methodLinkNest "OakDeeds" (42 : Nat) ({ cls := "OakDeeds$Cells", name := "<init>", desc := "()V" } : Jvm.MethodName) "OakDeeds"), (Jvm.Cond.methodLinkNest "OakDeeds" (52 : Nat) ({ cls := "OakDeeds$Reader", name := "<init>", desc := "()V" } : Jvm.MethodName) "OakDeeds"), (Jvm.Cond.methodLinkNest "OakDeeds" (63 : Nat) ({ cls := "OakDeeds$Row", name := "<init>", desc := "()V" } : Jvm.MethodName) "OakDeeds"), (Jvm.Cond.methodLinkNest "OakDeeds" (70 : Nat) ({ cls := "OakDeeds$Slot", name := "<init>", desc := "()V" } : Jvm.MethodName) "OakDeeds"), (Jvm.Cond.methodLinkNest "OakDeeds$Slot" (17 : Nat) ({ cls := "OakDeeds$Row", name := "<init>", desc := "()V" } : Jvm.MethodName) "OakDeeds"), (Jvm.Cond.methodLinkNest "OakDeeds$Land" (46 : Nat) ({ cls := "OakDeeds", name := "isWithin", desc := "(III)Z" } : Jvm.MethodName) "OakDeeds"), (Jvm.Cond.methodLinkNest "OakDeeds$Laws" (39 : Nat) ({ cls := "OakDeeds", name := "isLetter", desc := "(I)Z" } : Jvm.MethodName) "OakDeeds"), (Jvm.Cond.methodLinkNest "OakDeeds$Deed" (31 : Nat) ({ cls := "OakDeeds", name := "isWithin", desc := "(III)Z" } : Jvm.MethodName) "OakDeeds"), (Jvm.Cond.methodLinkNest "OakDeeds$Walk" (45 : Nat) ({ cls := "OakDeeds", name := "trueOf", desc := "(II)I" } : Jvm.MethodName) "OakDeeds"), (Jvm.Cond.fieldLinkNest "OakDeeds$Walk" (49 : Nat) "OakDeeds" "STEP_X" "[I" "OakDeeds"), (Jvm.Cond.fieldLinkNest "OakDeeds$Walk" (52 : Nat) "OakDeeds" "STEP_Y" "[I" "OakDeeds"), (Jvm.Cond.methodLinkNest "OakDeeds$Walk" (108 : Nat) ({ cls := "OakDeeds", name := "farApart", desc := "(IIII)I" } : Jvm.MethodName) "OakDeeds"), (Jvm.Cond.methodLinkNest "OakDeeds$Reader" (55 : Nat) ({ cls := "OakDeeds", name := "isLetter", desc := "(I)Z" } : Jvm.MethodName) "OakDeeds"), (Jvm.Cond.methodLinkNest "OakDeeds$Row" (34 : Nat) ({ cls := "OakDeeds", name := "isWithin", desc := "(III)Z" } : Jvm.MethodName) "OakDeeds")]
/-! kinds of cells -/
abbrev K_OAK : Nat := 0
abbrev K_LAND : Nat := 1
abbrev K_STX : Nat := 2
abbrev K_STY : Nat := 3
abbrev K_DARR : Nat := 4
abbrev K_DEED : Nat := 5
abbrev K_DK : Nat := 6
abbrev K_DW : Nat := 7
abbrev K_DL : Nat := 8
abbrev K_WALK : Nat := 9
abbrev K_WX : Nat := 10
abbrev K_WY : Nat := 11
abbrev K_CELLS : Nat := 12
abbrev K_HARR : Nat := 13
abbrev K_HROW : Nat := 14
abbrev K_NOB : Nat := 15
abbrev K_RNK : Nat := 16
abbrev K_LAWS : Nat := 17
abbrev K_TARR : Nat := 18
abbrev K_TEXT : Nat := 19
abbrev K_TCOD : Nat := 20
abbrev K_LSTK : Nat := 21
abbrev K_READER : Nat := 22
abbrev K_RBYT : Nat := 23
abbrev K_RCOD : Nat := 24
abbrev K_SHARR : Nat := 25
abbrev K_ROW : Nat := 26
abbrev K_RPL : Nat := 27
abbrev K_SLARR : Nat := 28
abbrev K_SLOT : Nat := 29
abbrev K_WAIT : Nat := 30
abbrev K_MOD : Nat := 31
abbrev K_M_now : Nat := 32
abbrev K_M_image : Nat := 33
abbrev K_M_aside : Nat := 34
abbrev K_M_kinds : Nat := 35
abbrev K_M_ways : Nat := 36
abbrev K_M_lengths : Nat := 37
abbrev K_M_cornerX : Nat := 38
abbrev K_M_cornerY : Nat := 39
abbrev K_M_heldBy : Nat := 40
abbrev K_M_ranks : Nat := 41
abbrev K_M_owners : Nat := 42
abbrev K_M_tape : Nat := 43
abbrev K_M_keys : Nat := 44
abbrev K_M_keyAt : Nat := 45
abbrev K_M_code : Nat := 46
abbrev K_M_waits : Nat := 47
abbrev K_M_tested : Nat := 48
abbrev K_M_stack : Nat := 49
abbrev K_M_facts : Nat := 50
abbrev K_M_sorts : Nat := 51
abbrev K_M_sizes : Nat := 52
abbrev K_M_cells : Nat := 53
abbrev K_M_holdsWhat : Nat := 54
abbrev K_M_holdsA : Nat := 55
abbrev K_M_holdsB : Nat := 56
abbrev K_M_heldCells : Nat := 57
abbrev K_M_moved : Nat := 58
abbrev K_M_tells : Nat := 59
abbrev K_SCR : Nat := 60
abbrev K_TAB : Nat := 61
abbrev K_STR : Nat := 62
abbrev K_SBY : Nat := 63
abbrev K_OPQ : Nat := 64
abbrev oNK : Nat := 60
abbrev oKT : Type := (Nat × List (Option (Nat × Nat × Nat))) ⊕ (Nat × Nat × Option (Nat × Nat))
def oKDs : List oKT := [.inl (9, [some (1, 0, 0), some (1, 0, 1), none, some (9, 0, 0), some (9, 0, 1), some (12, 0, 0), some (12, 0, 1), some (17, 0, 0), some (22, 0, 0), some (25, 0, 0), some (28, 0, 0), some (30, 0, 0), none]), .inl (2, [some (17, 0, 0), none, some (2, 1, 0), some (3, 1, 0), none, some (4, 1, 0), none, none]), .inr (0, 8, none), .inr (0, 8, none), .inr (4, 4, some (5, 4)), .inl (1, [none, none, none, none, none, some (6, 1, 0), some (7, 1, 0), some (8, 1, 0)]), .inr (0, 10, none), .inr (0, 10, none), .inr (0, 10, none), .inl (8, [some (1, 1, 0), some (10, 1, 0), some (11, 1, 0), none, none, none, none, none, none, none, none, none, none, none]), .inr (0, 11, none), .inr (0, 11, none), .inl (0, [some (13, 1, 0), some (15, 1, 0), some (16, 1, 0)]), .inr (7, 4, some (14, 4)), .inr (0, 30, none), .inr (0, 30, none), .inr (0, 4, none), .inl (3, [some (18, 0, 0), some (21, 0, 0)]), .inr (3, 14, some (19, 0)), .inl (7, [none, none, none, some (20, 1, 0)]), .inr (0, 96, none), .inr (0, 96, none), .inl (4, [some (23, 0, 0), none, none, none, none, none, none, some (24, 0, 0), none]), .inr (0, 96, none), .inr (0, 96, none), .inr (5, 4, some (26, 0)), .inl (5, [none, none, some (27, 1, 0)]), .inr (0, 24, none), .inr (6, 5, some (29, 0)), .inl (6, [none, none, none, none, none, some (26, 1, 4)]), .inr (0, 60, none), .inl (10, [some (32, 0, 0), some (33, 0, 0), some (34, 0, 0), none, some (35, 0, 0), some (36, 0, 0), some (37, 0, 0), none, some (38, 0, 0), some (39, 0, 0), some (40, 0, 0), some (41, 0, 0), some (42, 0, 0), some (43, 0, 0), none, none, none, none, none, none, none, some (44, 0, 0), some (45, 0, 0), some (46, 0, 0), none, none, some (47, 0, 0), none, some (48, 0, 0), some (49, 0, 0), some (50, 0, 0), some (51, 0, 0), some (52, 0, 0), some (53, 0, 0), some (54, 0, 0), some (55, 0, 0), some (56, 0, 0), some (57, 0, 0), some (58, 0, 0), some (59, 0, 0), none]), .inr (0, 1532, none), .inr (0, 1532, none), .inr (0, 1532, none), .inr (0, 10, none), .inr (0, 10, none), .inr (0, 10, none), .inr (0, 11, none), .inr (0, 11, none), .inr (0, 900, none), .inr (0, 4, none), .inr (0, 900, none), .inr (0, 96, none), .inr (2, 16, none), .inr (0, 4, none), .inr (0, 96, none), .inr (0, 96, none), .inr (1, 10, none), .inr (0, 96, none), .inr (0, 4, none), .inr (0, 4, none), .inr (0, 4, none), .inr (0, 96, none), .inr (0, 5, none), .inr (0, 5, none), .inr (0, 5, none), .inr (0, 120, none), .inr (0, 24, none), .inr (0, 60, none)]
def oCnts : List Nat := [1, 2, 2, 2, 2, 8, 8, 8, 8, 2, 2, 2, 2, 2, 8, 2, 2, 1, 1, 14, 14, 1, 1, 1, 1, 1, 9, 9, 1, 5, 1, 1, 1, 1, 1, 1, 1, 1, 1, 1, 1, 1, 1, 1, 1, 1, 1, 1, 1, 1, 1, 1, 1, 1, 1, 1, 1, 1, 1, 1, 1, 3, 3, 3, 1]
def oATs : List FieldType := [.int, .boolean, .char, (.object "OakDeeds$Text"), (.object "OakDeeds$Deed"), (.object "OakDeeds$Row"), (.object "OakDeeds$Slot"), (.array .int)]
end
section
/-! ===== values, memory, environment ===== -/
abbrev oV : Type := Int32 ⊕ (Nat × Nat)
abbrev oM : Type := Nat → Nat → Nat → Int32
def oUp (M : oM) (k i j : Nat) (v : Int32) : oM := fun k' => if k' = k then (fun i' => if i' = i then (fun j' => if j' = j then v else M k i j') else M k i') else M k'
abbrev oE : Type := va_G × (Nat → Nat → Nat) × (Nat → ClassId) × Nat × (Nat → Int32) × Value
abbrev oad (E : oE) : Nat → Nat → Nat := E.2.1
abbrev ocA (E : oE) : Nat → ClassId := E.2.2.1
abbrev oL (E : oE) : Nat := E.2.2.2.1
abbrev oxs (E : oE) : Nat → Int32 := E.2.2.2.2.1
abbrev oov (E : oE) : Value := E.2.2.2.2.2
def oKD (k : Nat) : oKT := oKDs.getD k (.inl (99, []))
def oCnt (k : Nat) : Nat := oCnts.getD k 0
def oRfv (E : oE) (k i : Nat) : Value := if k = K_OPQ then oov E else .ref (oad E k i)
def ocv (E : oE) (v : oV) : Value := match v with
  | .inl x => .int x
  | .inr q => oRfv E q.1 q.2
def oOk (v : oV) : Prop := match v with
  | .inl _ => True
  | .inr q => q.2 < oCnt q.1
def oFV (E : oE) (f : Nat → Int32) (i : Nat) : Nat → List (Option (Nat × Nat × Nat)) → List Value
  | _, [] => []
  | j, none :: r => .int (f j) :: oFV E f i (j + 1) r
  | j, some (k', a, b) :: r => .ref (oad E k' (a * i + b)) :: oFV E f i (j + 1) r
def oEnt0 (E : oE) (f : Nat → Int32) (i : Nat) (t : oKT) : va_E := match t with
  | .inl (ci, fds) => .inr (ci, oFV E f i 0 fds)
  | .inr (ty, n, none) => .inl (ocA E ty, n, .inl f)
  | .inr (ty, n, some (k', a)) => .inl (ocA E ty, n, .inr (.inr (.inr (.inr (fun j => some (oad E k' (a * i + j)))))))
def oEnt (E : oE) (M : oM) (k i : Nat) : va_E := oEnt0 E (M k i) i (oKD k)
def oPK : List (Nat × Nat) := (List.range oNK).flatMap (fun k => (List.range (oCnt k)).map (fun i => (k, i)))
def oWS (E : oE) (M : oM) : va_W := oPK.map (fun q => (oad E q.1 q.2, oEnt E M q.1 q.2))
def oA (E : oE) : Nat → Prop := fun q => ∃ k i, k < oNK ∧ i < oCnt k ∧ q = oad E k i
def oInj (E : oE) : Prop := ∀ k i k' i', k < oNK → i < oCnt k → k' < oNK → i' < oCnt k' → oad E k i = oad E k' i' → k = k' ∧ i = i'
def otys (E : oE) : List (ClassId × FieldType) := [(ocA E 0, .int), (ocA E 1, .boolean), (ocA E 2, .char), (ocA E 3, .object "OakDeeds$Text"), (ocA E 4, .object "OakDeeds$Deed"), (ocA E 5, .object "OakDeeds$Row"), (ocA E 6, .object "OakDeeds$Slot"), (ocA E 7, .array .int)]
-- what is only read: the script, three tables, three strings, two statics
def oTN (i : Nat) : Nat := ([6, 8, 8] : List Nat).getD i 0
def oTS (i : Nat) : String := (["ABOVE", "STEP_X", "STEP_Y"] : List String).getD i ""
def oTV (i j : Nat) : Int32 := (([[-1, 0, 0, 1, 2, 0], [1, 1, 0, -1, -1, -1, 0, 1], [0, 1, 1, 1, 0, -1, -1, -1]] : List (List Int32)).getD i []).getD j 0
def oSL : List Nat := [6, 5, 5]
def oSB : List (List Int32) := [[110, 101, 101, 100, 108, 101], [99, 104, 97, 105, 110], [102, 105, 114, 115, 116]]
def oSI (i : Nat) : Nat := ([59, 65, 67] : List Nat).getD i 0
def oST (i : Nat) : String := (["needle", "chain", "first"] : List String).getD i ""
def oRO (E : oE) (A : Nat → Prop) (U : State) (H : Heap) : Prop :=
  va_X (oad E K_SCR 0) (oL E) (oxs E) U H ∧ (oad E K_SCR 0 < H.size ∧ ¬ A (oad E K_SCR 0)) ∧
  (∀ i, i < 3 → va_T .int (oad E K_TAB i) (oTN i) (fun j => .int (oTV i j)) A U H) ∧
  (∀ i, i < 3 → va_Z "OakDeeds" (oTS i) "[I" (.ref (oad E K_TAB i)) A U H) ∧
  vk_S 3 oSL oSB (oad E K_STR) (oad E K_SBY) A U H ∧
  va_Z "java/lang/String" "COMPACT_STRINGS" "Z" (.int 1) A U H ∧
  va_Z "jdk/internal/util/Preconditions" "SIOOBE_FORMATTER" "Ljava/util/function/BiFunction;" (oov E) A U H ∧ (oov E = .null ∨ ∃ a, oov E = .ref a) ∧
  (∀ i, i < 3 → vk_R "OakDeeds$Reader" (oSI i) (oST i) (oad E K_STR i) U)
theorem oRO.warm {E : oE} {A : Nat → Prop} {s U : State} {H H1 : Heap} (hW : s.WarmedH U.vm) (h : oRO E A s H) (hz : H.size ≤ H1.size) (hq : ∀ a : Nat, a < H.size → ¬ A a → H1[a]? = H[a]?) : oRO E A U H1 := by
  obtain ⟨h1, h2, h3, h4, h5, h6, h7, h8, h9⟩ := h
  exact ⟨(h1.moved hW.alike).kept (hq _ h2.1 h2.2), ⟨Nat.lt_of_lt_of_le h2.1 hz, h2.2⟩, fun i hi => ((h3 i hi).moved hW.alike).kept hq, fun i hi => ((h4 i hi).moved hW.alike).kept hq, (h5.moved hW.alike).kept hq, (h6.moved hW.alike).kept hq, (h7.moved hW.alike).kept hq, h8, fun i hi => (h9 i hi).warm hW⟩
theorem oRO.same {E : oE} {A : Nat → Prop} {s U : State} {H : Heap} (hv : U.vm = s.vm) (h : oRO E A s H) : oRO E A U H := by
  have hA : s.vm.Alike U.vm := by rw [hv]; exact Vm.Alike.refl s.vm
  obtain ⟨h1, h2, h3, h4, h5, h6, h7, h8, h9⟩ := h
  exact ⟨h1.moved hA, h2, fun i hi => (h3 i hi).moved hA, fun i hi => (h4 i hi).moved hA, h5.moved hA, h6.moved hA, h7.moved hA, h8, fun i hi => (h9 i hi).same hv⟩
theorem oRO.narrow {E : oE} {A B : Nat → Prop} {U : State} {H : Heap} (h : oRO E A U H) (hAB : ∀ q, B q → A q) : oRO E B U H := by
  obtain ⟨h1, h2, h3, h4, h5, h6, h7, h8, h9⟩ := h
  exact ⟨h1, ⟨h2.1, fun z => h2.2 (hAB _ z)⟩, fun i hi => (h3 i hi).narrow hAB, fun i hi => (h4 i hi).narrow hAB, h5.narrow hAB, h6.narrow hAB, h7.narrow hAB, h8, h9⟩
-- the places of the cells
theorem oPK_mem {k i : Nat} (hk : k < oNK) (hi : i < oCnt k) : (k, i) ∈ oPK := by
  unfold oPK
  exact List.mem_flatMap.mpr ⟨k, List.mem_range.mpr hk, List.mem_map.mpr ⟨i, List.mem_range.mpr hi, rfl⟩⟩
theorem oPK_ok {k i : Nat} (h : (k, i) ∈ oPK) : k < oNK ∧ i < oCnt k := by
  unfold oPK at h
  obtain ⟨k', h1, h2⟩ := List.mem_flatMap.mp h
  obtain ⟨i', h3, h4⟩ := List.mem_map.mp h2
  cases h4
  exact ⟨List.mem_range.mp h1, List.mem_range.mp h3⟩
set_option maxRecDepth 100000 in
theorem oPK_nodup : oPK.Nodup := by decide +kernel
theorem oPK_at {k i : Nat} (hk : k < oNK) (hi : i < oCnt k) : ∃ p : Nat, oPK[p]? = some (k, i) := List.getElem?_of_mem (oPK_mem hk hi)
theorem oPK_inj {p p' : Nat} {q : Nat × Nat} (h : oPK[p]? = some q) (h' : oPK[p']? = some q) : p = p' := by
  obtain ⟨l1, e1⟩ := List.getElem?_eq_some_iff.mp h
  obtain ⟨l2, e2⟩ := List.getElem?_eq_some_iff.mp h'
  have hpw := List.pairwise_iff_getElem.mp oPK_nodup
  rcases Nat.lt_trichotomy p p' with hlt | heq | hgt
  · exact absurd (e1.trans e2.symm) (hpw p p' l1 l2 hlt)
  · exact heq
  · exact absurd (e2.trans e1.symm) (hpw p' p l2 l1 hgt)
theorem oWS_at {E : oE} {M : oM} {p k i : Nat} (h : oPK[p]? = some (k, i)) : (oWS E M)[p]? = some (oad E k i, oEnt E M k i) := by
  unfold oWS
  rw [List.getElem?_map, h]
  rfl
theorem oEnt_congr {E : oE} {M M' : oM} {k i : Nat} (h : M k i = M' k i) : oEnt E M k i = oEnt E M' k i := by
  unfold oEnt
  rw [h]
theorem oUp_ne {M : oM} {k i j : Nat} {v : Int32} {k' i' : Nat} (h : ¬ (k' = k ∧ i' = i)) : oUp M k i j v k' i' = M k' i' := by
  unfold oUp
  by_cases hk : k' = k
  · subst hk
    have hi : ¬ i' = i := fun q => h ⟨rfl, q⟩
    rw [if_pos rfl, if_neg hi]
  · rw [if_neg hk]
theorem oUp_at {M : oM} {k i j : Nat} {v : Int32} : oUp M k i j v k i = (fun j' => if j' = j then v else M k i j') := by
  unfold oUp
  rw [if_pos rfl, if_pos rfl]
/-- a cell's new contents, a memory's: the memory that differs there alone -/
theorem oWS_set {E : oE} {M M' : oM} {p k i : Nat} (h : oPK[p]? = some (k, i)) (hM : ∀ k' i', ¬ (k' = k ∧ i' = i) → M' k' i' = M k' i') : (oWS E M).set p (oad E k i, oEnt E M' k i) = oWS E M' := by
  have hl := (List.getElem?_eq_some_iff.mp h).1
  apply List.ext_getElem?
  intro q
  by_cases hq : q = p
  · subst hq
    rw [List.getElem?_set_self (by unfold oWS; rw [List.length_map]; exact hl), oWS_at h]
  · rw [List.getElem?_set_ne (Ne.symm hq)]
    unfold oWS
    rw [List.getElem?_map, List.getElem?_map]
    cases hz : oPK[q]? with
    | none => rfl
    | some z =>
      obtain ⟨k', i'⟩ := z
      have hne : ¬ (k' = k ∧ i' = i) := by
        rintro ⟨rfl, rfl⟩
        exact hq (oPK_inj hz h)
      show some (oad E k' i', oEnt E M k' i') = some (oad E k' i', oEnt E M' k' i')
      rw [oEnt_congr (hM k' i' hne).symm]
theorem oWS_D {E : oE} {M : oM} (h : oInj E) : va_D (oA E) (oWS E M) := by
  have key : ∀ (p : Nat) (q : Nat × va_E), (oWS E M)[p]? = some q → ∃ k i, oPK[p]? = some (k, i) ∧ k < oNK ∧ i < oCnt k ∧ q.1 = oad E k i := by
    intro p q hq
    unfold oWS at hq
    rw [List.getElem?_map] at hq
    cases hz : oPK[p]? with
    | none => rw [hz] at hq; cases hq
    | some z =>
      rw [hz] at hq
      obtain ⟨k, i⟩ := z
      cases hq
      obtain ⟨h1, h2⟩ := oPK_ok (List.mem_of_getElem? hz)
      exact ⟨k, i, rfl, h1, h2, rfl⟩
  refine ⟨fun p p' q q' hp hp' hqq => ?_, fun p q hp => ?_⟩
  · obtain ⟨k, i, a1, a2, a3, a4⟩ := key p q hp
    obtain ⟨k', i', b1, b2, b3, b4⟩ := key p' q' hp'
    obtain ⟨rfl, rfl⟩ := h k i k' i' a2 a3 b2 b3 (by rw [← a4, ← b4]; exact hqq)
    exact oPK_inj a1 b1
  · obtain ⟨k, i, -, a2, a3, a4⟩ := key p q hp
    exact ⟨k, i, a2, a3, a4⟩
-- locals
def oEn (E : oE) : Nat → List (Option oV) → List (Nat × Value)
  | _, [] => []
  | n, none :: r => oEn E (n + 1) r
  | n, some v :: r => (n, ocv E v) :: oEn E (n + 1) r
theorem oEn_mem {E : oE} : ∀ (l : List (Option oV)) (n : Nat) (q : Nat × Value), q ∈ oEn E n l ↔ ∃ i v, l[i]? = some (some v) ∧ q = (n + i, ocv E v)
  | [], n, q => by simp [oEn]
  | none :: r, n, q => by
    rw [oEn, oEn_mem r (n + 1) q]
    constructor
    · rintro ⟨i, v, h1, h2⟩
      exact ⟨i + 1, v, by simpa using h1, by rw [h2, show n + 1 + i = n + (i + 1) by omega]⟩
    · rintro ⟨i, v, h1, h2⟩
      cases i with
      | zero => simp at h1
      | succ i => exact ⟨i, v, by simpa using h1, by rw [h2, show n + 1 + i = n + (i + 1) by omega]⟩
  | some w :: r, n, q => by
    rw [oEn, List.mem_cons, oEn_mem r (n + 1) q]
    constructor
    · rintro (rfl | ⟨i, v, h1, h2⟩)
      · exact ⟨0, w, rfl, rfl⟩
      · exact ⟨i + 1, v, by simpa using h1, by rw [h2, show n + 1 + i = n + (i + 1) by omega]⟩
    · rintro ⟨i, v, h1, h2⟩
      cases i with
      | zero =>
        left
        have : w = v := by simpa using h1
        rw [h2, this]
        rfl
      | succ i => exact Or.inr ⟨i, v, by simpa using h1, by rw [h2, show n + 1 + i = n + (i + 1) by omega]⟩
theorem oLv_get {E : oE} {la : Array Slot} {nL : Nat} {ls : List (Option oV)} {i : Nat} {v : oV} (h : lv_has la nL (oEn E 0 ls)) (hi : ls[i]? = some (some v)) : la[i]? = some (.val (ocv E v)) := h.2.2 (i, ocv E v) ((oEn_mem ls 0 _).mpr ⟨i, v, hi, by rw [Nat.zero_add]⟩)
theorem ocv_cat (E : oE) (h : oov E = .null ∨ ∃ a, oov E = .ref a) (v : oV) : (ocv E v).category = 1 := by
  cases v with
  | inl x => rfl
  | inr q =>
    show (oRfv E q.1 q.2).category = 1
    unfold oRfv
    by_cases hq : q.1 = K_OPQ
    · rw [if_pos hq]
      rcases h with h | ⟨a, h⟩ <;> rw [h] <;> rfl
    · rw [if_neg hq]
      rfl
theorem oLv_set {E : oE} {la' : Array Slot} {nL : Nat} {ls : List (Option oV)} {i : Nat} {v : oV} {w : Value} (hw : w = ocv E v) (h : lv_has la' nL ((i, w) :: (oEn E 0 ls).filter (fun q => !(q.1 == i) && !(q.1 + 1 == i && q.2.category == 2)))) (hov : oov E = .null ∨ ∃ a, oov E = .ref a) : lv_has la' nL (oEn E 0 (ls.set i (some v))) := by
  subst hw
  refine ⟨h.1, h.2.1, fun q hq => ?_⟩
  obtain ⟨j, u, h1, h2⟩ := (oEn_mem _ 0 q).mp hq
  rw [Nat.zero_add] at h2
  subst h2
  by_cases hj : j = i
  · subst hj
    have hl : j < ls.length := by
      have := (List.getElem?_eq_some_iff.mp h1).1
      simpa using this
    rw [List.getElem?_set_self hl] at h1
    cases h1
    exact h.2.2 (j, ocv E v) List.mem_cons_self
  · rw [List.getElem?_set_ne (Ne.symm hj)] at h1
    refine h.2.2 (j, ocv E u) (List.mem_cons_of_mem _ (List.mem_filter.mpr ⟨(oEn_mem ls 0 _).mpr ⟨j, u, h1, by rw [Nat.zero_add]⟩, ?_⟩))
    simp [hj, ocv_cat E hov u]
def oScr (E : oE) (M : oM) : Prop := M K_SCR 1 0 = nI (oL E) ∧ oL E ≤ 384 ∧ ∀ j, j < oL E → oxs E j = M K_SCR 0 j
def oRep (E : oE) (M : oM) (H : Heap) : Prop := va_P E.1 vwCl (oWS E M) H ∧ oScr E M
theorem oScr_up {E : oE} {M : oM} {k i j : Nat} {v : Int32} (hk : k < oNK) (h : oScr E M) : oScr E (oUp M k i j v) := by
  have e : ∀ i', oUp M k i j v K_SCR i' = M K_SCR i' := fun i' => oUp_ne (fun q => by have := q.1; unfold oNK at hk; unfold K_SCR at this; omega)
  unfold oScr
  rw [e, e]
  exact h
end
section
/-! ===== the judgement over frames ===== -/
def oGT : List Cond := lw_tbl.filter goodWord
theorem oGT_of {w : Cond} (h : w ∈ tables_1) (hg : goodWord w = true) : w ∈ oGT := List.mem_filter.mpr ⟨List.mem_append_right _ h, hg⟩
theorem oGT_tbl {w : Cond} (h : w ∈ oGT) : w ∈ lw_tbl := (List.mem_filter.mp h).1
theorem oGT_good {w : Cond} (h : w ∈ oGT) : goodWord w = true := (List.mem_filter.mp h).2
def oFnd : List (Nat × Instr × Nat × Nat) → Nat → Option (Instr × Nat × Nat)
  | [], _ => none
  | q :: r, pc => cond (Nat.beq q.1 pc) (some q.2) (oFnd r pc)
def oFt (k pc : Nat) : Option (Instr × Nat × Nat) := oFnd (oCT k) pc
def oBrO : Instr → Option Int
  | .goto o => some o
  | .ifCond _ o => some o
  | .if_icmp _ o => some o
  | _ => none
/-- the length of an instruction; 0 where it isn't one number -/
def oLen : Instr → Nat
  | .tableswitch .. => 0
  | .lookupswitch .. => 0
  | .bipush _ | .ldc _ | .iload _ | .aload _ | .istore _ | .astore _ | .newarray _ => 2
  | .sipush _ | .ldc_w _ | .iinc _ _ | .goto _ | .ifCond _ _ | .if_icmp _ _ | .getfield _ | .putfield _ | .getstatic _ | .invokevirtual _ | .invokestatic _ | .invokespecial _ | .new _ | .anewarray _ => 3
  | .multianewarray .. => 4
  | _ => 1
def oRowOk (c : ByteArray) (q : Nat × Instr × Nat × Nat) : Prop := decode c q.1 = .ok (q.2.1, q.2.2.1 - q.1) ∧ (oLen q.2.1 = 0 ∨ q.2.2.1 = q.1 + oLen q.2.1) ∧ (oBrO q.2.1).all (fun o => decide ((q.1 : Int) + o = (q.2.2.2 : Int))) = true
def oDec (k : Nat) : Prop := ∀ q ∈ oCT k, oRowOk (oMC k) q
theorem oFnd_mem : ∀ (l : List (Nat × Instr × Nat × Nat)) (pc : Nat) (r : Instr × Nat × Nat), oFnd l pc = some r → (pc, r) ∈ l
  | [], _, _, h => by cases h
  | q :: l, pc, r, h => by
    unfold oFnd at h
    cases hb : Nat.beq q.1 pc with
    | true =>
      rw [hb] at h
      have e : q.1 = pc := Nat.eq_of_beq_eq_true hb
      have h2 : q.2 = r := by simpa using h
      rw [← e, ← h2]
      exact List.mem_cons_self
    | false =>
      rw [hb] at h
      exact List.mem_cons_of_mem _ (oFnd_mem l pc r (by simpa using h))
theorem oFt_row {k pc : Nat} {r : Instr × Nat × Nat} (hD : oDec k) (h : oFt k pc = some r) : oRowOk (oMC k) (pc, r) := hD _ (oFnd_mem _ _ _ h)
theorem oFt_dec {k pc : Nat} {I : Instr} {nx tg n : Nat} (h : oFt k pc = some (I, nx, tg)) (hn : oLen I = n + 1) (hD : oDec k) : decode (oMC k) pc = .ok (I, n + 1) ∧ nx = pc + (n + 1) := by
  obtain ⟨h1, h2, -⟩ := oFt_row hD h
  dsimp only at h1 h2
  rcases h2 with h2 | h2
  · omega
  · rw [hn] at h2
    rw [h2] at h1
    rw [show pc + (n + 1) - pc = n + 1 by omega] at h1
    exact ⟨h1, h2⟩
theorem oFt_br {k pc : Nat} {I : Instr} {nx tg : Nat} {o : Int} (h : oFt k pc = some (I, nx, tg)) (ho : oBrO I = some o) (hD : oDec k) : (pc : Int) + o = (tg : Int) := by
  obtain ⟨-, -, h3⟩ := oFt_row hD h
  dsimp only at h3
  rw [ho] at h3
  simpa using h3
def oCX (k : Nat) (A : Nat → Prop) (p : Program) (s : State) (m : MethodId) (args : Array Value) (meth : Method) (c : Code) (E : oE) : Prop :=
  p.tables.exec = Jvm.exec ∧ c.code = oMC k ∧ c.maxLocals = oML k ∧ meth.sig.returnType = oMR k ∧ meth.locks = false ∧ s.vm.findClass (oCN (oMO k)) = some m.cls ∧ (∀ w ∈ oGT, w.before args s = true) ∧ va_K E.1 vwCl (otys E) s ∧ oRO E A s s.heap ∧ (∀ w ∈ oNW, va_Nw w s) ∧ oInj E ∧ (∀ q, oA E q → A q) ∧ oDec k
/-- what a return instruction at pc may give back -/
def oRetOk (k pc : Nat) (r : Option Int32) : Prop := match r with
  | none => decode (oMC k) pc = .ok (.return_, 1) ∧ oMR k = none
  | some v => decode (oMC k) pc = .ok (.ireturn, 1) ∧ ∃ ty, oMR k = some ty ∧ narrow ty (.int v) = .int v
def oEnd (k : Nat) (A : Nat → Prop) (p : Program) (l : Launch) (e : Env) (R : Room) (s : State) (m : MethodId) (args : Array Value) (below : List Frame) (meth : Method) (c : Code) (E : oE) (Q : Option Int32 → oM → Prop) (cs sl : Nat) (Z : State → Prop) : Prop :=
  ∀ (r : Option Int32) (M : oM) (H : Heap) (locs : List Loc) (pc : Nat) (la : Array Slot), Q r M → oRep E M H → va_S A s.heap H locs → oRetOk k pc r → W p l e R s m args below meth c H locs cs sl Z (F0 m pc la (r.toList.map Value.int))
def oG (k d pc : Nat) (ls : List (Option oV)) (st : List oV) (M : oM) (Q : Option Int32 → oM → Prop) : Prop :=
  ∀ (A : Nat → Prop) (p : Program) (l : Launch) (e : Env) (R : Room) (s : State) (m : MethodId) (args : Array Value) (below : List Frame) (meth : Method) (c : Code) (E : oE) (H : Heap) (locs : List Loc) (la : Array Slot) (cs sl : Nat) (Z : State → Prop),
    oCX k A p s m args meth c E → oEnd k A p l e R s m args below meth c E Q cs sl Z → (d ≤ R.frames ∧ 40 * d ≤ R.locals ∧ cs ≤ R.cells ∧ sl ≤ R.slots) → va_S A s.heap H locs → oRep E M H → lv_has la (oML k) (oEn E 0 ls) → (∀ v ∈ st, oOk v) → (∀ v, some v ∈ ls → oOk v) → ls.length = oML k →
    W p l e R s m args below meth c H locs cs sl Z (F0 m pc la (st.map (ocv E)))
theorem oG.weaken {k d pc : Nat} {ls : List (Option oV)} {st : List oV} {M : oM} {Q Q' : Option Int32 → oM → Prop} (hQ : ∀ r M, Q' r M → Q r M) (h : oG k d pc ls st M Q') : oG k d pc ls st M Q := by
  intro A p l e R s m args below meth c E H locs la cs sl Z C hE hR hS hP hl h1 h2 h3
  exact h A p l e R s m args below meth c E H locs la cs sl Z C (fun r M H locs pc la hq => hE r M H locs pc la (hQ r M hq)) hR hS hP hl h1 h2 h3
/-- an instruction that works on the stack alone -/
theorem oG.lift {k d pc pc' : Nat} {ls : List (Option oV)} {st st' : List oV} {M : oM} {Q : Option Int32 → oM → Prop}
    (h : ∀ {p : Program} {l : Launch} {e : Env} {R : Room} {s : State} {m : MethodId} {args : Array Value} {below : List Frame} {meth : Method} {c : Code} {E : oE} {H : Heap} {locs : List Loc} {la : Array Slot} {cs sl : Nat} {Z : State → Prop}, p.tables.exec = Jvm.exec → c.code = oMC k → (∀ v : oV, (ocv E v).category = 1) → oDec k → W p l e R s m args below meth c H locs cs sl Z (F0 m pc' la (st'.map (ocv E))) → W p l e R s m args below meth c H locs cs sl Z (F0 m pc la (st.map (ocv E))))
    (hok : (∀ v ∈ st, oOk v) → ∀ v ∈ st', oOk v) (kk : oG k d pc' ls st' M Q) : oG k d pc ls st M Q := by
  intro A p l e R s m args below meth c E H locs la cs sl Z C hE hR hS hP hl h1 h2 h3
  have hov := C.2.2.2.2.2.2.2.2.1.2.2.2.2.2.2.2.1
  exact h C.1 C.2.1 (ocv_cat E hov) C.2.2.2.2.2.2.2.2.2.2.2.2 (kk A p l e R s m args below meth c E H locs la cs sl Z C hE hR hS hP hl (hok h1) h2 h3)
section RULES
variable {k d pc nx tg : Nat} {ls : List (Option oV)} {st : List oV} {M : oM} {Q : Option Int32 → oM → Prop}
theorem oOk_tl {v : oV} (h : ∀ w ∈ v :: st, oOk w) : ∀ w ∈ st, oOk w := fun w hw => h w (List.mem_cons_of_mem _ hw)
theorem oOk_int {x : Int32} (h : ∀ w ∈ st, oOk w) : ∀ w ∈ (.inl x :: st : List oV), oOk w := fun w hw => by
  rcases List.mem_cons.mp hw with rfl | hw
  · trivial
  · exact h w hw
theorem oOk_cons {v : oV} (hv : oOk v) (h : ∀ w ∈ st, oOk w) : ∀ w ∈ v :: st, oOk w := fun w hw => by
  rcases List.mem_cons.mp hw with rfl | hw
  · exact hv
  · exact h w hw
theorem g_bin {I : Instr} {f : Int32 → Int32 → Int32} (hI : oLen I = 1)
    (hr : ∀ {p : Program} {l : Launch} {e : Env} {R : Room} {s : State} {m : MethodId} {args : Array Value} {below : List Frame} {meth : Method} {c : Code} {H : Heap} {locs : List Loc} {la : Array Slot} {cs sl : Nat} {Z : State → Prop} {rest : List Value} {x y : Int32}, p.tables.exec = Jvm.exec → c.code = oMC k → decode (oMC k) pc = .ok (I, 1) → W p l e R s m args below meth c H locs cs sl Z (F0 m (pc + 1) la (.int (f x y) :: rest)) → W p l e R s m args below meth c H locs cs sl Z (F0 m pc la (.int y :: .int x :: rest)))
    {x y : Int32} (hf : oFt k pc = some (I, nx, tg)) (kk : oG k d nx ls (.inl (f x y) :: st) M Q) : oG k d pc ls (.inl y :: .inl x :: st) M Q := by
  refine oG.lift (fun hx hb _ hD w => ?_) (fun h => oOk_int (oOk_tl (oOk_tl h))) kk
  obtain ⟨h1, rfl⟩ := oFt_dec (n := 0) hf hI hD
  exact hr hx hb h1 w
theorem g_iadd {x y : Int32} (hf : oFt k pc = some (.iadd, nx, tg)) (kk : oG k d nx ls (.inl (x + y) :: st) M Q) : oG k d pc ls (.inl y :: .inl x :: st) M Q := g_bin rfl (fun hx hb hd w => lv_iadd hx hb hd w) hf kk
theorem g_isub {x y : Int32} (hf : oFt k pc = some (.isub, nx, tg)) (kk : oG k d nx ls (.inl (x - y) :: st) M Q) : oG k d pc ls (.inl y :: .inl x :: st) M Q := g_bin rfl (fun hx hb hd w => lv_isub hx hb hd w) hf kk
theorem g_imul {x y : Int32} (hf : oFt k pc = some (.imul, nx, tg)) (kk : oG k d nx ls (.inl (x * y) :: st) M Q) : oG k d pc ls (.inl y :: .inl x :: st) M Q := g_bin rfl (fun hx hb hd w => lv_imul hx hb hd w) hf kk
theorem g_iand {x y : Int32} (hf : oFt k pc = some (.iand, nx, tg)) (kk : oG k d nx ls (.inl (x &&& y) :: st) M Q) : oG k d pc ls (.inl y :: .inl x :: st) M Q := g_bin rfl (fun hx hb hd w => lv_iand hx hb hd w) hf kk
theorem g_ior {x y : Int32} (hf : oFt k pc = some (.ior, nx, tg)) (kk : oG k d nx ls (.inl (x ||| y) :: st) M Q) : oG k d pc ls (.inl y :: .inl x :: st) M Q := g_bin rfl (fun hx hb hd w => lv_ior hx hb hd w) hf kk
theorem g_ixor {x y : Int32} (hf : oFt k pc = some (.ixor, nx, tg)) (kk : oG k d nx ls (.inl (x ^^^ y) :: st) M Q) : oG k d pc ls (.inl y :: .inl x :: st) M Q := g_bin rfl (fun hx hb hd w => lv_ixor hx hb hd w) hf kk
theorem g_ishl {x y : Int32} (hf : oFt k pc = some (.ishl, nx, tg)) (kk : oG k d nx ls (.inl (x <<< (y &&& 31)) :: st) M Q) : oG k d pc ls (.inl y :: .inl x :: st) M Q := g_bin rfl (fun hx hb hd w => lv_ishl hx hb hd w) hf kk
theorem g_ishr {x y : Int32} (hf : oFt k pc = some (.ishr, nx, tg)) (kk : oG k d nx ls (.inl (x >>> (y &&& 31)) :: st) M Q) : oG k d pc ls (.inl y :: .inl x :: st) M Q := g_bin rfl (fun hx hb hd w => lv_ishr hx hb hd w) hf kk
def oUshr (x y : Int32) : Int32 := (x.toUInt32 >>> (y.toUInt32 &&& Int32.toUInt32 31)).toInt32
theorem g_iushr {x y : Int32} (hf : oFt k pc = some (.iushr, nx, tg)) (kk : oG k d nx ls (.inl (oUshr x y) :: st) M Q) : oG k d pc ls (.inl y :: .inl x :: st) M Q := g_bin rfl (fun hx hb hd w => lv_iushr hx hb hd rfl w) hf kk
theorem g_idiv {x y : Int32} (hf : oFt k pc = some (.idiv, nx, tg)) (hy : ¬ y = 0) (kk : oG k d nx ls (.inl (x / y) :: st) M Q) : oG k d pc ls (.inl y :: .inl x :: st) M Q := by
  refine oG.lift (fun hx hb _ hD w => ?_) (fun h => oOk_int (oOk_tl (oOk_tl h))) kk
  obtain ⟨h1, rfl⟩ := oFt_dec (n := 0) hf rfl hD
  exact lv_idiv hx hb h1 hy w
def oRem (x y : Int32) : Int32 := x - x / y * y
theorem g_irem {x y : Int32} (hf : oFt k pc = some (.irem, nx, tg)) (hy : ¬ y = 0) (kk : oG k d nx ls (.inl (oRem x y) :: st) M Q) : oG k d pc ls (.inl y :: .inl x :: st) M Q := by
  refine oG.lift (fun hx hb _ hD w => ?_) (fun h => oOk_int (oOk_tl (oOk_tl h))) kk
  obtain ⟨h1, rfl⟩ := oFt_dec (n := 0) hf rfl hD
  exact lv_irem hx hb h1 hy w
theorem g_ineg {x : Int32} (hf : oFt k pc = some (.ineg, nx, tg)) (kk : oG k d nx ls (.inl (-x) :: st) M Q) : oG k d pc ls (.inl x :: st) M Q := by
  refine oG.lift (fun hx hb _ hD w => ?_) (fun h => oOk_int (oOk_tl h)) kk
  obtain ⟨h1, rfl⟩ := oFt_dec (n := 0) hf rfl hD
  exact lv_ineg hx hb h1 w
theorem g_i2s {x : Int32} (hf : oFt k pc = some (.i2s, nx, tg)) (kk : oG k d nx ls (.inl x.toInt16.toInt32 :: st) M Q) : oG k d pc ls (.inl x :: st) M Q := by
  refine oG.lift (fun hx hb _ hD w => ?_) (fun h => oOk_int (oOk_tl h)) kk
  obtain ⟨h1, rfl⟩ := oFt_dec (n := 0) hf rfl hD
  exact lv_i2s hx hb h1 rfl w
theorem g_i2c {x : Int32} (hf : oFt k pc = some (.i2c, nx, tg)) (kk : oG k d nx ls (.inl (x.toUInt32 % 65536).toInt32 :: st) M Q) : oG k d pc ls (.inl x :: st) M Q := by
  refine oG.lift (fun hx hb _ hD w => ?_) (fun h => oOk_int (oOk_tl h)) kk
  obtain ⟨h1, rfl⟩ := oFt_dec (n := 0) hf rfl hD
  exact lv_i2c hx hb h1 rfl w
theorem g_iconst {n : Int} {v : Int32} (hf : oFt k pc = some (.iconst n, nx, tg)) (hv : Int32.ofInt n = v) (kk : oG k d nx ls (.inl v :: st) M Q) : oG k d pc ls st M Q := by
  refine oG.lift (fun hx hb _ hD w => ?_) (fun h => oOk_int h) kk
  obtain ⟨h1, rfl⟩ := oFt_dec (n := 0) hf rfl hD
  exact lv_iconst hx hb h1 hv w
theorem g_bipush {n : Int} {v : Int32} (hf : oFt k pc = some (.bipush n, nx, tg)) (hv : (Int8.ofInt n).toInt32 = v) (kk : oG k d nx ls (.inl v :: st) M Q) : oG k d pc ls st M Q := by
  refine oG.lift (fun hx hb _ hD w => ?_) (fun h => oOk_int h) kk
  obtain ⟨h1, rfl⟩ := oFt_dec (n := 1) hf rfl hD
  exact lv_bipush hx hb h1 hv w
theorem g_sipush {n : Int} {v : Int32} (hf : oFt k pc = some (.sipush n, nx, tg)) (hv : (Int16.ofInt n).toInt32 = v) (kk : oG k d nx ls (.inl v :: st) M Q) : oG k d pc ls st M Q := by
  refine oG.lift (fun hx hb _ hD w => ?_) (fun h => oOk_int h) kk
  obtain ⟨h1, rfl⟩ := oFt_dec (n := 2) hf rfl hD
  exact lv_sipush hx hb h1 hv w
theorem g_dup {v : oV} (hf : oFt k pc = some (.dup, nx, tg)) (kk : oG k d nx ls (v :: v :: st) M Q) : oG k d pc ls (v :: st) M Q := by
  refine oG.lift (fun hx hb hc hD w => ?_) (fun h => oOk_cons (h v List.mem_cons_self) h) kk
  obtain ⟨h1, rfl⟩ := oFt_dec (n := 0) hf rfl hD
  exact lv_dup hx hb h1 (hc v) w
theorem g_dup2 {v u : oV} (hf : oFt k pc = some (.dup2, nx, tg)) (kk : oG k d nx ls (v :: u :: v :: u :: st) M Q) : oG k d pc ls (v :: u :: st) M Q := by
  refine oG.lift (fun hx hb hc hD w => ?_) (fun h => oOk_cons (h v List.mem_cons_self) (oOk_cons (h u (List.mem_cons_of_mem _ List.mem_cons_self)) h)) kk
  obtain ⟨h1, rfl⟩ := oFt_dec (n := 0) hf rfl hD
  exact lv_dup2_11 hx hb h1 (hc v) (hc u) w
theorem g_pop {v : oV} (hf : oFt k pc = some (.pop, nx, tg)) (kk : oG k d nx ls st M Q) : oG k d pc ls (v :: st) M Q := by
  refine oG.lift (fun hx hb hc hD w => ?_) (fun h => oOk_tl h) kk
  obtain ⟨h1, rfl⟩ := oFt_dec (n := 0) hf rfl hD
  exact lv_pop hx hb h1 (hc v) w
theorem g_goto {o : Int} (hf : oFt k pc = some (.goto o, nx, tg)) (kk : oG k d tg ls st M Q) : oG k d pc ls st M Q := by
  refine oG.lift (fun hx hb hc hD w => ?_) (fun h => h) kk
  obtain ⟨h1, -⟩ := oFt_dec (n := 2) hf rfl hD
  exact lv_goto hx hb h1 (oFt_br hf rfl hD) w
theorem g_if_eq {x : Int32} {o : Int} (hf : oFt k pc = some (.ifCond .eq o, nx, tg)) (kt : x = 0 → oG k d tg ls st M Q) (kf : ¬ x = 0 → oG k d nx ls st M Q) : oG k d pc ls (.inl x :: st) M Q := by
  intro A p l e R s m args below meth c E H locs la cs sl Z C hE hR hS hP hl h1 h2 h3
  have hD := C.2.2.2.2.2.2.2.2.2.2.2.2
  obtain ⟨h4, rfl⟩ := oFt_dec (n := 2) hf rfl hD
  exact lv_if_eq C.1 C.2.1 h4 (oFt_br hf rfl hD) (fun q => kt q A p l e R s m args below meth c E H locs la cs sl Z C hE hR hS hP hl (oOk_tl h1) h2 h3) (fun q => kf q A p l e R s m args below meth c E H locs la cs sl Z C hE hR hS hP hl (oOk_tl h1) h2 h3)
theorem g_ic_eq {x y : Int32} {o : Int} (hf : oFt k pc = some (.if_icmp .eq o, nx, tg)) (kt : x = y → oG k d tg ls st M Q) (kf : ¬ x = y → oG k d nx ls st M Q) : oG k d pc ls (.inl y :: .inl x :: st) M Q := by
  intro A p l e R s m args below meth c E H locs la cs sl Z C hE hR hS hP hl h1 h2 h3
  have hD := C.2.2.2.2.2.2.2.2.2.2.2.2
  obtain ⟨h4, rfl⟩ := oFt_dec (n := 2) hf rfl hD
  exact lv_icmp_eq C.1 C.2.1 h4 (oFt_br hf rfl hD) (fun q => kt q A p l e R s m args below meth c E H locs la cs sl Z C hE hR hS hP hl (oOk_tl (oOk_tl h1)) h2 h3) (fun q => kf q A p l e R s m args below meth c E H locs la cs sl Z C hE hR hS hP hl (oOk_tl (oOk_tl h1)) h2 h3)
theorem g_if_ne {x : Int32} {o : Int} (hf : oFt k pc = some (.ifCond .ne o, nx, tg)) (kt : ¬ x = 0 → oG k d tg ls st M Q) (kf : x = 0 → oG k d nx ls st M Q) : oG k d pc ls (.inl x :: st) M Q := by
  intro A p l e R s m args below meth c E H locs la cs sl Z C hE hR hS hP hl h1 h2 h3
  have hD := C.2.2.2.2.2.2.2.2.2.2.2.2
  obtain ⟨h4, rfl⟩ := oFt_dec (n := 2) hf rfl hD
  exact lv_if_ne C.1 C.2.1 h4 (oFt_br hf rfl hD) (fun q => kt q A p l e R s m args below meth c E H locs la cs sl Z C hE hR hS hP hl (oOk_tl h1) h2 h3) (fun q => kf q A p l e R s m args below meth c E H locs la cs sl Z C hE hR hS hP hl (oOk_tl h1) h2 h3)
theorem g_ic_ne {x y : Int32} {o : Int} (hf : oFt k pc = some (.if_icmp .ne o, nx, tg)) (kt : ¬ x = y → oG k d tg ls st M Q) (kf : x = y → oG k d nx ls st M Q) : oG k d pc ls (.inl y :: .inl x :: st) M Q := by
  intro A p l e R s m args below meth c E H locs la cs sl Z C hE hR hS hP hl h1 h2 h3
  have hD := C.2.2.2.2.2.2.2.2.2.2.2.2
  obtain ⟨h4, rfl⟩ := oFt_dec (n := 2) hf rfl hD
  exact lv_icmp_ne C.1 C.2.1 h4 (oFt_br hf rfl hD) (fun q => kt q A p l e R s m args below meth c E H locs la cs sl Z C hE hR hS hP hl (oOk_tl (oOk_tl h1)) h2 h3) (fun q => kf q A p l e R s m args below meth c E H locs la cs sl Z C hE hR hS hP hl (oOk_tl (oOk_tl h1)) h2 h3)
theorem g_if_lt {x : Int32} {o : Int} (hf : oFt k pc = some (.ifCond .lt o, nx, tg)) (kt : x < 0 → oG k d tg ls st M Q) (kf : ¬ x < 0 → oG k d nx ls st M Q) : oG k d pc ls (.inl x :: st) M Q := by
  intro A p l e R s m args below meth c E H locs la cs sl Z C hE hR hS hP hl h1 h2 h3
  have hD := C.2.2.2.2.2.2.2.2.2.2.2.2
  obtain ⟨h4, rfl⟩ := oFt_dec (n := 2) hf rfl hD
  exact lv_if_lt C.1 C.2.1 h4 (oFt_br hf rfl hD) (fun q => kt q A p l e R s m args below meth c E H locs la cs sl Z C hE hR hS hP hl (oOk_tl h1) h2 h3) (fun q => kf q A p l e R s m args below meth c E H locs la cs sl Z C hE hR hS hP hl (oOk_tl h1) h2 h3)
theorem g_ic_lt {x y : Int32} {o : Int} (hf : oFt k pc = some (.if_icmp .lt o, nx, tg)) (kt : x < y → oG k d tg ls st M Q) (kf : ¬ x < y → oG k d nx ls st M Q) : oG k d pc ls (.inl y :: .inl x :: st) M Q := by
  intro A p l e R s m args below meth c E H locs la cs sl Z C hE hR hS hP hl h1 h2 h3
  have hD := C.2.2.2.2.2.2.2.2.2.2.2.2
  obtain ⟨h4, rfl⟩ := oFt_dec (n := 2) hf rfl hD
  exact lv_icmp_lt C.1 C.2.1 h4 (oFt_br hf rfl hD) (fun q => kt q A p l e R s m args below meth c E H locs la cs sl Z C hE hR hS hP hl (oOk_tl (oOk_tl h1)) h2 h3) (fun q => kf q A p l e R s m args below meth c E H locs la cs sl Z C hE hR hS hP hl (oOk_tl (oOk_tl h1)) h2 h3)
theorem g_if_ge {x : Int32} {o : Int} (hf : oFt k pc = some (.ifCond .ge o, nx, tg)) (kt : 0 ≤ x → oG k d tg ls st M Q) (kf : ¬ 0 ≤ x → oG k d nx ls st M Q) : oG k d pc ls (.inl x :: st) M Q := by
  intro A p l e R s m args below meth c E H locs la cs sl Z C hE hR hS hP hl h1 h2 h3
  have hD := C.2.2.2.2.2.2.2.2.2.2.2.2
  obtain ⟨h4, rfl⟩ := oFt_dec (n := 2) hf rfl hD
  exact lv_if_ge C.1 C.2.1 h4 (oFt_br hf rfl hD) (fun q => kt q A p l e R s m args below meth c E H locs la cs sl Z C hE hR hS hP hl (oOk_tl h1) h2 h3) (fun q => kf q A p l e R s m args below meth c E H locs la cs sl Z C hE hR hS hP hl (oOk_tl h1) h2 h3)
theorem g_ic_ge {x y : Int32} {o : Int} (hf : oFt k pc = some (.if_icmp .ge o, nx, tg)) (kt : y ≤ x → oG k d tg ls st M Q) (kf : ¬ y ≤ x → oG k d nx ls st M Q) : oG k d pc ls (.inl y :: .inl x :: st) M Q := by
  intro A p l e R s m args below meth c E H locs la cs sl Z C hE hR hS hP hl h1 h2 h3
  have hD := C.2.2.2.2.2.2.2.2.2.2.2.2
  obtain ⟨h4, rfl⟩ := oFt_dec (n := 2) hf rfl hD
  exact lv_icmp_ge C.1 C.2.1 h4 (oFt_br hf rfl hD) (fun q => kt q A p l e R s m args below meth c E H locs la cs sl Z C hE hR hS hP hl (oOk_tl (oOk_tl h1)) h2 h3) (fun q => kf q A p l e R s m args below meth c E H locs la cs sl Z C hE hR hS hP hl (oOk_tl (oOk_tl h1)) h2 h3)
theorem g_if_gt {x : Int32} {o : Int} (hf : oFt k pc = some (.ifCond .gt o, nx, tg)) (kt : 0 < x → oG k d tg ls st M Q) (kf : ¬ 0 < x → oG k d nx ls st M Q) : oG k d pc ls (.inl x :: st) M Q := by
  intro A p l e R s m args below meth c E H locs la cs sl Z C hE hR hS hP hl h1 h2 h3
  have hD := C.2.2.2.2.2.2.2.2.2.2.2.2
  obtain ⟨h4, rfl⟩ := oFt_dec (n := 2) hf rfl hD
  exact lv_if_gt C.1 C.2.1 h4 (oFt_br hf rfl hD) (fun q => kt q A p l e R s m args below meth c E H locs la cs sl Z C hE hR hS hP hl (oOk_tl h1) h2 h3) (fun q => kf q A p l e R s m args below meth c E H locs la cs sl Z C hE hR hS hP hl (oOk_tl h1) h2 h3)
theorem g_ic_gt {x y : Int32} {o : Int} (hf : oFt k pc = some (.if_icmp .gt o, nx, tg)) (kt : y < x → oG k d tg ls st M Q) (kf : ¬ y < x → oG k d nx ls st M Q) : oG k d pc ls (.inl y :: .inl x :: st) M Q := by
  intro A p l e R s m args below meth c E H locs la cs sl Z C hE hR hS hP hl h1 h2 h3
  have hD := C.2.2.2.2.2.2.2.2.2.2.2.2
  obtain ⟨h4, rfl⟩ := oFt_dec (n := 2) hf rfl hD
  exact lv_icmp_gt C.1 C.2.1 h4 (oFt_br hf rfl hD) (fun q => kt q A p l e R s m args below meth c E H locs la cs sl Z C hE hR hS hP hl (oOk_tl (oOk_tl h1)) h2 h3) (fun q => kf q A p l e R s m args below meth c E H locs la cs sl Z C hE hR hS hP hl (oOk_tl (oOk_tl h1)) h2 h3)
theorem g_if_le {x : Int32} {o : Int} (hf : oFt k pc = some (.ifCond .le o, nx, tg)) (kt : x ≤ 0 → oG k d tg ls st M Q) (kf : ¬ x ≤ 0 → oG k d nx ls st M Q) : oG k d pc ls (.inl x :: st) M Q := by
  intro A p l e R s m args below meth c E H locs la cs sl Z C hE hR hS hP hl h1 h2 h3
  have hD := C.2.2.2.2.2.2.2.2.2.2.2.2
  obtain ⟨h4, rfl⟩ := oFt_dec (n := 2) hf rfl hD
  exact lv_if_le C.1 C.2.1 h4 (oFt_br hf rfl hD) (fun q => kt q A p l e R s m args below meth c E H locs la cs sl Z C hE hR hS hP hl (oOk_tl h1) h2 h3) (fun q => kf q A p l e R s m args below meth c E H locs la cs sl Z C hE hR hS hP hl (oOk_tl h1) h2 h3)
theorem g_ic_le {x y : Int32} {o : Int} (hf : oFt k pc = some (.if_icmp .le o, nx, tg)) (kt : x ≤ y → oG k d tg ls st M Q) (kf : ¬ x ≤ y → oG k d nx ls st M Q) : oG k d pc ls (.inl y :: .inl x :: st) M Q := by
  intro A p l e R s m args below meth c E H locs la cs sl Z C hE hR hS hP hl h1 h2 h3
  have hD := C.2.2.2.2.2.2.2.2.2.2.2.2
  obtain ⟨h4, rfl⟩ := oFt_dec (n := 2) hf rfl hD
  exact lv_icmp_le C.1 C.2.1 h4 (oFt_br hf rfl hD) (fun q => kt q A p l e R s m args below meth c E H locs la cs sl Z C hE hR hS hP hl (oOk_tl (oOk_tl h1)) h2 h3) (fun q => kf q A p l e R s m args below meth c E H locs la cs sl Z C hE hR hS hP hl (oOk_tl (oOk_tl h1)) h2 h3)
end RULES
end
section
/-! ===== classes and links: the words that rules use are among the tables' ===== -/
def oClP : List (List Nat) := [[240, 242, 244], [113, 115, 117, 119, 121, 123, 125, 127], [150, 152, 154, 156, 158, 160, 162, 164], [63, 65], [268, 270, 272, 274, 276, 278, 280, 282, 284], [300, 302, 304], [327, 329, 331, 333, 335, 337], [50, 52, 54, 56], [198, 200, 202, 204, 206, 208, 210, 212, 214, 216, 218, 220, 222, 224], [353, 355, 357, 359, 361, 363, 365, 367, 369, 371, 373, 375, 377], [1016, 1018, 1020, 1022, 1024, 1026, 1028, 1030, 1032, 1034, 1036, 1038, 1040, 1042, 1044, 1046, 1048, 1050, 1052, 1054, 1056, 1058, 1060, 1062, 1064, 1066, 1068, 1070, 1072, 1074, 1076, 1078, 1080, 1082, 1084, 1086, 1088, 1090, 1092, 1094, 1096]]
def oFLp : List (List Nat) := [[140, 174, 176, 179, 181, 235, 237, 239], [82, 85, 90, 94, 96, 101, 105, 109], [89, 95, 100, 130, 131, 133, 136, 139, 143, 146, 148], [42, 47, 49, 60, 62, 87, 92, 97], [253, 254, 256, 257, 259, 261, 263, 264, 267], [294, 296, 298], [102, 106, 110, 316, 318, 320, 322, 325], [41, 44, 46, 48, 260, 262, 265, 266], [81, 84, 91, 98, 103, 107, 111, 135, 138, 142, 144, 173, 175, 178, 182, 184, 186, 188, 190, 192, 193, 194, 195, 196, 197], [43, 45, 61, 83, 86, 88, 93, 99, 104, 108, 112, 132, 134, 137, 141, 145, 147, 149, 177, 180, 183, 185, 187, 189, 191, 236, 238, 255, 258, 295, 297, 299, 317, 319, 321, 323, 324, 326, 340, 341, 342, 343, 344, 345, 346, 347, 348, 349, 350, 351, 352], [975, 976, 977, 978, 979, 980, 981, 982, 983, 984, 985, 986, 987, 988, 989, 990, 991, 992, 993, 994, 995, 996, 997, 998, 999, 1000, 1001, 1002, 1003, 1004, 1005, 1006, 1007, 1008, 1009, 1010, 1011, 1012, 1013, 1014, 1015], [], [], [], [], [], [], [], [], [], [], [], [], [], []]
def oCLp : List (List Nat) := [[661], [], [453, 549], [452], [], [], [], [], [691], [390, 391, 526, 582, 716, 871, 876, 882, 883, 884, 936], [1111, 1112, 1214, 1231, 1262, 1401, 1406, 1407, 1408, 1409, 1441], [], [], [], [644, 645, 646], [], [], [], [], [], [], [], [], [], []]
-- classes and links
def oCl (ci : Nat) : vw_C := vwCl.getD ci ("", TX0, 0)
def oTys : List (Nat → FieldType) := [tyX0, tyX1, tyX2, tyX3, tyX4, tyX5, tyX6, tyX7, tyX8, tyX9, tyX10]
def oTy (ci : Nat) : Nat → FieldType := oTys.getD ci tyX0
def oAtP (l : List (List Nat)) (o j : Nat) : Nat := (l.getD o []).getD j 0
set_option maxRecDepth 100000 in
theorem oCl_ws0 : (List.range 11).all (fun ci => (List.range (oCl ci).2.2).all (fun j => decide (tables_1[oAtP oClP ci j]? = some (u_lay (oCl ci).1 (oCl ci).2.1 j)))) = true := by decide +kernel
theorem u_lay_good (C : String) (T : u_T) (k : Nat) : goodWord (u_lay C T k) = true := by
  unfold u_lay
  split <;> rfl
theorem oCl_ws {ci : Nat} (h : ci < 11) : ∀ w ∈ u_ws (oCl ci).1 (oCl ci).2.1 (oCl ci).2.2, w ∈ oGT := by
  intro w hw
  obtain ⟨j, hj, rfl⟩ := List.mem_map.mp hw
  have h1 := List.all_eq_true.mp (List.all_eq_true.mp oCl_ws0 ci (List.mem_range.mpr h)) j hj
  simp only [decide_eq_true_eq] at h1
  exact oGT_of (List.mem_of_getElem? h1) (u_lay_good _ _ _)
theorem oCl_ty : ∀ ci, ci < 11 → ∀ k, k < (oCl ci).2.2 → parseFieldDescriptor ((oCl ci).2.1 k).2.2.1 = some (oTy ci k) := by decide +kernel
theorem oCl_nm : ∀ ci, ci < 11 → ∀ a, a < (oCl ci).2.2 → ∀ b, b < (oCl ci).2.2 → a ≠ b → ((oCl ci).2.1 a).2.1 ≠ ((oCl ci).2.1 b).2.1 := by decide +kernel
theorem oCl_at {ci : Nat} (h : ci < 11) : vwCl[ci]? = some (oCl ci) := by
  unfold oCl
  rw [List.getD_eq_getElem?_getD, List.getElem?_eq_getElem (by exact h)]
  rfl
def oLkF : List (Nat × Nat × Nat) → Nat → Option (Nat × Nat)
  | [], _ => none
  | q :: r, i => cond (Nat.beq q.1 i) (some q.2) (oLkF r i)
theorem oLkF_mem : ∀ (l : List (Nat × Nat × Nat)) (i : Nat) (r : Nat × Nat), oLkF l i = some r → (i, r) ∈ l
  | [], _, _, h => by cases h
  | q :: l, i, r, h => by
    unfold oLkF at h
    cases hb : Nat.beq q.1 i with
    | true =>
      rw [hb] at h
      have e : q.1 = i := Nat.eq_of_beq_eq_true hb
      have h2 : q.2 = r := by simpa using h
      rw [← e, ← h2]
      exact List.mem_cons_self
    | false =>
      rw [hb] at h
      exact List.mem_cons_of_mem _ (oLkF_mem l i r (by simpa using h))
def oFlC (o : Nat) (e : Nat × Nat × Nat) : Cond := .fieldLink (oCN o) e.1 ((oCl e.2.1).2.1 e.2.2).1 ((oCl e.2.1).2.1 e.2.2).2.1 ((oCl e.2.1).2.1 e.2.2).2.2.1
set_option maxRecDepth 100000 in
theorem oFL_ok0 : (List.range 25).all (fun o => (List.range (oFL o).length).all (fun j => ((oFL o)[j]?).all (fun e => decide (e.2.1 < 11) && decide (e.2.2 < (oCl e.2.1).2.2) && decide (tables_1[oAtP oFLp o j]? = some (oFlC o e))))) = true := by decide +kernel
theorem oFL_ok {o idx ci f : Nat} (h : oLkF (oFL o) idx = some (ci, f)) : ci < 11 ∧ f < (oCl ci).2.2 ∧ oFlC o (idx, ci, f) ∈ oGT := by
  by_cases ho : o < 25
  · obtain ⟨j, hj⟩ := List.getElem?_of_mem (oLkF_mem _ _ _ h)
    have h1 := List.all_eq_true.mp (List.all_eq_true.mp oFL_ok0 o (List.mem_range.mpr ho)) j (List.mem_range.mpr (List.getElem?_eq_some_iff.mp hj).1)
    simp only [hj, Option.all_some, Bool.and_eq_true, decide_eq_true_eq] at h1
    exact ⟨h1.1.1, h1.1.2, oGT_of (List.mem_of_getElem? h1.2) rfl⟩
  · have hz : oFL o = [] := by
      unfold oFL
      rw [List.getD_eq_getElem?_getD, List.getElem?_eq_none (by simpa using ho)]
      rfl
    rw [hz] at h
    cases h
def oLkC : List (Nat × Int32) → Nat → Option Int32
  | [], _ => none
  | q :: r, i => cond (Nat.beq q.1 i) (some q.2) (oLkC r i)
theorem oLkC_mem : ∀ (l : List (Nat × Int32)) (i : Nat) (r : Int32), oLkC l i = some r → (i, r) ∈ l
  | [], _, _, h => by cases h
  | q :: l, i, r, h => by
    unfold oLkC at h
    cases hb : Nat.beq q.1 i with
    | true =>
      rw [hb] at h
      have e : q.1 = i := Nat.eq_of_beq_eq_true hb
      have h2 : q.2 = r := by simpa using h
      rw [← e, ← h2]
      exact List.mem_cons_self
    | false =>
      rw [hb] at h
      exact List.mem_cons_of_mem _ (oLkC_mem l i r (by simpa using h))
set_option maxRecDepth 100000 in
theorem oCL_ok0 : (List.range 25).all (fun o => (List.range (oCL o).length).all (fun j => ((oCL o)[j]?).all (fun e => decide (tables_1[oAtP oCLp o j]? = some (Cond.constant (oCN o) e.1 e.2))))) = true := by decide +kernel
theorem oCL_ok {o idx : Nat} {v : Int32} (h : oLkC (oCL o) idx = some v) : Cond.constant (oCN o) idx v ∈ oGT := by
  by_cases ho : o < 25
  · obtain ⟨j, hj⟩ := List.getElem?_of_mem (oLkC_mem _ _ _ h)
    have h1 := List.all_eq_true.mp (List.all_eq_true.mp oCL_ok0 o (List.mem_range.mpr ho)) j (List.mem_range.mpr (List.getElem?_eq_some_iff.mp hj).1)
    simp only [hj, Option.all_some, decide_eq_true_eq] at h1
    exact oGT_of (List.mem_of_getElem? h1) rfl
  · have hz : oCL o = [] := by
      unfold oCL
      rw [List.getD_eq_getElem?_getD, List.getElem?_eq_none (by simpa using ho)]
      rfl
    rw [hz] at h
    cases h
end
section
/-! ===== rules: locals, fields, arrays, constants, tables ===== -/
def oLd : List (Option oV) → Nat → Option oV
  | [], _ => none
  | a :: _, 0 => a
  | _ :: r, n + 1 => oLd r n
theorem oLd_some : ∀ (l : List (Option oV)) (i : Nat) (v : oV), oLd l i = some v → l[i]? = some (some v)
  | [], i, v, h => by simp [oLd] at h
  | a :: r, 0, v, h => by
    have : a = some v := h
    rw [this]
    rfl
  | a :: r, i + 1, v, h => by
    rw [List.getElem?_cons_succ]
    exact oLd_some r i v h
def oS0 (l : List (Option oV)) (v : oV) : List (Option oV) := match l with
  | _ :: r => some v :: r
  | [] => []
def oS1 (l : List (Option oV)) (v : oV) : List (Option oV) := match l with
  | a :: _ :: r => a :: some v :: r
  | l => l
def oS2 (l : List (Option oV)) (v : oV) : List (Option oV) := match l with
  | a :: b :: _ :: r => a :: b :: some v :: r
  | l => l
def oS3 (l : List (Option oV)) (v : oV) : List (Option oV) := match l with
  | a :: b :: c :: _ :: r => a :: b :: c :: some v :: r
  | l => l
def oS4 (l : List (Option oV)) (v : oV) : List (Option oV) := match l with
  | a :: b :: c :: d :: _ :: r => a :: b :: c :: d :: some v :: r
  | l => l
def oS5 (l : List (Option oV)) (v : oV) : List (Option oV) := match l with
  | a :: b :: c :: d :: e :: _ :: r => a :: b :: c :: d :: e :: some v :: r
  | l => l
def oS6 (l : List (Option oV)) (v : oV) : List (Option oV) := match l with
  | a :: b :: c :: d :: e :: f :: _ :: r => a :: b :: c :: d :: e :: f :: some v :: r
  | l => l
def oS7 (l : List (Option oV)) (v : oV) : List (Option oV) := match l with
  | a :: b :: c :: d :: e :: f :: g :: _ :: r => a :: b :: c :: d :: e :: f :: g :: some v :: r
  | l => l
def oS8 (l : List (Option oV)) (v : oV) : List (Option oV) := match l with
  | a :: b :: c :: d :: e :: f :: g :: h :: _ :: r => a :: b :: c :: d :: e :: f :: g :: h :: some v :: r
  | l => l
def oS9 (l : List (Option oV)) (v : oV) : List (Option oV) := match l with
  | a :: b :: c :: d :: e :: f :: g :: h :: i :: _ :: r => a :: b :: c :: d :: e :: f :: g :: h :: i :: some v :: r
  | l => l
def oS10 (l : List (Option oV)) (v : oV) : List (Option oV) := match l with
  | a :: b :: c :: d :: e :: f :: g :: h :: i :: j :: _ :: r => a :: b :: c :: d :: e :: f :: g :: h :: i :: j :: some v :: r
  | l => l
def oS11 (l : List (Option oV)) (v : oV) : List (Option oV) := match l with
  | a :: b :: c :: d :: e :: f :: g :: h :: i :: j :: k :: _ :: r => a :: b :: c :: d :: e :: f :: g :: h :: i :: j :: k :: some v :: r
  | l => l
def oSL' (l : List (Option oV)) (i : Nat) (v : oV) : List (Option oV) := match i with
  | 0 => oS0 l v
  | 1 => oS1 l v
  | 2 => oS2 l v
  | 3 => oS3 l v
  | 4 => oS4 l v
  | 5 => oS5 l v
  | 6 => oS6 l v
  | 7 => oS7 l v
  | 8 => oS8 l v
  | 9 => oS9 l v
  | 10 => oS10 l v
  | 11 => oS11 l v
  | i => l.set i (some v)
theorem oSet_eq (l : List (Option oV)) (i : Nat) (v : oV) : oSL' l i v = l.set i (some v) := by
  unfold oSL'
  split
  · rcases l with _ | ⟨a, l⟩ <;> rfl
  · rcases l with _ | ⟨a, _ | ⟨b, l⟩⟩ <;> rfl
  · rcases l with _ | ⟨a, _ | ⟨b, _ | ⟨c, l⟩⟩⟩ <;> rfl
  · rcases l with _ | ⟨a, _ | ⟨b, _ | ⟨c, _ | ⟨d, l⟩⟩⟩⟩ <;> rfl
  · rcases l with _ | ⟨a, _ | ⟨b, _ | ⟨c, _ | ⟨d, _ | ⟨e, l⟩⟩⟩⟩⟩ <;> rfl
  · rcases l with _ | ⟨a, _ | ⟨b, _ | ⟨c, _ | ⟨d, _ | ⟨e, _ | ⟨f, l⟩⟩⟩⟩⟩⟩ <;> rfl
  · rcases l with _ | ⟨a, _ | ⟨b, _ | ⟨c, _ | ⟨d, _ | ⟨e, _ | ⟨f, _ | ⟨g, l⟩⟩⟩⟩⟩⟩⟩ <;> rfl
  · rcases l with _ | ⟨a, _ | ⟨b, _ | ⟨c, _ | ⟨d, _ | ⟨e, _ | ⟨f, _ | ⟨g, _ | ⟨h, l⟩⟩⟩⟩⟩⟩⟩⟩ <;> rfl
  · rcases l with _ | ⟨a, _ | ⟨b, _ | ⟨c, _ | ⟨d, _ | ⟨e, _ | ⟨f, _ | ⟨g, _ | ⟨h, _ | ⟨i, l⟩⟩⟩⟩⟩⟩⟩⟩⟩ <;> rfl
  · rcases l with _ | ⟨a, _ | ⟨b, _ | ⟨c, _ | ⟨d, _ | ⟨e, _ | ⟨f, _ | ⟨g, _ | ⟨h, _ | ⟨i, _ | ⟨j, l⟩⟩⟩⟩⟩⟩⟩⟩⟩⟩ <;> rfl
  · rcases l with _ | ⟨a, _ | ⟨b, _ | ⟨c, _ | ⟨d, _ | ⟨e, _ | ⟨f, _ | ⟨g, _ | ⟨h, _ | ⟨i, _ | ⟨j, _ | ⟨k, l⟩⟩⟩⟩⟩⟩⟩⟩⟩⟩⟩ <;> rfl
  · rcases l with _ | ⟨a, _ | ⟨b, _ | ⟨c, _ | ⟨d, _ | ⟨e, _ | ⟨f, _ | ⟨g, _ | ⟨h, _ | ⟨i, _ | ⟨j, _ | ⟨k, _ | ⟨m, l⟩⟩⟩⟩⟩⟩⟩⟩⟩⟩⟩⟩ <;> rfl
  · rfl
-- kinds
theorem oKDs_len : oKDs.length = 60 := by decide +kernel
theorem oKDs_le {k : Nat} (h : ¬ k < oNK) : oKDs.length ≤ k := by
  rw [oKDs_len]
  unfold oNK at h
  omega
theorem oKD_lt {k ty n : Nat} {r : Option (Nat × Nat)} (h : oKD k = .inr (ty, n, r)) : k < oNK := by
  by_cases hk : k < oNK
  · exact hk
  · unfold oKD at h
    rw [List.getD_eq_getElem?_getD, List.getElem?_eq_none (oKDs_le hk)] at h
    cases h
theorem oKD_lt' {k ci : Nat} {r : List (Option (Nat × Nat × Nat))} (hc : ci < 11) (h : oKD k = .inl (ci, r)) : k < oNK := by
  by_cases hk : k < oNK
  · exact hk
  · unfold oKD at h
    rw [List.getD_eq_getElem?_getD, List.getElem?_eq_none (oKDs_le hk)] at h
    cases h
    omega
def oKOk (k : Nat) : Bool := match oKD k with
  | .inl (ci, fds) => decide (ci < 11) && decide (fds.length = (oCl ci).2.2) && fds.all (fun fd => match fd with
      | none => true
      | some (k', a, b) => decide (k' < oNK) && (List.range (oCnt k)).all (fun i => decide (a * i + b < oCnt k')))
  | .inr (ty, n, r) => decide (n < 2000) && decide (ty < 8) && (match r with
      | none => decide (ty < 3)
      | some (k', a) => decide (k' < oNK) && decide (3 ≤ ty) && (List.range (oCnt k)).all (fun i => (List.range n).all (fun j => decide (a * i + j < oCnt k'))))
theorem oKOk_all : (List.range oNK).all oKOk = true := by decide +kernel
theorem oKOk_at {k : Nat} (h : k < oNK) : oKOk k = true := List.all_eq_true.mp oKOk_all k (List.mem_range.mpr h)
theorem oKD_arr {k ty n : Nat} {r : Option (Nat × Nat)} (h : oKD k = .inr (ty, n, r)) : n < 2000 ∧ ty < 8 := by
  have h1 := oKOk_at (oKD_lt h)
  unfold oKOk at h1
  rw [h] at h1
  simp only [Bool.and_eq_true, decide_eq_true_eq] at h1
  exact ⟨h1.1.1, h1.1.2⟩
def oFdV (E : oE) (g : Nat → Int32) (i j : Nat) (fd : Option (Nat × Nat × Nat)) : Value := match fd with
  | none => .int (g j)
  | some (k', a, b) => .ref (oad E k' (a * i + b))
def oFdA (M : oM) (kd i j : Nat) (fd : Option (Nat × Nat × Nat)) : oV := match fd with
  | none => .inl (M kd i j)
  | some (k', a, b) => .inr (k', a * i + b)
theorem oFV_get {E : oE} {g : Nat → Int32} {i : Nat} : ∀ (fds : List (Option (Nat × Nat × Nat))) (n f : Nat) (fd : Option (Nat × Nat × Nat)), fds[f]? = some fd → (oFV E g i n fds)[f]? = some (oFdV E g i (n + f) fd)
  | [], n, f, fd, h => by simp at h
  | x :: r, n, 0, fd, h => by
    have : x = fd := by simpa using h
    subst this
    rcases x with _ | ⟨k', a, b⟩ <;> rfl
  | x :: r, n, f + 1, fd, h => by
    have h1 : r[f]? = some fd := by simpa using h
    have := oFV_get (E := E) (g := g) (i := i) r (n + 1) f fd h1
    rcases x with _ | ⟨k', a, b⟩ <;> (show (oFV E g i (n + 1) r)[f]? = _; rw [this, show n + 1 + f = n + (f + 1) by omega])
theorem oFV_len {E : oE} {g : Nat → Int32} {i : Nat} : ∀ (fds : List (Option (Nat × Nat × Nat))) (n : Nat), (oFV E g i n fds).length = fds.length
  | [], n => rfl
  | x :: r, n => by rcases x with _ | ⟨k', a, b⟩ <;> (show (oFV E g i (n + 1) r).length + 1 = _; rw [oFV_len r (n + 1)]; rfl)
theorem oFV_congr {E : oE} {g g' : Nat → Int32} {i : Nat} : ∀ (fds : List (Option (Nat × Nat × Nat))) (n : Nat), (∀ j, n ≤ j → g j = g' j) → oFV E g i n fds = oFV E g' i n fds
  | [], n, h => rfl
  | x :: r, n, h => by
    have h1 := oFV_congr (E := E) (i := i) r (n + 1) (fun j hj => h j (by omega))
    rcases x with _ | ⟨k', a, b⟩
    · show Value.int (g n) :: _ = Value.int (g' n) :: _
      rw [h n (Nat.le_refl n), h1]
    · show Value.ref _ :: _ = Value.ref _ :: _
      rw [h1]
theorem oFV_set {E : oE} {g : Nat → Int32} {i : Nat} {v : Int32} : ∀ (fds : List (Option (Nat × Nat × Nat))) (n f : Nat), fds[f]? = some none → (oFV E g i n fds).set f (.int v) = oFV E (fun j => if j = n + f then v else g j) i n fds
  | [], n, f, h => by simp at h
  | x :: r, n, 0, h => by
    have : x = none := by simpa using h
    subst this
    show Value.int v :: oFV E g i (n + 1) r = Value.int (if n = n + 0 then v else g n) :: oFV E _ i (n + 1) r
    rw [if_pos (by omega), oFV_congr (g' := fun j => if j = n + 0 then v else g j) r (n + 1) (fun j hj => by show g j = if j = n + 0 then v else g j; rw [if_neg (by omega)])]
  | x :: r, n, f + 1, h => by
    have h1 : r[f]? = some none := by simpa using h
    have := oFV_set (E := E) (g := g) (i := i) (v := v) r (n + 1) f h1
    have e : n + (f + 1) = n + 1 + f := by omega
    rcases x with _ | ⟨k', a, b⟩
    · show Value.int (g n) :: (oFV E g i (n + 1) r).set f (.int v) = Value.int (if n = n + (f + 1) then v else g n) :: oFV E _ i (n + 1) r
      rw [this, if_neg (by omega), e]
    · show Value.ref _ :: (oFV E g i (n + 1) r).set f (.int v) = Value.ref _ :: oFV E _ i (n + 1) r
      rw [this, e]
theorem oRfv_ref {E : oE} {k i : Nat} (h : k < oNK) : oRfv E k i = .ref (oad E k i) := by
  unfold oRfv
  rw [if_neg (by unfold K_OPQ; unfold oNK at h; omega)]
section RULES
variable {k d pc nx tg : Nat} {ls : List (Option oV)} {st : List oV} {M : oM} {Q : Option Int32 → oM → Prop}
theorem oOk_ls {i : Nat} {v : oV} (h2 : ∀ v, some v ∈ ls → oOk v) (hl : oLd ls i = some v) : oOk v := h2 v (List.mem_of_getElem? (oLd_some ls i v hl))
theorem g_iload {i : Nat} {x : Int32} (hf : oFt k pc = some (.iload i, nx, tg)) (hl : oLd ls i = some (.inl x)) (kk : oG k d nx ls (.inl x :: st) M Q) : oG k d pc ls st M Q := by
  intro A p l e R s m args below meth c E H locs la cs sl Z C hE hR hS hP hv h1 h2 h3
  obtain ⟨h4, rfl⟩ := oFt_dec (n := 1) hf rfl C.2.2.2.2.2.2.2.2.2.2.2.2
  exact lv_iload C.1 C.2.1 h4 (oLv_get hv (oLd_some _ _ _ hl)) (kk A p l e R s m args below meth c E H locs la cs sl Z C hE hR hS hP hv (oOk_int h1) h2 h3)
theorem g_iload_n {i : Fin 4} {x : Int32} (hf : oFt k pc = some (.iload_n i, nx, tg)) (hl : oLd ls i.val = some (.inl x)) (kk : oG k d nx ls (.inl x :: st) M Q) : oG k d pc ls st M Q := by
  intro A p l e R s m args below meth c E H locs la cs sl Z C hE hR hS hP hv h1 h2 h3
  obtain ⟨h4, rfl⟩ := oFt_dec (n := 0) hf rfl C.2.2.2.2.2.2.2.2.2.2.2.2
  exact lv_iload_n C.1 C.2.1 h4 rfl (oLv_get hv (oLd_some _ _ _ hl)) (kk A p l e R s m args below meth c E H locs la cs sl Z C hE hR hS hP hv (oOk_int h1) h2 h3)
theorem oRfv_ne {E : oE} {q : Nat × Nat} (h : Nat.beq q.1 K_OPQ = false) : ocv E (.inr q) = .ref (oad E q.1 q.2) := by
  show oRfv E q.1 q.2 = _
  unfold oRfv
  rw [if_neg (fun e => by rw [e] at h; cases h)]
theorem g_aload {i : Nat} {q : Nat × Nat} (hf : oFt k pc = some (.aload i, nx, tg)) (hl : oLd ls i = some (.inr q)) (hq : Nat.beq q.1 K_OPQ = false) (kk : oG k d nx ls (.inr q :: st) M Q) : oG k d pc ls st M Q := by
  intro A p l e R s m args below meth c E H locs la cs sl Z C hE hR hS hP hv h1 h2 h3
  obtain ⟨h4, rfl⟩ := oFt_dec (n := 1) hf rfl C.2.2.2.2.2.2.2.2.2.2.2.2
  have hg := oLv_get hv (oLd_some _ _ _ hl)
  have kw := kk A p l e R s m args below meth c E H locs la cs sl Z C hE hR hS hP hv (oOk_cons (oOk_ls h2 hl) h1) h2 h3
  rw [List.map_cons] at kw
  rw [oRfv_ne hq] at hg kw
  exact lv_aload C.1 C.2.1 h4 hg kw
theorem g_aload_n {i : Fin 4} {q : Nat × Nat} (hf : oFt k pc = some (.aload_n i, nx, tg)) (hl : oLd ls i.val = some (.inr q)) (hq : Nat.beq q.1 K_OPQ = false) (kk : oG k d nx ls (.inr q :: st) M Q) : oG k d pc ls st M Q := by
  intro A p l e R s m args below meth c E H locs la cs sl Z C hE hR hS hP hv h1 h2 h3
  obtain ⟨h4, rfl⟩ := oFt_dec (n := 0) hf rfl C.2.2.2.2.2.2.2.2.2.2.2.2
  have hg := oLv_get hv (oLd_some _ _ _ hl)
  have kw := kk A p l e R s m args below meth c E H locs la cs sl Z C hE hR hS hP hv (oOk_cons (oOk_ls h2 hl) h1) h2 h3
  rw [List.map_cons] at kw
  rw [oRfv_ne hq] at hg kw
  exact lv_aload_n C.1 C.2.1 h4 rfl hg kw
theorem oOk_set {i : Nat} {v : oV} (hv : oOk v) (h2 : ∀ v, some v ∈ ls → oOk v) : ∀ w, some w ∈ oSL' ls i v → oOk w := by
  intro w hw
  rw [oSet_eq] at hw
  rcases List.mem_or_eq_of_mem_set hw with h | h
  · exact h2 w h
  · cases h
    exact hv
theorem oSL_len {i : Nat} {v : oV} {n : Nat} (h : ls.length = n) : (oSL' ls i v).length = n := by rw [oSet_eq, List.length_set]; exact h
theorem g_istore {i : Nat} {x : Int32} (hf : oFt k pc = some (.istore i, nx, tg)) (hi : Nat.blt i (oML k) = true) (kk : oG k d nx (oSL' ls i (.inl x)) st M Q) : oG k d pc ls (.inl x :: st) M Q := by
  intro A p l e R s m args below meth c E H locs la cs sl Z C hE hR hS hP hv h1 h2 h3
  obtain ⟨h4, rfl⟩ := oFt_dec (n := 1) hf rfl C.2.2.2.2.2.2.2.2.2.2.2.2
  have hov := C.2.2.2.2.2.2.2.2.1.2.2.2.2.2.2.2.1
  refine lv_istore C.1 C.2.1 h4 hv (Nat.le_of_ble_eq_true hi) rfl (fun la' hv' => ?_)
  refine kk A p l e R s m args below meth c E H locs la' cs sl Z C hE hR hS hP ?_ (oOk_tl h1) (oOk_set trivial h2) (oSL_len h3)
  rw [oSet_eq]
  exact oLv_set rfl hv' hov
theorem g_istore_n {i : Fin 4} {x : Int32} (hf : oFt k pc = some (.istore_n i, nx, tg)) (hi : Nat.blt i.val (oML k) = true) (kk : oG k d nx (oSL' ls i.val (.inl x)) st M Q) : oG k d pc ls (.inl x :: st) M Q := by
  intro A p l e R s m args below meth c E H locs la cs sl Z C hE hR hS hP hv h1 h2 h3
  obtain ⟨h4, rfl⟩ := oFt_dec (n := 0) hf rfl C.2.2.2.2.2.2.2.2.2.2.2.2
  have hov := C.2.2.2.2.2.2.2.2.1.2.2.2.2.2.2.2.1
  refine lv_istore_n C.1 C.2.1 h4 rfl hv (Nat.le_of_ble_eq_true hi) rfl (fun la' hv' => ?_)
  refine kk A p l e R s m args below meth c E H locs la' cs sl Z C hE hR hS hP ?_ (oOk_tl h1) (oOk_set trivial h2) (oSL_len h3)
  rw [oSet_eq]
  exact oLv_set rfl hv' hov
theorem g_astore {i : Nat} {q : Nat × Nat} (hf : oFt k pc = some (.astore i, nx, tg)) (hi : Nat.blt i (oML k) = true) (hq : Nat.beq q.1 K_OPQ = false) (kk : oG k d nx (oSL' ls i (.inr q)) st M Q) : oG k d pc ls (.inr q :: st) M Q := by
  intro A p l e R s m args below meth c E H locs la cs sl Z C hE hR hS hP hv h1 h2 h3
  obtain ⟨h4, rfl⟩ := oFt_dec (n := 1) hf rfl C.2.2.2.2.2.2.2.2.2.2.2.2
  have hov := C.2.2.2.2.2.2.2.2.1.2.2.2.2.2.2.2.1
  rw [List.map_cons, oRfv_ne hq]
  refine lv_astore C.1 C.2.1 h4 hv (Nat.le_of_ble_eq_true hi) rfl (fun la' hv' => ?_)
  refine kk A p l e R s m args below meth c E H locs la' cs sl Z C hE hR hS hP ?_ (oOk_tl h1) (oOk_set (h1 _ List.mem_cons_self) h2) (oSL_len h3)
  rw [oSet_eq]
  exact oLv_set (oRfv_ne hq).symm hv' hov
theorem g_astore_n {i : Fin 4} {q : Nat × Nat} (hf : oFt k pc = some (.astore_n i, nx, tg)) (hi : Nat.blt i.val (oML k) = true) (hq : Nat.beq q.1 K_OPQ = false) (kk : oG k d nx (oSL' ls i.val (.inr q)) st M Q) : oG k d pc ls (.inr q :: st) M Q := by
  intro A p l e R s m args below meth c E H locs la cs sl Z C hE hR hS hP hv h1 h2 h3
  obtain ⟨h4, rfl⟩ := oFt_dec (n := 0) hf rfl C.2.2.2.2.2.2.2.2.2.2.2.2
  have hov := C.2.2.2.2.2.2.2.2.1.2.2.2.2.2.2.2.1
  rw [List.map_cons, oRfv_ne hq]
  refine lv_astore_n C.1 C.2.1 h4 rfl hv (Nat.le_of_ble_eq_true hi) rfl (fun la' hv' => ?_)
  refine kk A p l e R s m args below meth c E H locs la' cs sl Z C hE hR hS hP ?_ (oOk_tl h1) (oOk_set (h1 _ List.mem_cons_self) h2) (oSL_len h3)
  rw [oSet_eq]
  exact oLv_set (oRfv_ne hq).symm hv' hov
theorem g_iinc {i : Nat} {n : Int} {x v : Int32} (hf : oFt k pc = some (.iinc i n, nx, tg)) (hi : Nat.blt i (oML k) = true) (hl : oLd ls i = some (.inl x)) (hn : x + Int32.ofInt n = v) (kk : oG k d nx (oSL' ls i (.inl v)) st M Q) : oG k d pc ls st M Q := by
  intro A p l e R s m args below meth c E H locs la cs sl Z C hE hR hS hP hv h1 h2 h3
  obtain ⟨h4, rfl⟩ := oFt_dec (n := 2) hf rfl C.2.2.2.2.2.2.2.2.2.2.2.2
  have hov := C.2.2.2.2.2.2.2.2.1.2.2.2.2.2.2.2.1
  have hm : (i, Value.int x) ∈ oEn E 0 ls := (oEn_mem ls 0 _).mpr ⟨i, .inl x, oLd_some _ _ _ hl, by rw [Nat.zero_add]; rfl⟩
  obtain ⟨kk0, hkk⟩ := List.getElem?_of_mem hm
  refine lv_iinc C.1 C.2.1 h4 hv hkk hn (Nat.le_of_ble_eq_true hi) rfl (fun la' hv' => ?_)
  refine kk A p l e R s m args below meth c E H locs la' cs sl Z C hE hR hS hP ?_ h1 (oOk_set trivial h2) (oSL_len h3)
  rw [oSet_eq]
  exact oLv_set rfl hv' hov
theorem g_ldc {idx : Nat} {v : Int32} (hf : oFt k pc = some (.ldc idx, nx, tg)) (hc : oLkC (oCL (oMO k)) idx = some v) (kk : oG k d nx ls (.inl v :: st) M Q) : oG k d pc ls st M Q := by
  intro A p l e R s m args below meth c E H locs la cs sl Z C hE hR hS hP hv h1 h2 h3
  obtain ⟨h4, rfl⟩ := oFt_dec (n := 1) hf rfl C.2.2.2.2.2.2.2.2.2.2.2.2
  exact lv_ldc C.1 C.2.1 C.2.2.2.2.2.1 (C.2.2.2.2.2.2.1 _ (oCL_ok hc)) h4 (kk A p l e R s m args below meth c E H locs la cs sl Z C hE hR hS hP hv (oOk_int h1) h2 h3)
theorem g_ldcw {idx : Nat} {v : Int32} (hf : oFt k pc = some (.ldc_w idx, nx, tg)) (hc : oLkC (oCL (oMO k)) idx = some v) (kk : oG k d nx ls (.inl v :: st) M Q) : oG k d pc ls st M Q := by
  intro A p l e R s m args below meth c E H locs la cs sl Z C hE hR hS hP hv h1 h2 h3
  obtain ⟨h4, rfl⟩ := oFt_dec (n := 2) hf rfl C.2.2.2.2.2.2.2.2.2.2.2.2
  exact lv_ldcw C.1 C.2.1 C.2.2.2.2.2.1 (C.2.2.2.2.2.2.1 _ (oCL_ok hc)) h4 (kk A p l e R s m args below meth c E H locs la cs sl Z C hE hR hS hP hv (oOk_int h1) h2 h3)
theorem g_get {idx ci f kd i : Nat} {fds : List (Option (Nat × Nat × Nat))} {fd : Option (Nat × Nat × Nat)} {v : oV} (hf : oFt k pc = some (.getfield idx, nx, tg)) (hl : oLkF (oFL (oMO k)) idx = some (ci, f)) (hk : oKD kd = .inl (ci, fds)) (hfd : fds[f]? = some fd) (hv : v = oFdA M kd i f fd)
    (kk : oG k d nx ls (v :: st) M Q) : oG k d pc ls (.inr (kd, i) :: st) M Q := by
  intro A p l e R s m args below meth c E H locs la cs sl Z C hE hR hS hP hlv h1 h2 h3
  obtain ⟨h4, rfl⟩ := oFt_dec (n := 2) hf rfl C.2.2.2.2.2.2.2.2.2.2.2.2
  obtain ⟨hci, hfN, hlink⟩ := oFL_ok hl
  have hkd : kd < oNK := oKD_lt' hci hk
  have hi : i < oCnt kd := h1 _ List.mem_cons_self
  obtain ⟨q0, hq0⟩ := oPK_at hkd hi
  have hw := oWS_at (E := E) (M := M) hq0
  have he : oEnt E M kd i = .inr (ci, oFV E (M kd i) i 0 fds) := by unfold oEnt; rw [hk]; rfl
  rw [he] at hw
  have hg := oFV_get (E := E) (g := M kd i) (i := i) fds 0 f fd hfd
  rw [Nat.zero_add] at hg
  have hvv : oFdV E (M kd i) i f fd = ocv E v ∧ oOk v := by
    subst hv
    rcases fd with _ | ⟨k', a, b⟩
    · exact ⟨rfl, trivial⟩
    · have hok := oKOk_at hkd
      unfold oKOk at hok
      rw [hk] at hok
      simp only [Bool.and_eq_true, decide_eq_true_eq] at hok
      have h5 := List.all_eq_true.mp hok.2 _ (List.mem_of_getElem? hfd)
      simp only [Bool.and_eq_true, decide_eq_true_eq] at h5
      refine ⟨(oRfv_ref h5.1).symm, ?_⟩
      have h6 := List.all_eq_true.mp h5.2 i (List.mem_range.mpr hi)
      show a * i + b < oCnt k'
      simpa using h6
  rw [hvv.1] at hg
  rw [List.map_cons]
  show W p l e R s m args below meth c H locs cs sl Z (F0 m pc la (oRfv E kd i :: _))
  rw [oRfv_ref hkd]
  exact va_get (D := E.1) C.1 C.2.1 C.2.2.2.2.2.2.1 (oCl_ws hci) C.2.2.2.2.2.1 C.2.2.2.2.2.2.2.1 hP.1 q0 hw (oCl_at hci) f hfN (C.2.2.2.2.2.2.1 _ hlink) (fun _ h9 => h9) hg h4 (kk A p l e R s m args below meth c E H locs la cs sl Z C hE hR hS hP hlv (oOk_cons hvv.2 (oOk_tl h1)) h2 h3)
theorem g_put {idx ci f kd i : Nat} {fds : List (Option (Nat × Nat × Nat))} {v : Int32} (hf : oFt k pc = some (.putfield idx, nx, tg)) (hl : oLkF (oFL (oMO k)) idx = some (ci, f)) (hk : oKD kd = .inl (ci, fds)) (hfd : fds[f]? = some none) (hfin : ((oCl ci).2.1 f).2.2.2 = false) (hn : narrow (oTy ci f) (.int v) = .int v) (hft : fits (oTy ci f) (.int v) = true)
    (kk : oG k d nx ls st (oUp M kd i f v) Q) : oG k d pc ls (.inl v :: .inr (kd, i) :: st) M Q := by
  intro A p l e R s m args below meth c E H locs la cs sl Z C hE hR hS hP hlv h1 h2 h3
  obtain ⟨h4, rfl⟩ := oFt_dec (n := 2) hf rfl C.2.2.2.2.2.2.2.2.2.2.2.2
  obtain ⟨hci, hfN, hlink⟩ := oFL_ok hl
  have hkd : kd < oNK := oKD_lt' hci hk
  have hi : i < oCnt kd := h1 _ (List.mem_cons_of_mem _ List.mem_cons_self)
  obtain ⟨q0, hq0⟩ := oPK_at hkd hi
  have hw := oWS_at (E := E) (M := M) hq0
  have he : ∀ M', oEnt E M' kd i = .inr (ci, oFV E (M' kd i) i 0 fds) := fun M' => by unfold oEnt; rw [hk]; rfl
  rw [he] at hw
  have hlen : f < (oFV E (M kd i) i 0 fds).length := by rw [oFV_len]; exact (List.getElem?_eq_some_iff.mp hfd).1
  rw [List.map_cons, List.map_cons]
  show W p l e R s m args below meth c H locs cs sl Z (F0 m pc la (.int v :: oRfv E kd i :: _))
  rw [oRfv_ref hkd]
  have hD : va_D A (oWS E M) := (oWS_D C.2.2.2.2.2.2.2.2.2.2.1).weaken (fun _ q _ h => C.2.2.2.2.2.2.2.2.2.2.2.1 q.1 h)
  refine va_put (D := E.1) (ty := oTy ci f) C.1 C.2.1 C.2.2.2.2.2.2.1 (oCl_ws hci) (oTy ci) (oCl_ty ci hci) (oCl_nm ci hci) C.2.2.2.2.2.1 C.2.2.2.2.2.2.2.1 hP.1 hD hS q0 hw (oCl_at hci) f hfN (C.2.2.2.2.2.2.1 _ hlink) (fun _ h9 => h9) hfin (oCl_ty ci hci f hfN) hn hft hlen h4 (fun H1 locs1 hP1 hD1 hS1 => ?_)
  have hset : (oWS E M).set q0 (oad E kd i, .inr (ci, (oFV E (M kd i) i 0 fds).set f (.int v))) = oWS E (oUp M kd i f v) := by
    rw [oFV_set fds 0 f hfd]
    have e2 := he (oUp M kd i f v)
    rw [oUp_at] at e2
    rw [Nat.zero_add, ← e2]
    exact oWS_set hq0 (fun k' i' hne => oUp_ne hne)
  rw [hset] at hP1
  exact kk A p l e R s m args below meth c E H1 locs1 la cs sl Z C hE hR hS1 ⟨hP1, oScr_up hkd hP.2⟩ hlv (oOk_tl (oOk_tl h1)) h2 h3
end RULES
end
section
/-! ===== rules: arrays, statics, strings, ends ===== -/
section RULES
variable {k d pc nx tg : Nat} {ls : List (Option oV)} {st : List oV} {M : oM} {Q : Option Int32 → oM → Prop}
theorem otys_at (E : oE) : (otys E)[0]? = some (ocA E 0, .int) ∧ (otys E)[1]? = some (ocA E 1, .boolean) ∧ (otys E)[2]? = some (ocA E 2, .char) := ⟨rfl, rfl, rfl⟩
theorem oEnt_arr {E : oE} {kd ty n i : Nat} (h : oKD kd = .inr (ty, n, none)) (M : oM) : oEnt E M kd i = .inl (ocA E ty, n, .inl (M kd i)) := by unfold oEnt; rw [h]; rfl
theorem g_iald (j : Nat) {kd i n : Nat} {x : Int32} (hf : oFt k pc = some (.iaload, nx, tg)) (hk : oKD kd = .inr (0, n, none)) (hx : x = nI j) (hj : j < n) (kk : oG k d nx ls (.inl (M kd i j) :: st) M Q) : oG k d pc ls (.inl x :: .inr (kd, i) :: st) M Q := by
  intro A p l e R s m args below meth c E H locs la cs sl Z C hE hR hS hP hlv h1 h2 h3
  obtain ⟨h4, rfl⟩ := oFt_dec (n := 0) hf rfl C.2.2.2.2.2.2.2.2.2.2.2.2
  have hkd := oKD_lt hk
  have hi : i < oCnt kd := h1 _ (List.mem_cons_of_mem _ List.mem_cons_self)
  obtain ⟨q0, hq0⟩ := oPK_at hkd hi
  have hw := oWS_at (E := E) (M := M) hq0
  rw [oEnt_arr hk] at hw
  have hn := (oKD_arr hk).1
  subst hx
  have hin : vp_in (nI j) n := vp_in_nI hj (by omega)
  rw [List.map_cons, List.map_cons]
  show W p l e R s m args below meth c H locs cs sl Z (F0 m pc la (.int (nI j) :: oRfv E kd i :: _))
  rw [oRfv_ref hkd]
  refine va_iald C.1 C.2.1 C.2.2.2.2.2.2.2.1 hP.1 q0 0 hw rfl hin h4 ?_
  rw [nI_clamp (by omega)]
  exact kk A p l e R s m args below meth c E H locs la cs sl Z C hE hR hS hP hlv (oOk_int (oOk_tl (oOk_tl h1))) h2 h3
theorem g_zald (j : Nat) {kd i n : Nat} {x : Int32} (hf : oFt k pc = some (.baload, nx, tg)) (hk : oKD kd = .inr (1, n, none)) (hx : x = nI j) (hj : j < n) (kk : oG k d nx ls (.inl (M kd i j) :: st) M Q) : oG k d pc ls (.inl x :: .inr (kd, i) :: st) M Q := by
  intro A p l e R s m args below meth c E H locs la cs sl Z C hE hR hS hP hlv h1 h2 h3
  obtain ⟨h4, rfl⟩ := oFt_dec (n := 0) hf rfl C.2.2.2.2.2.2.2.2.2.2.2.2
  have hkd := oKD_lt hk
  have hi : i < oCnt kd := h1 _ (List.mem_cons_of_mem _ List.mem_cons_self)
  obtain ⟨q0, hq0⟩ := oPK_at hkd hi
  have hw := oWS_at (E := E) (M := M) hq0
  rw [oEnt_arr hk] at hw
  have hn := (oKD_arr hk).1
  subst hx
  have hin : vp_in (nI j) n := vp_in_nI hj (by omega)
  rw [List.map_cons, List.map_cons]
  show W p l e R s m args below meth c H locs cs sl Z (F0 m pc la (.int (nI j) :: oRfv E kd i :: _))
  rw [oRfv_ref hkd]
  refine va_zald C.1 C.2.1 C.2.2.2.2.2.2.2.1 hP.1 q0 1 hw rfl hin h4 ?_
  rw [nI_clamp (by omega)]
  exact kk A p l e R s m args below meth c E H locs la cs sl Z C hE hR hS hP hlv (oOk_int (oOk_tl (oOk_tl h1))) h2 h3
theorem g_cald (j : Nat) {kd i n : Nat} {x : Int32} (hf : oFt k pc = some (.caload, nx, tg)) (hk : oKD kd = .inr (2, n, none)) (hx : x = nI j) (hj : j < n) (kk : oG k d nx ls (.inl (M kd i j) :: st) M Q) : oG k d pc ls (.inl x :: .inr (kd, i) :: st) M Q := by
  intro A p l e R s m args below meth c E H locs la cs sl Z C hE hR hS hP hlv h1 h2 h3
  obtain ⟨h4, rfl⟩ := oFt_dec (n := 0) hf rfl C.2.2.2.2.2.2.2.2.2.2.2.2
  have hkd := oKD_lt hk
  have hi : i < oCnt kd := h1 _ (List.mem_cons_of_mem _ List.mem_cons_self)
  obtain ⟨q0, hq0⟩ := oPK_at hkd hi
  have hw := oWS_at (E := E) (M := M) hq0
  rw [oEnt_arr hk] at hw
  have hn := (oKD_arr hk).1
  subst hx
  have hin : vp_in (nI j) n := vp_in_nI hj (by omega)
  rw [List.map_cons, List.map_cons]
  show W p l e R s m args below meth c H locs cs sl Z (F0 m pc la (.int (nI j) :: oRfv E kd i :: _))
  rw [oRfv_ref hkd]
  refine va_cald C.1 C.2.1 C.2.2.2.2.2.2.2.1 hP.1 q0 2 hw rfl hin h4 ?_
  rw [nI_clamp (by omega)]
  exact kk A p l e R s m args below meth c E H locs la cs sl Z C hE hR hS hP hlv (oOk_int (oOk_tl (oOk_tl h1))) h2 h3
theorem oUp_fun {kd i j : Nat} {v : Int32} : oUp M kd i j v kd i = upd (M kd i) j v := by
  rw [oUp_at]
  rfl
theorem g_iast (j : Nat) {kd i n : Nat} {x v : Int32} (hf : oFt k pc = some (.iastore, nx, tg)) (hk : oKD kd = .inr (0, n, none)) (hx : x = nI j) (hj : j < n) (kk : oG k d nx ls st (oUp M kd i j v) Q) : oG k d pc ls (.inl v :: .inl x :: .inr (kd, i) :: st) M Q := by
  intro A p l e R s m args below meth c E H locs la cs sl Z C hE hR hS hP hlv h1 h2 h3
  obtain ⟨h4, rfl⟩ := oFt_dec (n := 0) hf rfl C.2.2.2.2.2.2.2.2.2.2.2.2
  have hkd := oKD_lt hk
  have hi : i < oCnt kd := h1 _ (List.mem_cons_of_mem _ (List.mem_cons_of_mem _ List.mem_cons_self))
  obtain ⟨q0, hq0⟩ := oPK_at hkd hi
  have hw := oWS_at (E := E) (M := M) hq0
  rw [oEnt_arr hk] at hw
  have hn := (oKD_arr hk).1
  subst hx
  have hin : vp_in (nI j) n := vp_in_nI hj (by omega)
  rw [List.map_cons, List.map_cons, List.map_cons]
  show W p l e R s m args below meth c H locs cs sl Z (F0 m pc la (.int v :: .int (nI j) :: oRfv E kd i :: _))
  rw [oRfv_ref hkd]
  have hD : va_D A (oWS E M) := (oWS_D C.2.2.2.2.2.2.2.2.2.2.1).weaken (fun _ q _ h => C.2.2.2.2.2.2.2.2.2.2.2.1 q.1 h)
  refine va_iast C.1 C.2.1 C.2.2.2.2.2.2.2.1 hP.1 hD hS q0 0 hw rfl hin h4 (fun H1 locs1 hP1 hD1 hS1 => ?_)
  rw [nI_clamp (by omega), ← oUp_fun, ← oEnt_arr hk, oWS_set hq0 (fun k' i' hne => oUp_ne hne)] at hP1
  exact kk A p l e R s m args below meth c E H1 locs1 la cs sl Z C hE hR hS1 ⟨hP1, oScr_up hkd hP.2⟩ hlv (oOk_tl (oOk_tl (oOk_tl h1))) h2 h3
theorem g_zast (j : Nat) {kd i n : Nat} {x v : Int32} (hf : oFt k pc = some (.bastore, nx, tg)) (hk : oKD kd = .inr (1, n, none)) (hx : x = nI j) (hj : j < n) (hv : vp_nar .boolean v = v) (kk : oG k d nx ls st (oUp M kd i j v) Q) : oG k d pc ls (.inl v :: .inl x :: .inr (kd, i) :: st) M Q := by
  intro A p l e R s m args below meth c E H locs la cs sl Z C hE hR hS hP hlv h1 h2 h3
  obtain ⟨h4, rfl⟩ := oFt_dec (n := 0) hf rfl C.2.2.2.2.2.2.2.2.2.2.2.2
  have hkd := oKD_lt hk
  have hi : i < oCnt kd := h1 _ (List.mem_cons_of_mem _ (List.mem_cons_of_mem _ List.mem_cons_self))
  obtain ⟨q0, hq0⟩ := oPK_at hkd hi
  have hw := oWS_at (E := E) (M := M) hq0
  rw [oEnt_arr hk] at hw
  have hn := (oKD_arr hk).1
  subst hx
  have hin : vp_in (nI j) n := vp_in_nI hj (by omega)
  rw [List.map_cons, List.map_cons, List.map_cons]
  show W p l e R s m args below meth c H locs cs sl Z (F0 m pc la (.int v :: .int (nI j) :: oRfv E kd i :: _))
  rw [oRfv_ref hkd]
  have hD : va_D A (oWS E M) := (oWS_D C.2.2.2.2.2.2.2.2.2.2.1).weaken (fun _ q _ h => C.2.2.2.2.2.2.2.2.2.2.2.1 q.1 h)
  refine va_zast C.1 C.2.1 C.2.2.2.2.2.2.2.1 hP.1 hD hS q0 1 hw rfl hin h4 (fun H1 locs1 hP1 hD1 hS1 => ?_)
  rw [nI_clamp (by omega), hv, ← oUp_fun, ← oEnt_arr hk, oWS_set hq0 (fun k' i' hne => oUp_ne hne)] at hP1
  exact kk A p l e R s m args below meth c E H1 locs1 la cs sl Z C hE hR hS1 ⟨hP1, oScr_up hkd hP.2⟩ hlv (oOk_tl (oOk_tl (oOk_tl h1))) h2 h3
theorem g_alen {kd i ty n : Nat} {v : Int32} {r : Option (Nat × Nat)} (hf : oFt k pc = some (.arraylength, nx, tg)) (hk : oKD kd = .inr (ty, n, r)) (hty : Nat.blt ty 8 = true) (hv : v = Int32.ofNat n) (kk : oG k d nx ls (.inl v :: st) M Q) : oG k d pc ls (.inr (kd, i) :: st) M Q := by
  intro A p l e R s m args below meth c E H locs la cs sl Z C hE hR hS hP hlv h1 h2 h3
  obtain ⟨h4, rfl⟩ := oFt_dec (n := 0) hf rfl C.2.2.2.2.2.2.2.2.2.2.2.2
  have hkd := oKD_lt hk
  have hi : i < oCnt kd := h1 _ List.mem_cons_self
  obtain ⟨q0, hq0⟩ := oPK_at hkd hi
  have hw := oWS_at (E := E) (M := M) hq0
  have hty8 : ty < 8 := Nat.le_of_ble_eq_true hty
  have ht : ∃ t, (otys E)[ty]? = some (ocA E ty, t) := by
    match ty, hty8 with
    | 0, _ => exact ⟨_, rfl⟩
    | 1, _ => exact ⟨_, rfl⟩
    | 2, _ => exact ⟨_, rfl⟩
    | 3, _ => exact ⟨_, rfl⟩
    | 4, _ => exact ⟨_, rfl⟩
    | 5, _ => exact ⟨_, rfl⟩
    | 6, _ => exact ⟨_, rfl⟩
    | 7, _ => exact ⟨_, rfl⟩
  obtain ⟨t, ht⟩ := ht
  have he : ∃ x : vp_A, oEnt E M kd i = .inl (ocA E ty, x) ∧ x.1 = n := by
    unfold oEnt
    rw [hk]
    rcases r with _ | ⟨k', a⟩
    · exact ⟨_, rfl, rfl⟩
    · exact ⟨_, rfl, rfl⟩
  obtain ⟨x, he, hxn⟩ := he
  rw [he] at hw
  rw [List.map_cons]
  show W p l e R s m args below meth c H locs cs sl Z (F0 m pc la (oRfv E kd i :: _))
  rw [oRfv_ref hkd]
  exact va_alen C.1 C.2.1 C.2.2.2.2.2.2.2.1 hP.1 q0 ty hw ht (v := v) (by rw [hxn, hv]) h4 (kk A p l e R s m args below meth c E H locs la cs sl Z C hE hR hS hP hlv (oOk_int (oOk_tl h1)) h2 h3)
theorem g_aald (j : Nat) {kd i ty n k' a t : Nat} {x : Int32} (hf : oFt k pc = some (.aaload, nx, tg)) (hk : oKD kd = .inr (ty, n, some (k', a))) (hx : x = nI j) (hj : j < n) (ht : t = a * i + j) (kk : oG k d nx ls (.inr (k', t) :: st) M Q) : oG k d pc ls (.inl x :: .inr (kd, i) :: st) M Q := by
  intro A p l e R s m args below meth c E H locs la cs sl Z C hE hR hS hP hlv h1 h2 h3
  obtain ⟨h4, rfl⟩ := oFt_dec (n := 0) hf rfl C.2.2.2.2.2.2.2.2.2.2.2.2
  have hkd := oKD_lt hk
  have hi : i < oCnt kd := h1 _ (List.mem_cons_of_mem _ List.mem_cons_self)
  obtain ⟨q0, hq0⟩ := oPK_at hkd hi
  have hw := oWS_at (E := E) (M := M) hq0
  have he : oEnt E M kd i = .inl (ocA E ty, n, .inr (.inr (.inr (.inr (fun j => some (oad E k' (a * i + j))))))) := by unfold oEnt; rw [hk]; rfl
  rw [he] at hw
  have hn := (oKD_arr hk).1
  have hok := oKOk_at hkd
  unfold oKOk at hok
  rw [hk] at hok
  simp only [Bool.and_eq_true, decide_eq_true_eq] at hok
  obtain ⟨⟨-, hty8⟩, ⟨hk', hty3⟩, hall⟩ := hok
  have h6 := List.all_eq_true.mp (List.all_eq_true.mp hall i (List.mem_range.mpr hi)) j (List.mem_range.mpr hj)
  have h7 : oOk (.inr (k', t)) := by
    subst ht
    show a * i + j < oCnt k'
    simpa using h6
  subst hx
  subst ht
  have hin : vp_in (nI j) n := vp_in_nI hj (by omega)
  have hlt : (nI j).toNatClampNeg < n := by rw [nI_clamp (by omega)]; exact hj
  have htt : ∃ tt : FieldType, (otys E)[ty]? = some (ocA E ty, tt) ∧ tt.isReference = true := by
    match ty, hty8, hty3 with
    | 3, _, _ => exact ⟨_, rfl, rfl⟩
    | 4, _, _ => exact ⟨_, rfl, rfl⟩
    | 5, _, _ => exact ⟨_, rfl, rfl⟩
    | 6, _, _ => exact ⟨_, rfl, rfl⟩
    | 7, _, _ => exact ⟨_, rfl, rfl⟩
  obtain ⟨tt, ht1, ht2⟩ := htt
  rw [List.map_cons, List.map_cons]
  show W p l e R s m args below meth c H locs cs sl Z (F0 m pc la (.int (nI j) :: oRfv E kd i :: _))
  rw [oRfv_ref hkd]
  have kw := kk A p l e R s m args below meth c E H locs la cs sl Z C hE hR hS hP hlv (oOk_cons h7 (oOk_tl (oOk_tl h1))) h2 h3
  rw [List.map_cons] at kw
  rw [show ocv E (.inr (k', a * i + j)) = .ref (oad E k' (a * i + j)) from oRfv_ref hk'] at kw
  exact W.aald (v := .ref (oad E k' (a * i + j))) (ty := tt) C.1 C.2.1 (hP.1 q0 _ hw) ((C.2.2.2.2.2.2.2.1.2 ty _ ht1).1 n _) ht2 (fun q => by cases q) (by show ¬ ((nI j) < 0 ∨ (arrV _ _ _).slots.size ≤ _); rw [arrV_size]; exact hin) (by show (arrV _ _ _).slots[_]? = _; rw [arrV_read _ _ hlt, nI_clamp (by omega)]; rfl) rfl rfl h4 kw
-- what is only read
theorem g_sld (j : Nat) {x : Int32} (hf : oFt k pc = some (.iaload, nx, tg)) (hx : x = nI j) (hj : j < (M K_SCR 1 0).toNatClampNeg) (kk : oG k d nx ls (.inl (M K_SCR 0 j) :: st) M Q) : oG k d pc ls (.inl x :: .inr (K_SCR, 0) :: st) M Q := by
  intro A p l e R s m args below meth c E H locs la cs sl Z C hE hR hS hP hlv h1 h2 h3
  obtain ⟨h4, rfl⟩ := oFt_dec (n := 0) hf rfl C.2.2.2.2.2.2.2.2.2.2.2.2
  have hRO := C.2.2.2.2.2.2.2.2.1
  obtain ⟨s1, s2, s3⟩ := hP.2
  rw [s1, nI_clamp (by omega)] at hj
  subst hx
  have hin : vp_in (nI j) (oL E) := vp_in_nI hj (by omega)
  refine va_sld C.1 C.2.1 hRO.1 hRO.2.1.1 hRO.2.1.2 hS hin h4 ?_
  rw [nI_clamp (by omega), s3 j hj]
  exact kk A p l e R s m args below meth c E H locs la cs sl Z C hE hR hS hP hlv (oOk_int (oOk_tl (oOk_tl h1))) h2 h3
theorem g_slen (hf : oFt k pc = some (.arraylength, nx, tg)) (kk : oG k d nx ls (.inl (M K_SCR 1 0) :: st) M Q) : oG k d pc ls (.inr (K_SCR, 0) :: st) M Q := by
  intro A p l e R s m args below meth c E H locs la cs sl Z C hE hR hS hP hlv h1 h2 h3
  obtain ⟨h4, rfl⟩ := oFt_dec (n := 0) hf rfl C.2.2.2.2.2.2.2.2.2.2.2.2
  have hRO := C.2.2.2.2.2.2.2.2.1
  obtain ⟨s1, s2, s3⟩ := hP.2
  refine va_slen C.1 C.2.1 hRO.1 hRO.2.1.1 hRO.2.1.2 hS h4 ?_
  have kw := kk A p l e R s m args below meth c E H locs la cs sl Z C hE hR hS hP hlv (oOk_int (oOk_tl h1)) h2 h3
  rw [s1] at kw
  exact kw
theorem g_tld (j : Nat) {i : Nat} {x : Int32} (hf : oFt k pc = some (.iaload, nx, tg)) (hi : i < 3) (hx : x = nI j) (hj : j < oTN i) (kk : oG k d nx ls (.inl (oTV i j) :: st) M Q) : oG k d pc ls (.inl x :: .inr (K_TAB, i) :: st) M Q := by
  intro A p l e R s m args below meth c E H locs la cs sl Z C hE hR hS hP hlv h1 h2 h3
  obtain ⟨h4, rfl⟩ := oFt_dec (n := 0) hf rfl C.2.2.2.2.2.2.2.2.2.2.2.2
  have hRO := C.2.2.2.2.2.2.2.2.1
  have hb : oTN i ≤ 8 := by
    match i, hi with
    | 0, _ => decide
    | 1, _ => decide
    | 2, _ => decide
  subst hx
  have hin : vp_in (nI j) (oTN i) := vp_in_nI hj (by omega)
  refine va_ti (v := .int (oTV i j)) C.1 C.2.1 (hRO.2.2.1 i hi) hS hin ?_ h4 ?_
  · rw [nI_clamp (by omega)]
  · exact kk A p l e R s m args below meth c E H locs la cs sl Z C hE hR hS hP hlv (oOk_int (oOk_tl (oOk_tl h1))) h2 h3
theorem g_blen {i : Nat} {v : Int32} (hf : oFt k pc = some (.arraylength, nx, tg)) (hi : i < 3) (hv : v = Int32.ofNat (oSL.getD i 0)) (kk : oG k d nx ls (.inl v :: st) M Q) : oG k d pc ls (.inr (K_SBY, i) :: st) M Q := by
  intro A p l e R s m args below meth c E H locs la cs sl Z C hE hR hS hP hlv h1 h2 h3
  obtain ⟨h4, rfl⟩ := oFt_dec (n := 0) hf rfl C.2.2.2.2.2.2.2.2.2.2.2.2
  have hRO := C.2.2.2.2.2.2.2.2.1
  exact va_tlen (v := v) C.1 C.2.1 (hRO.2.2.2.2.1.1 i hi).2.2.2 hS hv.symm h4 (kk A p l e R s m args below meth c E H locs la cs sl Z C hE hR hS hP hlv (oOk_int (oOk_tl h1)) h2 h3)
theorem g_bld (j : Nat) {i : Nat} {x : Int32} (hf : oFt k pc = some (.baload, nx, tg)) (hi : i < 3) (hx : x = nI j) (hj : j < oSL.getD i 0) (kk : oG k d nx ls (.inl ((oSB.getD i []).getD j 0) :: st) M Q) : oG k d pc ls (.inl x :: .inr (K_SBY, i) :: st) M Q := by
  intro A p l e R s m args below meth c E H locs la cs sl Z C hE hR hS hP hlv h1 h2 h3
  obtain ⟨h4, rfl⟩ := oFt_dec (n := 0) hf rfl C.2.2.2.2.2.2.2.2.2.2.2.2
  have hRO := C.2.2.2.2.2.2.2.2.1
  have hb : oSL.getD i 0 ≤ 8 := by
    match i, hi with
    | 0, _ => decide
    | 1, _ => decide
    | 2, _ => decide
  subst hx
  have hin : vp_in (nI j) (oSL.getD i 0) := vp_in_nI hj (by omega)
  refine va_tb (v := .int ((oSB.getD i []).getD j 0)) C.1 C.2.1 (hRO.2.2.2.2.1.1 i hi).2.2.2 hS hin ?_ h4 ?_
  · rw [nI_clamp (by omega)]
  · exact kk A p l e R s m args below meth c E H locs la cs sl Z C hE hR hS hP hlv (oOk_int (oOk_tl (oOk_tl h1))) h2 h3
theorem oW_val : Cond.fieldLink "java/lang/String" 9 "java/lang/String" "value" "[B" ∈ oGT := oGT_of (List.mem_of_getElem? (i := 1465) (by decide +kernel)) rfl
theorem oW_cod : Cond.fieldLink "java/lang/String" 15 "java/lang/String" "coder" "B" ∈ oGT := oGT_of (List.mem_of_getElem? (i := 1466) (by decide +kernel)) rfl
theorem g_sval {i : Nat} (hf : oFt k pc = some (.getfield 9, nx, tg)) (ho : oMO k = 16) (hi : i < 3) (kk : oG k d nx ls (.inr (K_SBY, i) :: st) M Q) : oG k d pc ls (.inr (K_STR, i) :: st) M Q := by
  intro A p l e R s m args below meth c E H locs la cs sl Z C hE hR hS hP hlv h1 h2 h3
  obtain ⟨h4, rfl⟩ := oFt_dec (n := 2) hf rfl C.2.2.2.2.2.2.2.2.2.2.2.2
  have hRO := C.2.2.2.2.2.2.2.2.1
  have hown := C.2.2.2.2.2.1
  rw [ho] at hown
  exact vk_getf (own := "java/lang/String") C.1 C.2.1 (hRO.2.2.2.2.1.1 i hi).2.2.1 hS hown (C.2.2.2.2.2.2.1 _ oW_val) (fun _ h9 => h9) h4 (kk A p l e R s m args below meth c E H locs la cs sl Z C hE hR hS hP hlv (oOk_cons hi (oOk_tl h1)) h2 h3)
theorem g_scod {i : Nat} (hf : oFt k pc = some (.getfield 15, nx, tg)) (ho : oMO k = 16) (hi : i < 3) (kk : oG k d nx ls (.inl 0 :: st) M Q) : oG k d pc ls (.inr (K_STR, i) :: st) M Q := by
  intro A p l e R s m args below meth c E H locs la cs sl Z C hE hR hS hP hlv h1 h2 h3
  obtain ⟨h4, rfl⟩ := oFt_dec (n := 2) hf rfl C.2.2.2.2.2.2.2.2.2.2.2.2
  have hRO := C.2.2.2.2.2.2.2.2.1
  have hown := C.2.2.2.2.2.1
  rw [ho] at hown
  exact vk_getf (own := "java/lang/String") C.1 C.2.1 (hRO.2.2.2.2.1.1 i hi).2.1 hS hown (C.2.2.2.2.2.2.1 _ oW_cod) (fun _ h9 => h9) h4 (kk A p l e R s m args below meth c E H locs la cs sl Z C hE hR hS hP hlv (oOk_int (oOk_tl h1)) h2 h3)
theorem g_ldcS {idx i : Nat} (hf : oFt k pc = some (.ldc idx, nx, tg)) (ho : oMO k = 4) (hi : i < 3) (hx : oSI i = idx) (kk : oG k d nx ls (.inr (K_STR, i) :: st) M Q) : oG k d pc ls st M Q := by
  intro A p l e R s m args below meth c E H locs la cs sl Z C hE hR hS hP hlv h1 h2 h3
  obtain ⟨h4, rfl⟩ := oFt_dec (n := 1) hf rfl C.2.2.2.2.2.2.2.2.2.2.2.2
  have hRO := C.2.2.2.2.2.2.2.2.1
  have hown := C.2.2.2.2.2.1
  rw [ho] at hown
  subst hx
  exact va_ldcS (own := "OakDeeds$Reader") C.1 C.2.1 hown (hRO.2.2.2.2.2.2.2.2 i hi) h4 (kk A p l e R s m args below meth c E H locs la cs sl Z C hE hR hS hP hlv (oOk_cons hi h1) h2 h3)
theorem oW_abv : Cond.fieldLink "OakDeeds" 393 "OakDeeds" "ABOVE" "[I" ∈ oGT := oGT_of (List.mem_of_getElem? (i := 524) (by decide +kernel)) rfl
theorem oW_cst : Cond.fieldLink "java/lang/String" 38 "java/lang/String" "COMPACT_STRINGS" "Z" ∈ oGT := oGT_of (List.mem_of_getElem? (i := 771) (by decide +kernel)) rfl
theorem oW_sio : Cond.fieldLink "java/lang/String" 1053 "jdk/internal/util/Preconditions" "SIOOBE_FORMATTER" "Ljava/util/function/BiFunction;" ∈ oGT := oGT_of (List.mem_of_getElem? (i := 787) (by decide +kernel)) rfl
theorem oW_stx : Cond.fieldLinkNest "OakDeeds$Walk" 49 "OakDeeds" "STEP_X" "[I" "OakDeeds" ∈ oNW := by decide +kernel
theorem oW_sty : Cond.fieldLinkNest "OakDeeds$Walk" 52 "OakDeeds" "STEP_Y" "[I" "OakDeeds" ∈ oNW := by decide +kernel
theorem g_above (hf : oFt k pc = some (.getstatic 393, nx, tg)) (ho : oMO k = 9) (kk : oG k d nx ls (.inr (K_TAB, 0) :: st) M Q) : oG k d pc ls st M Q := by
  intro A p l e R s m args below meth c E H locs la cs sl Z C hE hR hS hP hlv h1 h2 h3
  obtain ⟨h4, rfl⟩ := oFt_dec (n := 2) hf rfl C.2.2.2.2.2.2.2.2.2.2.2.2
  have hRO := C.2.2.2.2.2.2.2.2.1
  have hown := C.2.2.2.2.2.1
  rw [ho] at hown
  exact va_gets (own := "OakDeeds") C.1 C.2.1 (hRO.2.2.2.1 0 (by decide)) hS hown (C.2.2.2.2.2.2.1 _ oW_abv) (fun _ h9 => h9) h4 (kk A p l e R s m args below meth c E H locs la cs sl Z C hE hR hS hP hlv (oOk_cons (show oOk (.inr _) from (by decide : (_ : Nat) < oCnt _)) h1) h2 h3)
theorem g_compact (hf : oFt k pc = some (.getstatic 38, nx, tg)) (ho : oMO k = 16) (kk : oG k d nx ls (.inl 1 :: st) M Q) : oG k d pc ls st M Q := by
  intro A p l e R s m args below meth c E H locs la cs sl Z C hE hR hS hP hlv h1 h2 h3
  obtain ⟨h4, rfl⟩ := oFt_dec (n := 2) hf rfl C.2.2.2.2.2.2.2.2.2.2.2.2
  have hRO := C.2.2.2.2.2.2.2.2.1
  have hown := C.2.2.2.2.2.1
  rw [ho] at hown
  exact va_gets (own := "java/lang/String") C.1 C.2.1 hRO.2.2.2.2.2.1 hS hown (C.2.2.2.2.2.2.1 _ oW_cst) (fun _ h9 => h9) h4 (kk A p l e R s m args below meth c E H locs la cs sl Z C hE hR hS hP hlv (oOk_int h1) h2 h3)
theorem g_sioobe (hf : oFt k pc = some (.getstatic 1053, nx, tg)) (ho : oMO k = 16) (kk : oG k d nx ls (.inr (K_OPQ, 0) :: st) M Q) : oG k d pc ls st M Q := by
  intro A p l e R s m args below meth c E H locs la cs sl Z C hE hR hS hP hlv h1 h2 h3
  obtain ⟨h4, rfl⟩ := oFt_dec (n := 2) hf rfl C.2.2.2.2.2.2.2.2.2.2.2.2
  have hRO := C.2.2.2.2.2.2.2.2.1
  have hown := C.2.2.2.2.2.1
  rw [ho] at hown
  exact va_gets (own := "java/lang/String") C.1 C.2.1 hRO.2.2.2.2.2.2.1 hS hown (C.2.2.2.2.2.2.1 _ oW_sio) (fun _ h9 => h9) h4 (kk A p l e R s m args below meth c E H locs la cs sl Z C hE hR hS hP hlv (oOk_cons (show oOk (.inr _) from (by decide : (_ : Nat) < oCnt _)) h1) h2 h3)
theorem g_stepx (hf : oFt k pc = some (.getstatic 49, nx, tg)) (ho : oMO k = 8) (kk : oG k d nx ls (.inr (K_TAB, 1) :: st) M Q) : oG k d pc ls st M Q := by
  intro A p l e R s m args below meth c E H locs la cs sl Z C hE hR hS hP hlv h1 h2 h3
  obtain ⟨h4, rfl⟩ := oFt_dec (n := 2) hf rfl C.2.2.2.2.2.2.2.2.2.2.2.2
  have hRO := C.2.2.2.2.2.2.2.2.1
  have hown := C.2.2.2.2.2.1
  rw [ho] at hown
  exact va_getsN (own := "OakDeeds$Walk") C.1 C.2.1 (hRO.2.2.2.1 1 (by decide)) hS hown (va_Nw.use rfl (C.2.2.2.2.2.2.2.2.2.1 _ oW_stx)) (fun _ h9 => h9) h4 (kk A p l e R s m args below meth c E H locs la cs sl Z C hE hR hS hP hlv (oOk_cons (show oOk (.inr _) from (by decide : (_ : Nat) < oCnt _)) h1) h2 h3)
theorem g_stepy (hf : oFt k pc = some (.getstatic 52, nx, tg)) (ho : oMO k = 8) (kk : oG k d nx ls (.inr (K_TAB, 2) :: st) M Q) : oG k d pc ls st M Q := by
  intro A p l e R s m args below meth c E H locs la cs sl Z C hE hR hS hP hlv h1 h2 h3
  obtain ⟨h4, rfl⟩ := oFt_dec (n := 2) hf rfl C.2.2.2.2.2.2.2.2.2.2.2.2
  have hRO := C.2.2.2.2.2.2.2.2.1
  have hown := C.2.2.2.2.2.1
  rw [ho] at hown
  exact va_getsN (own := "OakDeeds$Walk") C.1 C.2.1 (hRO.2.2.2.1 2 (by decide)) hS hown (va_Nw.use rfl (C.2.2.2.2.2.2.2.2.2.1 _ oW_sty)) (fun _ h9 => h9) h4 (kk A p l e R s m args below meth c E H locs la cs sl Z C hE hR hS hP hlv (oOk_cons (show oOk (.inr _) from (by decide : (_ : Nat) < oCnt _)) h1) h2 h3)
-- ends
theorem g_iret {v : Int32} {ty : FieldType} (hf : oFt k pc = some (.ireturn, nx, tg)) (ht : oMR k = some ty) (hn : narrow ty (.int v) = .int v) (hq : Q (some v) M) : oG k d pc ls [.inl v] M Q := by
  intro A p l e R s m args below meth c E H locs la cs sl Z C hE hR hS hP hlv h1 h2 h3
  obtain ⟨h4, -⟩ := oFt_dec (n := 0) hf rfl C.2.2.2.2.2.2.2.2.2.2.2.2
  exact hE (some v) M H locs pc la hq hP hS ⟨h4, ty, ht, hn⟩
theorem g_ret (hf : oFt k pc = some (.return_, nx, tg)) (ht : oMR k = none) (hq : Q none M) : oG k d pc ls [] M Q := by
  intro A p l e R s m args below meth c E H locs la cs sl Z C hE hR hS hP hlv h1 h2 h3
  obtain ⟨h4, -⟩ := oFt_dec (n := 0) hf rfl C.2.2.2.2.2.2.2.2.2.2.2.2
  exact hE none M H locs pc la hq hP hS ⟨h4, ht⟩
end RULES
end
section
/-! calls: links and what the tables say of each method, by places in lw_tbl -/
def oMP (k : Nat) : Nat × Nat × Nat × Nat := (cond (Nat.blt k 119) (cond (Nat.blt k 59) (cond (Nat.blt k 29) (cond (Nat.blt k 14) (cond (Nat.blt k 7) (cond (Nat.blt k 3) (cond (Nat.blt k 1) (263, 39, 262, 0) (cond (Nat.blt k 2) (665, 39, 663, 664) (647, 39, 645, 646))) (cond (Nat.blt k 5) (cond (Nat.blt k 4) (656, 39, 654, 655) (690, 39, 688, 689)) (cond (Nat.blt k 6) (697, 39, 695, 696) (756, 39, 754, 755)))) (cond (Nat.blt k 10) (cond (Nat.blt k 8) (111, 37, 110, 0) (cond (Nat.blt k 9) (464, 37, 462, 463) (541, 37, 539, 540))) (cond (Nat.blt k 12) (cond (Nat.blt k 11) (528, 37, 526, 527) (570, 37, 568, 569)) (cond (Nat.blt k 13) (988, 37, 986, 987) (104, 36, 103, 0))))) (cond (Nat.blt k 21) (cond (Nat.blt k 17) (cond (Nat.blt k 15) (984, 36, 982, 983) (cond (Nat.blt k 16) (431, 36, 429, 430) (472, 36, 470, 471))) (cond (Nat.blt k 19) (cond (Nat.blt k 18) (536, 36, 534, 535) (739, 36, 737, 738)) (cond (Nat.blt k 20) (427, 36, 425, 426) (1000, 36, 998, 999)))) (cond (Nat.blt k 25) (cond (Nat.blt k 23) (cond (Nat.blt k 22) (580, 36, 578, 579) (476, 36, 474, 475)) (cond (Nat.blt k 24) (502, 36, 500, 501) (510, 36, 508, 509))) (cond (Nat.blt k 27) (cond (Nat.blt k 26) (64, 34, 63, 0) (480, 34, 478, 479)) (cond (Nat.blt k 28) (489, 34, 487, 488) (495, 34, 494, 0)))))) (cond (Nat.blt k 44) (cond (Nat.blt k 36) (cond (Nat.blt k 32) (cond (Nat.blt k 30) (498, 34, 497, 0) (cond (Nat.blt k 31) (283, 40, 282, 0) (765, 40, 763, 764))) (cond (Nat.blt k 34) (cond (Nat.blt k 33) (777, 40, 775, 776) (781, 40, 779, 780)) (cond (Nat.blt k 35) (784, 40, 783, 0) (789, 40, 787, 788)))) (cond (Nat.blt k 40) (cond (Nat.blt k 38) (cond (Nat.blt k 37) (794, 40, 792, 793) (856, 40, 854, 855)) (cond (Nat.blt k 39) (868, 40, 866, 867) (876, 40, 874, 875))) (cond (Nat.blt k 42) (cond (Nat.blt k 41) (848, 40, 846, 847) (852, 40, 850, 851)) (cond (Nat.blt k 43) (864, 40, 862, 863) (872, 40, 870, 871))))) (cond (Nat.blt k 51) (cond (Nat.blt k 47) (cond (Nat.blt k 45) (860, 40, 858, 859) (cond (Nat.blt k 46) (324, 41, 323, 0) (901, 41, 899, 900))) (cond (Nat.blt k 49) (cond (Nat.blt k 48) (954, 41, 952, 953) (912, 41, 910, 911)) (cond (Nat.blt k 50) (936, 41, 934, 935) (344, 42, 343, 0)))) (cond (Nat.blt k 55) (cond (Nat.blt k 53) (cond (Nat.blt k 52) (950, 42, 948, 949) (71, 35, 70, 0)) (cond (Nat.blt k 54) (880, 35, 878, 879) (203, 38, 202, 0))) (cond (Nat.blt k 57) (cond (Nat.blt k 56) (599, 38, 597, 598) (608, 38, 606, 607)) (cond (Nat.blt k 58) (603, 38, 601, 602) (593, 38, 591, 592))))))) (cond (Nat.blt k 89) (cond (Nat.blt k 74) (cond (Nat.blt k 66) (cond (Nat.blt k 62) (cond (Nat.blt k 60) (928, 38, 926, 927) (cond (Nat.blt k 61) (635, 38, 633, 634) (639, 38, 637, 638))) (cond (Nat.blt k 64) (cond (Nat.blt k 63) (626, 38, 624, 625) (622, 38, 620, 621)) (cond (Nat.blt k 65) (714, 38, 712, 713) (709, 38, 707, 708)))) (cond (Nat.blt k 70) (cond (Nat.blt k 68) (cond (Nat.blt k 67) (722, 38, 720, 721) (731, 38, 729, 730)) (cond (Nat.blt k 69) (727, 38, 725, 726) (743, 38, 741, 742))) (cond (Nat.blt k 72) (cond (Nat.blt k 71) (56, 33, 55, 0) (415, 33, 413, 414)) (cond (Nat.blt k 73) (436, 33, 434, 435) (441, 33, 439, 440))))) (cond (Nat.blt k 81) (cond (Nat.blt k 77) (cond (Nat.blt k 75) (451, 33, 449, 450) (cond (Nat.blt k 76) (468, 33, 466, 467) (514, 33, 512, 513))) (cond (Nat.blt k 79) (cond (Nat.blt k 78) (518, 33, 516, 517) (532, 33, 530, 531)) (cond (Nat.blt k 80) (552, 33, 550, 551) (562, 33, 560, 561)))) (cond (Nat.blt k 85) (cond (Nat.blt k 83) (cond (Nat.blt k 82) (566, 33, 564, 565) (575, 33, 573, 574)) (cond (Nat.blt k 84) (585, 33, 583, 584) (589, 33, 587, 588))) (cond (Nat.blt k 87) (cond (Nat.blt k 86) (618, 33, 616, 617) (631, 33, 629, 630)) (cond (Nat.blt k 88) (643, 33, 641, 642) (669, 33, 667, 668)))))) (cond (Nat.blt k 104) (cond (Nat.blt k 96) (cond (Nat.blt k 92) (cond (Nat.blt k 90) (682, 33, 680, 681) (cond (Nat.blt k 91) (686, 33, 684, 685) (701, 33, 699, 700))) (cond (Nat.blt k 94) (cond (Nat.blt k 93) (705, 33, 703, 704) (718, 33, 716, 717)) (cond (Nat.blt k 95) (735, 33, 733, 734) (747, 33, 745, 746)))) (cond (Nat.blt k 100) (cond (Nat.blt k 98) (cond (Nat.blt k 97) (752, 33, 750, 751) (761, 33, 759, 760)) (cond (Nat.blt k 99) (769, 33, 767, 768) (773, 33, 771, 772))) (cond (Nat.blt k 102) (cond (Nat.blt k 101) (885, 33, 883, 884) (889, 33, 887, 888)) (cond (Nat.blt k 103) (894, 33, 892, 893) (907, 33, 905, 906))))) (cond (Nat.blt k 111) (cond (Nat.blt k 107) (cond (Nat.blt k 105) (920, 33, 918, 919) (cond (Nat.blt k 106) (924, 33, 922, 923) (932, 33, 930, 931))) (cond (Nat.blt k 109) (cond (Nat.blt k 108) (943, 33, 941, 942) (959, 33, 957, 958)) (cond (Nat.blt k 110) (963, 33, 961, 962) (967, 33, 965, 966)))) (cond (Nat.blt k 115) (cond (Nat.blt k 113) (cond (Nat.blt k 112) (972, 33, 970, 971) (976, 33, 974, 975)) (cond (Nat.blt k 114) (980, 33, 978, 979) (992, 33, 990, 991))) (cond (Nat.blt k 117) (cond (Nat.blt k 116) (996, 33, 994, 995) (421, 33, 420, 0)) (cond (Nat.blt k 118) (418, 33, 417, 0) (454, 33, 453, 0)))))))) (cond (Nat.blt k 178) (cond (Nat.blt k 148) (cond (Nat.blt k 133) (cond (Nat.blt k 126) (cond (Nat.blt k 122) (cond (Nat.blt k 120) (457, 33, 456, 0) (cond (Nat.blt k 121) (460, 33, 459, 0) (521, 33, 520, 0))) (cond (Nat.blt k 124) (cond (Nat.blt k 123) (524, 33, 523, 0) (897, 33, 896, 0)) (cond (Nat.blt k 125) (946, 33, 945, 0) (555, 33, 554, 0)))) (cond (Nat.blt k 129) (cond (Nat.blt k 127) (548, 33, 547, 0) (cond (Nat.blt k 128) (545, 33, 544, 0) (444, 33, 443, 0))) (cond (Nat.blt k 131) (cond (Nat.blt k 130) (672, 33, 671, 0) (492, 33, 491, 0)) (cond (Nat.blt k 132) (1005, 43, 1004, 0) (1142, 43, 1141, 0))))) (cond (Nat.blt k 140) (cond (Nat.blt k 136) (cond (Nat.blt k 134) (1200, 43, 1199, 0) (cond (Nat.blt k 135) (1159, 43, 1158, 0) (1484, 43, 1483, 0))) (cond (Nat.blt k 138) (cond (Nat.blt k 137) (1152, 43, 1151, 0) (1174, 43, 1173, 1)) (cond (Nat.blt k 139) (1178, 43, 1177, 2) (1227, 43, 1226, 9)))) (cond (Nat.blt k 144) (cond (Nat.blt k 142) (cond (Nat.blt k 141) (1231, 43, 1230, 10) (1139, 43, 1138, 0)) (cond (Nat.blt k 143) (1136, 43, 1134, 1135) (1148, 43, 1146, 1147))) (cond (Nat.blt k 146) (cond (Nat.blt k 145) (1156, 43, 1154, 1155) (1166, 43, 1165, 0)) (cond (Nat.blt k 147) (1163, 43, 1161, 1162) (1182, 43, 1181, 3)))))) (cond (Nat.blt k 163) (cond (Nat.blt k 155) (cond (Nat.blt k 151) (cond (Nat.blt k 149) (1197, 43, 1196, 6) (cond (Nat.blt k 150) (1204, 43, 1203, 7) (1170, 43, 1168, 1169))) (cond (Nat.blt k 153) (cond (Nat.blt k 152) (1208, 43, 1206, 1207) (1215, 43, 1214, 0)) (cond (Nat.blt k 154) (1219, 43, 1218, 8) (1212, 43, 1210, 1211)))) (cond (Nat.blt k 159) (cond (Nat.blt k 157) (cond (Nat.blt k 156) (1234, 43, 1233, 0) (1238, 43, 1237, 11)) (cond (Nat.blt k 158) (1223, 43, 1221, 1222) (1245, 43, 1244, 0))) (cond (Nat.blt k 161) (cond (Nat.blt k 160) (1242, 43, 1240, 1241) (1250, 43, 1248, 1249)) (cond (Nat.blt k 162) (1254, 43, 1252, 1253) (1262, 43, 1261, 12))))) (cond (Nat.blt k 170) (cond (Nat.blt k 166) (cond (Nat.blt k 164) (1258, 43, 1256, 1257) (cond (Nat.blt k 165) (1267, 43, 1265, 1266) (1279, 43, 1278, 14))) (cond (Nat.blt k 168) (cond (Nat.blt k 167) (1290, 43, 1289, 0) (1293, 43, 1292, 0)) (cond (Nat.blt k 169) (1287, 43, 1286, 16) (1283, 43, 1282, 15)))) (cond (Nat.blt k 174) (cond (Nat.blt k 172) (cond (Nat.blt k 171) (1275, 43, 1274, 13) (1271, 43, 1269, 1270)) (cond (Nat.blt k 173) (1298, 43, 1296, 1297) (1302, 43, 1300, 1301))) (cond (Nat.blt k 176) (cond (Nat.blt k 175) (1310, 43, 1309, 17) (1322, 43, 1321, 18)) (cond (Nat.blt k 177) (1334, 43, 1333, 19) (1306, 43, 1304, 1305))))))) (cond (Nat.blt k 208) (cond (Nat.blt k 193) (cond (Nat.blt k 185) (cond (Nat.blt k 181) (cond (Nat.blt k 179) (1314, 43, 1312, 1313) (cond (Nat.blt k 180) (1318, 43, 1316, 1317) (1326, 43, 1324, 1325))) (cond (Nat.blt k 183) (cond (Nat.blt k 182) (1330, 43, 1328, 1329) (1346, 43, 1345, 21)) (cond (Nat.blt k 184) (1342, 43, 1341, 20) (1338, 43, 1336, 1337)))) (cond (Nat.blt k 189) (cond (Nat.blt k 187) (cond (Nat.blt k 186) (1350, 43, 1348, 1349) (1354, 43, 1352, 1353)) (cond (Nat.blt k 188) (1358, 43, 1356, 1357) (1362, 43, 1360, 1361))) (cond (Nat.blt k 191) (cond (Nat.blt k 190) (1366, 43, 1364, 1365) (1370, 43, 1368, 1369)) (cond (Nat.blt k 192) (1382, 43, 1381, 23) (1386, 43, 1385, 24))))) (cond (Nat.blt k 200) (cond (Nat.blt k 196) (cond (Nat.blt k 194) (1378, 43, 1377, 22) (cond (Nat.blt k 195) (1390, 43, 1389, 25) (1402, 43, 1401, 28))) (cond (Nat.blt k 198) (cond (Nat.blt k 197) (1409, 43, 1408, 0) (1406, 43, 1405, 29)) (cond (Nat.blt k 199) (1417, 43, 1416, 31) (1398, 43, 1397, 27)))) (cond (Nat.blt k 204) (cond (Nat.blt k 202) (cond (Nat.blt k 201) (1394, 43, 1393, 26) (1413, 43, 1412, 30)) (cond (Nat.blt k 203) (1374, 43, 1372, 1373) (1421, 43, 1419, 1420))) (cond (Nat.blt k 206) (cond (Nat.blt k 205) (1186, 43, 1185, 4) (1425, 43, 1423, 1424)) (cond (Nat.blt k 207) (1193, 43, 1192, 0) (1190, 43, 1189, 5)))))) (cond (Nat.blt k 223) (cond (Nat.blt k 215) (cond (Nat.blt k 211) (cond (Nat.blt k 209) (1432, 43, 1431, 0) (cond (Nat.blt k 210) (1460, 43, 1459, 0) (1429, 43, 1427, 1428))) (cond (Nat.blt k 213) (cond (Nat.blt k 212) (1437, 43, 1435, 1436) (1445, 43, 1443, 1444)) (cond (Nat.blt k 214) (1449, 43, 1447, 1448) (1453, 43, 1451, 1452)))) (cond (Nat.blt k 219) (cond (Nat.blt k 217) (cond (Nat.blt k 216) (1457, 43, 1455, 1456) (1464, 43, 1462, 1463)) (cond (Nat.blt k 218) (1468, 43, 1466, 1467) (1472, 43, 1470, 1471))) (cond (Nat.blt k 221) (cond (Nat.blt k 220) (1477, 43, 1475, 1476) (1481, 43, 1479, 1480)) (cond (Nat.blt k 222) (1488, 43, 1486, 1487) (1492, 43, 1490, 1491))))) (cond (Nat.blt k 230) (cond (Nat.blt k 226) (cond (Nat.blt k 224) (1496, 43, 1494, 1495) (cond (Nat.blt k 225) (675, 46, 674, 0) (661, 44, 660, 0))) (cond (Nat.blt k 228) (cond (Nat.blt k 227) (447, 44, 446, 0) (506, 44, 505, 0)) (cond (Nat.blt k 229) (483, 44, 482, 0) (798, 47, 796, 797)))) (cond (Nat.blt k 234) (cond (Nat.blt k 232) (cond (Nat.blt k 231) (808, 47, 806, 807) (802, 47, 800, 801)) (cond (Nat.blt k 233) (812, 47, 810, 811) (818, 47, 817, 0))) (cond (Nat.blt k 236) (cond (Nat.blt k 235) (815, 48, 814, 0) (650, 45, 649, 0)) (cond (Nat.blt k 237) (823, 49, 822, 0) (0, 0, 0, 0)))))))))
def oNP (k : Nat) : Nat := (cond (Nat.blt k 119) (cond (Nat.blt k 59) (cond (Nat.blt k 29) (cond (Nat.blt k 14) (cond (Nat.blt k 7) (cond (Nat.blt k 3) (cond (Nat.blt k 1) 0 (cond (Nat.blt k 2) 3 2)) (cond (Nat.blt k 5) (cond (Nat.blt k 4) 5 1) (cond (Nat.blt k 6) 2 2))) (cond (Nat.blt k 10) (cond (Nat.blt k 8) 0 (cond (Nat.blt k 9) 1 1)) (cond (Nat.blt k 12) (cond (Nat.blt k 11) 3 1) (cond (Nat.blt k 13) 1 1)))) (cond (Nat.blt k 21) (cond (Nat.blt k 17) (cond (Nat.blt k 15) 1 (cond (Nat.blt k 16) 1 1)) (cond (Nat.blt k 19) (cond (Nat.blt k 18) 2 1) (cond (Nat.blt k 20) 3 0))) (cond (Nat.blt k 25) (cond (Nat.blt k 23) (cond (Nat.blt k 22) 0 1) (cond (Nat.blt k 24) 1 1)) (cond (Nat.blt k 27) (cond (Nat.blt k 26) 0 2) (cond (Nat.blt k 28) 3 3))))) (cond (Nat.blt k 44) (cond (Nat.blt k 36) (cond (Nat.blt k 32) (cond (Nat.blt k 30) 3 (cond (Nat.blt k 31) 0 1)) (cond (Nat.blt k 34) (cond (Nat.blt k 33) 0 0) (cond (Nat.blt k 35) 1 0))) (cond (Nat.blt k 40) (cond (Nat.blt k 38) (cond (Nat.blt k 37) 1 1) (cond (Nat.blt k 39) 0 1)) (cond (Nat.blt k 42) (cond (Nat.blt k 41) 3 2) (cond (Nat.blt k 43) 0 0)))) (cond (Nat.blt k 51) (cond (Nat.blt k 47) (cond (Nat.blt k 45) 1 (cond (Nat.blt k 46) 0 2)) (cond (Nat.blt k 49) (cond (Nat.blt k 48) 1 1) (cond (Nat.blt k 50) 2 0))) (cond (Nat.blt k 55) (cond (Nat.blt k 53) (cond (Nat.blt k 52) 2 0) (cond (Nat.blt k 54) 1 1)) (cond (Nat.blt k 57) (cond (Nat.blt k 56) 3 2) (cond (Nat.blt k 58) 3 1)))))) (cond (Nat.blt k 89) (cond (Nat.blt k 74) (cond (Nat.blt k 66) (cond (Nat.blt k 62) (cond (Nat.blt k 60) 1 (cond (Nat.blt k 61) 0 1)) (cond (Nat.blt k 64) (cond (Nat.blt k 63) 0 3) (cond (Nat.blt k 65) 3 1))) (cond (Nat.blt k 70) (cond (Nat.blt k 68) (cond (Nat.blt k 67) 1 1) (cond (Nat.blt k 69) 2 1)) (cond (Nat.blt k 72) (cond (Nat.blt k 71) 0 2) (cond (Nat.blt k 73) 2 3)))) (cond (Nat.blt k 81) (cond (Nat.blt k 77) (cond (Nat.blt k 75) 3 (cond (Nat.blt k 76) 2 3)) (cond (Nat.blt k 79) (cond (Nat.blt k 78) 3 3) (cond (Nat.blt k 80) 3 3))) (cond (Nat.blt k 85) (cond (Nat.blt k 83) (cond (Nat.blt k 82) 2 2) (cond (Nat.blt k 84) 1 3)) (cond (Nat.blt k 87) (cond (Nat.blt k 86) 1 1) (cond (Nat.blt k 88) 2 1))))) (cond (Nat.blt k 104) (cond (Nat.blt k 96) (cond (Nat.blt k 92) (cond (Nat.blt k 90) 2 (cond (Nat.blt k 91) 1 1)) (cond (Nat.blt k 94) (cond (Nat.blt k 93) 2 2) (cond (Nat.blt k 95) 1 2))) (cond (Nat.blt k 100) (cond (Nat.blt k 98) (cond (Nat.blt k 97) 3 3) (cond (Nat.blt k 99) 1 0)) (cond (Nat.blt k 102) (cond (Nat.blt k 101) 2 1) (cond (Nat.blt k 103) 3 3)))) (cond (Nat.blt k 111) (cond (Nat.blt k 107) (cond (Nat.blt k 105) 2 (cond (Nat.blt k 106) 2 5)) (cond (Nat.blt k 109) (cond (Nat.blt k 108) 3 2) (cond (Nat.blt k 110) 2 2))) (cond (Nat.blt k 115) (cond (Nat.blt k 113) (cond (Nat.blt k 112) 1 1) (cond (Nat.blt k 114) 0 0)) (cond (Nat.blt k 117) (cond (Nat.blt k 116) 1 3) (cond (Nat.blt k 118) 2 1))))))) (cond (Nat.blt k 178) (cond (Nat.blt k 148) (cond (Nat.blt k 133) (cond (Nat.blt k 126) (cond (Nat.blt k 122) (cond (Nat.blt k 120) 1 (cond (Nat.blt k 121) 1 1)) (cond (Nat.blt k 124) (cond (Nat.blt k 123) 1 1) (cond (Nat.blt k 125) 1 2))) (cond (Nat.blt k 129) (cond (Nat.blt k 127) 3 (cond (Nat.blt k 128) 2 4)) (cond (Nat.blt k 131) (cond (Nat.blt k 130) 1 1) (cond (Nat.blt k 132) 0 3)))) (cond (Nat.blt k 140) (cond (Nat.blt k 136) (cond (Nat.blt k 134) 3 (cond (Nat.blt k 135) 1 2)) (cond (Nat.blt k 138) (cond (Nat.blt k 137) 1 1) (cond (Nat.blt k 139) 2 2))) (cond (Nat.blt k 144) (cond (Nat.blt k 142) (cond (Nat.blt k 141) 3 2) (cond (Nat.blt k 143) 2 2)) (cond (Nat.blt k 146) (cond (Nat.blt k 145) 3 1) (cond (Nat.blt k 147) 3 1))))) (cond (Nat.blt k 163) (cond (Nat.blt k 155) (cond (Nat.blt k 151) (cond (Nat.blt k 149) 1 (cond (Nat.blt k 150) 1 2)) (cond (Nat.blt k 153) (cond (Nat.blt k 152) 3 1) (cond (Nat.blt k 154) 4 3))) (cond (Nat.blt k 159) (cond (Nat.blt k 157) (cond (Nat.blt k 156) 2 2) (cond (Nat.blt k 158) 3 2)) (cond (Nat.blt k 161) (cond (Nat.blt k 160) 3 3) (cond (Nat.blt k 162) 2 0)))) (cond (Nat.blt k 170) (cond (Nat.blt k 166) (cond (Nat.blt k 164) 2 (cond (Nat.blt k 165) 1 1)) (cond (Nat.blt k 168) (cond (Nat.blt k 167) 1 1) (cond (Nat.blt k 169) 3 3))) (cond (Nat.blt k 174) (cond (Nat.blt k 172) (cond (Nat.blt k 171) 1 3) (cond (Nat.blt k 173) 1 1)) (cond (Nat.blt k 176) (cond (Nat.blt k 175) 2 0) (cond (Nat.blt k 177) 1 2)))))) (cond (Nat.blt k 208) (cond (Nat.blt k 193) (cond (Nat.blt k 185) (cond (Nat.blt k 181) (cond (Nat.blt k 179) 1 (cond (Nat.blt k 180) 2 1)) (cond (Nat.blt k 183) (cond (Nat.blt k 182) 1 2) (cond (Nat.blt k 184) 3 2))) (cond (Nat.blt k 189) (cond (Nat.blt k 187) (cond (Nat.blt k 186) 2 1) (cond (Nat.blt k 188) 2 3)) (cond (Nat.blt k 191) (cond (Nat.blt k 190) 3 1) (cond (Nat.blt k 192) 1 1)))) (cond (Nat.blt k 200) (cond (Nat.blt k 196) (cond (Nat.blt k 194) 0 (cond (Nat.blt k 195) 0 1)) (cond (Nat.blt k 198) (cond (Nat.blt k 197) 1 1) (cond (Nat.blt k 199) 0 0))) (cond (Nat.blt k 204) (cond (Nat.blt k 202) (cond (Nat.blt k 201) 0 0) (cond (Nat.blt k 203) 0 2)) (cond (Nat.blt k 206) (cond (Nat.blt k 205) 1 1) (cond (Nat.blt k 207) 3 1))))) (cond (Nat.blt k 223) (cond (Nat.blt k 215) (cond (Nat.blt k 211) (cond (Nat.blt k 209) 1 (cond (Nat.blt k 210) 1 3)) (cond (Nat.blt k 213) (cond (Nat.blt k 212) 3 2) (cond (Nat.blt k 214) 2 5))) (cond (Nat.blt k 219) (cond (Nat.blt k 217) (cond (Nat.blt k 216) 3 2) (cond (Nat.blt k 218) 2 2)) (cond (Nat.blt k 221) (cond (Nat.blt k 220) 1 1) (cond (Nat.blt k 222) 0 0)))) (cond (Nat.blt k 230) (cond (Nat.blt k 226) (cond (Nat.blt k 224) 1 (cond (Nat.blt k 225) 1 2)) (cond (Nat.blt k 228) (cond (Nat.blt k 227) 1 2) (cond (Nat.blt k 229) 2 0))) (cond (Nat.blt k 234) (cond (Nat.blt k 232) (cond (Nat.blt k 231) 1 0) (cond (Nat.blt k 233) 0 2)) (cond (Nat.blt k 236) (cond (Nat.blt k 235) 2 2) (cond (Nat.blt k 237) 3 1))))))))
def oStat (k : Nat) : Bool := (cond (Nat.blt k 119) (cond (Nat.blt k 59) (cond (Nat.blt k 29) (cond (Nat.blt k 14) (cond (Nat.blt k 7) (cond (Nat.blt k 3) (cond (Nat.blt k 1) false (cond (Nat.blt k 2) false false)) (cond (Nat.blt k 5) (cond (Nat.blt k 4) false false) (cond (Nat.blt k 6) false false))) (cond (Nat.blt k 10) (cond (Nat.blt k 8) false (cond (Nat.blt k 9) false false)) (cond (Nat.blt k 12) (cond (Nat.blt k 11) false false) (cond (Nat.blt k 13) false false)))) (cond (Nat.blt k 21) (cond (Nat.blt k 17) (cond (Nat.blt k 15) false (cond (Nat.blt k 16) false false)) (cond (Nat.blt k 19) (cond (Nat.blt k 18) false false) (cond (Nat.blt k 20) false false))) (cond (Nat.blt k 25) (cond (Nat.blt k 23) (cond (Nat.blt k 22) false false) (cond (Nat.blt k 24) false false)) (cond (Nat.blt k 27) (cond (Nat.blt k 26) false false) (cond (Nat.blt k 28) false true))))) (cond (Nat.blt k 44) (cond (Nat.blt k 36) (cond (Nat.blt k 32) (cond (Nat.blt k 30) true (cond (Nat.blt k 31) false false)) (cond (Nat.blt k 34) (cond (Nat.blt k 33) false false) (cond (Nat.blt k 35) true false))) (cond (Nat.blt k 40) (cond (Nat.blt k 38) (cond (Nat.blt k 37) false false) (cond (Nat.blt k 39) false false)) (cond (Nat.blt k 42) (cond (Nat.blt k 41) false false) (cond (Nat.blt k 43) false false)))) (cond (Nat.blt k 51) (cond (Nat.blt k 47) (cond (Nat.blt k 45) false (cond (Nat.blt k 46) false false)) (cond (Nat.blt k 49) (cond (Nat.blt k 48) false false) (cond (Nat.blt k 50) false false))) (cond (Nat.blt k 55) (cond (Nat.blt k 53) (cond (Nat.blt k 52) false false) (cond (Nat.blt k 54) false false)) (cond (Nat.blt k 57) (cond (Nat.blt k 56) false false) (cond (Nat.blt k 58) false false)))))) (cond (Nat.blt k 89) (cond (Nat.blt k 74) (cond (Nat.blt k 66) (cond (Nat.blt k 62) (cond (Nat.blt k 60) false (cond (Nat.blt k 61) false false)) (cond (Nat.blt k 64) (cond (Nat.blt k 63) false false) (cond (Nat.blt k 65) false false))) (cond (Nat.blt k 70) (cond (Nat.blt k 68) (cond (Nat.blt k 67) false false) (cond (Nat.blt k 69) false false)) (cond (Nat.blt k 72) (cond (Nat.blt k 71) false false) (cond (Nat.blt k 73) false false)))) (cond (Nat.blt k 81) (cond (Nat.blt k 77) (cond (Nat.blt k 75) false (cond (Nat.blt k 76) false false)) (cond (Nat.blt k 79) (cond (Nat.blt k 78) false false) (cond (Nat.blt k 80) false false))) (cond (Nat.blt k 85) (cond (Nat.blt k 83) (cond (Nat.blt k 82) false false) (cond (Nat.blt k 84) false false)) (cond (Nat.blt k 87) (cond (Nat.blt k 86) false false) (cond (Nat.blt k 88) false false))))) (cond (Nat.blt k 104) (cond (Nat.blt k 96) (cond (Nat.blt k 92) (cond (Nat.blt k 90) false (cond (Nat.blt k 91) false false)) (cond (Nat.blt k 94) (cond (Nat.blt k 93) false false) (cond (Nat.blt k 95) false false))) (cond (Nat.blt k 100) (cond (Nat.blt k 98) (cond (Nat.blt k 97) false false) (cond (Nat.blt k 99) false false)) (cond (Nat.blt k 102) (cond (Nat.blt k 101) false false) (cond (Nat.blt k 103) false false)))) (cond (Nat.blt k 111) (cond (Nat.blt k 107) (cond (Nat.blt k 105) false (cond (Nat.blt k 106) false false)) (cond (Nat.blt k 109) (cond (Nat.blt k 108) false false) (cond (Nat.blt k 110) false false))) (cond (Nat.blt k 115) (cond (Nat.blt k 113) (cond (Nat.blt k 112) false false) (cond (Nat.blt k 114) false false)) (cond (Nat.blt k 117) (cond (Nat.blt k 116) false true) (cond (Nat.blt k 118) true true))))))) (cond (Nat.blt k 178) (cond (Nat.blt k 148) (cond (Nat.blt k 133) (cond (Nat.blt k 126) (cond (Nat.blt k 122) (cond (Nat.blt k 120) true (cond (Nat.blt k 121) true true)) (cond (Nat.blt k 124) (cond (Nat.blt k 123) true true) (cond (Nat.blt k 125) true true))) (cond (Nat.blt k 129) (cond (Nat.blt k 127) true (cond (Nat.blt k 128) true true)) (cond (Nat.blt k 131) (cond (Nat.blt k 130) true true) (cond (Nat.blt k 132) false true)))) (cond (Nat.blt k 140) (cond (Nat.blt k 136) (cond (Nat.blt k 134) true (cond (Nat.blt k 135) true true)) (cond (Nat.blt k 138) (cond (Nat.blt k 137) false false) (cond (Nat.blt k 139) false false))) (cond (Nat.blt k 144) (cond (Nat.blt k 142) (cond (Nat.blt k 141) false true) (cond (Nat.blt k 143) false false)) (cond (Nat.blt k 146) (cond (Nat.blt k 145) false true) (cond (Nat.blt k 147) false false))))) (cond (Nat.blt k 163) (cond (Nat.blt k 155) (cond (Nat.blt k 151) (cond (Nat.blt k 149) false (cond (Nat.blt k 150) false false)) (cond (Nat.blt k 153) (cond (Nat.blt k 152) false true) (cond (Nat.blt k 154) false false))) (cond (Nat.blt k 159) (cond (Nat.blt k 157) (cond (Nat.blt k 156) true false) (cond (Nat.blt k 158) false true)) (cond (Nat.blt k 161) (cond (Nat.blt k 160) false false) (cond (Nat.blt k 162) false false)))) (cond (Nat.blt k 170) (cond (Nat.blt k 166) (cond (Nat.blt k 164) false (cond (Nat.blt k 165) false false)) (cond (Nat.blt k 168) (cond (Nat.blt k 167) true true) (cond (Nat.blt k 169) false false))) (cond (Nat.blt k 174) (cond (Nat.blt k 172) (cond (Nat.blt k 171) false false) (cond (Nat.blt k 173) false false)) (cond (Nat.blt k 176) (cond (Nat.blt k 175) false false) (cond (Nat.blt k 177) false false)))))) (cond (Nat.blt k 208) (cond (Nat.blt k 193) (cond (Nat.blt k 185) (cond (Nat.blt k 181) (cond (Nat.blt k 179) false (cond (Nat.blt k 180) false false)) (cond (Nat.blt k 183) (cond (Nat.blt k 182) false false) (cond (Nat.blt k 184) false false))) (cond (Nat.blt k 189) (cond (Nat.blt k 187) (cond (Nat.blt k 186) false false) (cond (Nat.blt k 188) false false)) (cond (Nat.blt k 191) (cond (Nat.blt k 190) false false) (cond (Nat.blt k 192) false false)))) (cond (Nat.blt k 200) (cond (Nat.blt k 196) (cond (Nat.blt k 194) false (cond (Nat.blt k 195) false false)) (cond (Nat.blt k 198) (cond (Nat.blt k 197) true false) (cond (Nat.blt k 199) false false))) (cond (Nat.blt k 204) (cond (Nat.blt k 202) (cond (Nat.blt k 201) false false) (cond (Nat.blt k 203) false false)) (cond (Nat.blt k 206) (cond (Nat.blt k 205) false false) (cond (Nat.blt k 207) true false))))) (cond (Nat.blt k 223) (cond (Nat.blt k 215) (cond (Nat.blt k 211) (cond (Nat.blt k 209) true (cond (Nat.blt k 210) true false)) (cond (Nat.blt k 213) (cond (Nat.blt k 212) false false) (cond (Nat.blt k 214) false false))) (cond (Nat.blt k 219) (cond (Nat.blt k 217) (cond (Nat.blt k 216) false false) (cond (Nat.blt k 218) false false)) (cond (Nat.blt k 221) (cond (Nat.blt k 220) false false) (cond (Nat.blt k 222) false false)))) (cond (Nat.blt k 230) (cond (Nat.blt k 226) (cond (Nat.blt k 224) false (cond (Nat.blt k 225) true true)) (cond (Nat.blt k 228) (cond (Nat.blt k 227) true true) (cond (Nat.blt k 229) true false))) (cond (Nat.blt k 234) (cond (Nat.blt k 232) (cond (Nat.blt k 231) false false) (cond (Nat.blt k 233) false true)) (cond (Nat.blt k 236) (cond (Nat.blt k 235) true true) (cond (Nat.blt k 237) true true))))))))
def oIni (k : Nat) : Bool := (cond (Nat.blt k 119) (cond (Nat.blt k 59) (cond (Nat.blt k 29) (cond (Nat.blt k 14) (cond (Nat.blt k 7) (cond (Nat.blt k 3) (cond (Nat.blt k 1) true (cond (Nat.blt k 2) false false)) (cond (Nat.blt k 5) (cond (Nat.blt k 4) false false) (cond (Nat.blt k 6) false false))) (cond (Nat.blt k 10) (cond (Nat.blt k 8) true (cond (Nat.blt k 9) false false)) (cond (Nat.blt k 12) (cond (Nat.blt k 11) false false) (cond (Nat.blt k 13) false true)))) (cond (Nat.blt k 21) (cond (Nat.blt k 17) (cond (Nat.blt k 15) false (cond (Nat.blt k 16) false false)) (cond (Nat.blt k 19) (cond (Nat.blt k 18) false false) (cond (Nat.blt k 20) false false))) (cond (Nat.blt k 25) (cond (Nat.blt k 23) (cond (Nat.blt k 22) false false) (cond (Nat.blt k 24) false false)) (cond (Nat.blt k 27) (cond (Nat.blt k 26) true false) (cond (Nat.blt k 28) false false))))) (cond (Nat.blt k 44) (cond (Nat.blt k 36) (cond (Nat.blt k 32) (cond (Nat.blt k 30) false (cond (Nat.blt k 31) true false)) (cond (Nat.blt k 34) (cond (Nat.blt k 33) false false) (cond (Nat.blt k 35) false false))) (cond (Nat.blt k 40) (cond (Nat.blt k 38) (cond (Nat.blt k 37) false false) (cond (Nat.blt k 39) false false)) (cond (Nat.blt k 42) (cond (Nat.blt k 41) false false) (cond (Nat.blt k 43) false false)))) (cond (Nat.blt k 51) (cond (Nat.blt k 47) (cond (Nat.blt k 45) false (cond (Nat.blt k 46) true false)) (cond (Nat.blt k 49) (cond (Nat.blt k 48) false false) (cond (Nat.blt k 50) false true))) (cond (Nat.blt k 55) (cond (Nat.blt k 53) (cond (Nat.blt k 52) false true) (cond (Nat.blt k 54) false true)) (cond (Nat.blt k 57) (cond (Nat.blt k 56) false false) (cond (Nat.blt k 58) false false)))))) (cond (Nat.blt k 89) (cond (Nat.blt k 74) (cond (Nat.blt k 66) (cond (Nat.blt k 62) (cond (Nat.blt k 60) false (cond (Nat.blt k 61) false false)) (cond (Nat.blt k 64) (cond (Nat.blt k 63) false false) (cond (Nat.blt k 65) false false))) (cond (Nat.blt k 70) (cond (Nat.blt k 68) (cond (Nat.blt k 67) false false) (cond (Nat.blt k 69) false false)) (cond (Nat.blt k 72) (cond (Nat.blt k 71) true false) (cond (Nat.blt k 73) false false)))) (cond (Nat.blt k 81) (cond (Nat.blt k 77) (cond (Nat.blt k 75) false (cond (Nat.blt k 76) false false)) (cond (Nat.blt k 79) (cond (Nat.blt k 78) false false) (cond (Nat.blt k 80) false false))) (cond (Nat.blt k 85) (cond (Nat.blt k 83) (cond (Nat.blt k 82) false false) (cond (Nat.blt k 84) false false)) (cond (Nat.blt k 87) (cond (Nat.blt k 86) false false) (cond (Nat.blt k 88) false false))))) (cond (Nat.blt k 104) (cond (Nat.blt k 96) (cond (Nat.blt k 92) (cond (Nat.blt k 90) false (cond (Nat.blt k 91) false false)) (cond (Nat.blt k 94) (cond (Nat.blt k 93) false false) (cond (Nat.blt k 95) false false))) (cond (Nat.blt k 100) (cond (Nat.blt k 98) (cond (Nat.blt k 97) false false) (cond (Nat.blt k 99) false false)) (cond (Nat.blt k 102) (cond (Nat.blt k 101) false false) (cond (Nat.blt k 103) false false)))) (cond (Nat.blt k 111) (cond (Nat.blt k 107) (cond (Nat.blt k 105) false (cond (Nat.blt k 106) false false)) (cond (Nat.blt k 109) (cond (Nat.blt k 108) false false) (cond (Nat.blt k 110) false false))) (cond (Nat.blt k 115) (cond (Nat.blt k 113) (cond (Nat.blt k 112) false false) (cond (Nat.blt k 114) false false)) (cond (Nat.blt k 117) (cond (Nat.blt k 116) false false) (cond (Nat.blt k 118) false false))))))) (cond (Nat.blt k 178) (cond (Nat.blt k 148) (cond (Nat.blt k 133) (cond (Nat.blt k 126) (cond (Nat.blt k 122) (cond (Nat.blt k 120) false (cond (Nat.blt k 121) false false)) (cond (Nat.blt k 124) (cond (Nat.blt k 123) false false) (cond (Nat.blt k 125) false false))) (cond (Nat.blt k 129) (cond (Nat.blt k 127) false (cond (Nat.blt k 128) false false)) (cond (Nat.blt k 131) (cond (Nat.blt k 130) false false) (cond (Nat.blt k 132) true false)))) (cond (Nat.blt k 140) (cond (Nat.blt k 136) (cond (Nat.blt k 134) false (cond (Nat.blt k 135) false false)) (cond (Nat.blt k 138) (cond (Nat.blt k 137) false false) (cond (Nat.blt k 139) false false))) (cond (Nat.blt k 144) (cond (Nat.blt k 142) (cond (Nat.blt k 141) false false) (cond (Nat.blt k 143) false false)) (cond (Nat.blt k 146) (cond (Nat.blt k 145) false false) (cond (Nat.blt k 147) false false))))) (cond (Nat.blt k 163) (cond (Nat.blt k 155) (cond (Nat.blt k 151) (cond (Nat.blt k 149) false (cond (Nat.blt k 150) false false)) (cond (Nat.blt k 153) (cond (Nat.blt k 152) false false) (cond (Nat.blt k 154) false false))) (cond (Nat.blt k 159) (cond (Nat.blt k 157) (cond (Nat.blt k 156) false false) (cond (Nat.blt k 158) false false)) (cond (Nat.blt k 161) (cond (Nat.blt k 160) false false) (cond (Nat.blt k 162) false false)))) (cond (Nat.blt k 170) (cond (Nat.blt k 166) (cond (Nat.blt k 164) false (cond (Nat.blt k 165) false false)) (cond (Nat.blt k 168) (cond (Nat.blt k 167) false false) (cond (Nat.blt k 169) false false))) (cond (Nat.blt k 174) (cond (Nat.blt k 172) (cond (Nat.blt k 171) false false) (cond (Nat.blt k 173) false false)) (cond (Nat.blt k 176) (cond (Nat.blt k 175) false false) (cond (Nat.blt k 177) false false)))))) (cond (Nat.blt k 208) (cond (Nat.blt k 193) (cond (Nat.blt k 185) (cond (Nat.blt k 181) (cond (Nat.blt k 179) false (cond (Nat.blt k 180) false false)) (cond (Nat.blt k 183) (cond (Nat.blt k 182) false false) (cond (Nat.blt k 184) false false))) (cond (Nat.blt k 189) (cond (Nat.blt k 187) (cond (Nat.blt k 186) false false) (cond (Nat.blt k 188) false false)) (cond (Nat.blt k 191) (cond (Nat.blt k 190) false false) (cond (Nat.blt k 192) false false)))) (cond (Nat.blt k 200) (cond (Nat.blt k 196) (cond (Nat.blt k 194) false (cond (Nat.blt k 195) false false)) (cond (Nat.blt k 198) (cond (Nat.blt k 197) false false) (cond (Nat.blt k 199) false false))) (cond (Nat.blt k 204) (cond (Nat.blt k 202) (cond (Nat.blt k 201) false false) (cond (Nat.blt k 203) false false)) (cond (Nat.blt k 206) (cond (Nat.blt k 205) false false) (cond (Nat.blt k 207) false false))))) (cond (Nat.blt k 223) (cond (Nat.blt k 215) (cond (Nat.blt k 211) (cond (Nat.blt k 209) false (cond (Nat.blt k 210) false false)) (cond (Nat.blt k 213) (cond (Nat.blt k 212) false false) (cond (Nat.blt k 214) false false))) (cond (Nat.blt k 219) (cond (Nat.blt k 217) (cond (Nat.blt k 216) false false) (cond (Nat.blt k 218) false false)) (cond (Nat.blt k 221) (cond (Nat.blt k 220) false false) (cond (Nat.blt k 222) false false)))) (cond (Nat.blt k 230) (cond (Nat.blt k 226) (cond (Nat.blt k 224) false (cond (Nat.blt k 225) false false)) (cond (Nat.blt k 228) (cond (Nat.blt k 227) false false) (cond (Nat.blt k 229) false false))) (cond (Nat.blt k 234) (cond (Nat.blt k 232) (cond (Nat.blt k 231) false false) (cond (Nat.blt k 233) false false)) (cond (Nat.blt k 236) (cond (Nat.blt k 235) false false) (cond (Nat.blt k 237) false false))))))))
def oLks (k : Nat) : List (Nat × Nat × Nat × Nat × Nat) := ([[(23, 1, 235, 2, 648), (29, 0, 58, 1, 651), (39, 0, 61, 1, 652), (49, 0, 3, 5, 653), (53, 1, 228, 2, 657), (59, 1, 227, 2, 658), (62, 1, 225, 2, 659), (74, 0, 2, 2, 691), (78, 0, 24, 1, 692), (82, 0, 5, 2, 694), (85, 1, 224, 1, 757)], [(31, 2, 116, 3, 9), (35, 0, 9, 1, 571)], [(32, 4, 7, 0, 1), (60, 0, 15, 1, 428), (46, 2, 116, 3, 7), (67, 0, 26, 2, 477), (74, 0, 27, 3, 486), (81, 1, 228, 2, 503), (86, 1, 227, 2, 504), (50, 0, 16, 1, 537), (54, 0, 9, 1, 538), (39, 0, 12, 1, 985)], [(21, 4, 52, 0, 0), (22, 1, 228, 2, 481), (39, 2, 130, 1, 8), (43, 1, 28, 3, 493), (47, 1, 29, 3, 496)], [(34, 0, 33, 0, 778), (51, 1, 34, 1, 782), (55, 2, 130, 1, 14), (37, 0, 35, 0, 786), (61, 0, 36, 1, 791), (69, 0, 229, 0, 795), (73, 0, 230, 1, 805), (44, 0, 40, 3, 845), (80, 0, 41, 2, 849), (77, 0, 37, 1, 853), (87, 0, 44, 1, 857), (91, 0, 42, 0, 861), (95, 0, 38, 0, 865), (98, 0, 43, 0, 869), (84, 0, 39, 1, 873)], [(22, 1, 235, 2, 902), (34, 2, 116, 3, 15)], [(17, 4, 45, 0, 6)], [], [(75, 0, 22, 1, 594), (79, 0, 23, 1, 595), (82, 0, 55, 3, 596), (98, 0, 57, 3, 600), (55, 0, 15, 1, 604), (67, 0, 56, 2, 605), (45, 2, 127, 2, 10), (112, 0, 62, 0, 623), (108, 2, 128, 4, 13), (105, 0, 61, 1, 636), (116, 0, 63, 3, 710), (129, 0, 64, 3, 711), (136, 0, 68, 2, 724)], [(11, 3, 25, 0, 62), (18, 3, 13, 1, 102), (30, 3, 54, 1, 201), (42, 4, 0, 0, 2), (52, 4, 30, 0, 3), (63, 4, 45, 0, 4), (70, 4, 50, 0, 5), (75, 1, 117, 2, 416), (93, 1, 116, 3, 419), (85, 0, 19, 3, 424), (89, 0, 15, 1, 437), (103, 1, 128, 4, 442), (396, 1, 226, 1, 445), (107, 1, 118, 1, 452), (110, 1, 119, 1, 455), (113, 1, 120, 1, 458), (123, 0, 8, 1, 461), (138, 0, 16, 1, 469), (147, 0, 22, 1, 473), (151, 0, 23, 1, 499), (154, 0, 24, 1, 507), (157, 1, 121, 1, 519), (160, 1, 122, 1, 522), (163, 0, 10, 3, 525), (166, 0, 17, 2, 533), (178, 1, 127, 2, 543), (182, 1, 126, 3, 546), (186, 1, 125, 2, 553), (190, 0, 11, 1, 567), (193, 1, 228, 2, 576), (198, 0, 21, 0, 577), (205, 0, 58, 1, 590), (218, 0, 63, 3, 619), (221, 0, 60, 0, 632), (224, 0, 2, 2, 644), (228, 0, 1, 3, 662), (235, 1, 129, 1, 670), (239, 1, 224, 1, 673), (244, 0, 4, 1, 687), (251, 0, 65, 1, 706), (263, 0, 66, 1, 719), (269, 0, 67, 1, 728), (272, 0, 18, 1, 736), (275, 0, 69, 1, 740), (279, 0, 6, 2, 753), (286, 0, 31, 1, 762), (289, 0, 32, 0, 774), (302, 0, 53, 1, 877), (314, 0, 26, 2, 890), (317, 1, 123, 1, 895), (320, 0, 46, 2, 898), (329, 0, 48, 1, 909), (341, 0, 59, 1, 925), (344, 0, 49, 2, 933), (353, 1, 124, 1, 944), (356, 0, 51, 2, 947), (364, 0, 47, 1, 951), (388, 0, 14, 1, 981), (390, 0, 20, 0, 997)], [(108, 1, 141, 2, 1137), (96, 1, 132, 3, 1140), (114, 0, 136, 1, 1149), (117, 1, 134, 1, 1157), (121, 1, 145, 1, 1164), (100, 0, 137, 1, 1171), (104, 0, 138, 2, 1175), (134, 0, 147, 1, 1179), (124, 0, 204, 1, 1183), (127, 0, 207, 1, 1187), (276, 1, 206, 3, 1191), (137, 0, 148, 1, 1194), (130, 1, 133, 3, 1198), (140, 0, 149, 1, 1201), (143, 1, 152, 1, 1213), (146, 0, 153, 4, 1216), (153, 0, 139, 2, 1224), (150, 0, 140, 3, 1228), (156, 1, 155, 2, 1232), (159, 0, 156, 2, 1235), (162, 1, 158, 2, 1243), (167, 0, 162, 0, 1259), (192, 0, 170, 1, 1272), (185, 0, 165, 1, 1276), (189, 0, 169, 3, 1280), (181, 0, 168, 3, 1284), (175, 1, 166, 1, 1288), (178, 1, 167, 1, 1291), (196, 0, 174, 2, 1307), (199, 0, 175, 0, 1319), (202, 0, 176, 1, 1331), (209, 0, 183, 3, 1339), (205, 0, 182, 2, 1343), (239, 0, 193, 0, 1375), (227, 0, 191, 1, 1379), (233, 0, 192, 1, 1383), (270, 0, 194, 0, 1387), (273, 0, 200, 0, 1391), (260, 0, 199, 0, 1395), (251, 0, 195, 1, 1399), (257, 0, 197, 1, 1403), (245, 1, 196, 1, 1407), (264, 0, 201, 0, 1410), (267, 0, 198, 0, 1414), (279, 1, 208, 1, 1430), (287, 1, 209, 1, 1458), (298, 1, 135, 2, 1482)], [], [], [], [], [], [(335, 0, 231, 0, 799), (492, 0, 232, 0, 809), (495, 1, 234, 2, 813), (1059, 1, 236, 3, 821)], [(9, 1, 233, 2, 816)], [(414, 1, 233, 2, 833)], [], [], [], [], [], [(9, 3, 70, 0, 54), (13, 0, 71, 2, 412), (18, 0, 72, 2, 433), (22, 0, 73, 3, 438), (27, 0, 74, 3, 448), (31, 0, 75, 2, 465), (35, 0, 76, 3, 511), (39, 0, 77, 3, 515), (43, 0, 78, 3, 529), (47, 0, 79, 3, 549), (51, 0, 80, 3, 559), (55, 0, 81, 2, 563), (59, 0, 82, 2, 572), (63, 0, 83, 1, 582), (68, 0, 84, 3, 586), (72, 0, 85, 1, 615), (76, 0, 86, 1, 628), (80, 0, 87, 2, 640), (84, 0, 88, 1, 666), (88, 0, 89, 2, 679), (92, 0, 90, 1, 683), (96, 0, 91, 1, 698), (100, 0, 92, 2, 702), (104, 0, 93, 2, 715), (108, 0, 94, 1, 732), (112, 0, 95, 2, 744), (116, 0, 96, 3, 749), (120, 0, 97, 3, 758), (124, 0, 98, 1, 766), (128, 0, 99, 0, 770), (133, 0, 100, 2, 882), (137, 0, 101, 1, 886), (141, 0, 102, 3, 891), (145, 0, 103, 3, 904), (149, 0, 104, 2, 917), (153, 0, 105, 2, 921), (157, 0, 106, 5, 929), (162, 0, 107, 3, 940), (166, 0, 108, 2, 956), (170, 0, 109, 2, 960), (174, 0, 110, 2, 964), (178, 0, 111, 1, 969), (182, 0, 112, 1, 973), (186, 0, 113, 0, 977), (190, 0, 114, 0, 989), (194, 0, 115, 1, 993), (12, 3, 131, 0, 1003), (17, 0, 142, 2, 1133), (21, 0, 143, 2, 1145), (26, 0, 144, 3, 1153), (30, 0, 146, 3, 1160), (34, 0, 150, 2, 1167), (38, 0, 151, 3, 1205), (42, 0, 154, 3, 1209), (46, 0, 157, 3, 1220), (50, 0, 159, 3, 1239), (54, 0, 160, 3, 1247), (58, 0, 161, 2, 1251), (62, 0, 163, 2, 1255), (67, 0, 164, 1, 1264), (71, 0, 171, 3, 1268), (75, 0, 172, 1, 1295), (79, 0, 173, 1, 1299), (83, 0, 177, 2, 1303), (87, 0, 178, 1, 1311), (91, 0, 179, 2, 1315), (95, 0, 180, 1, 1323), (99, 0, 181, 1, 1327), (103, 0, 184, 2, 1335), (107, 0, 185, 2, 1347), (111, 0, 186, 1, 1351), (115, 0, 187, 2, 1355), (119, 0, 188, 3, 1359), (123, 0, 189, 3, 1363), (127, 0, 190, 1, 1367), (132, 0, 202, 0, 1371), (136, 0, 203, 2, 1418), (140, 0, 205, 1, 1422), (144, 0, 210, 3, 1426), (148, 0, 211, 3, 1434), (152, 0, 212, 2, 1442), (156, 0, 213, 2, 1446), (161, 0, 214, 5, 1450), (165, 0, 215, 3, 1454), (169, 0, 216, 2, 1461), (173, 0, 217, 2, 1465), (177, 0, 218, 2, 1469), (181, 0, 219, 1, 1474), (185, 0, 220, 1, 1478), (189, 0, 221, 0, 1485), (193, 0, 222, 0, 1489), (197, 0, 223, 1, 1493)]] : List (List (Nat × Nat × Nat × Nat × Nat))).getD k []
def oMokB (k : Nat) : Bool := decide (oCN (oMO k) = (oMY k).cls) && decide ((oMY k).cls ≠ "java/lang/invoke/MethodHandle") && decide ((oMY k).cls ≠ "java/lang/invoke/VarHandle") && decide ((parseMethodDescriptor (oMY k).desc).map (fun d => d.parameters.length) = some (oNP k)) && decide (oML k ≤ 21) &&
  decide (lw_tbl[(oMP k).2.1]? = some (.initialized (oMY k).cls)) && (cond (oStat k) (decide (lw_tbl[(oMP k).2.2.1]? = some (.static (oMY k)))) (decide (lw_tbl[(oMP k).2.2.1]? = some (.instanceMethod (oMY k))) && (oIni k || decide (lw_tbl[(oMP k).2.2.2]? = some (.selects (oMY k).cls (oMY k) (oMY k))))))
set_option maxRecDepth 100000 in
theorem oMok_all : (List.range 237).all oMokB = true := by decide +kernel
set_option maxRecDepth 100000 in
theorem oLks_all : (List.range 25).all (fun o => (oLks o).all (fun e => decide (e.2.2.1 < 237) && decide (oNP e.2.2.1 = e.2.2.2.1) && (match e.2.1 with
  | 0 => !(oStat e.2.2.1) && !(oIni e.2.2.1) && decide (lw_tbl[e.2.2.2.2]? = some (.methodLink (oCN o) e.1 (oMY e.2.2.1)))
  | 1 => (oStat e.2.2.1) && decide (lw_tbl[e.2.2.2.2]? = some (.methodLink (oCN o) e.1 (oMY e.2.2.1)))
  | 2 => (oStat e.2.2.1) && decide (oNW[e.2.2.2.2]? = some (.methodLinkNest (oCN o) e.1 (oMY e.2.2.1) "OakDeeds"))
  | 3 => !(oStat e.2.2.1) && (oIni e.2.2.1) && decide (lw_tbl[e.2.2.2.2]? = some (.methodLink (oCN o) e.1 (oMY e.2.2.1)))
  | _ => !(oStat e.2.2.1) && (oIni e.2.2.1) && decide (oNW[e.2.2.2.2]? = some (.methodLinkNest (oCN o) e.1 (oMY e.2.2.1) "OakDeeds"))))) = true := by decide +kernel

theorem oPl_all : (List.range 225).all (fun k => plainName (oMY k).cls) = true := by decide +kernel
theorem oPl2_all : (List.range 8).all (fun k => plainName (oMY (229 + k)).cls) = true := by decide +kernel
theorem oPl_225 : plainFor (oMY 225) = true := by decide +kernel
theorem oPl_226 : plainFor (oMY 226) = true := by decide +kernel
theorem oPl_227 : plainFor (oMY 227) = true := by decide +kernel
theorem oPl_228 : plainFor (oMY 228) = true := by decide +kernel
end
section
/-! ===== contracts, calls ===== -/
def oDecB (c : ByteArray) (l : List (Nat × Instr × Nat × Nat)) : Bool := l.all (fun q => decide (decode c q.1 = .ok (q.2.1, q.2.2.1 - q.1)) && (decide (oLen q.2.1 = 0) || decide (q.2.2.1 = q.1 + oLen q.2.1)) && (oBrO q.2.1).all (fun o => decide ((q.1 : Int) + o = (q.2.2.2 : Int))))
theorem oDecB_ok {c : ByteArray} {l : List (Nat × Instr × Nat × Nat)} (h : oDecB c l = true) : ∀ q ∈ l, oRowOk c q := by
  intro q hq
  have h1 := List.all_eq_true.mp h q hq
  simp only [Bool.and_eq_true, Bool.or_eq_true, decide_eq_true_eq] at h1
  exact ⟨h1.1.1, h1.1.2, h1.2⟩
def oMok (k : Nat) : Prop := k < 237 ∧ oDec k ∧ lw_tbl[(oMP k).1]? = some (.code (oMY k) (oMC k) (oML k) (oMR k))
theorem oPl {k : Nat} (h : k < 237) : plainFor (oMY k) = true := by
  by_cases h1 : k < 225
  · exact plainFor_of_name (List.all_eq_true.mp oPl_all k (List.mem_range.mpr h1))
  · by_cases h2 : 229 ≤ k
    · have h4 : plainName (oMY (229 + (k - 229))).cls = true := List.all_eq_true.mp oPl2_all (k - 229) (List.mem_range.mpr (by omega))
      rw [show 229 + (k - 229) = k by omega] at h4
      exact plainFor_of_name h4
    · have h3 : k = 225 ∨ k = 226 ∨ k = 227 ∨ k = 228 := by omega
      rcases h3 with rfl | rfl | rfl | rfl
      · exact oPl_225
      · exact oPl_226
      · exact oPl_227
      · exact oPl_228
theorem oLw_gt {i : Nat} {w : Cond} (h : lw_tbl[i]? = some w) (hg : goodWord w = true) : w ∈ oGT := List.mem_filter.mpr ⟨List.mem_of_getElem? h, hg⟩
theorem oMok_facts {k : Nat} (h : k < 237) : oCN (oMO k) = (oMY k).cls ∧ ((oMY k).cls ≠ "java/lang/invoke/MethodHandle" ∧ (oMY k).cls ≠ "java/lang/invoke/VarHandle" ∧ (parseMethodDescriptor (oMY k).desc).map (fun d => d.parameters.length) = some (oNP k)) ∧ oML k ≤ 21 ∧ Cond.initialized (oMY k).cls ∈ oGT ∧ (oStat k = true → Cond.static (oMY k) ∈ oGT) ∧ (oStat k = false → Cond.instanceMethod (oMY k) ∈ oGT) ∧ (oStat k = false → oIni k = false → Cond.selects (oMY k).cls (oMY k) (oMY k) ∈ oGT) := by
  have h1 := List.all_eq_true.mp oMok_all k (List.mem_range.mpr h)
  unfold oMokB at h1
  simp only [Bool.and_eq_true, decide_eq_true_eq] at h1
  obtain ⟨⟨⟨⟨⟨⟨a1, a2⟩, a3⟩, a4⟩, a5⟩, a6⟩, a7⟩ := h1
  refine ⟨a1, ⟨a2, a3, a4⟩, a5, oLw_gt a6 rfl, fun hs => ?_, fun hs => ?_, fun hs hi => ?_⟩
  · rw [hs] at a7
    simp only [cond_true, decide_eq_true_eq] at a7
    exact oLw_gt a7 rfl
  · rw [hs] at a7
    simp only [cond_false, Bool.and_eq_true, decide_eq_true_eq] at a7
    exact oLw_gt a7.1 rfl
  · rw [hs, hi] at a7
    simp only [cond_false, Bool.and_eq_true, decide_eq_true_eq, Bool.false_or] at a7
    exact oLw_gt a7.2 rfl
def oRm (d : Nat) : Room := { frames := d, cells := 0, slots := 0, locals := 40 * d }
def oWd (E : oE) (M : oM) (U : State) : Prop := va_K E.1 vwCl (otys E) U ∧ oRO E (oA E) U U.heap ∧ (∀ w ∈ oNW, va_Nw w U) ∧ oInj E ∧ oRep E M U.heap
def oWk (k : Nat) : List Cond := .code (oMY k) (oMC k) (oML k) (oMR k) :: oGT
def oQc (E : oE) (Q : Option Int32 → oM → Prop) : Array Value → State → Outcome → State → Prop := fun _ st oc t => (∃ (r : Option Int32) (M : oM), oc = .returned (r.map Value.int) ∧ Q r M ∧ oRep E M t.heap) ∧ va_F (oA E) st t
def oCt (d k : Nat) (as : List oV) (M : oM) (Q : Option Int32 → oM → Prop) : Prop := ∀ (l : Launch) (E : oE), (∀ v ∈ as, oOk v) → Met l (oMY k) (oWk k) (oRm d) (va_Pc (as.map (ocv E)) (oWd E M)) (oQc E Q) 0 0 (oA E)
theorem lv_args_mem : ∀ (vs : List Value) (n i : Nat) (v : Value), (∀ w ∈ vs, w.category = 1) → vs[i]? = some v → (n + i, v) ∈ lv_args n vs
  | [], n, i, v, _, h => by simp at h
  | w :: vs, n, 0, v, hc, h => by
    have : w = v := by simpa using h
    rw [this]
    exact List.mem_cons_self
  | w :: vs, n, i + 1, v, hc, h => by
    have h1 : vs[i]? = some v := by simpa using h
    have hw : w.category = 1 := hc w List.mem_cons_self
    unfold lv_args
    rw [if_neg (by omega)]
    have := lv_args_mem vs (n + 1) i v (fun u hu => hc u (List.mem_cons_of_mem _ hu)) h1
    rw [show n + 1 + i = n + (i + 1) by omega] at this
    exact List.mem_cons_of_mem _ this
theorem lg_sl_len : ∀ (vs : List Value), (∀ w ∈ vs, w.category = 1) → (lg_sl vs).length = vs.length
  | [], _ => rfl
  | w :: vs, h => by
    have hw : w.category = 1 := h w List.mem_cons_self
    have ih := lg_sl_len vs (fun u hu => h u (List.mem_cons_of_mem _ hu))
    unfold lg_sl at ih ⊢
    rw [List.flatMap_cons, List.length_append, ih, if_neg (by omega)]
    simp
    omega
theorem oCt.of {d k : Nat} {as : List oV} {M : oM} {Q : Option Int32 → oM → Prop} {ls : List (Option oV)} (hk : oMok k) (hlen : Nat.ble as.length (oML k) = true) (hls : ls = as.map some ++ List.replicate (oML k - as.length) none) (body : oG k d 0 ls [] M Q) : oCt d k as M Q := by
  have hlen : as.length ≤ oML k := Nat.le_of_ble_eq_true hlen
  obtain ⟨f1, f2, f3, f4, -⟩ := oMok_facts hk.1
  intro l E hok
  refine va_MetF (cc := oMC k) (maxL := oML k) (ret := oMR k) (oPl hk.1) rfl ?_
  intro p e s m args below meth c s₁ B hml hv
  obtain ⟨rfl, hK, hRO, hN, hI, hRep⟩ := hv
  have hts := atoms_spec (ws := oWk k) B.pre
  have hov := hRO.2.2.2.2.2.2.2.1
  have C : oCX k (oA E) p s m (as.map (ocv E)).toArray meth c E := ⟨B.exec, B.bytes, hml, B.returns, B.notSynchronized, by rw [f1]; exact findClass_of_methodNamed B.named, fun w hw => hts w (List.mem_cons_of_mem _ hw), hK, hRO, hN, hI, fun _ h => h, hk.2.1⟩
  have hcat : ∀ w ∈ as.map (ocv E), w.category = 1 := fun w hw => by
    obtain ⟨v, -, rfl⟩ := List.mem_map.mp hw
    exact ocv_cat E hov v
  have hl := lv_entry (as.map (ocv E)) (n := oML k) (by rw [lg_sl_len _ hcat, List.length_map]; exact hlen)
  rw [lg_entry_eq]
  refine body (oA E) p l e _ s m _ below meth c E s.heap [] _ 0 0 _ C ?_ ⟨Nat.le_refl _, Nat.le_refl _, Nat.zero_le _, Nat.zero_le _⟩ va_S.rf hRep ?_ (fun v hv => by cases hv) ?_ ?_
  · intro r M' H locs pc la hq hP hS hret
    cases r with
    | none => exact W.vret B.exec B.bytes (by rw [B.returns]; exact hret.2) (fun t ht hW => ⟨⟨none, M', rfl, hq, by rw [ht]; exact hP⟩, hS.F ht⟩) hS.2.2 hret.1 B.notSynchronized
    | some v =>
      obtain ⟨hd, ty, h1, h2⟩ := hret
      exact W.zret B.exec B.bytes (by rw [B.returns]; exact h1) h2 (fun t ht hW => ⟨⟨some v, M', rfl, hq, by rw [ht]; exact hP⟩, hS.F ht⟩) hS.2.2 hd B.notSynchronized
  · refine ⟨hl.1, hl.2.1, fun q hq => hl.2.2 q ?_⟩
    obtain ⟨i, v, h1, rfl⟩ := (oEn_mem ls 0 q).mp hq
    refine lv_args_mem _ 0 i _ hcat ?_
    rw [hls] at h1
    by_cases hi : i < as.length
    · rw [List.getElem?_append_left (by rw [List.length_map]; exact hi), List.getElem?_map] at h1
      rw [List.getElem?_map]
      cases hz : as[i]? with
      | none => rw [hz] at h1; cases h1
      | some z =>
        rw [hz] at h1
        have : z = v := by simpa using h1
        rw [this]
        rfl
    · rw [List.getElem?_append_right (by rw [List.length_map]; omega), List.getElem?_replicate] at h1
      split at h1 <;> simp at h1
  · intro v hv
    rw [hls] at hv
    rcases List.mem_append.mp hv with h | h
    · obtain ⟨z, hz, hz2⟩ := List.mem_map.mp h
      have hzv : z = v := by simpa using hz2
      rw [← hzv]
      exact hok z hz
    · rw [List.mem_replicate] at h
      exact absurd h.2 (by simp)
  · rw [hls, List.length_append, List.length_map, List.length_replicate]
    omega
def oLkM : List (Nat × Nat × Nat × Nat × Nat) → Nat → Option (Nat × Nat × Nat × Nat)
  | [], _ => none
  | q :: r, i => cond (Nat.beq q.1 i) (some q.2) (oLkM r i)
theorem oLkM_mem : ∀ (l : List (Nat × Nat × Nat × Nat × Nat)) (i : Nat) (r : Nat × Nat × Nat × Nat), oLkM l i = some r → (i, r) ∈ l
  | [], _, _, h => by cases h
  | q :: l, i, r, h => by
    unfold oLkM at h
    cases hb : Nat.beq q.1 i with
    | true =>
      rw [hb] at h
      have e : q.1 = i := Nat.eq_of_beq_eq_true hb
      have h2 : q.2 = r := by simpa using h
      rw [← e, ← h2]
      exact List.mem_cons_self
    | false =>
      rw [hb] at h
      exact List.mem_cons_of_mem _ (oLkM_mem l i r (by simpa using h))
theorem oLks_nil {o : Nat} (ho : ¬ o < 25) : oLks o = [] := by
  unfold oLks
  rw [List.getD_eq_getElem?_getD, List.getElem?_eq_none (by simpa using ho)]
  rfl
theorem oLks_at {o idx : Nat} {r : Nat × Nat × Nat × Nat} (h : oLkM (oLks o) idx = some r) : o < 25 ∧ (idx, r) ∈ oLks o := by
  refine ⟨?_, oLkM_mem _ _ _ h⟩
  by_cases ho : o < 25
  · exact ho
  · rw [oLks_nil ho] at h
    cases h
theorem oLks_V {o idx k' n p : Nat} (h : oLkM (oLks o) idx = some (0, k', n, p)) : k' < 237 ∧ oNP k' = n ∧ oStat k' = false ∧ oIni k' = false ∧ Cond.methodLink (oCN o) idx (oMY k') ∈ oGT := by
  obtain ⟨ho, hm⟩ := oLks_at h
  have h1 := List.all_eq_true.mp (List.all_eq_true.mp oLks_all o (List.mem_range.mpr ho)) _ hm
  simp only [Bool.and_eq_true, decide_eq_true_eq, Bool.not_eq_true'] at h1
  exact ⟨h1.1.1, h1.1.2, h1.2.1.1, h1.2.1.2, oLw_gt h1.2.2 rfl⟩
theorem oLks_S {o idx k' n p : Nat} (h : oLkM (oLks o) idx = some (1, k', n, p)) : k' < 237 ∧ oNP k' = n ∧ oStat k' = true ∧ Cond.methodLink (oCN o) idx (oMY k') ∈ oGT := by
  obtain ⟨ho, hm⟩ := oLks_at h
  have h1 := List.all_eq_true.mp (List.all_eq_true.mp oLks_all o (List.mem_range.mpr ho)) _ hm
  simp only [Bool.and_eq_true, decide_eq_true_eq, Bool.not_eq_true'] at h1
  exact ⟨h1.1.1, h1.1.2, h1.2.1, oLw_gt h1.2.2 rfl⟩
theorem oLks_SN {o idx k' n p : Nat} (h : oLkM (oLks o) idx = some (2, k', n, p)) : k' < 237 ∧ oNP k' = n ∧ oStat k' = true ∧ Cond.methodLinkNest (oCN o) idx (oMY k') "OakDeeds" ∈ oNW := by
  obtain ⟨ho, hm⟩ := oLks_at h
  have h1 := List.all_eq_true.mp (List.all_eq_true.mp oLks_all o (List.mem_range.mpr ho)) _ hm
  simp only [Bool.and_eq_true, decide_eq_true_eq, Bool.not_eq_true'] at h1
  exact ⟨h1.1.1, h1.1.2, h1.2.1, List.mem_of_getElem? h1.2.2⟩
theorem oWk_good {k' : Nat} (hk : oMok k') : GoodIn oGT (oWk k') := by
  intro w hw
  rcases List.mem_cons.mp hw with rfl | hw
  · have h := oLw_gt hk.2.2 rfl
    exact ⟨h, good_of_word (oGT_good h)⟩
  · exact ⟨hw, good_of_word (oGT_good hw)⟩
theorem oNW_warm : ∀ w ∈ oNW, ∀ {s U : State}, s.WarmedH U.vm → va_Nw w s → va_Nw w U := by
  intro w hw s U hW h
  have key : ∀ w ∈ oNW, (∃ a i b n d h, w = Cond.fieldLinkNest a i b n d h) ∨ (∃ a i x h, w = Cond.methodLinkNest a i x h) := by
    unfold oNW
    simp only [List.forall_mem_cons]
    refine ⟨?_, ?_, ?_, ?_, ?_, ?_, ?_, ?_, ?_, ?_, ?_, ?_, ?_, ?_, ?_, ?_, fun _ h => by cases h⟩ <;> first | exact Or.inr ⟨_, _, _, _, rfl⟩ | exact Or.inl ⟨_, _, _, _, _, _, rfl⟩
  rcases key w hw with ⟨a, i, b, n, d, h', rfl⟩ | ⟨a, i, x, h', rfl⟩
  · exact h.warmF hW
  · exact h.warmM hW
theorem oNW_tables : ∀ w ∈ oNW, w.onTables = true := by
  unfold oNW
  simp only [List.forall_mem_cons]
  refine ⟨?_, ?_, ?_, ?_, ?_, ?_, ?_, ?_, ?_, ?_, ?_, ?_, ?_, ?_, ?_, ?_, fun _ h => by cases h⟩ <;> rfl
theorem oWd_blind (E : oE) (M : oM) (av : List Value) : FrameBlind (va_Pc av (oWd E M)) := by
  intro a U g mk h
  obtain ⟨rfl, h1, h2, h3, h4, h5⟩ := h
  refine ⟨rfl, va_K.moved (u := U) (U := U.calling g mk av.toArray) (Vm.Alike.refl U.vm) h1, oRO.same (s := U) (U := U.calling g mk av.toArray) rfl h2, fun w hw => va_Nw.same (u := U) (oNW_tables w hw) rfl (h3 w hw), h4, h5⟩
theorem oWd_at {A : Nat → Prop} {k : Nat} {p : Program} {s : State} {m : MethodId} {args : Array Value} {meth : Method} {c : Code} {E : oE} {H : Heap} {locs : List Loc} {M : oM} (C : oCX k A p s m args meth c E) (hS : va_S A s.heap H locs) (hP : oRep E M H) {U : State} (hU : U.heap = H) (hW : s.WarmedH U.vm) : oWd E M U := by
  obtain ⟨-, -, -, -, -, -, -, hK, hRO, hN, hI, hA, -⟩ := C
  refine ⟨va_K.moved hW.alike hK, ?_, fun w hw => oNW_warm w hw hW (hN w hw), hI, by rw [hU]; exact hP⟩
  rw [hU]
  exact (hRO.warm hW hS.1 hS.2.1).narrow hA
/-- behind a call -/
theorem oCall {A : Nat → Prop} {k d pc : Nat} {p : Program} {l : Launch} {e : Env} {R : Room} {s : State} {m : MethodId} {args : Array Value} {below : List Frame} {meth : Method} {c : Code} {E : oE} {H : Heap} {locs : List Loc} {la : Array Slot} {cs sl : Nat} {Z : State → Prop} {ls : List (Option oV)} {rest : List oV} {st0 : List Value} {Q Q' : Option Int32 → oM → Prop} {av : Array Value}
    (C : oCX k A p s m args meth c E) (hE : oEnd k A p l e R s m args below meth c E Q cs sl Z) (hR : d ≤ R.frames ∧ 40 * d ≤ R.locals ∧ cs ≤ R.cells ∧ sl ≤ R.slots) (hS : va_S A s.heap H locs) (hlv : lv_has la (oML k) (oEn E 0 ls)) (h1 : ∀ v ∈ rest, oOk v) (h2 : ∀ v, some v ∈ ls → oOk v) (h3 : ls.length = oML k)
    (hr : va_Run p l e R s m args below meth c H locs cs sl 0 0 (F0 m pc la st0) (rest.map (ocv E)) (oQc E Q' av) (oA E))
    (kk : ∀ r M', Q' r M' → oG k d (pc + 3) ls (r.toList.map Sum.inl ++ rest) M' Q) : W p l e R s m args below meth c H locs cs sl Z (F0 m pc la st0) := by
  have hA := C.2.2.2.2.2.2.2.2.2.2.2.1
  intro T hT X
  obtain ⟨v, st₀, t, T', L, h0, X', hL, e1, e2, ⟨⟨r, M', hv, hq, hP1⟩, hz, hkeep⟩, st⟩ := hr T hT X
  rw [h0] at hz hkeep
  have hS1 : va_S A s.heap T'.heap (locs ++ L) := ⟨Nat.le_trans hS.1 (by rw [e1]; exact hz), fun q h1 h2 => by rw [e1, hkeep q (Nat.lt_of_lt_of_le h1 hS.1) (fun z => h2 (hA q z))]; exact hS.2.1 q h1 h2, fun q hq => by
    rcases List.mem_append.mp hq with h | h
    · exact hS.2.2 q h
    · exact hA _ (hL q h)⟩
  have hvr : v = r.map Value.int := Outcome.returned.inj hv
  have kw := kk r M' hq A p l e R s m args below meth c E T'.heap (locs ++ L) la cs sl Z C hE hR hS1 (by rw [e1]; exact hP1) hlv (by
    intro w hw
    rcases List.mem_append.mp hw with h | h
    · obtain ⟨z, -, rfl⟩ := List.mem_map.mp h
      trivial
    · exact h1 w h) h2 h3
  obtain ⟨t2, a1, b1⟩ := kw T' rfl X'
  refine ⟨t2, st t2 ?_, b1⟩
  have e3 : v.toList ++ rest.map (ocv E) = (r.toList.map Sum.inl ++ rest).map (ocv E) := by
    rw [hvr, List.map_append, List.map_map]
    cases r <;> rfl
  rw [e3]
  exact a1
section CALLS
variable {k d pc nx tg : Nat} {ls : List (Option oV)} {st : List oV} {M : oM} {Q : Option Int32 → oM → Prop}
/-- the arguments of a call, in their order, and what lies below them -/
def oArgs : Nat → List oV → List oV → Option (List oV × List oV)
  | 0, acc, st => some (acc, st)
  | n + 1, acc, v :: st => oArgs n (v :: acc) st
  | _ + 1, _, [] => none
theorem oArgs_ok : ∀ (n : Nat) (acc st as rest : List oV), oArgs n acc st = some (as, rest) → ∃ bs, as = bs ++ acc ∧ st = bs.reverse ++ rest ∧ bs.length = n
  | 0, acc, st, as, rest, h => by
    unfold oArgs at h
    cases h
    exact ⟨[], rfl, rfl, rfl⟩
  | n + 1, acc, [], as, rest, h => by
    unfold oArgs at h
    cases h
  | n + 1, acc, v :: st, as, rest, h => by
    unfold oArgs at h
    obtain ⟨bs, h1, h2, h3⟩ := oArgs_ok n (v :: acc) st as rest h
    refine ⟨bs ++ [v], by rw [h1]; simp, by rw [h2]; simp, by simp [h3]⟩
theorem oSum_le {E : oE} (hov : oov E = .null ∨ ∃ a, oov E = .ref a) : ∀ (r : List oV), ((r.map (ocv E)).map fun v => v.category).sum = r.length
  | [] => rfl
  | v :: r => by
    rw [List.map_cons, List.map_cons, List.sum_cons, oSum_le hov r, ocv_cat E hov v, List.length_cons]
    omega
/-- which class the receiver of a kind is of -/
def oRcv (kd : Nat) : Option String := if kd = K_STR then some "java/lang/String" else match oKD kd with
  | .inl (ci, _) => if ci < 11 then some (oCl ci).1 else none
  | _ => none
theorem g_callS {idx k' n p' d' : Nat} {as rest : List oV} {Q' : Option Int32 → oM → Prop} (hf : oFt k pc = some (.invokestatic idx, nx, tg)) (hl : oLkM (oLks (oMO k)) idx = some (1, k', n, p')) (ha : oArgs n [] st = some (as, rest)) (hrest : Nat.ble rest.length 8 = true) (hk : oMok k') (hd : d' + 1 ≤ d) (hc : oCt d' k' as M Q')
    (kk : ∀ r M', Q' r M' → oG k d nx ls (r.toList.map Sum.inl ++ rest) M' Q) : oG k d pc ls st M Q := by
  intro A p l e R s m args below meth c E H locs la cs sl Z C hE hR hS hP hlv h1 h2 h3
  obtain ⟨h4, rfl⟩ := oFt_dec (n := 2) hf rfl C.2.2.2.2.2.2.2.2.2.2.2.2
  have hov := C.2.2.2.2.2.2.2.2.1.2.2.2.2.2.2.2.1
  obtain ⟨hk1, hnp, hst, hlink⟩ := oLks_S hl
  obtain ⟨f1, f2, f3, f4, f5, -⟩ := oMok_facts hk1
  obtain ⟨bs, rfl, rfl, hbl⟩ := oArgs_ok n [] st as rest ha
  rw [List.append_nil] at hc
  have hts := C.2.2.2.2.2.2.1
  have cw : CallB R s args (oCN (oMO k)) idx (oMY k') (oMC k') (oML k') (oMR k') (oWk k') (oRm d') 0 0 n ∧ (Cond.static (oMY k')).before args s = true :=
    ⟨callB_of n hts (oWk_good hk) rfl rfl rfl (hts _ f4) (hts _ hlink) (by rw [← hnp]; exact f2) ⟨by show d' + 1 ≤ R.frames; omega, by show 8 + (oML k' + 11) + 40 * d' ≤ R.locals; omega⟩, hts _ (f5 hst)⟩
  have hr := va_runS (p := p) (l := l) (e := e) (below := below) (meth := meth) (locs := locs) (cells := cs) (slots := sl) (nL := oML k) (As := bs.map (ocv E)) (rest := rest.map (ocv E)) (g := F0 m pc la ((bs.reverse ++ rest).map (ocv E))) (Ts := oGT) ⟨C.1, C.2.1, C.2.2.1, C.2.2.2.2.2.1, hts⟩ (hc l E (fun v hv => h1 v (List.mem_append_left _ (List.mem_reverse.mpr hv)))) cw ⟨oWd_blind E M _, fun U hU hW => ⟨rfl, oWd_at C hS hP hU hW⟩⟩ rfl (by rw [List.length_map]; exact hbl) hlv.1 (by show (bs.reverse ++ rest).map (ocv E) = _; rw [List.map_append, List.map_reverse]) (by show 2 * 0 + _ ≤ 8; rw [oSum_le hov]; have := Nat.le_of_ble_eq_true hrest; omega) h4 ⟨hR.2.2.1, hR.2.2.2⟩
  exact oCall C hE hR hS hlv (fun v hv => h1 v (List.mem_append_right _ hv)) h2 h3 hr kk
theorem g_callSN {idx k' n p' d' : Nat} {as rest : List oV} {Q' : Option Int32 → oM → Prop} (hf : oFt k pc = some (.invokestatic idx, nx, tg)) (hl : oLkM (oLks (oMO k)) idx = some (2, k', n, p')) (ha : oArgs n [] st = some (as, rest)) (hrest : Nat.ble rest.length 8 = true) (hk : oMok k') (hd : d' + 1 ≤ d) (hc : oCt d' k' as M Q')
    (kk : ∀ r M', Q' r M' → oG k d nx ls (r.toList.map Sum.inl ++ rest) M' Q) : oG k d pc ls st M Q := by
  intro A p l e R s m args below meth c E H locs la cs sl Z C hE hR hS hP hlv h1 h2 h3
  obtain ⟨h4, rfl⟩ := oFt_dec (n := 2) hf rfl C.2.2.2.2.2.2.2.2.2.2.2.2
  have hov := C.2.2.2.2.2.2.2.2.1.2.2.2.2.2.2.2.1
  obtain ⟨hk1, hnp, hst, hlink⟩ := oLks_SN hl
  obtain ⟨f1, f2, f3, f4, f5, -⟩ := oMok_facts hk1
  obtain ⟨bs, rfl, rfl, hbl⟩ := oArgs_ok n [] st as rest ha
  rw [List.append_nil] at hc
  have hts := C.2.2.2.2.2.2.1
  have cw := va_cnB (R := R) (s := s) (args := args) (rm := oRm d') (mc := 0) (ms := 0) n hts (oWk_good hk) rfl rfl rfl (C.2.2.2.2.2.2.2.2.2.1 _ hlink) (hts _ f4) (by rw [← hnp]; exact f2) ⟨by show d' + 1 ≤ R.frames; omega, by show 8 + (oML k' + 11) + 40 * d' ≤ R.locals; omega⟩
  have hr := va_runSN (p := p) (l := l) (e := e) (below := below) (meth := meth) (locs := locs) (cells := cs) (slots := sl) (nL := oML k) (As := bs.map (ocv E)) (rest := rest.map (ocv E)) (g := F0 m pc la ((bs.reverse ++ rest).map (ocv E))) (Ts := oGT) ⟨C.1, C.2.1, C.2.2.1, C.2.2.2.2.2.1, hts⟩ (hc l E (fun v hv => h1 v (List.mem_append_left _ (List.mem_reverse.mpr hv)))) ⟨cw, hts _ (f5 hst), trivial⟩ ⟨oWd_blind E M _, fun U hU hW => ⟨rfl, oWd_at C hS hP hU hW⟩⟩ rfl (by rw [List.length_map]; exact hbl) hlv.1 (by show (bs.reverse ++ rest).map (ocv E) = _; rw [List.map_append, List.map_reverse]) (by show 2 * 0 + _ ≤ 8; rw [oSum_le hov]; have := Nat.le_of_ble_eq_true hrest; omega) h4 ⟨hR.2.2.1, hR.2.2.2⟩
  exact oCall C hE hR hS hlv (fun v hv => h1 v (List.mem_append_right _ hv)) h2 h3 hr kk
theorem oRecv {A : Nat → Prop} {p : Program} {s : State} {m : MethodId} {args : Array Value} {meth : Method} {c : Code} {E : oE} {H : Heap} {locs : List Loc} {kd i : Nat} {cn : String} (C : oCX k A p s m args meth c E) (hS : va_S A s.heap H locs) (hP : oRep E M H) (hi : i < oCnt kd) (hc : oRcv kd = some cn) : oRfv E kd i = .ref (oad E kd i) ∧ ∃ cell : Cell, H[oad E kd i]? = some cell ∧ cell.vm.isStatics = false ∧ s.vm.findClass cn = some cell.cls := by
  unfold oRcv at hc
  by_cases hk : kd = K_STR
  · subst hk
    rw [if_pos rfl] at hc
    cases hc
    have hi3 : i < 3 := hi
    exact ⟨rfl, vk_recv C.2.2.2.2.2.2.2.2.1.2.2.2.2.1 hi3 hS⟩
  · rw [if_neg hk] at hc
    cases ho : oKD kd with
    | inr x => rw [ho] at hc; cases hc
    | inl x =>
      obtain ⟨ci, fds⟩ := x
      rw [ho] at hc
      simp only at hc
      by_cases hci : ci < 11
      · rw [if_pos hci] at hc
        cases hc
        have hkd := oKD_lt' hci ho
        obtain ⟨q0, hq0⟩ := oPK_at hkd hi
        have hw := oWS_at (E := E) (M := M) hq0
        have he : oEnt E M kd i = .inr (ci, oFV E (M kd i) i 0 fds) := by unfold oEnt; rw [ho]; rfl
        rw [he] at hw
        exact ⟨oRfv_ref hkd, va_recv C.2.2.2.2.2.2.2.1 hP.1 (oCl_at hci) hw⟩
      · rw [if_neg hci] at hc
        cases hc
theorem g_callV {idx k' n p' d' kd i : Nat} {as rest : List oV} {Q' : Option Int32 → oM → Prop} (hf : oFt k pc = some (.invokevirtual idx, nx, tg)) (hl : oLkM (oLks (oMO k)) idx = some (0, k', n, p')) (ha : oArgs n [] st = some (as, .inr (kd, i) :: rest)) (hrest : Nat.ble rest.length 8 = true) (hrc : oRcv kd = some (oMY k').cls) (hk : oMok k') (hd : d' + 1 ≤ d) (hc : oCt d' k' (.inr (kd, i) :: as) M Q')
    (kk : ∀ r M', Q' r M' → oG k d nx ls (r.toList.map Sum.inl ++ rest) M' Q) : oG k d pc ls st M Q := by
  intro A p l e R s m args below meth c E H locs la cs sl Z C hE hR hS hP hlv h1 h2 h3
  obtain ⟨h4, rfl⟩ := oFt_dec (n := 2) hf rfl C.2.2.2.2.2.2.2.2.2.2.2.2
  have hov := C.2.2.2.2.2.2.2.2.1.2.2.2.2.2.2.2.1
  obtain ⟨hk1, hnp, hst, hini, hlink⟩ := oLks_V hl
  obtain ⟨f1, f2, f3, f4, -, f6, f7⟩ := oMok_facts hk1
  obtain ⟨bs, rfl, rfl, hbl⟩ := oArgs_ok n [] st as _ ha
  rw [List.append_nil] at hc
  have hts := C.2.2.2.2.2.2.1
  have hi : i < oCnt kd := h1 (.inr (kd, i)) (List.mem_append_right _ List.mem_cons_self)
  obtain ⟨hrf, hcell⟩ := oRecv C hS hP hi hrc
  have cw : CallW R s args (oCN (oMO k)) (oMY k').cls idx (oMY k') (oMC k') (oML k') (oMR k') (oWk k') (oRm d') 0 0 n :=
    ⟨callB_of n hts (oWk_good hk) rfl rfl rfl (hts _ f4) (hts _ hlink) (by rw [← hnp]; exact f2) ⟨by show d' + 1 ≤ R.frames; omega, by show 8 + (oML k' + 11) + 40 * d' ≤ R.locals; omega⟩, hts _ (f6 hst), hts _ (f7 hst hini)⟩
  have hcc := hc l E (fun v hv => by
    rcases List.mem_cons.mp hv with rfl | hv
    · exact hi
    · exact h1 v (List.mem_append_left _ (List.mem_reverse.mpr hv)))
  rw [List.map_cons, show ocv E (.inr (kd, i)) = .ref (oad E kd i) from hrf] at hcc
  have hr := va_runV (p := p) (l := l) (e := e) (below := below) (meth := meth) (locs := locs) (cells := cs) (slots := sl) (nL := oML k) (b := oad E kd i) (As := bs.map (ocv E)) (rest := rest.map (ocv E)) (g := F0 m pc la ((bs.reverse ++ .inr (kd, i) :: rest).map (ocv E))) (Ts := oGT) ⟨C.1, C.2.1, C.2.2.1, C.2.2.2.2.2.1, hts⟩ hcc cw ⟨oWd_blind E M _, hcell, fun U hU hW => ⟨rfl, oWd_at C hS hP hU hW⟩⟩ rfl (by rw [List.length_map]; exact hbl) hlv.1 (by show (bs.reverse ++ .inr (kd, i) :: rest).map (ocv E) = _; rw [List.map_append, List.map_reverse, List.map_cons, show ocv E (.inr (kd, i)) = .ref (oad E kd i) from hrf]) (by show 2 * 0 + _ ≤ 8; rw [oSum_le hov]; have := Nat.le_of_ble_eq_true hrest; omega) h4 ⟨hR.2.2.1, hR.2.2.2⟩
  exact oCall C hE hR hS hlv (fun v hv => h1 v (List.mem_append_right _ (List.mem_cons_of_mem _ hv))) h2 h3 hr kk
end CALLS
end
section
set_option maxRecDepth 100000 in
theorem mok_Cells_isHeld : oMok k_Cells_isHeld := ⟨by decide, oDecB_ok (by decide +kernel), by rfl⟩
set_option maxRecDepth 100000 in
theorem mok_Cells_fillDeed : oMok k_Cells_fillDeed := ⟨by decide, oDecB_ok (by decide +kernel), by rfl⟩
set_option maxRecDepth 100000 in
theorem mok_Cells_addSide : oMok k_Cells_addSide := ⟨by decide, oDecB_ok (by decide +kernel), by rfl⟩
set_option maxRecDepth 100000 in
theorem mok_Cells_fillOwners : oMok k_Cells_fillOwners := ⟨by decide, oDecB_ok (by decide +kernel), by rfl⟩
set_option maxRecDepth 100000 in
theorem mok_Cells_firstUnserved : oMok k_Cells_firstUnserved := ⟨by decide, oDecB_ok (by decide +kernel), by rfl⟩
set_option maxRecDepth 100000 in
theorem mok_Cells_countUnlike : oMok k_Cells_countUnlike := ⟨by decide, oDecB_ok (by decide +kernel), by rfl⟩
set_option maxRecDepth 100000 in
theorem mok_Deed_beginAt : oMok k_Deed_beginAt := ⟨by decide, oDecB_ok (by decide +kernel), by rfl⟩
set_option maxRecDepth 100000 in
theorem mok_Deed_hasNumber : oMok k_Deed_hasNumber := ⟨by decide, oDecB_ok (by decide +kernel), by rfl⟩
set_option maxRecDepth 100000 in
theorem mok_Deed_addCall : oMok k_Deed_addCall := ⟨by decide, oDecB_ok (by decide +kernel), by rfl⟩
set_option maxRecDepth 100000 in
theorem mok_Deed_removeCall : oMok k_Deed_removeCall := ⟨by decide, oDecB_ok (by decide +kernel), by rfl⟩
set_option maxRecDepth 100000 in
theorem mok_Deed_takeFrom : oMok k_Deed_takeFrom := ⟨by decide, oDecB_ok (by decide +kernel), by rfl⟩
set_option maxRecDepth 100000 in
theorem mok_Land_takeFrom : oMok k_Land_takeFrom := ⟨by decide, oDecB_ok (by decide +kernel), by rfl⟩
set_option maxRecDepth 100000 in
theorem mok_Land_hasStone : oMok k_Land_hasStone := ⟨by decide, oDecB_ok (by decide +kernel), by rfl⟩
set_option maxRecDepth 100000 in
theorem mok_Land_hasDeed : oMok k_Land_hasDeed := ⟨by decide, oDecB_ok (by decide +kernel), by rfl⟩
set_option maxRecDepth 100000 in
theorem mok_Land_hasCall : oMok k_Land_hasCall := ⟨by decide, oDecB_ok (by decide +kernel), by rfl⟩
set_option maxRecDepth 100000 in
theorem mok_Land_hasYear : oMok k_Land_hasYear := ⟨by decide, oDecB_ok (by decide +kernel), by rfl⟩
set_option maxRecDepth 100000 in
theorem mok_Land_putStone : oMok k_Land_putStone := ⟨by decide, oDecB_ok (by decide +kernel), by rfl⟩
set_option maxRecDepth 100000 in
theorem mok_Land_callsOfAll : oMok k_Land_callsOfAll := ⟨by decide, oDecB_ok (by decide +kernel), by rfl⟩
set_option maxRecDepth 100000 in
theorem mok_Land_drawNumber : oMok k_Land_drawNumber := ⟨by decide, oDecB_ok (by decide +kernel), by rfl⟩
set_option maxRecDepth 100000 in
theorem mok_Land_needleOf : oMok k_Land_needleOf := ⟨by decide, oDecB_ok (by decide +kernel), by rfl⟩
set_option maxRecDepth 100000 in
theorem mok_Land_chainOf : oMok k_Land_chainOf := ⟨by decide, oDecB_ok (by decide +kernel), by rfl⟩
set_option maxRecDepth 100000 in
theorem mok_Land_rankOf : oMok k_Land_rankOf := ⟨by decide, oDecB_ok (by decide +kernel), by rfl⟩
set_option maxRecDepth 100000 in
theorem mok_Laws_lastOf : oMok k_Laws_lastOf := ⟨by decide, oDecB_ok (by decide +kernel), by rfl⟩
set_option maxRecDepth 100000 in
theorem mok_Laws_workOut : oMok k_Laws_workOut := ⟨by decide, oDecB_ok (by decide +kernel), by rfl⟩
set_option maxRecDepth 100000 in
theorem mok_Laws_named : oMok k_Laws_named := ⟨by decide, oDecB_ok (by decide +kernel), by rfl⟩
set_option maxRecDepth 100000 in
theorem mok_Laws_joined : oMok k_Laws_joined := ⟨by decide, oDecB_ok (by decide +kernel), by rfl⟩
set_option maxRecDepth 100000 in
theorem mok_Reader_addFour : oMok k_Reader_addFour := ⟨by decide, oDecB_ok (by decide +kernel), by rfl⟩
set_option maxRecDepth 100000 in
theorem mok_Reader_parseTape : oMok k_Reader_parseTape := ⟨by decide, oDecB_ok (by decide +kernel), by rfl⟩
set_option maxRecDepth 100000 in
theorem mok_Reader_advance : oMok k_Reader_advance := ⟨by decide, oDecB_ok (by decide +kernel), by rfl⟩
set_option maxRecDepth 100000 in
theorem mok_Reader_sortOf : oMok k_Reader_sortOf := ⟨by decide, oDecB_ok (by decide +kernel), by rfl⟩
set_option maxRecDepth 100000 in
theorem mok_Reader_keyHere : oMok k_Reader_keyHere := ⟨by decide, oDecB_ok (by decide +kernel), by rfl⟩
set_option maxRecDepth 100000 in
theorem mok_Reader_isWord : oMok k_Reader_isWord := ⟨by decide, oDecB_ok (by decide +kernel), by rfl⟩
set_option maxRecDepth 100000 in
theorem mok_Reader_isSign : oMok k_Reader_isSign := ⟨by decide, oDecB_ok (by decide +kernel), by rfl⟩
set_option maxRecDepth 100000 in
theorem mok_Reader_isName : oMok k_Reader_isName := ⟨by decide, oDecB_ok (by decide +kernel), by rfl⟩
set_option maxRecDepth 100000 in
theorem mok_Reader_isJoin : oMok k_Reader_isJoin := ⟨by decide, oDecB_ok (by decide +kernel), by rfl⟩
set_option maxRecDepth 100000 in
theorem mok_Reader_parseLevel : oMok k_Reader_parseLevel := ⟨by decide, oDecB_ok (by decide +kernel), by rfl⟩
set_option maxRecDepth 100000 in
theorem mok_Reader_parsePiece : oMok k_Reader_parsePiece := ⟨by decide, oDecB_ok (by decide +kernel), by rfl⟩
set_option maxRecDepth 100000 in
theorem mok_Reader_parseAtom : oMok k_Reader_parseAtom := ⟨by decide, oDecB_ok (by decide +kernel), by rfl⟩
set_option maxRecDepth 100000 in
theorem mok_Reader_numberHere : oMok k_Reader_numberHere := ⟨by decide, oDecB_ok (by decide +kernel), by rfl⟩
set_option maxRecDepth 100000 in
theorem mok_Reader_addCode : oMok k_Reader_addCode := ⟨by decide, oDecB_ok (by decide +kernel), by rfl⟩
set_option maxRecDepth 100000 in
theorem mok_Row_become : oMok k_Row_become := ⟨by decide, oDecB_ok (by decide +kernel), by rfl⟩
set_option maxRecDepth 100000 in
theorem mok_Row_takeFrom : oMok k_Row_takeFrom := ⟨by decide, oDecB_ok (by decide +kernel), by rfl⟩
set_option maxRecDepth 100000 in
theorem mok_Row_hasPlace : oMok k_Row_hasPlace := ⟨by decide, oDecB_ok (by decide +kernel), by rfl⟩
set_option maxRecDepth 100000 in
theorem mok_Row_hasRun : oMok k_Row_hasRun := ⟨by decide, oDecB_ok (by decide +kernel), by rfl⟩
set_option maxRecDepth 100000 in
theorem mok_Slot_takeCall : oMok k_Slot_takeCall := ⟨by decide, oDecB_ok (by decide +kernel), by rfl⟩
end
section
set_option maxRecDepth 100000 in
theorem mok_Text_takeFrom : oMok k_Text_takeFrom := ⟨by decide, oDecB_ok (by decide +kernel), by rfl⟩
set_option maxRecDepth 100000 in
theorem mok_Walk_setOut : oMok k_Walk_setOut := ⟨by decide, oDecB_ok (by decide +kernel), by rfl⟩
set_option maxRecDepth 100000 in
theorem mok_Walk_stepBy : oMok k_Walk_stepBy := ⟨by decide, oDecB_ok (by decide +kernel), by rfl⟩
set_option maxRecDepth 100000 in
theorem mok_Walk_goOn : oMok k_Walk_goOn := ⟨by decide, oDecB_ok (by decide +kernel), by rfl⟩
set_option maxRecDepth 100000 in
theorem mok_Walk_traceDeed : oMok k_Walk_traceDeed := ⟨by decide, oDecB_ok (by decide +kernel), by rfl⟩
set_option maxRecDepth 100000 in
theorem mok_Walk_cornersInRow : oMok k_Walk_cornersInRow := ⟨by decide, oDecB_ok (by decide +kernel), by rfl⟩
set_option maxRecDepth 100000 in
theorem mok_Walk_twiceArea : oMok k_Walk_twiceArea := ⟨by decide, oDecB_ok (by decide +kernel), by rfl⟩
set_option maxRecDepth 100000 in
theorem mok_Walk_nextCorner : oMok k_Walk_nextCorner := ⟨by decide, oDecB_ok (by decide +kernel), by rfl⟩
set_option maxRecDepth 100000 in
theorem mok_Walk_gapHere : oMok k_Walk_gapHere := ⟨by decide, oDecB_ok (by decide +kernel), by rfl⟩
set_option maxRecDepth 100000 in
theorem mok_Walk_gapBy : oMok k_Walk_gapBy := ⟨by decide, oDecB_ok (by decide +kernel), by rfl⟩
set_option maxRecDepth 100000 in
theorem mok_Walk_gapWithSlip : oMok k_Walk_gapWithSlip := ⟨by decide, oDecB_ok (by decide +kernel), by rfl⟩
set_option maxRecDepth 100000 in
theorem mok_Walk_findBestSlip : oMok k_Walk_findBestSlip := ⟨by decide, oDecB_ok (by decide +kernel), by rfl⟩
set_option maxRecDepth 100000 in
theorem mok_Walk_findBestNeedle : oMok k_Walk_findBestNeedle := ⟨by decide, oDecB_ok (by decide +kernel), by rfl⟩
set_option maxRecDepth 100000 in
theorem mok_Walk_findBestChain : oMok k_Walk_findBestChain := ⟨by decide, oDecB_ok (by decide +kernel), by rfl⟩
set_option maxRecDepth 100000 in
theorem mok_Walk_takeIfBetter : oMok k_Walk_takeIfBetter := ⟨by decide, oDecB_ok (by decide +kernel), by rfl⟩
set_option maxRecDepth 100000 in
theorem mok_Walk_learntOf : oMok k_Walk_learntOf := ⟨by decide, oDecB_ok (by decide +kernel), by rfl⟩
set_option maxRecDepth 100000 in
theorem mok_Oak_stone : oMok k_Oak_stone := ⟨by decide, oDecB_ok (by decide +kernel), by rfl⟩
set_option maxRecDepth 100000 in
theorem mok_Oak_stoneTold : oMok k_Oak_stoneTold := ⟨by decide, oDecB_ok (by decide +kernel), by rfl⟩
set_option maxRecDepth 100000 in
theorem mok_Oak_move : oMok k_Oak_move := ⟨by decide, oDecB_ok (by decide +kernel), by rfl⟩
set_option maxRecDepth 100000 in
theorem mok_Oak_deed : oMok k_Oak_deed := ⟨by decide, oDecB_ok (by decide +kernel), by rfl⟩
set_option maxRecDepth 100000 in
theorem mok_Oak_deedTold : oMok k_Oak_deedTold := ⟨by decide, oDecB_ok (by decide +kernel), by rfl⟩
set_option maxRecDepth 100000 in
theorem mok_Oak_set : oMok k_Oak_set := ⟨by decide, oDecB_ok (by decide +kernel), by rfl⟩
set_option maxRecDepth 100000 in
theorem mok_Oak_call : oMok k_Oak_call := ⟨by decide, oDecB_ok (by decide +kernel), by rfl⟩
set_option maxRecDepth 100000 in
theorem mok_Oak_told : oMok k_Oak_told := ⟨by decide, oDecB_ok (by decide +kernel), by rfl⟩
set_option maxRecDepth 100000 in
theorem mok_Oak_as : oMok k_Oak_as := ⟨by decide, oDecB_ok (by decide +kernel), by rfl⟩
set_option maxRecDepth 100000 in
theorem mok_Oak_turns : oMok k_Oak_turns := ⟨by decide, oDecB_ok (by decide +kernel), by rfl⟩
set_option maxRecDepth 100000 in
theorem mok_Oak_drop : oMok k_Oak_drop := ⟨by decide, oDecB_ok (by decide +kernel), by rfl⟩
set_option maxRecDepth 100000 in
theorem mok_Oak_deal : oMok k_Oak_deal := ⟨by decide, oDecB_ok (by decide +kernel), by rfl⟩
set_option maxRecDepth 100000 in
theorem mok_Oak_seed : oMok k_Oak_seed := ⟨by decide, oDecB_ok (by decide +kernel), by rfl⟩
set_option maxRecDepth 100000 in
theorem mok_Oak_corner : oMok k_Oak_corner := ⟨by decide, oDecB_ok (by decide +kernel), by rfl⟩
set_option maxRecDepth 100000 in
theorem mok_Oak_gap : oMok k_Oak_gap := ⟨by decide, oDecB_ok (by decide +kernel), by rfl⟩
set_option maxRecDepth 100000 in
theorem mok_Oak_area : oMok k_Oak_area := ⟨by decide, oDecB_ok (by decide +kernel), by rfl⟩
set_option maxRecDepth 100000 in
theorem mok_Oak_holds : oMok k_Oak_holds := ⟨by decide, oDecB_ok (by decide +kernel), by rfl⟩
set_option maxRecDepth 100000 in
theorem mok_Oak_field : oMok k_Oak_field := ⟨by decide, oDecB_ok (by decide +kernel), by rfl⟩
set_option maxRecDepth 100000 in
theorem mok_Oak_over : oMok k_Oak_over := ⟨by decide, oDecB_ok (by decide +kernel), by rfl⟩
set_option maxRecDepth 100000 in
theorem mok_Oak_whose : oMok k_Oak_whose := ⟨by decide, oDecB_ok (by decide +kernel), by rfl⟩
set_option maxRecDepth 100000 in
theorem mok_Oak_owned : oMok k_Oak_owned := ⟨by decide, oDecB_ok (by decide +kernel), by rfl⟩
set_option maxRecDepth 100000 in
theorem mok_Oak_slip : oMok k_Oak_slip := ⟨by decide, oDecB_ok (by decide +kernel), by rfl⟩
set_option maxRecDepth 100000 in
theorem mok_Oak_best : oMok k_Oak_best := ⟨by decide, oDecB_ok (by decide +kernel), by rfl⟩
set_option maxRecDepth 100000 in
theorem mok_Oak_learn : oMok k_Oak_learn := ⟨by decide, oDecB_ok (by decide +kernel), by rfl⟩
set_option maxRecDepth 100000 in
theorem mok_Oak_near : oMok k_Oak_near := ⟨by decide, oDecB_ok (by decide +kernel), by rfl⟩
end
section
set_option maxRecDepth 100000 in
theorem mok_Oak_would : oMok k_Oak_would := ⟨by decide, oDecB_ok (by decide +kernel), by rfl⟩
set_option maxRecDepth 100000 in
theorem mok_Oak_feed : oMok k_Oak_feed := ⟨by decide, oDecB_ok (by decide +kernel), by rfl⟩
set_option maxRecDepth 100000 in
theorem mok_Oak_trim : oMok k_Oak_trim := ⟨by decide, oDecB_ok (by decide +kernel), by rfl⟩
set_option maxRecDepth 100000 in
theorem mok_Oak_text : oMok k_Oak_text := ⟨by decide, oDecB_ok (by decide +kernel), by rfl⟩
set_option maxRecDepth 100000 in
theorem mok_Oak_textTold : oMok k_Oak_textTold := ⟨by decide, oDecB_ok (by decide +kernel), by rfl⟩
set_option maxRecDepth 100000 in
theorem mok_Oak_why : oMok k_Oak_why := ⟨by decide, oDecB_ok (by decide +kernel), by rfl⟩
set_option maxRecDepth 100000 in
theorem mok_Oak_sheet : oMok k_Oak_sheet := ⟨by decide, oDecB_ok (by decide +kernel), by rfl⟩
set_option maxRecDepth 100000 in
theorem mok_Oak_mark : oMok k_Oak_mark := ⟨by decide, oDecB_ok (by decide +kernel), by rfl⟩
set_option maxRecDepth 100000 in
theorem mok_Oak_pour : oMok k_Oak_pour := ⟨by decide, oDecB_ok (by decide +kernel), by rfl⟩
set_option maxRecDepth 100000 in
theorem mok_Oak_reads : oMok k_Oak_reads := ⟨by decide, oDecB_ok (by decide +kernel), by rfl⟩
set_option maxRecDepth 100000 in
theorem mok_Oak_copy : oMok k_Oak_copy := ⟨by decide, oDecB_ok (by decide +kernel), by rfl⟩
set_option maxRecDepth 100000 in
theorem mok_Oak_lay : oMok k_Oak_lay := ⟨by decide, oDecB_ok (by decide +kernel), by rfl⟩
set_option maxRecDepth 100000 in
theorem mok_Oak_ask : oMok k_Oak_ask := ⟨by decide, oDecB_ok (by decide +kernel), by rfl⟩
set_option maxRecDepth 100000 in
theorem mok_Oak_item : oMok k_Oak_item := ⟨by decide, oDecB_ok (by decide +kernel), by rfl⟩
set_option maxRecDepth 100000 in
theorem mok_Oak_rest : oMok k_Oak_rest := ⟨by decide, oDecB_ok (by decide +kernel), by rfl⟩
set_option maxRecDepth 100000 in
theorem mok_Oak_tell : oMok k_Oak_tell := ⟨by decide, oDecB_ok (by decide +kernel), by rfl⟩
set_option maxRecDepth 100000 in
theorem mok_Oak_check : oMok k_Oak_check := ⟨by decide, oDecB_ok (by decide +kernel), by rfl⟩
set_option maxRecDepth 100000 in
theorem mok_Oak_keep : oMok k_Oak_keep := ⟨by decide, oDecB_ok (by decide +kernel), by rfl⟩
set_option maxRecDepth 100000 in
theorem mok_Oak_back : oMok k_Oak_back := ⟨by decide, oDecB_ok (by decide +kernel), by rfl⟩
set_option maxRecDepth 100000 in
theorem mok_Oak_count : oMok k_Oak_count := ⟨by decide, oDecB_ok (by decide +kernel), by rfl⟩
set_option maxRecDepth 100000 in
theorem mok_Oak_isWithin : oMok k_Oak_isWithin := ⟨by decide, oDecB_ok (by decide +kernel), by rfl⟩
set_option maxRecDepth 100000 in
theorem mok_Oak_isStonePlace : oMok k_Oak_isStonePlace := ⟨by decide, oDecB_ok (by decide +kernel), by rfl⟩
set_option maxRecDepth 100000 in
theorem mok_Oak_isCell : oMok k_Oak_isCell := ⟨by decide, oDecB_ok (by decide +kernel), by rfl⟩
set_option maxRecDepth 100000 in
theorem mok_Oak_isYear : oMok k_Oak_isYear := ⟨by decide, oDecB_ok (by decide +kernel), by rfl⟩
set_option maxRecDepth 100000 in
theorem mok_Oak_isSlack : oMok k_Oak_isSlack := ⟨by decide, oDecB_ok (by decide +kernel), by rfl⟩
set_option maxRecDepth 100000 in
theorem mok_Oak_isKind : oMok k_Oak_isKind := ⟨by decide, oDecB_ok (by decide +kernel), by rfl⟩
set_option maxRecDepth 100000 in
theorem mok_Oak_isRun : oMok k_Oak_isRun := ⟨by decide, oDecB_ok (by decide +kernel), by rfl⟩
set_option maxRecDepth 100000 in
theorem mok_Oak_isSheet : oMok k_Oak_isSheet := ⟨by decide, oDecB_ok (by decide +kernel), by rfl⟩
set_option maxRecDepth 100000 in
theorem mok_Oak_isSlot : oMok k_Oak_isSlot := ⟨by decide, oDecB_ok (by decide +kernel), by rfl⟩
set_option maxRecDepth 100000 in
theorem mok_Oak_isOfKind : oMok k_Oak_isOfKind := ⟨by decide, oDecB_ok (by decide +kernel), by rfl⟩
set_option maxRecDepth 100000 in
theorem mok_Oak_worthOf : oMok k_Oak_worthOf := ⟨by decide, oDecB_ok (by decide +kernel), by rfl⟩
set_option maxRecDepth 100000 in
theorem mok_Oak_trueOf : oMok k_Oak_trueOf := ⟨by decide, oDecB_ok (by decide +kernel), by rfl⟩
set_option maxRecDepth 100000 in
theorem mok_Oak_farApart : oMok k_Oak_farApart := ⟨by decide, oDecB_ok (by decide +kernel), by rfl⟩
set_option maxRecDepth 100000 in
theorem mok_Oak_countBits : oMok k_Oak_countBits := ⟨by decide, oDecB_ok (by decide +kernel), by rfl⟩
set_option maxRecDepth 100000 in
theorem mok_Oak_isLetter : oMok k_Oak_isLetter := ⟨by decide, oDecB_ok (by decide +kernel), by rfl⟩
set_option maxRecDepth 100000 in
theorem mok_Mod_in : oMok k_Mod_in := ⟨by decide, oDecB_ok (by decide +kernel), by rfl⟩
set_option maxRecDepth 100000 in
theorem mok_Mod_within : oMok k_Mod_within := ⟨by decide, oDecB_ok (by decide +kernel), by rfl⟩
set_option maxRecDepth 100000 in
theorem mok_Mod_size : oMok k_Mod_size := ⟨by decide, oDecB_ok (by decide +kernel), by rfl⟩
set_option maxRecDepth 100000 in
theorem mok_Mod_copyAll : oMok k_Mod_copyAll := ⟨by decide, oDecB_ok (by decide +kernel), by rfl⟩
set_option maxRecDepth 100000 in
theorem mok_Mod_isStone : oMok k_Mod_isStone := ⟨by decide, oDecB_ok (by decide +kernel), by rfl⟩
set_option maxRecDepth 100000 in
theorem mok_Mod_isDeed : oMok k_Mod_isDeed := ⟨by decide, oDecB_ok (by decide +kernel), by rfl⟩
set_option maxRecDepth 100000 in
theorem mok_Mod_of : oMok k_Mod_of := ⟨by decide, oDecB_ok (by decide +kernel), by rfl⟩
set_option maxRecDepth 100000 in
theorem mok_Mod_isCall : oMok k_Mod_isCall := ⟨by decide, oDecB_ok (by decide +kernel), by rfl⟩
set_option maxRecDepth 100000 in
theorem mok_Mod_callOf : oMok k_Mod_callOf := ⟨by decide, oDecB_ok (by decide +kernel), by rfl⟩
set_option maxRecDepth 100000 in
theorem mok_Mod_isSpot : oMok k_Mod_isSpot := ⟨by decide, oDecB_ok (by decide +kernel), by rfl⟩
set_option maxRecDepth 100000 in
theorem mok_Mod_stone : oMok k_Mod_stone := ⟨by decide, oDecB_ok (by decide +kernel), by rfl⟩
set_option maxRecDepth 100000 in
theorem mok_Mod_stoneTold : oMok k_Mod_stoneTold := ⟨by decide, oDecB_ok (by decide +kernel), by rfl⟩
set_option maxRecDepth 100000 in
theorem mok_Mod_move : oMok k_Mod_move := ⟨by decide, oDecB_ok (by decide +kernel), by rfl⟩
set_option maxRecDepth 100000 in
theorem mok_Mod_isCell : oMok k_Mod_isCell := ⟨by decide, oDecB_ok (by decide +kernel), by rfl⟩
set_option maxRecDepth 100000 in
theorem mok_Mod_deed : oMok k_Mod_deed := ⟨by decide, oDecB_ok (by decide +kernel), by rfl⟩
set_option maxRecDepth 100000 in
theorem mok_Mod_needleOf : oMok k_Mod_needleOf := ⟨by decide, oDecB_ok (by decide +kernel), by rfl⟩
set_option maxRecDepth 100000 in
theorem mok_Mod_chainOf : oMok k_Mod_chainOf := ⟨by decide, oDecB_ok (by decide +kernel), by rfl⟩
set_option maxRecDepth 100000 in
theorem mok_Mod_rankOf : oMok k_Mod_rankOf := ⟨by decide, oDecB_ok (by decide +kernel), by rfl⟩
set_option maxRecDepth 100000 in
theorem mok_Mod_deedTold : oMok k_Mod_deedTold := ⟨by decide, oDecB_ok (by decide +kernel), by rfl⟩
set_option maxRecDepth 100000 in
theorem mok_Mod_set : oMok k_Mod_set := ⟨by decide, oDecB_ok (by decide +kernel), by rfl⟩
end
section
set_option maxRecDepth 100000 in
theorem mok_Mod_isRun : oMok k_Mod_isRun := ⟨by decide, oDecB_ok (by decide +kernel), by rfl⟩
set_option maxRecDepth 100000 in
theorem mok_Mod_comes : oMok k_Mod_comes := ⟨by decide, oDecB_ok (by decide +kernel), by rfl⟩
set_option maxRecDepth 100000 in
theorem mok_Mod_call : oMok k_Mod_call := ⟨by decide, oDecB_ok (by decide +kernel), by rfl⟩
set_option maxRecDepth 100000 in
theorem mok_Mod_trueBy : oMok k_Mod_trueBy := ⟨by decide, oDecB_ok (by decide +kernel), by rfl⟩
set_option maxRecDepth 100000 in
theorem mok_Mod_worthOf : oMok k_Mod_worthOf := ⟨by decide, oDecB_ok (by decide +kernel), by rfl⟩
set_option maxRecDepth 100000 in
theorem mok_Mod_told : oMok k_Mod_told := ⟨by decide, oDecB_ok (by decide +kernel), by rfl⟩
set_option maxRecDepth 100000 in
theorem mok_Mod_isUnder : oMok k_Mod_isUnder := ⟨by decide, oDecB_ok (by decide +kernel), by rfl⟩
set_option maxRecDepth 100000 in
theorem mok_Mod_as : oMok k_Mod_as := ⟨by decide, oDecB_ok (by decide +kernel), by rfl⟩
set_option maxRecDepth 100000 in
theorem mok_Mod_turns : oMok k_Mod_turns := ⟨by decide, oDecB_ok (by decide +kernel), by rfl⟩
set_option maxRecDepth 100000 in
theorem mok_Mod_drop : oMok k_Mod_drop := ⟨by decide, oDecB_ok (by decide +kernel), by rfl⟩
set_option maxRecDepth 100000 in
theorem mok_Mod_draw : oMok k_Mod_draw := ⟨by decide, oDecB_ok (by decide +kernel), by rfl⟩
set_option maxRecDepth 100000 in
theorem mok_Mod_deal : oMok k_Mod_deal := ⟨by decide, oDecB_ok (by decide +kernel), by rfl⟩
set_option maxRecDepth 100000 in
theorem mok_Mod_seed : oMok k_Mod_seed := ⟨by decide, oDecB_ok (by decide +kernel), by rfl⟩
set_option maxRecDepth 100000 in
theorem mok_Mod_takeCalls : oMok k_Mod_takeCalls := ⟨by decide, oDecB_ok (by decide +kernel), by rfl⟩
set_option maxRecDepth 100000 in
theorem mok_Mod_acrossBy : oMok k_Mod_acrossBy := ⟨by decide, oDecB_ok (by decide +kernel), by rfl⟩
set_option maxRecDepth 100000 in
theorem mok_Mod_upBy : oMok k_Mod_upBy := ⟨by decide, oDecB_ok (by decide +kernel), by rfl⟩
set_option maxRecDepth 100000 in
theorem mok_Mod_walk : oMok k_Mod_walk := ⟨by decide, oDecB_ok (by decide +kernel), by rfl⟩
set_option maxRecDepth 100000 in
theorem mok_Mod_walks : oMok k_Mod_walks := ⟨by decide, oDecB_ok (by decide +kernel), by rfl⟩
set_option maxRecDepth 100000 in
theorem mok_Mod_findCorners : oMok k_Mod_findCorners := ⟨by decide, oDecB_ok (by decide +kernel), by rfl⟩
set_option maxRecDepth 100000 in
theorem mok_Mod_corner : oMok k_Mod_corner := ⟨by decide, oDecB_ok (by decide +kernel), by rfl⟩
set_option maxRecDepth 100000 in
theorem mok_Mod_gap : oMok k_Mod_gap := ⟨by decide, oDecB_ok (by decide +kernel), by rfl⟩
set_option maxRecDepth 100000 in
theorem mok_Mod_area : oMok k_Mod_area := ⟨by decide, oDecB_ok (by decide +kernel), by rfl⟩
set_option maxRecDepth 100000 in
theorem mok_Mod_isHeld : oMok k_Mod_isHeld := ⟨by decide, oDecB_ok (by decide +kernel), by rfl⟩
set_option maxRecDepth 100000 in
theorem mok_Mod_findHeld : oMok k_Mod_findHeld := ⟨by decide, oDecB_ok (by decide +kernel), by rfl⟩
set_option maxRecDepth 100000 in
theorem mok_Mod_ownerOf : oMok k_Mod_ownerOf := ⟨by decide, oDecB_ok (by decide +kernel), by rfl⟩
set_option maxRecDepth 100000 in
theorem mok_Mod_holds : oMok k_Mod_holds := ⟨by decide, oDecB_ok (by decide +kernel), by rfl⟩
set_option maxRecDepth 100000 in
theorem mok_Mod_field : oMok k_Mod_field := ⟨by decide, oDecB_ok (by decide +kernel), by rfl⟩
set_option maxRecDepth 100000 in
theorem mok_Mod_over : oMok k_Mod_over := ⟨by decide, oDecB_ok (by decide +kernel), by rfl⟩
set_option maxRecDepth 100000 in
theorem mok_Mod_whose : oMok k_Mod_whose := ⟨by decide, oDecB_ok (by decide +kernel), by rfl⟩
set_option maxRecDepth 100000 in
theorem mok_Mod_owned : oMok k_Mod_owned := ⟨by decide, oDecB_ok (by decide +kernel), by rfl⟩
set_option maxRecDepth 100000 in
theorem mok_Mod_exchange : oMok k_Mod_exchange := ⟨by decide, oDecB_ok (by decide +kernel), by rfl⟩
set_option maxRecDepth 100000 in
theorem mok_Mod_takeSlipped : oMok k_Mod_takeSlipped := ⟨by decide, oDecB_ok (by decide +kernel), by rfl⟩
set_option maxRecDepth 100000 in
theorem mok_Mod_slip : oMok k_Mod_slip := ⟨by decide, oDecB_ok (by decide +kernel), by rfl⟩
set_option maxRecDepth 100000 in
theorem mok_Mod_best : oMok k_Mod_best := ⟨by decide, oDecB_ok (by decide +kernel), by rfl⟩
end
section
set_option maxRecDepth 100000 in
theorem mok_Mod_learn : oMok k_Mod_learn := ⟨by decide, oDecB_ok (by decide +kernel), by rfl⟩
set_option maxRecDepth 100000 in
theorem mok_Mod_near : oMok k_Mod_near := ⟨by decide, oDecB_ok (by decide +kernel), by rfl⟩
set_option maxRecDepth 100000 in
theorem mok_Mod_would : oMok k_Mod_would := ⟨by decide, oDecB_ok (by decide +kernel), by rfl⟩
set_option maxRecDepth 100000 in
theorem mok_Mod_feed : oMok k_Mod_feed := ⟨by decide, oDecB_ok (by decide +kernel), by rfl⟩
set_option maxRecDepth 100000 in
theorem mok_Mod_trim : oMok k_Mod_trim := ⟨by decide, oDecB_ok (by decide +kernel), by rfl⟩
set_option maxRecDepth 100000 in
theorem mok_Mod_isLetter : oMok k_Mod_isLetter := ⟨by decide, oDecB_ok (by decide +kernel), by rfl⟩
set_option maxRecDepth 100000 in
theorem mok_Mod_isFigure : oMok k_Mod_isFigure := ⟨by decide, oDecB_ok (by decide +kernel), by rfl⟩
set_option maxRecDepth 100000 in
theorem mok_Mod_go : oMok k_Mod_go := ⟨by decide, oDecB_ok (by decide +kernel), by rfl⟩
set_option maxRecDepth 100000 in
theorem mok_Mod_takesKey : oMok k_Mod_takesKey := ⟨by decide, oDecB_ok (by decide +kernel), by rfl⟩
set_option maxRecDepth 100000 in
theorem mok_Mod_nameOf : oMok k_Mod_nameOf := ⟨by decide, oDecB_ok (by decide +kernel), by rfl⟩
set_option maxRecDepth 100000 in
theorem mok_Mod_rank : oMok k_Mod_rank := ⟨by decide, oDecB_ok (by decide +kernel), by rfl⟩
set_option maxRecDepth 100000 in
theorem mok_Mod_settle : oMok k_Mod_settle := ⟨by decide, oDecB_ok (by decide +kernel), by rfl⟩
set_option maxRecDepth 100000 in
theorem mok_Mod_signHere : oMok k_Mod_signHere := ⟨by decide, oDecB_ok (by decide +kernel), by rfl⟩
set_option maxRecDepth 100000 in
theorem mok_Mod_takesPart : oMok k_Mod_takesPart := ⟨by decide, oDecB_ok (by decide +kernel), by rfl⟩
set_option maxRecDepth 100000 in
theorem mok_Mod_takesE : oMok k_Mod_takesE := ⟨by decide, oDecB_ok (by decide +kernel), by rfl⟩
set_option maxRecDepth 100000 in
theorem mok_Mod_notsOpen : oMok k_Mod_notsOpen := ⟨by decide, oDecB_ok (by decide +kernel), by rfl⟩
set_option maxRecDepth 100000 in
theorem mok_Mod_text : oMok k_Mod_text := ⟨by decide, oDecB_ok (by decide +kernel), by rfl⟩
set_option maxRecDepth 100000 in
theorem mok_Mod_textTold : oMok k_Mod_textTold := ⟨by decide, oDecB_ok (by decide +kernel), by rfl⟩
set_option maxRecDepth 100000 in
theorem mok_Mod_counts : oMok k_Mod_counts := ⟨by decide, oDecB_ok (by decide +kernel), by rfl⟩
set_option maxRecDepth 100000 in
theorem mok_Mod_why : oMok k_Mod_why := ⟨by decide, oDecB_ok (by decide +kernel), by rfl⟩
set_option maxRecDepth 100000 in
theorem mok_Mod_two : oMok k_Mod_two := ⟨by decide, oDecB_ok (by decide +kernel), by rfl⟩
set_option maxRecDepth 100000 in
theorem mok_Mod_worksOut : oMok k_Mod_worksOut := ⟨by decide, oDecB_ok (by decide +kernel), by rfl⟩
set_option maxRecDepth 100000 in
theorem mok_Mod_isSheet : oMok k_Mod_isSheet := ⟨by decide, oDecB_ok (by decide +kernel), by rfl⟩
set_option maxRecDepth 100000 in
theorem mok_Mod_isSlot : oMok k_Mod_isSlot := ⟨by decide, oDecB_ok (by decide +kernel), by rfl⟩
set_option maxRecDepth 100000 in
theorem mok_Mod_sheet : oMok k_Mod_sheet := ⟨by decide, oDecB_ok (by decide +kernel), by rfl⟩
set_option maxRecDepth 100000 in
theorem mok_Mod_mark : oMok k_Mod_mark := ⟨by decide, oDecB_ok (by decide +kernel), by rfl⟩
end
section
set_option maxRecDepth 100000 in
theorem mok_Mod_pour : oMok k_Mod_pour := ⟨by decide, oDecB_ok (by decide +kernel), by rfl⟩
set_option maxRecDepth 100000 in
theorem mok_Mod_reads : oMok k_Mod_reads := ⟨by decide, oDecB_ok (by decide +kernel), by rfl⟩
set_option maxRecDepth 100000 in
theorem mok_Mod_copy : oMok k_Mod_copy := ⟨by decide, oDecB_ok (by decide +kernel), by rfl⟩
set_option maxRecDepth 100000 in
theorem mok_Mod_lay : oMok k_Mod_lay := ⟨by decide, oDecB_ok (by decide +kernel), by rfl⟩
set_option maxRecDepth 100000 in
theorem mok_Mod_ask : oMok k_Mod_ask := ⟨by decide, oDecB_ok (by decide +kernel), by rfl⟩
set_option maxRecDepth 100000 in
theorem mok_Mod_item : oMok k_Mod_item := ⟨by decide, oDecB_ok (by decide +kernel), by rfl⟩
set_option maxRecDepth 100000 in
theorem mok_Mod_rest : oMok k_Mod_rest := ⟨by decide, oDecB_ok (by decide +kernel), by rfl⟩
set_option maxRecDepth 100000 in
theorem mok_Mod_tell : oMok k_Mod_tell := ⟨by decide, oDecB_ok (by decide +kernel), by rfl⟩
set_option maxRecDepth 100000 in
theorem mok_Mod_check : oMok k_Mod_check := ⟨by decide, oDecB_ok (by decide +kernel), by rfl⟩
set_option maxRecDepth 100000 in
theorem mok_Mod_keep : oMok k_Mod_keep := ⟨by decide, oDecB_ok (by decide +kernel), by rfl⟩
set_option maxRecDepth 100000 in
theorem mok_Mod_back : oMok k_Mod_back := ⟨by decide, oDecB_ok (by decide +kernel), by rfl⟩
set_option maxRecDepth 100000 in
theorem mok_Mod_count : oMok k_Mod_count := ⟨by decide, oDecB_ok (by decide +kernel), by rfl⟩
set_option maxRecDepth 100000 in
theorem mok_Integer_bitCount : oMok k_Integer_bitCount := ⟨by decide, oDecB_ok (by decide +kernel), by rfl⟩
set_option maxRecDepth 100000 in
theorem mok_Math_floorDiv : oMok k_Math_floorDiv := ⟨by decide, oDecB_ok (by decide +kernel), by rfl⟩
set_option maxRecDepth 100000 in
theorem mok_Math_abs : oMok k_Math_abs := ⟨by decide, oDecB_ok (by decide +kernel), by rfl⟩
set_option maxRecDepth 100000 in
theorem mok_Math_max : oMok k_Math_max := ⟨by decide, oDecB_ok (by decide +kernel), by rfl⟩
set_option maxRecDepth 100000 in
theorem mok_Math_min : oMok k_Math_min := ⟨by decide, oDecB_ok (by decide +kernel), by rfl⟩
set_option maxRecDepth 100000 in
theorem mok_String_length : oMok k_String_length := ⟨by decide, oDecB_ok (by decide +kernel), by rfl⟩
set_option maxRecDepth 100000 in
theorem mok_String_charAt : oMok k_String_charAt := ⟨by decide, oDecB_ok (by decide +kernel), by rfl⟩
set_option maxRecDepth 100000 in
theorem mok_String_coder : oMok k_String_coder := ⟨by decide, oDecB_ok (by decide +kernel), by rfl⟩
set_option maxRecDepth 100000 in
theorem mok_String_isLatin1 : oMok k_String_isLatin1 := ⟨by decide, oDecB_ok (by decide +kernel), by rfl⟩
set_option maxRecDepth 100000 in
theorem mok_String_checkIndex : oMok k_String_checkIndex := ⟨by decide, oDecB_ok (by decide +kernel), by rfl⟩
set_option maxRecDepth 100000 in
theorem mok_StringLatin1_charAt : oMok k_StringLatin1_charAt := ⟨by decide, oDecB_ok (by decide +kernel), by rfl⟩
set_option maxRecDepth 100000 in
theorem mok_Arrays_fill : oMok k_Arrays_fill := ⟨by decide, oDecB_ok (by decide +kernel), by rfl⟩
set_option maxRecDepth 100000 in
theorem mok_Preconditions_checkIndex : oMok k_Preconditions_checkIndex := ⟨by decide, oDecB_ok (by decide +kernel), by rfl⟩
end
section
/-! ===== runs of instructions that take no decision ===== -/
def oNth {α : Type} : List α → Nat → Option α
  | [], _ => none
  | a :: _, 0 => some a
  | _ :: r, n + 1 => oNth r n
theorem oNth_eq {α : Type} : ∀ (l : List α) (n : Nat), oNth l n = l[n]?
  | [], n => by simp [oNth]
  | a :: r, 0 => rfl
  | a :: r, n + 1 => by
    rw [List.getElem?_cons_succ]
    exact oNth_eq r n
def oIsI : FieldType → Bool
  | .int => true
  | _ => false
def oPutOk (ci f : Nat) : Bool := !((oCl ci).2.1 f).2.2.2 && oIsI (oTy ci f)
def oLkI : List (Int × Int32) → Int → Option Int32
  | [], _ => none
  | (a, b) :: r, i => cond (decide (a = i)) (some b) (oLkI r i)
theorem oLkI_mem : ∀ (l : List (Int × Int32)) (i : Int) (r : Int32), oLkI l i = some r → (i, r) ∈ l
  | [], _, _, h => by cases h
  | q :: l, i, r, h => by
    unfold oLkI at h
    by_cases hb : q.1 = i
    · rw [decide_eq_true hb] at h
      have h2 : q.2 = r := by simpa using h
      rw [← hb, ← h2]
      exact List.mem_cons_self
    · rw [decide_eq_false hb] at h
      exact List.mem_cons_of_mem _ (oLkI_mem l i r (by simpa using h))
def oLitC : List (Int × Int32) := [(-8, -8), (-1, -1), (0, 0), (1, 1), (2, 2), (3, 3), (4, 4), (5, 5), (6, 6)]
def oLitB : List (Int × Int32) := [(-100, -100), (-99, -99), (-33, -33), (-11, -11), (-10, -10), (-9, -9), (-8, -8), (-7, -7), (-6, -6), (-5, -5), (-4, -4), (-3, -3), (-2, -2), (6, 6), (7, 7), (8, 8), (9, 9), (10, 10), (11, 11), (12, 12), (13, 13), (14, 14), (15, 15), (16, 16), (20, 20), (24, 24), (30, 30), (32, 32), (33, 33), (35, 35), (38, 38), (40, 40), (41, 41), (42, 42), (43, 43), (45, 45), (47, 47), (48, 48), (50, 50), (57, 57), (60, 60), (61, 61), (62, 62), (63, 63), (96, 96), (97, 97), (99, 99), (100, 100), (101, 101), (102, 102), (104, 104), (105, 105), (108, 108), (110, 110), (114, 114), (115, 115), (116, 116), (120, 120), (121, 121), (122, 122), (124, 124)]
def oLitS : List (Int × Int32) := [(160, 160), (188, 188), (255, 255), (900, 900), (999, 999), (1000, 1000), (1532, 1532), (10000, 10000), (12345, 12345)]
theorem oLitC_ok0 : ∀ e ∈ oLitC, Int32.ofInt e.1 = e.2 := by decide +kernel
theorem oLitB_ok0 : ∀ e ∈ oLitB, (Int8.ofInt e.1).toInt32 = e.2 := by decide +kernel
theorem oLitS_ok0 : ∀ e ∈ oLitS, (Int16.ofInt e.1).toInt32 = e.2 := by decide +kernel
theorem oLitC_ok {n : Int} {v : Int32} (h : oLkI oLitC n = some v) : Int32.ofInt n = v := oLitC_ok0 _ (oLkI_mem _ _ _ h)
theorem oLitB_ok {n : Int} {v : Int32} (h : oLkI oLitB n = some v) : (Int8.ofInt n).toInt32 = v := oLitB_ok0 _ (oLkI_mem _ _ _ h)
theorem oLitS_ok {n : Int} {v : Int32} (h : oLkI oLitS n = some v) : (Int16.ofInt n).toInt32 = v := oLitS_ok0 _ (oLkI_mem _ _ _ h)
abbrev oSt4 : Type := Nat × List (Option oV) × List oV × oM
def oExS (k nx i : Nat) (ls : List (Option oV)) (v : oV) (r : List oV) (M : oM) : Option oSt4 := cond (Nat.blt i (oML k)) (match oSL' ls i v with
  | a :: l => some (nx, a :: l, r, M)
  | [] => none) none
def oExL (nx i : Nat) (ls : List (Option oV)) (st : List oV) (M : oM) : Option oSt4 := match oLd ls i with
  | some (.inl x) => some (nx, ls, .inl x :: st, M)
  | _ => none
def oExA (nx i : Nat) (ls : List (Option oV)) (st : List oV) (M : oM) : Option oSt4 := match oLd ls i with
  | some (.inr (kd, j)) => cond (Nat.beq kd K_OPQ) none (some (nx, ls, .inr (kd, j) :: st, M))
  | _ => none
def oEx (k : Nat) (I : Instr) (nx tg : Nat) (ls : List (Option oV)) (st : List oV) (M : oM) : Option oSt4 := match I with
  | .iconst n => (match oLkI oLitC n with
    | some v => some (nx, ls, .inl v :: st, M)
    | none => none)
  | .bipush n => (match oLkI oLitB n with
    | some v => some (nx, ls, .inl v :: st, M)
    | none => none)
  | .sipush n => (match oLkI oLitS n with
    | some v => some (nx, ls, .inl v :: st, M)
    | none => none)
  | .ldc i => (match oLkC (oCL (oMO k)) i with
    | some v => some (nx, ls, .inl v :: st, M)
    | none => none)
  | .ldc_w i => (match oLkC (oCL (oMO k)) i with
    | some v => some (nx, ls, .inl v :: st, M)
    | none => none)
  | .iload i => oExL nx i ls st M
  | .iload_n i => oExL nx i.val ls st M
  | .aload i => oExA nx i ls st M
  | .aload_n i => oExA nx i.val ls st M
  | .istore i => (match st with
    | .inl x :: r => oExS k nx i ls (.inl x) r M
    | _ => none)
  | .istore_n i => (match st with
    | .inl x :: r => oExS k nx i.val ls (.inl x) r M
    | _ => none)
  | .astore i => (match st with
    | .inr q :: r => cond (Nat.beq q.1 K_OPQ) none (oExS k nx i ls (.inr q) r M)
    | _ => none)
  | .astore_n i => (match st with
    | .inr q :: r => cond (Nat.beq q.1 K_OPQ) none (oExS k nx i.val ls (.inr q) r M)
    | _ => none)
  | .iinc i n => (match oLd ls i with
    | some (.inl x) => (match oLkI oLitC n with
      | some v => oExS k nx i ls (.inl (x + v)) st M
      | none => none)
    | _ => none)
  | .iadd => (match st with
    | .inl y :: .inl x :: r => some (nx, ls, .inl (x + y) :: r, M)
    | _ => none)
  | .isub => (match st with
    | .inl y :: .inl x :: r => some (nx, ls, .inl (x - y) :: r, M)
    | _ => none)
  | .imul => (match st with
    | .inl y :: .inl x :: r => some (nx, ls, .inl (x * y) :: r, M)
    | _ => none)
  | .iand => (match st with
    | .inl y :: .inl x :: r => some (nx, ls, .inl (x &&& y) :: r, M)
    | _ => none)
  | .ior => (match st with
    | .inl y :: .inl x :: r => some (nx, ls, .inl (x ||| y) :: r, M)
    | _ => none)
  | .ixor => (match st with
    | .inl y :: .inl x :: r => some (nx, ls, .inl (x ^^^ y) :: r, M)
    | _ => none)
  | .ishl => (match st with
    | .inl y :: .inl x :: r => some (nx, ls, .inl (x <<< (y &&& 31)) :: r, M)
    | _ => none)
  | .ishr => (match st with
    | .inl y :: .inl x :: r => some (nx, ls, .inl (x >>> (y &&& 31)) :: r, M)
    | _ => none)
  | .iushr => (match st with
    | .inl y :: .inl x :: r => some (nx, ls, .inl (oUshr x y) :: r, M)
    | _ => none)
  | .idiv => (match st with
    | .inl y :: .inl x :: r => cond (decide (y = 0)) none (some (nx, ls, .inl (x / y) :: r, M))
    | _ => none)
  | .irem => (match st with
    | .inl y :: .inl x :: r => cond (decide (y = 0)) none (some (nx, ls, .inl (oRem x y) :: r, M))
    | _ => none)
  | .ineg => (match st with
    | .inl x :: r => some (nx, ls, .inl (-x) :: r, M)
    | _ => none)
  | .i2s => (match st with
    | .inl x :: r => some (nx, ls, .inl x.toInt16.toInt32 :: r, M)
    | _ => none)
  | .i2c => (match st with
    | .inl x :: r => some (nx, ls, .inl (x.toUInt32 % 65536).toInt32 :: r, M)
    | _ => none)
  | .dup => (match st with
    | v :: r => some (nx, ls, v :: v :: r, M)
    | _ => none)
  | .dup2 => (match st with
    | v :: u :: r => some (nx, ls, v :: u :: v :: u :: r, M)
    | _ => none)
  | .pop => (match st with
    | _ :: r => some (nx, ls, r, M)
    | _ => none)
  | .goto _ => some (tg, ls, st, M)
  | .getfield i => (match st with
    | .inr (kd, j) :: r => (match oLkF (oFL (oMO k)) i with
      | some (ci, f) => (match oKD kd with
        | .inl (cj, fds) => cond (Nat.beq ci cj) (match oNth fds f with
          | some none => some (nx, ls, .inl (M kd j f) :: r, M)
          | some (some (k', 0, b)) => some (nx, ls, .inr (k', b) :: r, M)
          | some (some (k', 1, 0)) => some (nx, ls, .inr (k', j) :: r, M)
          | some (some (k', 1, b + 1)) => some (nx, ls, .inr (k', j + (b + 1)) :: r, M)
          | some (some (k', a + 2, b)) => some (nx, ls, .inr (k', (a + 2) * j + b) :: r, M)
          | none => none) none
        | .inr _ => none)
      | none => none)
    | _ => none)
  | .putfield i => (match st with
    | .inl v :: .inr (kd, j) :: r => (match oLkF (oFL (oMO k)) i with
      | some (ci, f) => (match oKD kd with
        | .inl (cj, fds) => cond (Nat.beq ci cj && oPutOk ci f) (match oNth fds f with
          | some none => some (nx, ls, r, oUp M kd j f v)
          | _ => none) none
        | .inr _ => none)
      | none => none)
    | _ => none)
  | _ => none
def oSt (k pc : Nat) (ls : List (Option oV)) (st : List oV) (M : oM) : Option oSt4 := match oFt k pc with
  | some (I, nx, tg) => oEx k I nx tg ls st M
  | none => none
def oRun (k : Nat) : Nat → Nat → List (Option oV) → List oV → oM → Option oSt4
  | 0, pc, ls, st, M => some (pc, ls, st, M)
  | n + 1, pc, ls, st, M => match oSt k pc ls st M with
    | some (pc', ls', st', M') => oRun k n pc' ls' st' M'
    | none => none
section RUN
variable {k d pc nx tg : Nat} {ls : List (Option oV)} {st : List oV} {M : oM} {Q : Option Int32 → oM → Prop}
theorem oExS_ok {i : Nat} {v : oV} {r : List oV} {s' : oSt4} (h : oExS k nx i ls v r M = some s') : Nat.blt i (oML k) = true ∧ s' = (nx, oSL' ls i v, r, M) := by
  unfold oExS at h
  cases hb : Nat.blt i (oML k) with
  | false => rw [hb] at h; cases h
  | true =>
    rw [hb] at h
    refine ⟨rfl, ?_⟩
    cases hz : oSL' ls i v with
    | nil => rw [hz] at h; cases h
    | cons a l =>
      rw [hz] at h
      cases h
      rfl
theorem oExL_ok {i : Nat} {s' : oSt4} (h : oExL nx i ls st M = some s') : ∃ x, oLd ls i = some (.inl x) ∧ s' = (nx, ls, .inl x :: st, M) := by
  unfold oExL at h
  split at h
  · rename_i x hx
    cases h
    exact ⟨x, hx, rfl⟩
  · cases h
theorem oExA_ok {i : Nat} {s' : oSt4} (h : oExA nx i ls st M = some s') : ∃ q : Nat × Nat, oLd ls i = some (.inr q) ∧ Nat.beq q.1 K_OPQ = false ∧ s' = (nx, ls, .inr q :: st, M) := by
  unfold oExA at h
  split at h
  · rename_i kd j hx
    cases hb : Nat.beq kd K_OPQ with
    | true => rw [hb] at h; cases h
    | false =>
      rw [hb] at h
      cases h
      exact ⟨(kd, j), hx, hb, rfl⟩
  · cases h
theorem oPutOk_ok {ci f : Nat} (h : oPutOk ci f = true) : ((oCl ci).2.1 f).2.2.2 = false ∧ oTy ci f = .int := by
  unfold oPutOk at h
  simp only [Bool.and_eq_true, Bool.not_eq_true'] at h
  refine ⟨h.1, ?_⟩
  cases hz : oTy ci f <;> rw [hz] at h <;> first | rfl | (exact absurd h.2 (by simp [oIsI]))
theorem oEx_ok {I : Instr} {s' : oSt4} (hf : oFt k pc = some (I, nx, tg)) (h : oEx k I nx tg ls st M = some s') (kk : oG k d s'.1 s'.2.1 s'.2.2.1 s'.2.2.2 Q) : oG k d pc ls st M Q := by
  unfold oEx at h
  split at h
  · split at h
    · rename_i v hv; cases h; exact g_iconst hf (oLitC_ok hv) kk
    · cases h
  · split at h
    · rename_i v hv; cases h; exact g_bipush hf (oLitB_ok hv) kk
    · cases h
  · split at h
    · rename_i v hv; cases h; exact g_sipush hf (oLitS_ok hv) kk
    · cases h
  · split at h
    · rename_i v hv; cases h; exact g_ldc hf hv kk
    · cases h
  · split at h
    · rename_i v hv; cases h; exact g_ldcw hf hv kk
    · cases h
  · obtain ⟨x, h1, rfl⟩ := oExL_ok h; exact g_iload hf h1 kk
  · obtain ⟨x, h1, rfl⟩ := oExL_ok h; exact g_iload_n hf h1 kk
  · obtain ⟨x, h1, h2, rfl⟩ := oExA_ok h; exact g_aload hf h1 h2 kk
  · obtain ⟨x, h1, h2, rfl⟩ := oExA_ok h; exact g_aload_n hf h1 h2 kk
  · split at h
    · obtain ⟨h1, rfl⟩ := oExS_ok h; exact g_istore hf h1 kk
    · cases h
  · split at h
    · obtain ⟨h1, rfl⟩ := oExS_ok h; exact g_istore_n hf h1 kk
    · cases h
  · split at h
    · rename_i q r
      cases hb : Nat.beq q.1 K_OPQ with
      | true => rw [hb] at h; cases h
      | false => rw [hb] at h; obtain ⟨h1, rfl⟩ := oExS_ok h; exact g_astore hf h1 hb kk
    · cases h
  · split at h
    · rename_i q r
      cases hb : Nat.beq q.1 K_OPQ with
      | true => rw [hb] at h; cases h
      | false => rw [hb] at h; obtain ⟨h1, rfl⟩ := oExS_ok h; exact g_astore_n hf h1 hb kk
    · cases h
  · split at h
    · rename_i x hx
      split at h
      · rename_i v hv; obtain ⟨h1, rfl⟩ := oExS_ok h; exact g_iinc hf h1 hx (by rw [oLitC_ok hv]) kk
      · cases h
    · cases h
  · split at h
    · cases h; exact g_iadd hf kk
    · cases h
  · split at h
    · cases h; exact g_isub hf kk
    · cases h
  · split at h
    · cases h; exact g_imul hf kk
    · cases h
  · split at h
    · cases h; exact g_iand hf kk
    · cases h
  · split at h
    · cases h; exact g_ior hf kk
    · cases h
  · split at h
    · cases h; exact g_ixor hf kk
    · cases h
  · split at h
    · cases h; exact g_ishl hf kk
    · cases h
  · split at h
    · cases h; exact g_ishr hf kk
    · cases h
  · split at h
    · cases h; exact g_iushr hf kk
    · cases h
  · split at h
    · rename_i y x r
      by_cases hy : y = 0
      · rw [decide_eq_true hy] at h; cases h
      · rw [decide_eq_false hy] at h; cases h; exact g_idiv hf hy kk
    · cases h
  · split at h
    · rename_i y x r
      by_cases hy : y = 0
      · rw [decide_eq_true hy] at h; cases h
      · rw [decide_eq_false hy] at h; cases h; exact g_irem hf hy kk
    · cases h
  · split at h
    · cases h; exact g_ineg hf kk
    · cases h
  · split at h
    · cases h; exact g_i2s hf kk
    · cases h
  · split at h
    · cases h; exact g_i2c hf kk
    · cases h
  · split at h
    · cases h; exact g_dup hf kk
    · cases h
  · split at h
    · cases h; exact g_dup2 hf kk
    · cases h
  · split at h
    · cases h; exact g_pop hf kk
    · cases h
  · cases h; exact g_goto hf kk
  · split at h
    · rename_i kd j r
      split at h
      · rename_i ci f hl
        split at h
        · rename_i cj fds hk
          cases hb : Nat.beq ci cj with
          | false => rw [hb] at h; cases h
          | true =>
            rw [hb] at h
            have e : ci = cj := Nat.eq_of_beq_eq_true hb
            subst e
            simp only [cond_true] at h
            split at h
            · rename_i hn; cases h
              exact g_get (fd := none) hf hl hk (by rw [← oNth_eq]; exact hn) rfl kk
            · rename_i k' b hn; cases h
              refine g_get (fd := some (k', 0, b)) hf hl hk (by rw [← oNth_eq]; exact hn) ?_ kk
              show Sum.inr (k', b) = Sum.inr (k', 0 * j + b)
              rw [Nat.zero_mul, Nat.zero_add]
            · rename_i k' hn; cases h
              refine g_get (fd := some (k', 1, 0)) hf hl hk (by rw [← oNth_eq]; exact hn) ?_ kk
              show Sum.inr (k', j) = Sum.inr (k', 1 * j + 0)
              rw [Nat.one_mul, Nat.add_zero]
            · rename_i k' b hn; cases h
              refine g_get (fd := some (k', 1, b + 1)) hf hl hk (by rw [← oNth_eq]; exact hn) ?_ kk
              show Sum.inr (k', j + (b + 1)) = Sum.inr (k', 1 * j + (b + 1))
              rw [Nat.one_mul]
            · rename_i k' a b hn; cases h
              exact g_get (fd := some (k', a + 2, b)) hf hl hk (by rw [← oNth_eq]; exact hn) rfl kk
            · cases h
        · cases h
      · cases h
    · cases h
  · split at h
    · rename_i v kd j r
      split at h
      · rename_i ci f hl
        split at h
        · rename_i cj fds hk
          cases hb : (Nat.beq ci cj && oPutOk ci f) with
          | false => rw [hb] at h; cases h
          | true =>
            rw [hb] at h
            rw [Bool.and_eq_true] at hb
            have e : ci = cj := Nat.eq_of_beq_eq_true hb.1
            subst e
            obtain ⟨p1, p2⟩ := oPutOk_ok hb.2
            simp only [cond_true] at h
            split at h
            · rename_i hn; cases h
              exact g_put hf hl hk (by rw [← oNth_eq]; exact hn) p1 (by rw [p2]; rfl) (by rw [p2]; rfl) kk
            · cases h
        · cases h
      · cases h
    · cases h
  · cases h
theorem oRun_ok : ∀ (n : Nat) {pc : Nat} {ls : List (Option oV)} {st : List oV} {M : oM} {pc' : Nat} {ls' : List (Option oV)} {st' : List oV} {M' : oM}, oRun k n pc ls st M = some (pc', ls', st', M') → oG k d pc' ls' st' M' Q → oG k d pc ls st M Q
  | 0, pc, ls, st, M, pc', ls', st', M', h, kk => by
    cases h
    exact kk
  | n + 1, pc, ls, st, M, pc', ls', st', M', h, kk => by
    unfold oRun at h
    split at h
    · rename_i pc1 ls1 st1 M1 h1
      have k1 := oRun_ok n h kk
      unfold oSt at h1
      split at h1
      · rename_i I nx tg hf
        exact oEx_ok hf h1 k1
      · cases h1
    · cases h
end RUN
end
section
/-! ===== switches, System.arraycopy ===== -/
def oSwG (k d : Nat) (ls : List (Option oV)) (st : List oV) (M : oM) (Q : Option Int32 → oM → Prop) (x : Int32) : List (Int32 × Nat) → Prop
  | [] => True
  | (v, t) :: r => (x = v → oG k d t ls st M Q) ∧ oSwG k d ls st M Q x r
theorem oSwG_at {k d : Nat} {ls : List (Option oV)} {st : List oV} {M : oM} {Q : Option Int32 → oM → Prop} {x : Int32} : ∀ (cs : List (Int32 × Nat)) (j : Nat) (v : Int32) (t : Nat), oSwG k d ls st M Q x cs → cs[j]? = some (v, t) → x = v → oG k d t ls st M Q
  | [], j, v, t, _, h, _ => by simp at h
  | q :: r, 0, v, t, h, hj, hx => by
    have : q = (v, t) := by simpa using hj
    subst this
    exact h.1 hx
  | q :: r, j + 1, v, t, h, hj, hx => oSwG_at r j v t h.2 (by simpa using hj) hx
def oTswOk (pc : Nat) (dflt lo hi : Int) (offs : List Int) : List (Int32 × Nat) → Int → Bool
  | [], v => decide (offs = []) && decide (v = hi + 1)
  | (w, t) :: r, v => decide (w.toInt = v) && (match offs with
    | o :: os => decide ((pc : Int) + o = (t : Int)) && oTswOk pc dflt lo hi os r (v + 1)
    | [] => false)
theorem oTsw_at {pc : Nat} {dflt lo hi : Int} : ∀ (cs : List (Int32 × Nat)) (offs : List Int) (v : Int), oTswOk pc dflt lo hi offs cs v = true → (v ≤ hi + 1) ∧ (∀ q ∈ cs, v ≤ q.1.toInt ∧ q.1.toInt ≤ hi) ∧ ∀ (x : Int), v ≤ x → x ≤ hi → ∃ (w : Int32) (t : Nat) (o : Int), cs[(x - v).toNat]? = some (w, t) ∧ offs[(x - v).toNat]? = some o ∧ w.toInt = x ∧ (pc : Int) + o = (t : Int)
  | [], offs, v, h => by
    simp only [oTswOk, Bool.and_eq_true, decide_eq_true_eq] at h
    refine ⟨by omega, fun q hq => (by cases hq), fun x h1 h2 => by omega⟩
  | (w, t) :: r, offs, v, h => by
    unfold oTswOk at h
    rw [Bool.and_eq_true, decide_eq_true_eq] at h
    obtain ⟨hw, h⟩ := h
    cases offs with
    | nil => cases h
    | cons o os =>
      simp only [Bool.and_eq_true, decide_eq_true_eq] at h
      obtain ⟨a1, a2, a3⟩ := oTsw_at r os (v + 1) h.2
      refine ⟨by omega, fun q hq => ?_, fun x h1 h2 => ?_⟩
      · rcases List.mem_cons.mp hq with rfl | hq
        · dsimp only
          omega
        · have := a2 q hq
          omega
      · by_cases hx : x = v
        · subst hx
          rw [Int.sub_self]
          exact ⟨w, t, o, rfl, rfl, hw, h.1⟩
        · obtain ⟨w', t', o', b1, b2, b3, b4⟩ := a3 x (by omega) h2
          rw [show (x - v).toNat = (x - (v + 1)).toNat + 1 by omega]
          exact ⟨w', t', o', by simpa using b1, by simpa using b2, b3, b4⟩
theorem g_tsw {k d pc nx tg : Nat} {ls : List (Option oV)} {st : List oV} {M : oM} {Q : Option Int32 → oM → Prop} {x : Int32} {dflt lo hi : Int} {offs : Array Int} (cs : List (Int32 × Nat)) (df : Nat) (hf : oFt k pc = some (.tableswitch dflt lo hi offs, nx, tg)) (hc : oTswOk pc dflt lo hi offs.toList cs lo = true) (hd : (pc : Int) + dflt = (df : Int)) (kin : oSwG k d ls st M Q x cs) (kout : (∀ q ∈ cs, ¬ x = q.1) → oG k d df ls st M Q) : oG k d pc ls (.inl x :: st) M Q := by
  intro A p l e R s m args below meth c E H locs la cs' sl Z C hE hR hS hP hv h1 h2 h3
  have h4 := (oFt_row C.2.2.2.2.2.2.2.2.2.2.2.2 hf).1
  obtain ⟨a1, a2, a3⟩ := oTsw_at cs offs.toList lo hc
  by_cases hx : x.toInt < lo ∨ hi < x.toInt
  · refine lv_tableOut C.1 C.2.1 h4 hx hd ?_
    refine kout (fun q hq he => ?_) A p l e R s m args below meth c E H locs la cs' sl Z C hE hR hS hP hv (oOk_tl h1) h2 h3
    have := a2 q hq
    rw [← he] at this
    omega
  · obtain ⟨w, t, o, b1, b2, b3, b4⟩ := a3 x.toInt (by omega) (by omega)
    refine lv_tableIn (off := o) (tgt := t) C.1 C.2.1 h4 (by omega) (by omega) (by rw [← Array.getElem?_toList]; exact b2) b4 ?_
    exact oSwG_at cs _ w t kin b1 (Int32.toInt_inj.mp b3.symm) A p l e R s m args below meth c E H locs la cs' sl Z C hE hR hS hP hv (oOk_tl h1) h2 h3
def oLswOk (pc : Nat) : List (Int × Int) → List (Int32 × Nat) → Bool
  | [], [] => true
  | (a, o) :: ps, (w, t) :: cs => decide (w.toInt = a) && decide ((pc : Int) + o = (t : Int)) && oLswOk pc ps cs
  | _, _ => false
theorem oLsw_at {pc : Nat} {dflt : Int} {df : Nat} (hd : (pc : Int) + dflt = (df : Int)) : ∀ (ps : List (Int × Int)) (cs : List (Int32 × Nat)) (x : Int32), oLswOk pc ps cs = true → (∃ (j : Nat) (w : Int32) (t : Nat), cs[j]? = some (w, t) ∧ x = w ∧ (pc : Int) + Op.lookupswitch.offset ps dflt x.toInt = (t : Int)) ∨ ((∀ q ∈ cs, ¬ x = q.1) ∧ (pc : Int) + Op.lookupswitch.offset ps dflt x.toInt = (df : Int))
  | [], [], x, _ => Or.inr ⟨fun q hq => (by cases hq), by simpa [Op.lookupswitch.offset] using hd⟩
  | [], _ :: _, x, h => by cases h
  | _ :: _, [], x, h => by cases h
  | (a, o) :: ps, (w, t) :: cs, x, h => by
    simp only [oLswOk, Bool.and_eq_true, decide_eq_true_eq] at h
    obtain ⟨⟨hw, ht⟩, hr⟩ := h
    rw [Op.lookupswitch.offset_cons]
    by_cases hx : a = x.toInt
    · rw [if_pos hx]
      exact Or.inl ⟨0, w, t, rfl, Int32.toInt_inj.mp (by rw [hw, hx]), ht⟩
    · rw [if_neg hx]
      rcases oLsw_at hd ps cs x hr with ⟨j, w', t', b1, b2, b3⟩ | ⟨b1, b2⟩
      · exact Or.inl ⟨j + 1, w', t', by simpa using b1, b2, b3⟩
      · refine Or.inr ⟨fun q hq he => ?_, b2⟩
        rcases List.mem_cons.mp hq with rfl | hq
        · exact hx (by rw [he]; exact hw.symm)
        · exact b1 q hq he
theorem g_lsw {k d pc nx tg : Nat} {ls : List (Option oV)} {st : List oV} {M : oM} {Q : Option Int32 → oM → Prop} {x : Int32} {dflt : Int} {ps : Array (Int × Int)} (cs : List (Int32 × Nat)) (df : Nat) (hf : oFt k pc = some (.lookupswitch dflt ps, nx, tg)) (hs : (ps.toList.zip (ps.toList.drop 1)).all (fun (a, next) => a.1 < next.1) = true) (hc : oLswOk pc ps.toList cs = true) (hd : (pc : Int) + dflt = (df : Int)) (kin : oSwG k d ls st M Q x cs) (kout : (∀ q ∈ cs, ¬ x = q.1) → oG k d df ls st M Q) : oG k d pc ls (.inl x :: st) M Q := by
  intro A p l e R s m args below meth c E H locs la cs' sl Z C hE hR hS hP hv h1 h2 h3
  have h4 := (oFt_row C.2.2.2.2.2.2.2.2.2.2.2.2 hf).1
  rcases oLsw_at hd ps.toList cs x hc with ⟨j, w, t, b1, b2, b3⟩ | ⟨b1, b2⟩
  · refine lv_lookup (tgt := t) C.1 C.2.1 h4 hs rfl b3 ?_
    exact oSwG_at cs j w t kin b1 b2 A p l e R s m args below meth c E H locs la cs' sl Z C hE hR hS hP hv (oOk_tl h1) h2 h3
  · refine lv_lookup (tgt := df) C.1 C.2.1 h4 hs rfl b2 ?_
    exact kout b1 A p l e R s m args below meth c E H locs la cs' sl Z C hE hR hS hP hv (oOk_tl h1) h2 h3
-- System.arraycopy of ints
def oCp (M : oM) (k0 i0 k1 i1 sp dp n : Nat) : oM := fun k' => if k' = k1 then (fun i' => if i' = i1 then va_cpy (M k0 i0) (M k1 i1) sp dp n else M k1 i') else M k'
theorem oCp_ne {M : oM} {k0 i0 k1 i1 sp dp n : Nat} {k' i' : Nat} (h : ¬ (k' = k1 ∧ i' = i1)) : oCp M k0 i0 k1 i1 sp dp n k' i' = M k' i' := by
  unfold oCp
  by_cases hk : k' = k1
  · subst hk
    have hi : ¬ i' = i1 := fun q => h ⟨rfl, q⟩
    rw [if_pos rfl, if_neg hi]
  · rw [if_neg hk]
theorem oCp_at {M : oM} {k0 i0 k1 i1 sp dp n : Nat} : oCp M k0 i0 k1 i1 sp dp n k1 i1 = va_cpy (M k0 i0) (M k1 i1) sp dp n := by
  unfold oCp
  rw [if_pos rfl, if_pos rfl]
def oAcL : List (Nat × Nat × Nat) := [(9, 347, 905), (5, 28, 923)]
theorem oAcL_ok : oAcL.all (fun q => decide (tables_1[q.2.2]? = some (.methodLink (oCN q.1) q.2.1 arraycopyName))) = true := by decide +kernel
theorem oW_acn : Cond.native arraycopyName ∈ oGT := oGT_of (List.mem_of_getElem? (i := 907) (by decide +kernel)) rfl
theorem oW_acs : Cond.static arraycopyName ∈ oGT := oGT_of (List.mem_of_getElem? (i := 906) (by decide +kernel)) rfl
theorem oW_aci : Cond.initialized "java/lang/System" ∈ oGT := oGT_of (List.mem_of_getElem? (i := 19) (by decide +kernel)) rfl
theorem g_copy {k d pc nx tg : Nat} {ls : List (Option oV)} {st : List oV} {M : oM} {Q : Option Int32 → oM → Prop} {idx ps : Nat} (sp dp n : Nat) {k0 i0 n0 k1 i1 n1 : Nat} {a b c0 : Int32} (hf : oFt k pc = some (.invokestatic idx, nx, tg)) (hl : (oMO k, idx, ps) ∈ oAcL) (hd : 2 ≤ d) (hst : Nat.ble st.length 8 = true) (h0 : oKD k0 = .inr (0, n0, none)) (h1k : oKD k1 = .inr (0, n1, none)) (ha : a = nI sp) (hb : b = nI dp) (hc : c0 = nI n) (hs0 : sp + n ≤ n0) (hs1 : dp + n ≤ n1)
    (kk : oG k d nx ls st (oCp M k0 i0 k1 i1 sp dp n) Q) : oG k d pc ls (.inl c0 :: .inl b :: .inr (k1, i1) :: .inl a :: .inr (k0, i0) :: st) M Q := by
  intro A p l e R s m args below meth c E H locs la cs sl Z C hE hR hS hP hlv h1 h2 h3
  obtain ⟨h4, rfl⟩ := oFt_dec (n := 2) hf rfl C.2.2.2.2.2.2.2.2.2.2.2.2
  have hov := C.2.2.2.2.2.2.2.2.1.2.2.2.2.2.2.2.1
  have hk0 := oKD_lt h0
  have hk1 := oKD_lt h1k
  have hi0 : i0 < oCnt k0 := h1 (.inr (k0, i0)) (by simp)
  have hi1 : i1 < oCnt k1 := h1 (.inr (k1, i1)) (by simp)
  obtain ⟨q0, hq0⟩ := oPK_at hk0 hi0
  obtain ⟨q1, hq1⟩ := oPK_at hk1 hi1
  have hw0 := oWS_at (E := E) (M := M) hq0
  have hw1 := oWS_at (E := E) (M := M) hq1
  rw [oEnt_arr h0] at hw0
  rw [oEnt_arr h1k] at hw1
  have b0 := (oKD_arr h0).1
  have b1 := (oKD_arr h1k).1
  subst ha
  subst hb
  subst hc
  have cl : ∀ z : Nat, z ≤ 2000 → (nI z).toNatClampNeg = z := fun z hz => nI_clamp (by omega)
  have hts := C.2.2.2.2.2.2.1
  have hlink := List.all_eq_true.mp oAcL_ok _ hl
  simp only [decide_eq_true_eq] at hlink
  have hD : va_D A (oWS E M) := (oWS_D C.2.2.2.2.2.2.2.2.2.2.1).weaken (fun _ q _ h => C.2.2.2.2.2.2.2.2.2.2.2.1 q.1 h)
  simp only [List.map_cons]
  show W p l e R s m args below meth c H locs cs sl Z (F0 m pc la (.int (nI n) :: .int (nI dp) :: oRfv E k1 i1 :: .int (nI sp) :: oRfv E k0 i0 :: _))
  rw [oRfv_ref hk0, oRfv_ref hk1]
  refine va_copyi (ty := .int) (D := E.1) C.1 C.2.1 (by rw [C.2.2.1]; exact hlv.1.symm) C.2.2.2.2.2.1 (hts _ (oGT_of (List.mem_of_getElem? hlink) rfl)) (hts _ oW_acn) (hts _ oW_acs) (hts _ oW_aci) C.2.2.2.2.2.2.2.1 hP.1 hD hS q0 q1 0 0 hw0 hw1 rfl rfl rfl (nI_pos (by omega)) (nI_pos (by omega)) (nI_pos (by omega)) (by rw [cl sp (by omega), cl n (by omega)]; exact hs0) (by rw [cl dp (by omega), cl n (by omega)]; exact hs1) (fun i hi => rfl) (by omega) ?_ h4 (fun H1 locs1 hP1 hD1 hS1 => ?_)
  · rw [oSum_le hov]
    have := Nat.le_of_ble_eq_true hst
    have hnf : nativeFrameWords "java/lang/System" "arraycopy" 5 + 11 ≤ 70 := by decide +kernel
    omega
  · rw [cl sp (by omega), cl dp (by omega), cl n (by omega), ← oCp_at, ← oEnt_arr h1k, oWS_set hq1 (fun k' i' hne => oCp_ne hne)] at hP1
    refine kk A p l e R s m args below meth c E H1 locs1 la cs sl Z C hE hR hS1 ⟨hP1, ?_⟩ hlv (fun v hv => h1 v (by simp [hv])) h2 h3
    have e : ∀ i', oCp M k0 i0 k1 i1 sp dp n K_SCR i' = M K_SCR i' := fun i' => oCp_ne (fun q => by have := q.1; unfold oNK at hk1; unfold K_SCR at this; omega)
    have hsc := hP.2
    unfold oScr at hsc ⊢
    rw [e, e]
    exact hsc
end
section
/-! ===== numbers ===== -/
def bI (b : Bool) : Int32 := if b then 1 else 0
theorem bI_0 {P : Prop} [Decidable P] : bI (decide P) = 0 ↔ ¬ P := by
  unfold bI
  by_cases h : P <;> simp [h]
theorem bI_1 {P : Prop} [Decidable P] : bI (decide P) = 1 ↔ P := by
  unfold bI
  by_cases h : P <;> simp [h]
theorem bI_t {P : Prop} [Decidable P] (h : P) : bI (decide P) = 1 := bI_1.mpr h
theorem bI_f {P : Prop} [Decidable P] (h : ¬ P) : bI (decide P) = 0 := bI_0.mpr h
theorem bI_n (b : Bool) : narrow .boolean (.int (bI b)) = .int (bI b) := by cases b <;> rfl
theorem iLe {a b : Int32} : a ≤ b ↔ a.toInt ≤ b.toInt := Int32.le_iff_toInt_le
theorem iLt {a b : Int32} : a < b ↔ a.toInt < b.toInt := Int32.lt_iff_toInt_lt
theorem iEq {a b : Int32} : a = b ↔ a.toInt = b.toInt := Int32.toInt_inj.symm
theorem iRng (a : Int32) : -2147483648 ≤ a.toInt ∧ a.toInt < 2147483648 := by
  have h1 := Int32.le_toInt a
  have h2 := Int32.toInt_lt a
  omega
theorem bmod_id {x : Int} (h1 : -2147483648 ≤ x) (h2 : x < 2147483648) : x.bmod (2 ^ 32) = x := by
  rw [Int.bmod_eq_of_le] <;> omega
theorem iAdd {a b : Int32} (h : -2147483648 ≤ a.toInt + b.toInt ∧ a.toInt + b.toInt < 2147483648) : (a + b).toInt = a.toInt + b.toInt := by
  rw [Int32.toInt_add, bmod_id h.1 h.2]
theorem iSub {a b : Int32} (h : -2147483648 ≤ a.toInt - b.toInt ∧ a.toInt - b.toInt < 2147483648) : (a - b).toInt = a.toInt - b.toInt := by
  rw [Int32.toInt_sub, bmod_id h.1 h.2]
theorem iMul {a b : Int32} (h : -2147483648 ≤ a.toInt * b.toInt ∧ a.toInt * b.toInt < 2147483648) : (a * b).toInt = a.toInt * b.toInt := by
  rw [Int32.toInt_mul, bmod_id h.1 h.2]
theorem iNeg {a : Int32} (h : -2147483648 < a.toInt) : (-a).toInt = -a.toInt := by
  rw [Int32.toInt_neg, bmod_id (by have := iRng a; omega) (by omega)]
theorem iDiv {a b : Int32} (h : -2147483648 < a.toInt ∨ b.toInt ≠ -1) : (a / b).toInt = a.toInt.tdiv b.toInt := by
  rw [Int32.toInt_div]
  have ha := iRng a
  have hb := iRng b
  by_cases h1 : b.toInt = -1
  · rw [h1, Int.tdiv_neg, Int.tdiv_one, bmod_id] <;> omega
  · have hx : (a.toInt.tdiv b.toInt).natAbs ≤ a.toInt.natAbs := by
      rw [Int.natAbs_tdiv]
      exact Nat.div_le_self _ _
    by_cases h2 : a.toInt = -2147483648
    · by_cases h3 : b.toInt = 0
      · rw [h3, Int.tdiv_zero]
        rfl
      · by_cases h4 : b.toInt = 1
        · rw [h4, Int.tdiv_one, bmod_id] <;> omega
        · have hy : (a.toInt.tdiv b.toInt).natAbs ≤ 1073741824 := by
            rw [Int.natAbs_tdiv]
            have : 2 ≤ b.toInt.natAbs := by omega
            exact Nat.le_trans (Nat.div_le_div_left this (by omega)) (by rw [h2]; decide)
          rw [bmod_id] <;> omega
    · rw [bmod_id] <;> omega
theorem nI_ofInt {v : Int32} (h : 0 ≤ v.toInt) : v = nI v.toInt.toNat := by
  have := iRng v
  rw [iEq, nI_toInt (show v.toInt.toNat < 2 ^ 31 by omega)]
  omega
/-- a number that is not below 0 and below n -/
theorem nI_ex {v : Int32} {n : Nat} (h : 0 ≤ v.toInt) (h2 : v.toInt < n) : ∃ j, j < n ∧ v = nI j := ⟨v.toInt.toNat, by omega, nI_ofInt h⟩
theorem nIt {n : Nat} (h : n < 2147483648) : (nI n).toInt = n := nI_toInt (h)
theorem nIc {n : Nat} (h : n < 2147483648) : (nI n).toNatClampNeg = n := nI_clamp (h)
theorem nIe {a b : Nat} (ha : a < 2147483648) (hb : b < 2147483648) : nI a = nI b ↔ a = b := nI_eq ha hb
theorem nIle {a b : Nat} (ha : a < 2147483648) (hb : b < 2147483648) : nI a ≤ nI b ↔ a ≤ b := nI_leI ha hb
theorem nIlt {a b : Nat} (ha : a < 2147483648) (hb : b < 2147483648) : nI a < nI b ↔ a < b := nI_ltI ha hb
theorem nIdiv {a d : Nat} (ha : a < 2147483648) (h0 : 0 < d) (hd : d < 2147483648) : nI a / nI d = nI (a / d) := pk_div ha h0 hd
theorem nIrem {a d : Nat} (ha : a < 2147483648) (h0 : 0 < d) (hd : d < 2147483648) : oRem (nI a) (nI d) = nI (a % d) := pk_rem ha h0 hd
theorem nIsub {a b : Nat} (h : b ≤ a) : nI a - nI b = nI (a - b) := pk_sub h
theorem oRem_toInt {a b : Int32} (hb : ¬ b = 0) : (oRem a b).toInt = a.toInt.tmod b.toInt := by
  unfold oRem
  have ha := iRng a
  have hb' := iRng b
  have hb0 : b.toInt ≠ 0 := fun h => hb (iEq.mpr (by rw [h]; rfl))
  have key : (a.toInt - a.toInt.tdiv b.toInt * b.toInt) = a.toInt.tmod b.toInt := by
    rw [Int.tmod_def, Int.mul_comm]
  have hm1 : (a.toInt.tmod b.toInt).natAbs < b.toInt.natAbs := by
    rw [Int.natAbs_tmod]
    exact Nat.mod_lt _ (by omega)
  by_cases h : -2147483648 < a.toInt ∨ b.toInt ≠ -1
  · have hd := iDiv h
    have hq : (a.toInt.tdiv b.toInt * b.toInt).natAbs ≤ a.toInt.natAbs := by
      rw [Int.natAbs_mul, Int.natAbs_tdiv]
      exact Nat.div_mul_le_self _ _
    have hmul : ((a / b) * b).toInt = a.toInt.tdiv b.toInt * b.toInt ∨ ((a / b) * b).toInt = a.toInt.tdiv b.toInt * b.toInt - 4294967296 := by
      by_cases h5 : a.toInt.tdiv b.toInt * b.toInt < 2147483648
      · left
        rw [iMul (by rw [hd]; omega), hd]
      · right
        have h6 : a.toInt.tdiv b.toInt * b.toInt = 2147483648 := by omega
        rw [Int32.toInt_mul, hd, h6]
        rfl
    rw [Int32.toInt_sub]
    rcases hmul with h7 | h7
    · rw [h7, key, bmod_id] <;> omega
    · rw [h7, show a.toInt - (a.toInt.tdiv b.toInt * b.toInt - 4294967296) = a.toInt.tmod b.toInt + 4294967296 by omega]
      rw [show (4294967296 : Int) = ((2 ^ 32 : Nat) : Int) by decide, Int.add_bmod_right, bmod_id] <;> omega
  · have ha0 : a = -2147483648 := iEq.mpr (by have : (-2147483648 : Int32).toInt = -2147483648 := rfl
                                              omega)
    have hb1 : b = -1 := iEq.mpr (by have : (-1 : Int32).toInt = -1 := rfl
                                     omega)
    subst ha0
    subst hb1
    rfl
end
section
def f_Math_abs (a0 : Int32) : Int32 := if 0 ≤ a0 then a0 else -a0
theorem c_Math_abs (M : oM) (a0 : Int32) : oCt 0 k_Math_abs [.inl a0] M (fun r M' => r = some (f_Math_abs a0) ∧ M' = M) := by
  refine oCt.of (ls := [some (.inl a0)]) mok_Math_abs rfl rfl ?_
  refine oRun_ok 1 rfl ?_
  refine g_if_ge rfl (fun h1 => ?_) (fun h1 => ?_)
  ·
    refine oRun_ok 1 rfl ?_
    exact g_iret rfl rfl rfl ⟨by unfold f_Math_abs; rw [if_pos h1], rfl⟩
  ·
    refine oRun_ok 3 rfl ?_
    exact g_iret rfl rfl rfl ⟨by unfold f_Math_abs; rw [if_neg h1], rfl⟩
def f_Math_min (a0 a1 : Int32) : Int32 := if a1 < a0 then a1 else a0
theorem c_Math_min (M : oM) (a0 a1 : Int32) : oCt 0 k_Math_min [.inl a0, .inl a1] M (fun r M' => r = some (f_Math_min a0 a1) ∧ M' = M) := by
  refine oCt.of (ls := [some (.inl a0), some (.inl a1)]) mok_Math_min rfl rfl ?_
  refine oRun_ok 2 rfl ?_
  refine g_ic_gt rfl (fun h2 => ?_) (fun h2 => ?_)
  ·
    refine oRun_ok 1 rfl ?_
    exact g_iret rfl rfl rfl ⟨by unfold f_Math_min; rw [if_pos h2], rfl⟩
  ·
    refine oRun_ok 2 rfl ?_
    exact g_iret rfl rfl rfl ⟨by unfold f_Math_min; rw [if_neg h2], rfl⟩
def f_Math_max (a0 a1 : Int32) : Int32 := if a0 < a1 then a1 else a0
theorem c_Math_max (M : oM) (a0 a1 : Int32) : oCt 0 k_Math_max [.inl a0, .inl a1] M (fun r M' => r = some (f_Math_max a0 a1) ∧ M' = M) := by
  refine oCt.of (ls := [some (.inl a0), some (.inl a1)]) mok_Math_max rfl rfl ?_
  refine oRun_ok 2 rfl ?_
  refine g_ic_lt rfl (fun h2 => ?_) (fun h2 => ?_)
  ·
    refine oRun_ok 1 rfl ?_
    exact g_iret rfl rfl rfl ⟨by unfold f_Math_max; rw [if_pos h2], rfl⟩
  ·
    refine oRun_ok 2 rfl ?_
    exact g_iret rfl rfl rfl ⟨by unfold f_Math_max; rw [if_neg h2], rfl⟩
def f_Math_floorDiv (a0 a1 : Int32) : Int32 := if 0 ≤ (a0 ^^^ a1) then a0 / a1 else (if ((a0 / a1) * a1) = a0 then a0 / a1 else (a0 / a1) - 1)
theorem c_Math_floorDiv (M : oM) (a0 a1 : Int32) (H2 : ¬ a1 = 0) : oCt 0 k_Math_floorDiv [.inl a0, .inl a1] M (fun r M' => r = some (f_Math_floorDiv a0 a1) ∧ M' = M) := by
  refine oCt.of (ls := [some (.inl a0), some (.inl a1), none]) mok_Math_floorDiv rfl rfl ?_
  refine oRun_ok 2 rfl ?_
  refine g_idiv rfl H2 ?_
  refine oRun_ok 4 rfl ?_
  refine g_if_ge rfl (fun h7 => ?_) (fun h7 => ?_)
  ·
    refine oRun_ok 1 rfl ?_
    exact g_iret rfl rfl rfl ⟨by unfold f_Math_floorDiv; rw [if_pos h7], rfl⟩
  ·
    refine oRun_ok 4 rfl ?_
    refine g_ic_eq rfl (fun h14 => ?_) (fun h14 => ?_)
    ·
      refine oRun_ok 1 rfl ?_
      exact g_iret rfl rfl rfl ⟨by unfold f_Math_floorDiv; rw [if_neg h7, if_pos h14], rfl⟩
    ·
      refine oRun_ok 3 rfl ?_
      exact g_iret rfl rfl rfl ⟨by unfold f_Math_floorDiv; rw [if_neg h7, if_neg h14], rfl⟩
def f_Integer_bitCount (a0 : Int32) : Int32 := (((((((a0 - ((oUshr a0 1) &&& 1431655765)) &&& 858993459) + ((oUshr (a0 - ((oUshr a0 1) &&& 1431655765)) 2) &&& 858993459)) + (oUshr (((a0 - ((oUshr a0 1) &&& 1431655765)) &&& 858993459) + ((oUshr (a0 - ((oUshr a0 1) &&& 1431655765)) 2) &&& 858993459)) 4)) &&& 252645135) + (oUshr (((((a0 - ((oUshr a0 1) &&& 1431655765)) &&& 858993459) + ((oUshr (a0 - ((oUshr a0 1) &&& 1431655765)) 2) &&& 858993459)) + (oUshr (((a0 - ((oUshr a0 1) &&& 1431655765)) &&& 858993459) + ((oUshr (a0 - ((oUshr a0 1) &&& 1431655765)) 2) &&& 858993459)) 4)) &&& 252645135) 8)) + (oUshr ((((((a0 - ((oUshr a0 1) &&& 1431655765)) &&& 858993459) + ((oUshr (a0 - ((oUshr a0 1) &&& 1431655765)) 2) &&& 858993459)) + (oUshr (((a0 - ((oUshr a0 1) &&& 1431655765)) &&& 858993459) + ((oUshr (a0 - ((oUshr a0 1) &&& 1431655765)) 2) &&& 858993459)) 4)) &&& 252645135) + (oUshr (((((a0 - ((oUshr a0 1) &&& 1431655765)) &&& 858993459) + ((oUshr (a0 - ((oUshr a0 1) &&& 1431655765)) 2) &&& 858993459)) + (oUshr (((a0 - ((oUshr a0 1) &&& 1431655765)) &&& 858993459) + ((oUshr (a0 - ((oUshr a0 1) &&& 1431655765)) 2) &&& 858993459)) 4)) &&& 252645135) 8)) 16)) &&& 63
theorem c_Integer_bitCount (M : oM) (a0 : Int32) : oCt 0 k_Integer_bitCount [.inl a0] M (fun r M' => r = some (f_Integer_bitCount a0) ∧ M' = M) := by
  refine oCt.of (ls := [some (.inl a0)]) mok_Integer_bitCount rfl rfl ?_
  refine oRun_ok 41 rfl ?_
  exact g_iret rfl rfl rfl ⟨by unfold f_Integer_bitCount; rfl, rfl⟩
def f_Oak_isWithin (a0 a1 a2 : Int32) : Int32 := if a0 < a1 then 0 else (if a2 < a0 then 0 else 1)
theorem c_Oak_isWithin (M : oM) (a0 a1 a2 : Int32) : oCt 0 k_Oak_isWithin [.inl a0, .inl a1, .inl a2] M (fun r M' => r = some (f_Oak_isWithin a0 a1 a2) ∧ M' = M) := by
  refine oCt.of (ls := [some (.inl a0), some (.inl a1), some (.inl a2)]) mok_Oak_isWithin rfl rfl ?_
  refine oRun_ok 2 rfl ?_
  refine g_ic_lt rfl (fun h2 => ?_) (fun h2 => ?_)
  ·
    refine oRun_ok 1 rfl ?_
    exact g_iret rfl rfl rfl ⟨by unfold f_Oak_isWithin; rw [if_pos h2], rfl⟩
  ·
    refine oRun_ok 2 rfl ?_
    refine g_ic_gt rfl (fun h7 => ?_) (fun h7 => ?_)
    ·
      refine oRun_ok 1 rfl ?_
      exact g_iret rfl rfl rfl ⟨by unfold f_Oak_isWithin; rw [if_neg h2, if_pos h7], rfl⟩
    ·
      refine oRun_ok 2 rfl ?_
      exact g_iret rfl rfl rfl ⟨by unfold f_Oak_isWithin; rw [if_neg h2, if_neg h7], rfl⟩
theorem n_Oak_isWithin (a0 a1 a2 : Int32) : narrow .boolean (.int (f_Oak_isWithin a0 a1 a2)) = .int (f_Oak_isWithin a0 a1 a2) := by
  unfold f_Oak_isWithin
  first | rfl | (repeat' split) <;> first | rfl | apply n_Math_abs | apply n_Math_min | apply n_Math_max | apply n_Math_floorDiv | apply n_Integer_bitCount
def f_Oak_isStonePlace (a0 a1 : Int32) : Int32 := if (f_Oak_isWithin a0 ((-99)) 99) = 0 then 0 else (if (f_Oak_isWithin a1 ((-99)) 99) = 0 then 0 else 1)
theorem c_Oak_isStonePlace (M : oM) (a0 a1 : Int32) : oCt 1 k_Oak_isStonePlace [.inl a0, .inl a1] M (fun r M' => r = some (f_Oak_isStonePlace a0 a1) ∧ M' = M) := by
  refine oCt.of (ls := [some (.inl a0), some (.inl a1)]) mok_Oak_isStonePlace rfl rfl ?_
  refine oRun_ok 3 rfl ?_
  refine g_callS rfl rfl rfl rfl mok_Oak_isWithin (by decide) (c_Oak_isWithin M a0 ((-99)) 99) ?_
  rintro r5 M5 ⟨rfl, e5⟩; rw [e5]
  refine g_if_eq rfl (fun h8 => ?_) (fun h8 => ?_)
  ·
    refine oRun_ok 1 rfl ?_
    exact g_iret rfl rfl rfl ⟨by unfold f_Oak_isStonePlace; rw [if_pos h8], rfl⟩
  ·
    refine oRun_ok 3 rfl ?_
    refine g_callS rfl rfl rfl rfl mok_Oak_isWithin (by decide) (c_Oak_isWithin M a1 ((-99)) 99) ?_
    rintro r16 M16 ⟨rfl, e16⟩; rw [e16]
    refine g_if_eq rfl (fun h19 => ?_) (fun h19 => ?_)
    ·
      refine oRun_ok 1 rfl ?_
      exact g_iret rfl rfl rfl ⟨by unfold f_Oak_isStonePlace; rw [if_neg h8, if_pos h19], rfl⟩
    ·
      refine oRun_ok 2 rfl ?_
      exact g_iret rfl rfl rfl ⟨by unfold f_Oak_isStonePlace; rw [if_neg h8, if_neg h19], rfl⟩
theorem n_Oak_isStonePlace (a0 a1 : Int32) : narrow .boolean (.int (f_Oak_isStonePlace a0 a1)) = .int (f_Oak_isStonePlace a0 a1) := by
  unfold f_Oak_isStonePlace
  first | rfl | (repeat' split) <;> first | rfl | apply n_Math_abs | apply n_Math_min | apply n_Math_max | apply n_Math_floorDiv | apply n_Integer_bitCount | apply n_Oak_isWithin
def f_Oak_isCell (a0 : Int32) : Int32 := if a0 < 0 then 0 else (if 30 ≤ (a0 / 100) then 0 else (if 30 ≤ (oRem a0 100) then 0 else 1))
theorem c_Oak_isCell (M : oM) (a0 : Int32) : oCt 0 k_Oak_isCell [.inl a0] M (fun r M' => r = some (f_Oak_isCell a0) ∧ M' = M) := by
  refine oCt.of (ls := [some (.inl a0)]) mok_Oak_isCell rfl rfl ?_
  refine oRun_ok 1 rfl ?_
  refine g_if_lt rfl (fun h1 => ?_) (fun h1 => ?_)
  ·
    refine oRun_ok 1 rfl ?_
    exact g_iret rfl rfl rfl ⟨by unfold f_Oak_isCell; rw [if_pos h1], rfl⟩
  ·
    refine oRun_ok 4 rfl ?_
    refine g_ic_ge rfl (fun h10 => ?_) (fun h10 => ?_)
    ·
      refine oRun_ok 1 rfl ?_
      exact g_iret rfl rfl rfl ⟨by unfold f_Oak_isCell; rw [if_neg h1, if_pos h10], rfl⟩
    ·
      refine oRun_ok 4 rfl ?_
      refine g_ic_ge rfl (fun h19 => ?_) (fun h19 => ?_)
      ·
        refine oRun_ok 1 rfl ?_
        exact g_iret rfl rfl rfl ⟨by unfold f_Oak_isCell; rw [if_neg h1, if_neg h10, if_pos h19], rfl⟩
      ·
        refine oRun_ok 2 rfl ?_
        exact g_iret rfl rfl rfl ⟨by unfold f_Oak_isCell; rw [if_neg h1, if_neg h10, if_neg h19], rfl⟩
theorem n_Oak_isCell (a0 : Int32) : narrow .boolean (.int (f_Oak_isCell a0)) = .int (f_Oak_isCell a0) := by
  unfold f_Oak_isCell
  first | rfl | (repeat' split) <;> first | rfl | apply n_Math_abs | apply n_Math_min | apply n_Math_max | apply n_Math_floorDiv | apply n_Integer_bitCount | apply n_Oak_isWithin | apply n_Oak_isStonePlace
def f_Oak_isYear (a0 : Int32) : Int32 := f_Oak_isWithin a0 0 999
theorem c_Oak_isYear (M : oM) (a0 : Int32) : oCt 1 k_Oak_isYear [.inl a0] M (fun r M' => r = some (f_Oak_isYear a0) ∧ M' = M) := by
  refine oCt.of (ls := [some (.inl a0)]) mok_Oak_isYear rfl rfl ?_
  refine oRun_ok 3 rfl ?_
  refine g_callS rfl rfl rfl rfl mok_Oak_isWithin (by decide) (c_Oak_isWithin M a0 0 999) ?_
  rintro r5 M5 ⟨rfl, e5⟩; rw [e5]
  exact g_iret rfl rfl (n_Oak_isWithin a0 0 999) ⟨by unfold f_Oak_isYear; rfl, rfl⟩
theorem n_Oak_isYear (a0 : Int32) : narrow .boolean (.int (f_Oak_isYear a0)) = .int (f_Oak_isYear a0) := by
  unfold f_Oak_isYear
  first | rfl | (repeat' split) <;> first | rfl | apply n_Math_abs | apply n_Math_min | apply n_Math_max | apply n_Math_floorDiv | apply n_Integer_bitCount | apply n_Oak_isWithin | apply n_Oak_isStonePlace | apply n_Oak_isCell
def f_Oak_isSlack (a0 : Int32) : Int32 := f_Oak_isWithin a0 ((-9)) 9
theorem c_Oak_isSlack (M : oM) (a0 : Int32) : oCt 1 k_Oak_isSlack [.inl a0] M (fun r M' => r = some (f_Oak_isSlack a0) ∧ M' = M) := by
  refine oCt.of (ls := [some (.inl a0)]) mok_Oak_isSlack rfl rfl ?_
  refine oRun_ok 3 rfl ?_
  refine g_callS rfl rfl rfl rfl mok_Oak_isWithin (by decide) (c_Oak_isWithin M a0 ((-9)) 9) ?_
  rintro r5 M5 ⟨rfl, e5⟩; rw [e5]
  exact g_iret rfl rfl (n_Oak_isWithin a0 ((-9)) 9) ⟨by unfold f_Oak_isSlack; rfl, rfl⟩
theorem n_Oak_isSlack (a0 : Int32) : narrow .boolean (.int (f_Oak_isSlack a0)) = .int (f_Oak_isSlack a0) := by
  unfold f_Oak_isSlack
  first | rfl | (repeat' split) <;> first | rfl | apply n_Math_abs | apply n_Math_min | apply n_Math_max | apply n_Math_floorDiv | apply n_Integer_bitCount | apply n_Oak_isWithin | apply n_Oak_isStonePlace | apply n_Oak_isCell | apply n_Oak_isYear
def f_Oak_isKind (a0 : Int32) : Int32 := f_Oak_isWithin a0 0 5
theorem c_Oak_isKind (M : oM) (a0 : Int32) : oCt 1 k_Oak_isKind [.inl a0] M (fun r M' => r = some (f_Oak_isKind a0) ∧ M' = M) := by
  refine oCt.of (ls := [some (.inl a0)]) mok_Oak_isKind rfl rfl ?_
  refine oRun_ok 3 rfl ?_
  refine g_callS rfl rfl rfl rfl mok_Oak_isWithin (by decide) (c_Oak_isWithin M a0 0 5) ?_
  rintro r3 M3 ⟨rfl, e3⟩; rw [e3]
  exact g_iret rfl rfl (n_Oak_isWithin a0 0 5) ⟨by unfold f_Oak_isKind; rfl, rfl⟩
theorem n_Oak_isKind (a0 : Int32) : narrow .boolean (.int (f_Oak_isKind a0)) = .int (f_Oak_isKind a0) := by
  unfold f_Oak_isKind
  first | rfl | (repeat' split) <;> first | rfl | apply n_Math_abs | apply n_Math_min | apply n_Math_max | apply n_Math_floorDiv | apply n_Integer_bitCount | apply n_Oak_isWithin | apply n_Oak_isStonePlace | apply n_Oak_isCell | apply n_Oak_isYear | apply n_Oak_isSlack
def f_Oak_isRun (a0 : Int32) : Int32 := if a0 < 0 then 0 else (if 8 ≤ (a0 / 100) then 0 else (if (f_Oak_isWithin (oRem a0 100) 1 20) = 0 then 0 else 1))
theorem c_Oak_isRun (M : oM) (a0 : Int32) : oCt 1 k_Oak_isRun [.inl a0] M (fun r M' => r = some (f_Oak_isRun a0) ∧ M' = M) := by
  refine oCt.of (ls := [some (.inl a0)]) mok_Oak_isRun rfl rfl ?_
  refine oRun_ok 1 rfl ?_
  refine g_if_lt rfl (fun h1 => ?_) (fun h1 => ?_)
  ·
    refine oRun_ok 1 rfl ?_
    exact g_iret rfl rfl rfl ⟨by unfold f_Oak_isRun; rw [if_pos h1], rfl⟩
  ·
    refine oRun_ok 4 rfl ?_
    refine g_ic_ge rfl (fun h10 => ?_) (fun h10 => ?_)
    ·
      refine oRun_ok 1 rfl ?_
      exact g_iret rfl rfl rfl ⟨by unfold f_Oak_isRun; rw [if_neg h1, if_pos h10], rfl⟩
    ·
      refine oRun_ok 5 rfl ?_
      refine g_callS rfl rfl rfl rfl mok_Oak_isWithin (by decide) (c_Oak_isWithin M (oRem a0 100) 1 20) ?_
      rintro r20 M20 ⟨rfl, e20⟩; rw [e20]
      refine g_if_eq rfl (fun h23 => ?_) (fun h23 => ?_)
      ·
        refine oRun_ok 1 rfl ?_
        exact g_iret rfl rfl rfl ⟨by unfold f_Oak_isRun; rw [if_neg h1, if_neg h10, if_pos h23], rfl⟩
      ·
        refine oRun_ok 2 rfl ?_
        exact g_iret rfl rfl rfl ⟨by unfold f_Oak_isRun; rw [if_neg h1, if_neg h10, if_neg h23], rfl⟩
theorem n_Oak_isRun (a0 : Int32) : narrow .boolean (.int (f_Oak_isRun a0)) = .int (f_Oak_isRun a0) := by
  unfold f_Oak_isRun
  first | rfl | (repeat' split) <;> first | rfl | apply n_Math_abs | apply n_Math_min | apply n_Math_max | apply n_Math_floorDiv | apply n_Integer_bitCount | apply n_Oak_isWithin | apply n_Oak_isStonePlace | apply n_Oak_isCell | apply n_Oak_isYear | apply n_Oak_isSlack | apply n_Oak_isKind
def f_Oak_isSheet (a0 : Int32) : Int32 := f_Oak_isWithin a0 0 3
theorem c_Oak_isSheet (M : oM) (a0 : Int32) : oCt 1 k_Oak_isSheet [.inl a0] M (fun r M' => r = some (f_Oak_isSheet a0) ∧ M' = M) := by
  refine oCt.of (ls := [some (.inl a0)]) mok_Oak_isSheet rfl rfl ?_
  refine oRun_ok 3 rfl ?_
  refine g_callS rfl rfl rfl rfl mok_Oak_isWithin (by decide) (c_Oak_isWithin M a0 0 3) ?_
  rintro r3 M3 ⟨rfl, e3⟩; rw [e3]
  exact g_iret rfl rfl (n_Oak_isWithin a0 0 3) ⟨by unfold f_Oak_isSheet; rfl, rfl⟩
theorem n_Oak_isSheet (a0 : Int32) : narrow .boolean (.int (f_Oak_isSheet a0)) = .int (f_Oak_isSheet a0) := by
  unfold f_Oak_isSheet
  first | rfl | (repeat' split) <;> first | rfl | apply n_Math_abs | apply n_Math_min | apply n_Math_max | apply n_Math_floorDiv | apply n_Integer_bitCount | apply n_Oak_isWithin | apply n_Oak_isStonePlace | apply n_Oak_isCell | apply n_Oak_isYear | apply n_Oak_isSlack | apply n_Oak_isKind | apply n_Oak_isRun
def f_Oak_isSlot (a0 : Int32) : Int32 := f_Oak_isWithin a0 0 4
theorem c_Oak_isSlot (M : oM) (a0 : Int32) : oCt 1 k_Oak_isSlot [.inl a0] M (fun r M' => r = some (f_Oak_isSlot a0) ∧ M' = M) := by
  refine oCt.of (ls := [some (.inl a0)]) mok_Oak_isSlot rfl rfl ?_
  refine oRun_ok 3 rfl ?_
  refine g_callS rfl rfl rfl rfl mok_Oak_isWithin (by decide) (c_Oak_isWithin M a0 0 4) ?_
  rintro r3 M3 ⟨rfl, e3⟩; rw [e3]
  exact g_iret rfl rfl (n_Oak_isWithin a0 0 4) ⟨by unfold f_Oak_isSlot; rfl, rfl⟩
theorem n_Oak_isSlot (a0 : Int32) : narrow .boolean (.int (f_Oak_isSlot a0)) = .int (f_Oak_isSlot a0) := by
  unfold f_Oak_isSlot
  first | rfl | (repeat' split) <;> first | rfl | apply n_Math_abs | apply n_Math_min | apply n_Math_max | apply n_Math_floorDiv | apply n_Integer_bitCount | apply n_Oak_isWithin | apply n_Oak_isStonePlace | apply n_Oak_isCell | apply n_Oak_isYear | apply n_Oak_isSlack | apply n_Oak_isKind | apply n_Oak_isRun | apply n_Oak_isSheet
def f_Oak_worthOf (a0 a1 a2 : Int32) : Int32 := if a0 = 1 then a2 + a1 else (if a0 = 2 then 50 else (if a0 = 3 then 2 * (a2 + a1) else (if a0 = 4 then 50 + a2 else (if a0 = 5 then -a2 else a2))))
theorem c_Oak_worthOf (M : oM) (a0 a1 a2 : Int32) : oCt 0 k_Oak_worthOf [.inl a0, .inl a1, .inl a2] M (fun r M' => r = some (f_Oak_worthOf a0 a1 a2) ∧ M' = M) := by
  refine oCt.of (ls := [some (.inl a0), some (.inl a1), some (.inl a2)]) mok_Oak_worthOf rfl rfl ?_
  refine oRun_ok 1 rfl ?_
  refine g_tsw [(1, 36), (2, 46), (3, 40), (4, 49), (5, 54)] 57 rfl (by decide +kernel) rfl ⟨fun h1 => ?_, fun h1 => ?_, fun h1 => ?_, fun h1 => ?_, fun h1 => ?_, trivial⟩ (fun h1 => ?_)
  ·
    refine oRun_ok 3 rfl ?_
    exact g_iret rfl rfl rfl ⟨by unfold f_Oak_worthOf; rw [if_pos h1], rfl⟩
  ·
    have n1_0 : ¬ a0 = 1 := by rw [h1]; decide
    refine oRun_ok 1 rfl ?_
    exact g_iret rfl rfl rfl ⟨by unfold f_Oak_worthOf; rw [if_neg n1_0, if_pos h1], rfl⟩
  ·
    have n1_0 : ¬ a0 = 1 := by rw [h1]; decide
    have n1_1 : ¬ a0 = 2 := by rw [h1]; decide
    refine oRun_ok 5 rfl ?_
    exact g_iret rfl rfl rfl ⟨by unfold f_Oak_worthOf; rw [if_neg n1_0, if_neg n1_1, if_pos h1], rfl⟩
  ·
    have n1_0 : ¬ a0 = 1 := by rw [h1]; decide
    have n1_1 : ¬ a0 = 2 := by rw [h1]; decide
    have n1_2 : ¬ a0 = 3 := by rw [h1]; decide
    refine oRun_ok 3 rfl ?_
    exact g_iret rfl rfl rfl ⟨by unfold f_Oak_worthOf; rw [if_neg n1_0, if_neg n1_1, if_neg n1_2, if_pos h1], rfl⟩
  ·
    have n1_0 : ¬ a0 = 1 := by rw [h1]; decide
    have n1_1 : ¬ a0 = 2 := by rw [h1]; decide
    have n1_2 : ¬ a0 = 3 := by rw [h1]; decide
    have n1_3 : ¬ a0 = 4 := by rw [h1]; decide
    refine oRun_ok 2 rfl ?_
    exact g_iret rfl rfl rfl ⟨by unfold f_Oak_worthOf; rw [if_neg n1_0, if_neg n1_1, if_neg n1_2, if_neg n1_3, if_pos h1], rfl⟩
  ·
    have n1_0 : ¬ a0 = 1 := h1 (1, 36) (by decide)
    have n1_1 : ¬ a0 = 2 := h1 (2, 46) (by decide)
    have n1_2 : ¬ a0 = 3 := h1 (3, 40) (by decide)
    have n1_3 : ¬ a0 = 4 := h1 (4, 49) (by decide)
    have n1_4 : ¬ a0 = 5 := h1 (5, 54) (by decide)
    refine oRun_ok 1 rfl ?_
    exact g_iret rfl rfl rfl ⟨by unfold f_Oak_worthOf; rw [if_neg n1_0, if_neg n1_1, if_neg n1_2, if_neg n1_3, if_neg n1_4], rfl⟩
def f_Oak_trueOf (a0 a1 : Int32) : Int32 := (a0 * (100 + a1)) / 100
theorem c_Oak_trueOf (M : oM) (a0 a1 : Int32) : oCt 0 k_Oak_trueOf [.inl a0, .inl a1] M (fun r M' => r = some (f_Oak_trueOf a0 a1) ∧ M' = M) := by
  refine oCt.of (ls := [some (.inl a0), some (.inl a1)]) mok_Oak_trueOf rfl rfl ?_
  refine oRun_ok 7 rfl ?_
  exact g_iret rfl rfl rfl ⟨by unfold f_Oak_trueOf; rfl, rfl⟩
def f_Oak_farApart (a0 a1 a2 a3 : Int32) : Int32 := (f_Math_abs (a0 - a2)) + (f_Math_abs (a1 - a3))
theorem c_Oak_farApart (M : oM) (a0 a1 a2 a3 : Int32) : oCt 1 k_Oak_farApart [.inl a0, .inl a1, .inl a2, .inl a3] M (fun r M' => r = some (f_Oak_farApart a0 a1 a2 a3) ∧ M' = M) := by
  refine oCt.of (ls := [some (.inl a0), some (.inl a1), some (.inl a2), some (.inl a3)]) mok_Oak_farApart rfl rfl ?_
  refine oRun_ok 3 rfl ?_
  refine g_callS rfl rfl rfl rfl mok_Math_abs (by decide) (c_Math_abs M (a0 - a2)) ?_
  rintro r3 M3 ⟨rfl, e3⟩; rw [e3]
  refine oRun_ok 3 rfl ?_
  refine g_callS rfl rfl rfl rfl mok_Math_abs (by decide) (c_Math_abs M (a1 - a3)) ?_
  rintro r9 M9 ⟨rfl, e9⟩; rw [e9]
  refine oRun_ok 1 rfl ?_
  exact g_iret rfl rfl rfl ⟨by unfold f_Oak_farApart; rfl, rfl⟩
def f_Oak_isLetter (a0 : Int32) : Int32 := if a0 < 97 then 0 else (if 122 < a0 then 0 else 1)
theorem c_Oak_isLetter (M : oM) (a0 : Int32) : oCt 0 k_Oak_isLetter [.inl a0] M (fun r M' => r = some (f_Oak_isLetter a0) ∧ M' = M) := by
  refine oCt.of (ls := [some (.inl a0)]) mok_Oak_isLetter rfl rfl ?_
  refine oRun_ok 2 rfl ?_
  refine g_ic_lt rfl (fun h3 => ?_) (fun h3 => ?_)
  ·
    refine oRun_ok 1 rfl ?_
    exact g_iret rfl rfl rfl ⟨by unfold f_Oak_isLetter; rw [if_pos h3], rfl⟩
  ·
    refine oRun_ok 2 rfl ?_
    refine g_ic_gt rfl (fun h9 => ?_) (fun h9 => ?_)
    ·
      refine oRun_ok 1 rfl ?_
      exact g_iret rfl rfl rfl ⟨by unfold f_Oak_isLetter; rw [if_neg h3, if_pos h9], rfl⟩
    ·
      refine oRun_ok 2 rfl ?_
      exact g_iret rfl rfl rfl ⟨by unfold f_Oak_isLetter; rw [if_neg h3, if_neg h9], rfl⟩
theorem n_Oak_isLetter (a0 : Int32) : narrow .boolean (.int (f_Oak_isLetter a0)) = .int (f_Oak_isLetter a0) := by
  unfold f_Oak_isLetter
  first | rfl | (repeat' split) <;> first | rfl | apply n_Math_abs | apply n_Math_min | apply n_Math_max | apply n_Math_floorDiv | apply n_Integer_bitCount | apply n_Oak_isWithin | apply n_Oak_isStonePlace | apply n_Oak_isCell | apply n_Oak_isYear | apply n_Oak_isSlack | apply n_Oak_isKind | apply n_Oak_isRun | apply n_Oak_isSheet | apply n_Oak_isSlot | apply n_Oak_worthOf | apply n_Oak_trueOf | apply n_Oak_farApart
def f_Laws_joined (a0 a1 a2 : Int32) : Int32 := if a0 = 38 then (if a1 = 0 then 0 else (if a2 = 0 then 0 else 1)) else (if a0 = 42 then a1 * a2 else (if a0 = 43 then a1 + a2 else (if a0 = 45 then a1 - a2 else (if a0 = 60 then (if a2 ≤ a1 then 0 else 1) else (if a0 = 61 then (if a1 = a2 then 1 else 0) else (if a0 = 62 then (if a1 ≤ a2 then 0 else 1) else (if a0 = 124 then (if a1 = 0 then (if a2 = 0 then 0 else 1) else 1) else (if a2 = 0 then 0 else a1 / a2))))))))
theorem c_Laws_joined (M : oM) (a0 a1 a2 : Int32) : oCt 0 k_Laws_joined [.inl a0, .inl a1, .inl a2] M (fun r M' => r = some (f_Laws_joined a0 a1 a2) ∧ M' = M) := by
  refine oCt.of (ls := [some (.inl a0), some (.inl a1), some (.inl a2)]) mok_Laws_joined rfl rfl ?_
  refine oRun_ok 1 rfl ?_
  refine g_lsw [(38, 90), (42, 145), (43, 137), (45, 141), (60, 104), (61, 115), (62, 126), (124, 76)] 149 rfl (by decide +kernel) (by decide +kernel) rfl ⟨fun h1 => ?_, fun h1 => ?_, fun h1 => ?_, fun h1 => ?_, fun h1 => ?_, fun h1 => ?_, fun h1 => ?_, fun h1 => ?_, trivial⟩ (fun h1 => ?_)
  ·
    refine oRun_ok 1 rfl ?_
    refine g_if_eq rfl (fun h91 => ?_) (fun h91 => ?_)
    ·
      refine oRun_ok 1 rfl ?_
      exact g_iret rfl rfl rfl ⟨by unfold f_Laws_joined; rw [if_pos h1, if_pos h91], rfl⟩
    ·
      refine oRun_ok 1 rfl ?_
      refine g_if_eq rfl (fun h95 => ?_) (fun h95 => ?_)
      ·
        refine oRun_ok 1 rfl ?_
        exact g_iret rfl rfl rfl ⟨by unfold f_Laws_joined; rw [if_pos h1, if_neg h91, if_pos h95], rfl⟩
      ·
        refine oRun_ok 2 rfl ?_
        exact g_iret rfl rfl rfl ⟨by unfold f_Laws_joined; rw [if_pos h1, if_neg h91, if_neg h95], rfl⟩
  ·
    have n1_0 : ¬ a0 = 38 := by rw [h1]; decide
    refine oRun_ok 3 rfl ?_
    exact g_iret rfl rfl rfl ⟨by unfold f_Laws_joined; rw [if_neg n1_0, if_pos h1], rfl⟩
  ·
    have n1_0 : ¬ a0 = 38 := by rw [h1]; decide
    have n1_1 : ¬ a0 = 42 := by rw [h1]; decide
    refine oRun_ok 3 rfl ?_
    exact g_iret rfl rfl rfl ⟨by unfold f_Laws_joined; rw [if_neg n1_0, if_neg n1_1, if_pos h1], rfl⟩
  ·
    have n1_0 : ¬ a0 = 38 := by rw [h1]; decide
    have n1_1 : ¬ a0 = 42 := by rw [h1]; decide
    have n1_2 : ¬ a0 = 43 := by rw [h1]; decide
    refine oRun_ok 3 rfl ?_
    exact g_iret rfl rfl rfl ⟨by unfold f_Laws_joined; rw [if_neg n1_0, if_neg n1_1, if_neg n1_2, if_pos h1], rfl⟩
  ·
    have n1_0 : ¬ a0 = 38 := by rw [h1]; decide
    have n1_1 : ¬ a0 = 42 := by rw [h1]; decide
    have n1_2 : ¬ a0 = 43 := by rw [h1]; decide
    have n1_3 : ¬ a0 = 45 := by rw [h1]; decide
    refine oRun_ok 2 rfl ?_
    refine g_ic_ge rfl (fun h106 => ?_) (fun h106 => ?_)
    ·
      refine oRun_ok 1 rfl ?_
      exact g_iret rfl rfl rfl ⟨by unfold f_Laws_joined; rw [if_neg n1_0, if_neg n1_1, if_neg n1_2, if_neg n1_3, if_pos h1, if_pos h106], rfl⟩
    ·
      refine oRun_ok 2 rfl ?_
      exact g_iret rfl rfl rfl ⟨by unfold f_Laws_joined; rw [if_neg n1_0, if_neg n1_1, if_neg n1_2, if_neg n1_3, if_pos h1, if_neg h106], rfl⟩
  ·
    have n1_0 : ¬ a0 = 38 := by rw [h1]; decide
    have n1_1 : ¬ a0 = 42 := by rw [h1]; decide
    have n1_2 : ¬ a0 = 43 := by rw [h1]; decide
    have n1_3 : ¬ a0 = 45 := by rw [h1]; decide
    have n1_4 : ¬ a0 = 60 := by rw [h1]; decide
    refine oRun_ok 2 rfl ?_
    refine g_ic_ne rfl (fun h117 => ?_) (fun h117 => ?_)
    ·
      refine oRun_ok 1 rfl ?_
      exact g_iret rfl rfl rfl ⟨by unfold f_Laws_joined; rw [if_neg n1_0, if_neg n1_1, if_neg n1_2, if_neg n1_3, if_neg n1_4, if_pos h1, if_neg h117], rfl⟩
    ·
      refine oRun_ok 2 rfl ?_
      exact g_iret rfl rfl rfl ⟨by unfold f_Laws_joined; rw [if_neg n1_0, if_neg n1_1, if_neg n1_2, if_neg n1_3, if_neg n1_4, if_pos h1, if_pos h117], rfl⟩
  ·
    have n1_0 : ¬ a0 = 38 := by rw [h1]; decide
    have n1_1 : ¬ a0 = 42 := by rw [h1]; decide
    have n1_2 : ¬ a0 = 43 := by rw [h1]; decide
    have n1_3 : ¬ a0 = 45 := by rw [h1]; decide
    have n1_4 : ¬ a0 = 60 := by rw [h1]; decide
    have n1_5 : ¬ a0 = 61 := by rw [h1]; decide
    refine oRun_ok 2 rfl ?_
    refine g_ic_le rfl (fun h128 => ?_) (fun h128 => ?_)
    ·
      refine oRun_ok 1 rfl ?_
      exact g_iret rfl rfl rfl ⟨by unfold f_Laws_joined; rw [if_neg n1_0, if_neg n1_1, if_neg n1_2, if_neg n1_3, if_neg n1_4, if_neg n1_5, if_pos h1, if_pos h128], rfl⟩
    ·
      refine oRun_ok 2 rfl ?_
      exact g_iret rfl rfl rfl ⟨by unfold f_Laws_joined; rw [if_neg n1_0, if_neg n1_1, if_neg n1_2, if_neg n1_3, if_neg n1_4, if_neg n1_5, if_pos h1, if_neg h128], rfl⟩
  ·
    have n1_0 : ¬ a0 = 38 := by rw [h1]; decide
    have n1_1 : ¬ a0 = 42 := by rw [h1]; decide
    have n1_2 : ¬ a0 = 43 := by rw [h1]; decide
    have n1_3 : ¬ a0 = 45 := by rw [h1]; decide
    have n1_4 : ¬ a0 = 60 := by rw [h1]; decide
    have n1_5 : ¬ a0 = 61 := by rw [h1]; decide
    have n1_6 : ¬ a0 = 62 := by rw [h1]; decide
    refine oRun_ok 1 rfl ?_
    refine g_if_ne rfl (fun h77 => ?_) (fun h77 => ?_)
    ·
      refine oRun_ok 2 rfl ?_
      exact g_iret rfl rfl rfl ⟨by unfold f_Laws_joined; rw [if_neg n1_0, if_neg n1_1, if_neg n1_2, if_neg n1_3, if_neg n1_4, if_neg n1_5, if_neg n1_6, if_pos h1, if_neg h77], rfl⟩
    ·
      refine oRun_ok 1 rfl ?_
      refine g_if_eq rfl (fun h81 => ?_) (fun h81 => ?_)
      ·
        refine oRun_ok 1 rfl ?_
        exact g_iret rfl rfl rfl ⟨by unfold f_Laws_joined; rw [if_neg n1_0, if_neg n1_1, if_neg n1_2, if_neg n1_3, if_neg n1_4, if_neg n1_5, if_neg n1_6, if_pos h1, if_pos h77, if_pos h81], rfl⟩
      ·
        refine oRun_ok 2 rfl ?_
        exact g_iret rfl rfl rfl ⟨by unfold f_Laws_joined; rw [if_neg n1_0, if_neg n1_1, if_neg n1_2, if_neg n1_3, if_neg n1_4, if_neg n1_5, if_neg n1_6, if_pos h1, if_pos h77, if_neg h81], rfl⟩
  ·
    have n1_0 : ¬ a0 = 38 := h1 (38, 90) (by decide)
    have n1_1 : ¬ a0 = 42 := h1 (42, 145) (by decide)
    have n1_2 : ¬ a0 = 43 := h1 (43, 137) (by decide)
    have n1_3 : ¬ a0 = 45 := h1 (45, 141) (by decide)
    have n1_4 : ¬ a0 = 60 := h1 (60, 104) (by decide)
    have n1_5 : ¬ a0 = 61 := h1 (61, 115) (by decide)
    have n1_6 : ¬ a0 = 62 := h1 (62, 126) (by decide)
    have n1_7 : ¬ a0 = 124 := h1 (124, 76) (by decide)
    refine oRun_ok 1 rfl ?_
    refine g_if_ne rfl (fun h150 => ?_) (fun h150 => ?_)
    ·
      refine oRun_ok 2 rfl ?_
      refine g_idiv rfl h150 ?_
      exact g_iret rfl rfl rfl ⟨by unfold f_Laws_joined; rw [if_neg n1_0, if_neg n1_1, if_neg n1_2, if_neg n1_3, if_neg n1_4, if_neg n1_5, if_neg n1_6, if_neg n1_7, if_neg h150], rfl⟩
    ·
      refine oRun_ok 2 rfl ?_
      exact g_iret rfl rfl rfl ⟨by unfold f_Laws_joined; rw [if_neg n1_0, if_neg n1_1, if_neg n1_2, if_neg n1_3, if_neg n1_4, if_neg n1_5, if_neg n1_6, if_neg n1_7, if_pos h150], rfl⟩
def f_Reader_sortOf (a0 : Int32) : Int32 := if (f_Oak_isLetter a0) = 0 then (if a0 < 48 then 3 else (if 57 < a0 then 3 else 2)) else 1
theorem c_Reader_sortOf (M : oM) (a0 : Int32) : oCt 1 k_Reader_sortOf [.inl a0] M (fun r M' => r = some (f_Reader_sortOf a0) ∧ M' = M) := by
  refine oCt.of (ls := [some (.inl a0)]) mok_Reader_sortOf rfl rfl ?_
  refine oRun_ok 1 rfl ?_
  refine g_callSN rfl rfl rfl rfl mok_Oak_isLetter (by decide) (c_Oak_isLetter M a0) ?_
  rintro r1 M1 ⟨rfl, e1⟩; rw [e1]
  refine g_if_eq rfl (fun h4 => ?_) (fun h4 => ?_)
  ·
    refine oRun_ok 2 rfl ?_
    refine g_ic_lt rfl (fun h12 => ?_) (fun h12 => ?_)
    ·
      refine oRun_ok 1 rfl ?_
      exact g_iret rfl rfl rfl ⟨by unfold f_Reader_sortOf; rw [if_pos h4, if_pos h12], rfl⟩
    ·
      refine oRun_ok 2 rfl ?_
      refine g_ic_gt rfl (fun h18 => ?_) (fun h18 => ?_)
      ·
        refine oRun_ok 1 rfl ?_
        exact g_iret rfl rfl rfl ⟨by unfold f_Reader_sortOf; rw [if_pos h4, if_neg h12, if_pos h18], rfl⟩
      ·
        refine oRun_ok 2 rfl ?_
        exact g_iret rfl rfl rfl ⟨by unfold f_Reader_sortOf; rw [if_pos h4, if_neg h12, if_neg h18], rfl⟩
  ·
    refine oRun_ok 1 rfl ?_
    exact g_iret rfl rfl rfl ⟨by unfold f_Reader_sortOf; rw [if_neg h4], rfl⟩
def f_Mod_in (a0 a1 a2 : Int32) : Int32 := if a0 < a1 then 0 else (if a2 < a0 then 0 else 1)
theorem c_Mod_in (M : oM) (a0 a1 a2 : Int32) : oCt 0 k_Mod_in [.inl a0, .inl a1, .inl a2] M (fun r M' => r = some (f_Mod_in a0 a1 a2) ∧ M' = M) := by
  refine oCt.of (ls := [some (.inl a0), some (.inl a1), some (.inl a2)]) mok_Mod_in rfl rfl ?_
  refine oRun_ok 2 rfl ?_
  refine g_ic_lt rfl (fun h2 => ?_) (fun h2 => ?_)
  ·
    refine oRun_ok 1 rfl ?_
    exact g_iret rfl rfl rfl ⟨by unfold f_Mod_in; rw [if_pos h2], rfl⟩
  ·
    refine oRun_ok 2 rfl ?_
    refine g_ic_gt rfl (fun h7 => ?_) (fun h7 => ?_)
    ·
      refine oRun_ok 1 rfl ?_
      exact g_iret rfl rfl rfl ⟨by unfold f_Mod_in; rw [if_neg h2, if_pos h7], rfl⟩
    ·
      refine oRun_ok 2 rfl ?_
      exact g_iret rfl rfl rfl ⟨by unfold f_Mod_in; rw [if_neg h2, if_neg h7], rfl⟩
theorem n_Mod_in (a0 a1 a2 : Int32) : narrow .boolean (.int (f_Mod_in a0 a1 a2)) = .int (f_Mod_in a0 a1 a2) := by
  unfold f_Mod_in
  first | rfl | (repeat' split) <;> first | rfl | apply n_Math_abs | apply n_Math_min | apply n_Math_max | apply n_Math_floorDiv | apply n_Integer_bitCount | apply n_Oak_isWithin | apply n_Oak_isStonePlace | apply n_Oak_isCell | apply n_Oak_isYear | apply n_Oak_isSlack | apply n_Oak_isKind | apply n_Oak_isRun | apply n_Oak_isSheet | apply n_Oak_isSlot | apply n_Oak_worthOf | apply n_Oak_trueOf | apply n_Oak_farApart | apply n_Oak_isLetter | apply n_Laws_joined | apply n_Reader_sortOf
def f_Mod_within (a0 a1 a2 : Int32) : Int32 := if a1 ≤ a0 then (if a0 ≤ a2 then a0 else a2) else a1
theorem c_Mod_within (M : oM) (a0 a1 a2 : Int32) : oCt 0 k_Mod_within [.inl a0, .inl a1, .inl a2] M (fun r M' => r = some (f_Mod_within a0 a1 a2) ∧ M' = M) := by
  refine oCt.of (ls := [some (.inl a0), some (.inl a1), some (.inl a2)]) mok_Mod_within rfl rfl ?_
  refine oRun_ok 2 rfl ?_
  refine g_ic_ge rfl (fun h2 => ?_) (fun h2 => ?_)
  ·
    refine oRun_ok 2 rfl ?_
    refine g_ic_le rfl (fun h11 => ?_) (fun h11 => ?_)
    ·
      refine oRun_ok 1 rfl ?_
      exact g_iret rfl rfl rfl ⟨by unfold f_Mod_within; rw [if_pos h2, if_pos h11], rfl⟩
    ·
      refine oRun_ok 2 rfl ?_
      exact g_iret rfl rfl rfl ⟨by unfold f_Mod_within; rw [if_pos h2, if_neg h11], rfl⟩
  ·
    refine oRun_ok 2 rfl ?_
    exact g_iret rfl rfl rfl ⟨by unfold f_Mod_within; rw [if_neg h2], rfl⟩
def f_Mod_size (a0 : Int32) : Int32 := if 0 ≤ a0 then a0 else -a0
theorem c_Mod_size (M : oM) (a0 : Int32) : oCt 0 k_Mod_size [.inl a0] M (fun r M' => r = some (f_Mod_size a0) ∧ M' = M) := by
  refine oCt.of (ls := [some (.inl a0)]) mok_Mod_size rfl rfl ?_
  refine oRun_ok 1 rfl ?_
  refine g_if_ge rfl (fun h1 => ?_) (fun h1 => ?_)
  ·
    refine oRun_ok 1 rfl ?_
    exact g_iret rfl rfl rfl ⟨by unfold f_Mod_size; rw [if_pos h1], rfl⟩
  ·
    refine oRun_ok 3 rfl ?_
    exact g_iret rfl rfl rfl ⟨by unfold f_Mod_size; rw [if_neg h1], rfl⟩
def f_Mod_isSpot (a0 a1 : Int32) : Int32 := if (f_Mod_in a0 ((-99)) 99) = 0 then 0 else (if (f_Mod_in a1 ((-99)) 99) = 0 then 0 else 1)
theorem c_Mod_isSpot (M : oM) (a0 a1 : Int32) : oCt 1 k_Mod_isSpot [.inl a0, .inl a1] M (fun r M' => r = some (f_Mod_isSpot a0 a1) ∧ M' = M) := by
  refine oCt.of (ls := [some (.inl a0), some (.inl a1)]) mok_Mod_isSpot rfl rfl ?_
  refine oRun_ok 3 rfl ?_
  refine g_callS rfl rfl rfl rfl mok_Mod_in (by decide) (c_Mod_in M a0 ((-99)) 99) ?_
  rintro r5 M5 ⟨rfl, e5⟩; rw [e5]
  refine g_if_eq rfl (fun h8 => ?_) (fun h8 => ?_)
  ·
    refine oRun_ok 1 rfl ?_
    exact g_iret rfl rfl rfl ⟨by unfold f_Mod_isSpot; rw [if_pos h8], rfl⟩
  ·
    refine oRun_ok 3 rfl ?_
    refine g_callS rfl rfl rfl rfl mok_Mod_in (by decide) (c_Mod_in M a1 ((-99)) 99) ?_
    rintro r16 M16 ⟨rfl, e16⟩; rw [e16]
    refine g_if_eq rfl (fun h19 => ?_) (fun h19 => ?_)
    ·
      refine oRun_ok 1 rfl ?_
      exact g_iret rfl rfl rfl ⟨by unfold f_Mod_isSpot; rw [if_neg h8, if_pos h19], rfl⟩
    ·
      refine oRun_ok 2 rfl ?_
      exact g_iret rfl rfl rfl ⟨by unfold f_Mod_isSpot; rw [if_neg h8, if_neg h19], rfl⟩
theorem n_Mod_isSpot (a0 a1 : Int32) : narrow .boolean (.int (f_Mod_isSpot a0 a1)) = .int (f_Mod_isSpot a0 a1) := by
  unfold f_Mod_isSpot
  first | rfl | (repeat' split) <;> first | rfl | apply n_Math_abs | apply n_Math_min | apply n_Math_max | apply n_Math_floorDiv | apply n_Integer_bitCount | apply n_Oak_isWithin | apply n_Oak_isStonePlace | apply n_Oak_isCell | apply n_Oak_isYear | apply n_Oak_isSlack | apply n_Oak_isKind | apply n_Oak_isRun | apply n_Oak_isSheet | apply n_Oak_isSlot | apply n_Oak_worthOf | apply n_Oak_trueOf | apply n_Oak_farApart | apply n_Oak_isLetter | apply n_Laws_joined | apply n_Reader_sortOf | apply n_Mod_in | apply n_Mod_within | apply n_Mod_size
def f_Mod_isCell (a0 : Int32) : Int32 := if a0 < 0 then 0 else (if 30 ≤ (a0 / 100) then 0 else (if 30 ≤ (oRem a0 100) then 0 else 1))
theorem c_Mod_isCell (M : oM) (a0 : Int32) : oCt 0 k_Mod_isCell [.inl a0] M (fun r M' => r = some (f_Mod_isCell a0) ∧ M' = M) := by
  refine oCt.of (ls := [some (.inl a0)]) mok_Mod_isCell rfl rfl ?_
  refine oRun_ok 1 rfl ?_
  refine g_if_lt rfl (fun h1 => ?_) (fun h1 => ?_)
  ·
    refine oRun_ok 1 rfl ?_
    exact g_iret rfl rfl rfl ⟨by unfold f_Mod_isCell; rw [if_pos h1], rfl⟩
  ·
    refine oRun_ok 4 rfl ?_
    refine g_ic_ge rfl (fun h10 => ?_) (fun h10 => ?_)
    ·
      refine oRun_ok 1 rfl ?_
      exact g_iret rfl rfl rfl ⟨by unfold f_Mod_isCell; rw [if_neg h1, if_pos h10], rfl⟩
    ·
      refine oRun_ok 4 rfl ?_
      refine g_ic_ge rfl (fun h19 => ?_) (fun h19 => ?_)
      ·
        refine oRun_ok 1 rfl ?_
        exact g_iret rfl rfl rfl ⟨by unfold f_Mod_isCell; rw [if_neg h1, if_neg h10, if_pos h19], rfl⟩
      ·
        refine oRun_ok 2 rfl ?_
        exact g_iret rfl rfl rfl ⟨by unfold f_Mod_isCell; rw [if_neg h1, if_neg h10, if_neg h19], rfl⟩
theorem n_Mod_isCell (a0 : Int32) : narrow .boolean (.int (f_Mod_isCell a0)) = .int (f_Mod_isCell a0) := by
  unfold f_Mod_isCell
  first | rfl | (repeat' split) <;> first | rfl | apply n_Math_abs | apply n_Math_min | apply n_Math_max | apply n_Math_floorDiv | apply n_Integer_bitCount | apply n_Oak_isWithin | apply n_Oak_isStonePlace | apply n_Oak_isCell | apply n_Oak_isYear | apply n_Oak_isSlack | apply n_Oak_isKind | apply n_Oak_isRun | apply n_Oak_isSheet | apply n_Oak_isSlot | apply n_Oak_worthOf | apply n_Oak_trueOf | apply n_Oak_farApart | apply n_Oak_isLetter | apply n_Laws_joined | apply n_Reader_sortOf | apply n_Mod_in | apply n_Mod_within | apply n_Mod_size | apply n_Mod_isSpot
def f_Mod_isRun (a0 : Int32) : Int32 := if a0 < 0 then 0 else (if 8 ≤ (a0 / 100) then 0 else (if (f_Mod_in (oRem a0 100) 1 20) = 0 then 0 else 1))
theorem c_Mod_isRun (M : oM) (a0 : Int32) : oCt 1 k_Mod_isRun [.inl a0] M (fun r M' => r = some (f_Mod_isRun a0) ∧ M' = M) := by
  refine oCt.of (ls := [some (.inl a0)]) mok_Mod_isRun rfl rfl ?_
  refine oRun_ok 1 rfl ?_
  refine g_if_lt rfl (fun h1 => ?_) (fun h1 => ?_)
  ·
    refine oRun_ok 1 rfl ?_
    exact g_iret rfl rfl rfl ⟨by unfold f_Mod_isRun; rw [if_pos h1], rfl⟩
  ·
    refine oRun_ok 4 rfl ?_
    refine g_ic_ge rfl (fun h10 => ?_) (fun h10 => ?_)
    ·
      refine oRun_ok 1 rfl ?_
      exact g_iret rfl rfl rfl ⟨by unfold f_Mod_isRun; rw [if_neg h1, if_pos h10], rfl⟩
    ·
      refine oRun_ok 5 rfl ?_
      refine g_callS rfl rfl rfl rfl mok_Mod_in (by decide) (c_Mod_in M (oRem a0 100) 1 20) ?_
      rintro r20 M20 ⟨rfl, e20⟩; rw [e20]
      refine g_if_eq rfl (fun h23 => ?_) (fun h23 => ?_)
      ·
        refine oRun_ok 1 rfl ?_
        exact g_iret rfl rfl rfl ⟨by unfold f_Mod_isRun; rw [if_neg h1, if_neg h10, if_pos h23], rfl⟩
      ·
        refine oRun_ok 2 rfl ?_
        exact g_iret rfl rfl rfl ⟨by unfold f_Mod_isRun; rw [if_neg h1, if_neg h10, if_neg h23], rfl⟩
theorem n_Mod_isRun (a0 : Int32) : narrow .boolean (.int (f_Mod_isRun a0)) = .int (f_Mod_isRun a0) := by
  unfold f_Mod_isRun
  first | rfl | (repeat' split) <;> first | rfl | apply n_Math_abs | apply n_Math_min | apply n_Math_max | apply n_Math_floorDiv | apply n_Integer_bitCount | apply n_Oak_isWithin | apply n_Oak_isStonePlace | apply n_Oak_isCell | apply n_Oak_isYear | apply n_Oak_isSlack | apply n_Oak_isKind | apply n_Oak_isRun | apply n_Oak_isSheet | apply n_Oak_isSlot | apply n_Oak_worthOf | apply n_Oak_trueOf | apply n_Oak_farApart | apply n_Oak_isLetter | apply n_Laws_joined | apply n_Reader_sortOf | apply n_Mod_in | apply n_Mod_within | apply n_Mod_size | apply n_Mod_isSpot | apply n_Mod_isCell
def f_Mod_trueBy (a0 a1 : Int32) : Int32 := (a0 * (100 + a1)) / 100
theorem c_Mod_trueBy (M : oM) (a0 a1 : Int32) : oCt 0 k_Mod_trueBy [.inl a0, .inl a1] M (fun r M' => r = some (f_Mod_trueBy a0 a1) ∧ M' = M) := by
  refine oCt.of (ls := [some (.inl a0), some (.inl a1)]) mok_Mod_trueBy rfl rfl ?_
  refine oRun_ok 7 rfl ?_
  exact g_iret rfl rfl rfl ⟨by unfold f_Mod_trueBy; rfl, rfl⟩
def f_Mod_isUnder (a0 a1 : Int32) : Int32 := if a1 = 0 then 1 else (if a0 = a1 then 1 else (if a1 = 1 then (if a0 = 3 then 1 else (if a1 = 2 then (if a0 = 4 then 1 else 0) else 0)) else (if a1 = 2 then (if a0 = 4 then 1 else 0) else 0)))
theorem c_Mod_isUnder (M : oM) (a0 a1 : Int32) : oCt 0 k_Mod_isUnder [.inl a0, .inl a1] M (fun r M' => r = some (f_Mod_isUnder a0 a1) ∧ M' = M) := by
  refine oCt.of (ls := [some (.inl a0), some (.inl a1)]) mok_Mod_isUnder rfl rfl ?_
  refine oRun_ok 1 rfl ?_
  refine g_if_eq rfl (fun h1 => ?_) (fun h1 => ?_)
  ·
    refine oRun_ok 2 rfl ?_
    exact g_iret rfl rfl rfl ⟨by unfold f_Mod_isUnder; rw [if_pos h1], rfl⟩
  ·
    refine oRun_ok 2 rfl ?_
    refine g_ic_eq rfl (fun h6 => ?_) (fun h6 => ?_)
    ·
      refine oRun_ok 2 rfl ?_
      exact g_iret rfl rfl rfl ⟨by unfold f_Mod_isUnder; rw [if_neg h1, if_pos h6], rfl⟩
    ·
      refine oRun_ok 2 rfl ?_
      refine g_ic_ne rfl (fun h11 => ?_) (fun h11 => ?_)
      ·
        refine oRun_ok 2 rfl ?_
        refine g_ic_ne rfl (fun h21 => ?_) (fun h21 => ?_)
        ·
          refine oRun_ok 1 rfl ?_
          exact g_iret rfl rfl rfl ⟨by unfold f_Mod_isUnder; rw [if_neg h1, if_neg h6, if_neg h11, if_neg h21], rfl⟩
        ·
          refine oRun_ok 2 rfl ?_
          refine g_ic_ne rfl (fun h26 => ?_) (fun h26 => ?_)
          ·
            refine oRun_ok 1 rfl ?_
            exact g_iret rfl rfl rfl ⟨by unfold f_Mod_isUnder; rw [if_neg h1, if_neg h6, if_neg h11, if_pos h21, if_neg h26], rfl⟩
          ·
            refine oRun_ok 2 rfl ?_
            exact g_iret rfl rfl rfl ⟨by unfold f_Mod_isUnder; rw [if_neg h1, if_neg h6, if_neg h11, if_pos h21, if_pos h26], rfl⟩
      ·
        refine oRun_ok 2 rfl ?_
        refine g_ic_eq rfl (fun h16 => ?_) (fun h16 => ?_)
        ·
          refine oRun_ok 2 rfl ?_
          exact g_iret rfl rfl rfl ⟨by unfold f_Mod_isUnder; rw [if_neg h1, if_neg h6, if_pos h11, if_pos h16], rfl⟩
        ·
          refine oRun_ok 2 rfl ?_
          refine g_ic_ne rfl (fun h21 => ?_) (fun h21 => ?_)
          ·
            refine oRun_ok 1 rfl ?_
            exact g_iret rfl rfl rfl ⟨by unfold f_Mod_isUnder; rw [if_neg h1, if_neg h6, if_pos h11, if_neg h16, if_neg h21], rfl⟩
          ·
            refine oRun_ok 2 rfl ?_
            refine g_ic_ne rfl (fun h26 => ?_) (fun h26 => ?_)
            ·
              refine oRun_ok 1 rfl ?_
              exact g_iret rfl rfl rfl ⟨by unfold f_Mod_isUnder; rw [if_neg h1, if_neg h6, if_pos h11, if_neg h16, if_pos h21, if_neg h26], rfl⟩
            ·
              refine oRun_ok 2 rfl ?_
              exact g_iret rfl rfl rfl ⟨by unfold f_Mod_isUnder; rw [if_neg h1, if_neg h6, if_pos h11, if_neg h16, if_pos h21, if_pos h26], rfl⟩
theorem n_Mod_isUnder (a0 a1 : Int32) : narrow .boolean (.int (f_Mod_isUnder a0 a1)) = .int (f_Mod_isUnder a0 a1) := by
  unfold f_Mod_isUnder
  first | rfl | (repeat' split) <;> first | rfl | apply n_Math_abs | apply n_Math_min | apply n_Math_max | apply n_Math_floorDiv | apply n_Integer_bitCount | apply n_Oak_isWithin | apply n_Oak_isStonePlace | apply n_Oak_isCell | apply n_Oak_isYear | apply n_Oak_isSlack | apply n_Oak_isKind | apply n_Oak_isRun | apply n_Oak_isSheet | apply n_Oak_isSlot | apply n_Oak_worthOf | apply n_Oak_trueOf | apply n_Oak_farApart | apply n_Oak_isLetter | apply n_Laws_joined | apply n_Reader_sortOf | apply n_Mod_in | apply n_Mod_within | apply n_Mod_size | apply n_Mod_isSpot | apply n_Mod_isCell | apply n_Mod_isRun | apply n_Mod_trueBy
def f_Mod_acrossBy (a0 : Int32) : Int32 := if a0 = 0 then 1 else (if a0 = 1 then 1 else (if a0 = 7 then 1 else (if a0 = 2 then 0 else (if a0 = 6 then 0 else (-1)))))
theorem c_Mod_acrossBy (M : oM) (a0 : Int32) : oCt 0 k_Mod_acrossBy [.inl a0] M (fun r M' => r = some (f_Mod_acrossBy a0) ∧ M' = M) := by
  refine oCt.of (ls := [some (.inl a0)]) mok_Mod_acrossBy rfl rfl ?_
  refine oRun_ok 1 rfl ?_
  refine g_if_eq rfl (fun h1 => ?_) (fun h1 => ?_)
  ·
    refine oRun_ok 2 rfl ?_
    exact g_iret rfl rfl rfl ⟨by unfold f_Mod_acrossBy; rw [if_pos h1], rfl⟩
  ·
    refine oRun_ok 2 rfl ?_
    refine g_ic_eq rfl (fun h6 => ?_) (fun h6 => ?_)
    ·
      refine oRun_ok 2 rfl ?_
      exact g_iret rfl rfl rfl ⟨by unfold f_Mod_acrossBy; rw [if_neg h1, if_pos h6], rfl⟩
    ·
      refine oRun_ok 2 rfl ?_
      refine g_ic_ne rfl (fun h12 => ?_) (fun h12 => ?_)
      ·
        refine oRun_ok 2 rfl ?_
        refine g_ic_eq rfl (fun h21 => ?_) (fun h21 => ?_)
        ·
          refine oRun_ok 2 rfl ?_
          exact g_iret rfl rfl rfl ⟨by unfold f_Mod_acrossBy; rw [if_neg h1, if_neg h6, if_neg h12, if_pos h21], rfl⟩
        ·
          refine oRun_ok 2 rfl ?_
          refine g_ic_ne rfl (fun h27 => ?_) (fun h27 => ?_)
          ·
            refine oRun_ok 1 rfl ?_
            exact g_iret rfl rfl rfl ⟨by unfold f_Mod_acrossBy; rw [if_neg h1, if_neg h6, if_neg h12, if_neg h21, if_neg h27], rfl⟩
          ·
            refine oRun_ok 2 rfl ?_
            exact g_iret rfl rfl rfl ⟨by unfold f_Mod_acrossBy; rw [if_neg h1, if_neg h6, if_neg h12, if_neg h21, if_pos h27], rfl⟩
      ·
        refine oRun_ok 2 rfl ?_
        exact g_iret rfl rfl rfl ⟨by unfold f_Mod_acrossBy; rw [if_neg h1, if_neg h6, if_pos h12], rfl⟩
def f_Mod_upBy (a0 : Int32) : Int32 := if a0 ≤ 0 then (if a0 = 0 then 0 else (if a0 = 4 then 0 else (-1))) else (if 4 ≤ a0 then (if a0 = 0 then 0 else (if a0 = 4 then 0 else (-1))) else 1)
theorem c_Mod_upBy (M : oM) (a0 : Int32) : oCt 0 k_Mod_upBy [.inl a0] M (fun r M' => r = some (f_Mod_upBy a0) ∧ M' = M) := by
  refine oCt.of (ls := [some (.inl a0)]) mok_Mod_upBy rfl rfl ?_
  refine oRun_ok 1 rfl ?_
  refine g_if_le rfl (fun h1 => ?_) (fun h1 => ?_)
  ·
    refine oRun_ok 1 rfl ?_
    refine g_if_eq rfl (fun h14 => ?_) (fun h14 => ?_)
    ·
      refine oRun_ok 2 rfl ?_
      exact g_iret rfl rfl rfl ⟨by unfold f_Mod_upBy; rw [if_pos h1, if_pos h14], rfl⟩
    ·
      refine oRun_ok 2 rfl ?_
      refine g_ic_ne rfl (fun h19 => ?_) (fun h19 => ?_)
      ·
        refine oRun_ok 1 rfl ?_
        exact g_iret rfl rfl rfl ⟨by unfold f_Mod_upBy; rw [if_pos h1, if_neg h14, if_neg h19], rfl⟩
      ·
        refine oRun_ok 2 rfl ?_
        exact g_iret rfl rfl rfl ⟨by unfold f_Mod_upBy; rw [if_pos h1, if_neg h14, if_pos h19], rfl⟩
  ·
    refine oRun_ok 2 rfl ?_
    refine g_ic_ge rfl (fun h6 => ?_) (fun h6 => ?_)
    ·
      refine oRun_ok 1 rfl ?_
      refine g_if_eq rfl (fun h14 => ?_) (fun h14 => ?_)
      ·
        refine oRun_ok 2 rfl ?_
        exact g_iret rfl rfl rfl ⟨by unfold f_Mod_upBy; rw [if_neg h1, if_pos h6, if_pos h14], rfl⟩
      ·
        refine oRun_ok 2 rfl ?_
        refine g_ic_ne rfl (fun h19 => ?_) (fun h19 => ?_)
        ·
          refine oRun_ok 1 rfl ?_
          exact g_iret rfl rfl rfl ⟨by unfold f_Mod_upBy; rw [if_neg h1, if_pos h6, if_neg h14, if_neg h19], rfl⟩
        ·
          refine oRun_ok 2 rfl ?_
          exact g_iret rfl rfl rfl ⟨by unfold f_Mod_upBy; rw [if_neg h1, if_pos h6, if_neg h14, if_pos h19], rfl⟩
    ·
      refine oRun_ok 2 rfl ?_
      exact g_iret rfl rfl rfl ⟨by unfold f_Mod_upBy; rw [if_neg h1, if_neg h6], rfl⟩
def f_Mod_isSheet (a0 : Int32) : Int32 := f_Mod_in a0 0 3
theorem c_Mod_isSheet (M : oM) (a0 : Int32) : oCt 1 k_Mod_isSheet [.inl a0] M (fun r M' => r = some (f_Mod_isSheet a0) ∧ M' = M) := by
  refine oCt.of (ls := [some (.inl a0)]) mok_Mod_isSheet rfl rfl ?_
  refine oRun_ok 3 rfl ?_
  refine g_callS rfl rfl rfl rfl mok_Mod_in (by decide) (c_Mod_in M a0 0 3) ?_
  rintro r3 M3 ⟨rfl, e3⟩; rw [e3]
  exact g_iret rfl rfl (n_Mod_in a0 0 3) ⟨by unfold f_Mod_isSheet; rfl, rfl⟩
theorem n_Mod_isSheet (a0 : Int32) : narrow .boolean (.int (f_Mod_isSheet a0)) = .int (f_Mod_isSheet a0) := by
  unfold f_Mod_isSheet
  first | rfl | (repeat' split) <;> first | rfl | apply n_Math_abs | apply n_Math_min | apply n_Math_max | apply n_Math_floorDiv | apply n_Integer_bitCount | apply n_Oak_isWithin | apply n_Oak_isStonePlace | apply n_Oak_isCell | apply n_Oak_isYear | apply n_Oak_isSlack | apply n_Oak_isKind | apply n_Oak_isRun | apply n_Oak_isSheet | apply n_Oak_isSlot | apply n_Oak_worthOf | apply n_Oak_trueOf | apply n_Oak_farApart | apply n_Oak_isLetter | apply n_Laws_joined | apply n_Reader_sortOf | apply n_Mod_in | apply n_Mod_within | apply n_Mod_size | apply n_Mod_isSpot | apply n_Mod_isCell | apply n_Mod_isRun | apply n_Mod_trueBy | apply n_Mod_isUnder | apply n_Mod_acrossBy | apply n_Mod_upBy
def f_Mod_isSlot (a0 : Int32) : Int32 := f_Mod_in a0 0 4
theorem c_Mod_isSlot (M : oM) (a0 : Int32) : oCt 1 k_Mod_isSlot [.inl a0] M (fun r M' => r = some (f_Mod_isSlot a0) ∧ M' = M) := by
  refine oCt.of (ls := [some (.inl a0)]) mok_Mod_isSlot rfl rfl ?_
  refine oRun_ok 3 rfl ?_
  refine g_callS rfl rfl rfl rfl mok_Mod_in (by decide) (c_Mod_in M a0 0 4) ?_
  rintro r3 M3 ⟨rfl, e3⟩; rw [e3]
  exact g_iret rfl rfl (n_Mod_in a0 0 4) ⟨by unfold f_Mod_isSlot; rfl, rfl⟩
theorem n_Mod_isSlot (a0 : Int32) : narrow .boolean (.int (f_Mod_isSlot a0)) = .int (f_Mod_isSlot a0) := by
  unfold f_Mod_isSlot
  first | rfl | (repeat' split) <;> first | rfl | apply n_Math_abs | apply n_Math_min | apply n_Math_max | apply n_Math_floorDiv | apply n_Integer_bitCount | apply n_Oak_isWithin | apply n_Oak_isStonePlace | apply n_Oak_isCell | apply n_Oak_isYear | apply n_Oak_isSlack | apply n_Oak_isKind | apply n_Oak_isRun | apply n_Oak_isSheet | apply n_Oak_isSlot | apply n_Oak_worthOf | apply n_Oak_trueOf | apply n_Oak_farApart | apply n_Oak_isLetter | apply n_Laws_joined | apply n_Reader_sortOf | apply n_Mod_in | apply n_Mod_within | apply n_Mod_size | apply n_Mod_isSpot | apply n_Mod_isCell | apply n_Mod_isRun | apply n_Mod_trueBy | apply n_Mod_isUnder | apply n_Mod_acrossBy | apply n_Mod_upBy | apply n_Mod_isSheet
def f_Mod_rank (a0 : Int32) : Int32 := if a0 = ((-1)) then 1 else (if a0 = ((-2)) then 2 else (if a0 < ((-5)) then (if a0 < ((-7)) then (if a0 < ((-9)) then 6 else 5) else 4) else 3))
theorem c_Mod_rank (M : oM) (a0 : Int32) : oCt 0 k_Mod_rank [.inl a0] M (fun r M' => r = some (f_Mod_rank a0) ∧ M' = M) := by
  refine oCt.of (ls := [some (.inl a0)]) mok_Mod_rank rfl rfl ?_
  refine oRun_ok 2 rfl ?_
  refine g_ic_ne rfl (fun h2 => ?_) (fun h2 => ?_)
  ·
    refine oRun_ok 2 rfl ?_
    refine g_ic_ne rfl (fun h12 => ?_) (fun h12 => ?_)
    ·
      refine oRun_ok 2 rfl ?_
      refine g_ic_lt rfl (fun h22 => ?_) (fun h22 => ?_)
      ·
        refine oRun_ok 2 rfl ?_
        refine g_ic_lt rfl (fun h32 => ?_) (fun h32 => ?_)
        ·
          refine oRun_ok 2 rfl ?_
          refine g_ic_lt rfl (fun h42 => ?_) (fun h42 => ?_)
          ·
            refine oRun_ok 1 rfl ?_
            exact g_iret rfl rfl rfl ⟨by unfold f_Mod_rank; rw [if_neg h2, if_neg h12, if_pos h22, if_pos h32, if_pos h42], rfl⟩
          ·
            refine oRun_ok 2 rfl ?_
            exact g_iret rfl rfl rfl ⟨by unfold f_Mod_rank; rw [if_neg h2, if_neg h12, if_pos h22, if_pos h32, if_neg h42], rfl⟩
        ·
          refine oRun_ok 2 rfl ?_
          exact g_iret rfl rfl rfl ⟨by unfold f_Mod_rank; rw [if_neg h2, if_neg h12, if_pos h22, if_neg h32], rfl⟩
      ·
        refine oRun_ok 2 rfl ?_
        exact g_iret rfl rfl rfl ⟨by unfold f_Mod_rank; rw [if_neg h2, if_neg h12, if_neg h22], rfl⟩
    ·
      refine oRun_ok 2 rfl ?_
      exact g_iret rfl rfl rfl ⟨by unfold f_Mod_rank; rw [if_neg h2, if_pos h12], rfl⟩
  ·
    refine oRun_ok 2 rfl ?_
    exact g_iret rfl rfl rfl ⟨by unfold f_Mod_rank; rw [if_pos h2], rfl⟩
def f_Mod_two (a0 a1 a2 : Int32) : Int32 := if a0 = (-8) then a1 * a2 else (if a0 = (-7) then a1 - a2 else (if a0 = (-6) then a1 + a2 else (if a0 = (-5) then (if a1 ≤ a2 then 0 else 1) else (if a0 = (-4) then (if a1 = a2 then 1 else 0) else (if a0 = (-3) then (if a2 ≤ a1 then 0 else 1) else (if a0 = (-2) then (if a1 = 0 then 0 else (if a2 = 0 then 0 else 1)) else (if a0 = (-1) then (if a1 = 0 then (if a2 = 0 then 0 else 1) else 1) else (if a2 = 0 then 0 else a1 / a2))))))))
theorem c_Mod_two (M : oM) (a0 a1 a2 : Int32) : oCt 0 k_Mod_two [.inl a0, .inl a1, .inl a2] M (fun r M' => r = some (f_Mod_two a0 a1 a2) ∧ M' = M) := by
  refine oCt.of (ls := [some (.inl a0), some (.inl a1), some (.inl a2)]) mok_Mod_two rfl rfl ?_
  refine oRun_ok 1 rfl ?_
  refine g_tsw [((-8), 117), ((-7), 113), ((-6), 109), ((-5), 98), ((-4), 87), ((-3), 76), ((-2), 62), ((-1), 48)] 121 rfl (by decide +kernel) rfl ⟨fun h1 => ?_, fun h1 => ?_, fun h1 => ?_, fun h1 => ?_, fun h1 => ?_, fun h1 => ?_, fun h1 => ?_, fun h1 => ?_, trivial⟩ (fun h1 => ?_)
  ·
    refine oRun_ok 3 rfl ?_
    exact g_iret rfl rfl rfl ⟨by unfold f_Mod_two; rw [if_pos h1], rfl⟩
  ·
    have n1_0 : ¬ a0 = (-8) := by rw [h1]; decide
    refine oRun_ok 3 rfl ?_
    exact g_iret rfl rfl rfl ⟨by unfold f_Mod_two; rw [if_neg n1_0, if_pos h1], rfl⟩
  ·
    have n1_0 : ¬ a0 = (-8) := by rw [h1]; decide
    have n1_1 : ¬ a0 = (-7) := by rw [h1]; decide
    refine oRun_ok 3 rfl ?_
    exact g_iret rfl rfl rfl ⟨by unfold f_Mod_two; rw [if_neg n1_0, if_neg n1_1, if_pos h1], rfl⟩
  ·
    have n1_0 : ¬ a0 = (-8) := by rw [h1]; decide
    have n1_1 : ¬ a0 = (-7) := by rw [h1]; decide
    have n1_2 : ¬ a0 = (-6) := by rw [h1]; decide
    refine oRun_ok 2 rfl ?_
    refine g_ic_le rfl (fun h100 => ?_) (fun h100 => ?_)
    ·
      refine oRun_ok 1 rfl ?_
      exact g_iret rfl rfl rfl ⟨by unfold f_Mod_two; rw [if_neg n1_0, if_neg n1_1, if_neg n1_2, if_pos h1, if_pos h100], rfl⟩
    ·
      refine oRun_ok 2 rfl ?_
      exact g_iret rfl rfl rfl ⟨by unfold f_Mod_two; rw [if_neg n1_0, if_neg n1_1, if_neg n1_2, if_pos h1, if_neg h100], rfl⟩
  ·
    have n1_0 : ¬ a0 = (-8) := by rw [h1]; decide
    have n1_1 : ¬ a0 = (-7) := by rw [h1]; decide
    have n1_2 : ¬ a0 = (-6) := by rw [h1]; decide
    have n1_3 : ¬ a0 = (-5) := by rw [h1]; decide
    refine oRun_ok 2 rfl ?_
    refine g_ic_ne rfl (fun h89 => ?_) (fun h89 => ?_)
    ·
      refine oRun_ok 1 rfl ?_
      exact g_iret rfl rfl rfl ⟨by unfold f_Mod_two; rw [if_neg n1_0, if_neg n1_1, if_neg n1_2, if_neg n1_3, if_pos h1, if_neg h89], rfl⟩
    ·
      refine oRun_ok 2 rfl ?_
      exact g_iret rfl rfl rfl ⟨by unfold f_Mod_two; rw [if_neg n1_0, if_neg n1_1, if_neg n1_2, if_neg n1_3, if_pos h1, if_pos h89], rfl⟩
  ·
    have n1_0 : ¬ a0 = (-8) := by rw [h1]; decide
    have n1_1 : ¬ a0 = (-7) := by rw [h1]; decide
    have n1_2 : ¬ a0 = (-6) := by rw [h1]; decide
    have n1_3 : ¬ a0 = (-5) := by rw [h1]; decide
    have n1_4 : ¬ a0 = (-4) := by rw [h1]; decide
    refine oRun_ok 2 rfl ?_
    refine g_ic_ge rfl (fun h78 => ?_) (fun h78 => ?_)
    ·
      refine oRun_ok 1 rfl ?_
      exact g_iret rfl rfl rfl ⟨by unfold f_Mod_two; rw [if_neg n1_0, if_neg n1_1, if_neg n1_2, if_neg n1_3, if_neg n1_4, if_pos h1, if_pos h78], rfl⟩
    ·
      refine oRun_ok 2 rfl ?_
      exact g_iret rfl rfl rfl ⟨by unfold f_Mod_two; rw [if_neg n1_0, if_neg n1_1, if_neg n1_2, if_neg n1_3, if_neg n1_4, if_pos h1, if_neg h78], rfl⟩
  ·
    have n1_0 : ¬ a0 = (-8) := by rw [h1]; decide
    have n1_1 : ¬ a0 = (-7) := by rw [h1]; decide
    have n1_2 : ¬ a0 = (-6) := by rw [h1]; decide
    have n1_3 : ¬ a0 = (-5) := by rw [h1]; decide
    have n1_4 : ¬ a0 = (-4) := by rw [h1]; decide
    have n1_5 : ¬ a0 = (-3) := by rw [h1]; decide
    refine oRun_ok 1 rfl ?_
    refine g_if_eq rfl (fun h63 => ?_) (fun h63 => ?_)
    ·
      refine oRun_ok 1 rfl ?_
      exact g_iret rfl rfl rfl ⟨by unfold f_Mod_two; rw [if_neg n1_0, if_neg n1_1, if_neg n1_2, if_neg n1_3, if_neg n1_4, if_neg n1_5, if_pos h1, if_pos h63], rfl⟩
    ·
      refine oRun_ok 1 rfl ?_
      refine g_if_eq rfl (fun h67 => ?_) (fun h67 => ?_)
      ·
        refine oRun_ok 1 rfl ?_
        exact g_iret rfl rfl rfl ⟨by unfold f_Mod_two; rw [if_neg n1_0, if_neg n1_1, if_neg n1_2, if_neg n1_3, if_neg n1_4, if_neg n1_5, if_pos h1, if_neg h63, if_pos h67], rfl⟩
      ·
        refine oRun_ok 2 rfl ?_
        exact g_iret rfl rfl rfl ⟨by unfold f_Mod_two; rw [if_neg n1_0, if_neg n1_1, if_neg n1_2, if_neg n1_3, if_neg n1_4, if_neg n1_5, if_pos h1, if_neg h63, if_neg h67], rfl⟩
  ·
    have n1_0 : ¬ a0 = (-8) := by rw [h1]; decide
    have n1_1 : ¬ a0 = (-7) := by rw [h1]; decide
    have n1_2 : ¬ a0 = (-6) := by rw [h1]; decide
    have n1_3 : ¬ a0 = (-5) := by rw [h1]; decide
    have n1_4 : ¬ a0 = (-4) := by rw [h1]; decide
    have n1_5 : ¬ a0 = (-3) := by rw [h1]; decide
    have n1_6 : ¬ a0 = (-2) := by rw [h1]; decide
    refine oRun_ok 1 rfl ?_
    refine g_if_ne rfl (fun h49 => ?_) (fun h49 => ?_)
    ·
      refine oRun_ok 2 rfl ?_
      exact g_iret rfl rfl rfl ⟨by unfold f_Mod_two; rw [if_neg n1_0, if_neg n1_1, if_neg n1_2, if_neg n1_3, if_neg n1_4, if_neg n1_5, if_neg n1_6, if_pos h1, if_neg h49], rfl⟩
    ·
      refine oRun_ok 1 rfl ?_
      refine g_if_eq rfl (fun h53 => ?_) (fun h53 => ?_)
      ·
        refine oRun_ok 1 rfl ?_
        exact g_iret rfl rfl rfl ⟨by unfold f_Mod_two; rw [if_neg n1_0, if_neg n1_1, if_neg n1_2, if_neg n1_3, if_neg n1_4, if_neg n1_5, if_neg n1_6, if_pos h1, if_pos h49, if_pos h53], rfl⟩
      ·
        refine oRun_ok 2 rfl ?_
        exact g_iret rfl rfl rfl ⟨by unfold f_Mod_two; rw [if_neg n1_0, if_neg n1_1, if_neg n1_2, if_neg n1_3, if_neg n1_4, if_neg n1_5, if_neg n1_6, if_pos h1, if_pos h49, if_neg h53], rfl⟩
  ·
    have n1_0 : ¬ a0 = (-8) := h1 ((-8), 117) (by decide)
    have n1_1 : ¬ a0 = (-7) := h1 ((-7), 113) (by decide)
    have n1_2 : ¬ a0 = (-6) := h1 ((-6), 109) (by decide)
    have n1_3 : ¬ a0 = (-5) := h1 ((-5), 98) (by decide)
    have n1_4 : ¬ a0 = (-4) := h1 ((-4), 87) (by decide)
    have n1_5 : ¬ a0 = (-3) := h1 ((-3), 76) (by decide)
    have n1_6 : ¬ a0 = (-2) := h1 ((-2), 62) (by decide)
    have n1_7 : ¬ a0 = (-1) := h1 ((-1), 48) (by decide)
    refine oRun_ok 1 rfl ?_
    refine g_if_ne rfl (fun h122 => ?_) (fun h122 => ?_)
    ·
      refine oRun_ok 2 rfl ?_
      refine g_idiv rfl h122 ?_
      exact g_iret rfl rfl rfl ⟨by unfold f_Mod_two; rw [if_neg n1_0, if_neg n1_1, if_neg n1_2, if_neg n1_3, if_neg n1_4, if_neg n1_5, if_neg n1_6, if_neg n1_7, if_neg h122], rfl⟩
    ·
      refine oRun_ok 2 rfl ?_
      exact g_iret rfl rfl rfl ⟨by unfold f_Mod_two; rw [if_neg n1_0, if_neg n1_1, if_neg n1_2, if_neg n1_3, if_neg n1_4, if_neg n1_5, if_neg n1_6, if_neg n1_7, if_pos h122], rfl⟩
end
section
/-! ===== the state: N is the reference's row 'now' (or 'image'); the class's land holds the same ===== -/
def inR (v : Int32) (a b : Int) : Prop := a ≤ v.toInt ∧ v.toInt ≤ b
def cS (N : Nat → Int32) : Nat := (N 1).toNatClampNeg
def cD (N : Nat → Int32) : Nat := (N 2).toNatClampNeg
def cT (N : Nat → Int32) : Nat := (N 3).toNatClampNeg
def cC (N : Nat → Int32) (d : Nat) : Nat := (N (20 + 35 * d + 4)).toNatClampNeg
def oDOk (N : Nat → Int32) (d : Nat) : Prop := inR (N (20 + 35 * d)) 0 29 ∧ inR (N (20 + 35 * d + 1)) 0 29 ∧ inR (N (20 + 35 * d + 2)) 0 999 ∧ inR (N (20 + 35 * d + 3)) (-9) 9 ∧ inR (N (20 + 35 * d + 4)) 0 10 ∧ ∀ j, j < cC N d → inR (N (20 + 35 * d + 5 + 3 * j)) 0 5 ∧ inR (N (20 + 35 * d + 5 + 3 * j + 1)) 0 7 ∧ inR (N (20 + 35 * d + 5 + 3 * j + 2)) 1 20
/-- how many numbers wait on the stack behind k codes; none: a code that finds too few -/
def oDp (c : Nat → Int32) : Nat → Option Nat
  | 0 => some 0
  | k + 1 => match oDp c k with
    | none => none
    | some h => if 0 ≤ c k then some (h + 1) else if c k = -10 then (if 1 ≤ h then some h else none) else if 2 ≤ h then some (h - 1) else none
/-- the codes of a text, as the reference has them, may be worked out -/
def oWf (c : Nat → Int32) (n : Nat) (key : Int32) : Prop := oDp c n = some 1 ∧ ∀ k, k < n → inR (c k) (-10) (10000 + key.toInt)
def tK (N : Nat → Int32) (t : Nat) : Int32 := N (160 + 2 * t) / 1000
def tN (N : Nat → Int32) (t : Nat) : Nat := (oRem (N (160 + 2 * t)) 1000).toNatClampNeg
def oTOk (N : Nat → Int32) (t : Nat) : Prop := inR (N (160 + 2 * t)) 0 2999 ∧ tN N t ≤ 96 ∧ oWf (fun k => N (188 + 96 * t + k)) (tN N t) (tK N t)
def oNOk (N : Nat → Int32) : Prop := inR (N 1) 0 8 ∧ inR (N 2) 0 4 ∧ inR (N 3) 0 14 ∧ (∀ i, i < cS N → inR (N (4 + 2 * i)) (-99) 99 ∧ inR (N (4 + 2 * i + 1)) (-99) 99) ∧ (∀ d, d < cD N → oDOk N d) ∧ ∀ t, t < cT N → oTOk N t
/-- the class's code of a text, as the reference has it, under a key -/
def oTr (key c : Int32) : Option Int32 :=
  if 0 ≤ c then (if c ≤ 9999 then some c else none)
  else if c = -121 then some 10000
  else if c = -115 then (if key = 1 then some 10001 else none)
  else if c = -110 then (if key = 2 then some 10001 else none)
  else if c = -99 then (if key = 2 then some 10002 else none)
  else if c = -124 then some (-1) else if c = -38 then some (-2) else if c = -60 then some (-3) else if c = -61 then some (-4) else if c = -62 then some (-5) else if c = -43 then some (-6) else if c = -45 then some (-7) else if c = -42 then some (-8) else if c = -47 then some (-9) else if c = -33 then some (-10) else none
def oRT (M : oM) (N : Nat → Int32) (t : Nat) : Prop := M K_TEXT t 0 = tK N t ∧ M K_TEXT t 1 = N (160 + 2 * t + 1) ∧ M K_TEXT t 2 = nI (tN N t) ∧ ∀ k, k < tN N t → oTr (tK N t) (M K_TCOD t k) = some (N (188 + 96 * t + k))
def oRD (M : oM) (N : Nat → Int32) (i d : Nat) : Prop := (∀ w, w < 5 → M K_DEED i w = N (20 + 35 * d + w)) ∧ ∀ j, j < cC N d → M K_DK i j = N (20 + 35 * d + 5 + 3 * j) ∧ M K_DW i j = N (20 + 35 * d + 5 + 3 * j + 1) ∧ M K_DL i j = N (20 + 35 * d + 5 + 3 * j + 2)
def oRL (M : oM) (N : Nat → Int32) (l : Nat) : Prop := M K_LAND l 1 = N 1 ∧ M K_LAND l 4 = N 2 ∧ M K_LAND l 6 = N 3 ∧ M K_LAND l 7 = N 0 ∧ (∀ i, i < cS N → M K_STX l i = N (4 + 2 * i) ∧ M K_STY l i = N (4 + 2 * i + 1)) ∧ (∀ d, d < cD N → oRD M N (4 * l + d) d) ∧ ∀ t, t < cT N → oRT M N t
-- what a method may write
def oFr (S : Nat → Nat → Prop) (M M' : oM) : Prop := ∀ k i, ¬ S k i → M' k i = M k i
theorem oFr.rf {S : Nat → Nat → Prop} {M : oM} : oFr S M M := fun _ _ _ => rfl
theorem oFr.tr {S : Nat → Nat → Prop} {M M1 M2 : oM} (h1 : oFr S M M1) (h2 : oFr S M1 M2) : oFr S M M2 := fun k i h => (h2 k i h).trans (h1 k i h)
theorem oFr.mono {S T : Nat → Nat → Prop} {M M1 : oM} (h1 : oFr S M M1) (h : ∀ k i, S k i → T k i) : oFr T M M1 := fun k i hn => h1 k i (fun q => hn (h k i q))
theorem oFr.up {S : Nat → Nat → Prop} {M M1 : oM} {k i j : Nat} {v : Int32} (h1 : oFr S M M1) (h : S k i) : oFr S M (oUp M1 k i j v) := fun k' i' hn => by
  rw [oUp_ne (fun q => hn (by rw [q.1, q.2]; exact h))]
  exact h1 k' i' hn
theorem oUp_self {M : oM} {k i j : Nat} {v : Int32} : oUp M k i j v k i j = v := by
  rw [oUp_at]
  exact if_pos rfl
theorem oUp_j {M : oM} {k i j j' : Nat} {v : Int32} (h : ¬ j' = j) : oUp M k i j v k i j' = M k i j' := by
  rw [oUp_at]
  exact if_neg h
theorem oUp_i {M : oM} {k i j i' : Nat} {v : Int32} (h : ¬ i' = i) : oUp M k i j v k i' = M k i' := oUp_ne (fun q => h q.2)
theorem oUp_k {M : oM} {k i j k' : Nat} {v : Int32} (h : ¬ k' = k) : oUp M k i j v k' = M k' := by
  unfold oUp
  rw [if_neg h]
theorem inR_nI {v : Int32} {n : Nat} (h : inR v 0 n) (hn : n < 2147483648) : v = nI v.toNatClampNeg ∧ v.toNatClampNeg ≤ n := by
  have h1 := nI_ofInt h.1
  have h2 : v.toNatClampNeg = v.toInt.toNat := rfl
  exact ⟨h1, by have := h.2; omega⟩
theorem oNS {N : Nat → Int32} (h : oNOk N) : N 1 = nI (cS N) ∧ cS N ≤ 8 := inR_nI h.1 (by decide)
theorem oND {N : Nat → Int32} (h : oNOk N) : N 2 = nI (cD N) ∧ cD N ≤ 4 := inR_nI h.2.1 (by decide)
theorem oNT {N : Nat → Int32} (h : oNOk N) : N 3 = nI (cT N) ∧ cT N ≤ 14 := inR_nI h.2.2.1 (by decide)
theorem oNC {N : Nat → Int32} {d : Nat} (h : oDOk N d) : N (20 + 35 * d + 4) = nI (cC N d) ∧ cC N d ≤ 10 := inR_nI h.2.2.2.2.1 (by decide)
-- yes and no
theorem wi_1 {v a b : Int32} : f_Oak_isWithin v a b = 1 ↔ a ≤ v ∧ v ≤ b := by
  unfold f_Oak_isWithin
  split
  · rename_i h
    simp
    intro h2
    exact absurd (Int32.lt_of_le_of_lt h2 h) (Int32.lt_irrefl)
  · rename_i h
    split
    · rename_i h2
      simp
      intro _
      exact h2
    · rename_i h2
      simp
      exact ⟨Int32.not_lt.mp h, Int32.not_lt.mp h2⟩
theorem wi_01 (v a b : Int32) : f_Oak_isWithin v a b = 0 ∨ f_Oak_isWithin v a b = 1 := by
  unfold f_Oak_isWithin
  split
  · exact Or.inl rfl
  · split
    · exact Or.inl rfl
    · exact Or.inr rfl
theorem wi_0 {v a b : Int32} : f_Oak_isWithin v a b = 0 ↔ ¬ (a ≤ v ∧ v ≤ b) := by
  rw [← wi_1]
  rcases wi_01 v a b with h | h <;> rw [h] <;> decide
theorem in_eq (v a b : Int32) : f_Mod_in v a b = f_Oak_isWithin v a b := rfl
theorem wiN {n m : Nat} (hn : n < 2147483648) (hm : m < 2147483648) : f_Oak_isWithin (nI n) 0 (nI m - 1) = 0 ↔ ¬ n < m := by
  rw [wi_0]
  have h0 : (0 : Int32) ≤ nI n := nI_pos' hn
  cases m with
  | zero =>
    refine ⟨fun _ => by omega, fun _ h => ?_⟩
    have := iLe.mp h.2
    rw [nIt hn, show (nI 0 - 1 : Int32).toInt = -1 from rfl] at this
    omega
  | succ m =>
    rw [nI_pred, nIle hn (by omega)]
    constructor
    · intro h q
      exact h ⟨h0, by omega⟩
    · intro h q
      omega
/-- a number within 0 and m - 1: which -/
theorem wiI {v : Int32} {m : Nat} (hm : m < 2147483648) (h : ¬ f_Oak_isWithin v 0 (nI m - 1) = 0) : ∃ n, n < m ∧ v = nI n := by
  have h1 : f_Oak_isWithin v 0 (nI m - 1) = 1 := (wi_01 _ _ _).resolve_left h
  obtain ⟨a, b⟩ := wi_1.mp h1
  have ha : 0 ≤ v.toInt := iLe.mp a
  have e := nI_ofInt ha
  refine ⟨v.toInt.toNat, ?_, e⟩
  rw [e, wiN (by have := iRng v; omega) hm] at h
  exact Decidable.not_not.mp h
theorem wiR {v : Int32} {a b : Int32} (h : ¬ f_Oak_isWithin v a b = 0) : inR v a.toInt b.toInt := by
  have h1 : f_Oak_isWithin v a b = 1 := (wi_01 _ _ _).resolve_left h
  obtain ⟨x, y⟩ := wi_1.mp h1
  exact ⟨iLe.mp x, iLe.mp y⟩
-- texts, worked out: the stack behind k codes, by its height and its places
def oEv (g c : Nat → Int32) : Nat → Nat × (Nat → Int32)
  | 0 => (0, fun _ => 0)
  | k + 1 => if 0 ≤ c k then ((oEv g c k).1 + 1, upd (oEv g c k).2 (oEv g c k).1 (if c k < 10000 then c k else g (c k - 10000).toNatClampNeg))
    else if c k = -10 then ((oEv g c k).1, upd (oEv g c k).2 ((oEv g c k).1 - 1) (if (oEv g c k).2 ((oEv g c k).1 - 1) = 0 then 1 else 0))
    else ((oEv g c k).1 - 1, upd (oEv g c k).2 ((oEv g c k).1 - 2) (f_Mod_two (c k) ((oEv g c k).2 ((oEv g c k).1 - 2)) ((oEv g c k).2 ((oEv g c k).1 - 1))))
theorem oDp_back {c : Nat → Int32} : ∀ {n k : Nat} {h : Nat}, oDp c n = some h → k ≤ n → ∃ h', oDp c k = some h'
  | 0, k, h, hd, hk => ⟨h, by rw [show k = 0 by omega]; exact hd⟩
  | n + 1, k, h, hd, hk => by
    by_cases e : k = n + 1
    · exact ⟨h, by rw [e]; exact hd⟩
    · unfold oDp at hd
      cases hz : oDp c n with
      | none => rw [hz] at hd; cases hd
      | some h1 => exact oDp_back hz (by omega)
theorem oDp_h (g : Nat → Int32) {c : Nat → Int32} : ∀ (k h : Nat), oDp c k = some h → (oEv g c k).1 = h ∧ h ≤ k
  | 0, h, hd => by
    cases hd
    exact ⟨rfl, Nat.le_refl _⟩
  | k + 1, h, hd => by
    unfold oDp at hd
    cases hz : oDp c k with
    | none => rw [hz] at hd; cases hd
    | some h1 =>
      rw [hz] at hd
      obtain ⟨a, b⟩ := oDp_h g k h1 hz
      simp only at hd
      unfold oEv
      by_cases c1 : 0 ≤ c k
      · rw [if_pos c1] at hd ⊢
        cases hd
        exact ⟨by simp only [a], by omega⟩
      · rw [if_neg c1] at hd ⊢
        by_cases c2 : c k = -10
        · rw [if_pos c2] at hd ⊢
          by_cases c3 : 1 ≤ h1
          · rw [if_pos c3] at hd
            cases hd
            exact ⟨a, by omega⟩
          · rw [if_neg c3] at hd
            cases hd
        · rw [if_neg c2] at hd ⊢
          by_cases c3 : 2 ≤ h1
          · rw [if_pos c3] at hd
            cases hd
            exact ⟨by simp only [a], by omega⟩
          · rw [if_neg c3] at hd
            cases hd
def tC (N : Nat → Int32) (t : Nat) : Nat → Int32 := fun k => N (188 + 96 * t + k)
def oVal (g N : Nat → Int32) (t : Nat) : Int32 := (oEv g (tC N t) (tN N t)).2 0
/-- the last text below t that has a key -/
def oLast (N : Nat → Int32) (key : Int32) : Nat → Option Nat
  | 0 => none
  | t + 1 => if tK N t = key then some t else oLast N key t
theorem oLast_lt {N : Nat → Int32} {key : Int32} : ∀ {n t : Nat}, oLast N key n = some t → t < n ∧ tK N t = key
  | 0, t, h => by cases h
  | n + 1, t, h => by
    unfold oLast at h
    by_cases e : tK N n = key
    · rw [if_pos e] at h
      cases h
      exact ⟨by omega, e⟩
    · rw [if_neg e] at h
      have := oLast_lt h
      exact ⟨by omega, this.2⟩
def gN (N : Nat → Int32) (d : Nat) : Nat → Int32 := fun _ => N (20 + 35 * d + 2)
def gC (N : Nat → Int32) (d : Nat) : Nat → Int32 := fun j => if j = 0 then N (20 + 35 * d + 2) else N (20 + 35 * d + 3)
def gF (N : Nat → Int32) (d : Nat) : Nat → Int32 := fun j => if j = 0 then N (20 + 35 * d + 2) else if j = 1 then nI d else N (20 + 35 * d + 4)
def sNd (N : Nat → Int32) (d : Nat) : Int32 := match oLast N 0 (cT N) with
  | none => 0
  | some t => oRem (oRem (oVal (gN N d) N t) 8 + 8) 8
def sCh (N : Nat → Int32) (d : Nat) : Int32 := match oLast N 1 (cT N) with
  | none => N (20 + 35 * d + 3)
  | some t => f_Mod_within (oVal (gC N d) N t) (-9) 9
def sRk (N : Nat → Int32) (d : Nat) : Int32 := match oLast N 2 (cT N) with
  | none => N (20 + 35 * d + 2)
  | some t => oVal (gF N d) N t
/-- the facts that a text under a key may name -/
theorem oEv_congr {g g' c : Nat → Int32} {key : Nat} : ∀ (n : Nat), (∀ k, k < n → inR (c k) (-10) (10000 + key)) → (∀ j, j ≤ key → g j = g' j) → oEv g c n = oEv g' c n
  | 0, _, _ => rfl
  | n + 1, hc, hg => by
    have ih := oEv_congr n (fun k hk => hc k (by omega)) hg
    unfold oEv
    rw [ih]
    have hcn := hc n (by omega)
    by_cases c1 : 0 ≤ c n
    · rw [if_pos c1, if_pos c1]
      by_cases c2 : c n < 10000
      · rw [if_pos c2, if_pos c2]
      · rw [if_neg c2, if_neg c2]
        have h1 : 10000 ≤ (c n).toInt := by
          have := Int32.not_lt.mp c2
          exact iLe.mp this
        have h2 : (c n - 10000).toInt = (c n).toInt - 10000 := iSub (by have := iRng (c n); have e : (10000 : Int32).toInt = 10000 := rfl; rw [e]; omega)
        have h3 : (c n - 10000).toNatClampNeg ≤ key := by
          show (c n - 10000).toInt.toNat ≤ key
          have := hcn.2
          omega
        rw [hg _ h3]
    · rw [if_neg c1, if_neg c1]
end
section
/-! ===== Deed ===== -/
theorem c_Deed_beginAt (M : oM) (i : Nat) (c : Int32) : oCt 0 k_Deed_beginAt [.inr (K_DEED, i), .inl c] M (fun r M' => r = none ∧ M' = oUp (oUp M K_DEED i 0 (c / 100)) K_DEED i 1 (oRem c 100)) := by
  refine oCt.of (ls := [some (.inr (K_DEED, i)), some (.inl c)]) mok_Deed_beginAt rfl rfl ?_
  refine oRun_ok 10 rfl ?_
  exact g_ret rfl rfl ⟨rfl, rfl⟩
theorem c_Deed_hasNumber (M : oM) (i : Nat) (c : Int32) : oCt 1 k_Deed_hasNumber [.inr (K_DEED, i), .inl c] M (fun r M' => r = some (f_Oak_isWithin c 0 (M K_DEED i 4 - 1)) ∧ M' = M) := by
  refine oCt.of (ls := [some (.inr (K_DEED, i)), some (.inl c)]) mok_Deed_hasNumber rfl rfl ?_
  refine oRun_ok 6 rfl ?_
  refine g_callSN rfl rfl rfl rfl mok_Oak_isWithin (by decide) (c_Oak_isWithin M _ _ _) ?_
  rintro r8 M8 ⟨rfl, e⟩; rw [e]
  exact g_iret rfl rfl (n_Oak_isWithin _ _ _) ⟨rfl, rfl⟩
theorem c_Deed_addCall (M : oM) (i n : Nat) (a b c : Int32) (hn : M K_DEED i 4 = nI n) (h : n < 10) : oCt 0 k_Deed_addCall [.inr (K_DEED, i), .inl a, .inl b, .inl c] M (fun r M' => r = none ∧ M' = oUp (oUp (oUp (oUp M K_DK i n a) K_DW i n b) K_DL i n c) K_DEED i 4 (nI (n + 1))) := by
  refine oCt.of (ls := [some (.inr (K_DEED, i)), some (.inl a), some (.inl b), some (.inl c)]) mok_Deed_addCall rfl rfl ?_
  refine oRun_ok 3 rfl ?_
  refine g_ic_ge rfl (fun h6 => ?_) (fun h6 => ?_)
  · rw [hn, show (10 : Int32) = nI 10 from rfl, nIle (by omega) (by omega)] at h6
    omega
  · refine oRun_ok 5 rfl ?_
    refine g_iast n rfl rfl hn h ?_
    refine oRun_ok 5 rfl ?_
    refine g_iast n rfl rfl hn h ?_
    refine oRun_ok 5 rfl ?_
    refine g_iast n rfl rfl hn h ?_
    refine oRun_ok 6 rfl ?_
    refine g_ret rfl rfl ⟨rfl, ?_⟩
    rw [← nI_1 n, ← hn]
    rfl
/-- the cells of a deed -/
def oDS (i : Nat) : Nat → Nat → Prop := fun k i' => i' = i ∧ (k = K_DEED ∨ k = K_DK ∨ k = K_DW ∨ k = K_DL)
def Q_takeFrom (M : oM) (i j : Nat) : Option Int32 → oM → Prop := fun r M' => r = none ∧ (∀ w, w < 5 → M' K_DEED i w = M K_DEED j w) ∧ (∀ s, s < 10 → M' K_DK i s = M K_DK j s ∧ M' K_DW i s = M K_DW j s ∧ M' K_DL i s = M K_DL j s) ∧ oFr (oDS i) M M'
theorem c_Deed_takeFrom (M : oM) (i j : Nat) (hij : ¬ j = i) : oCt 0 k_Deed_takeFrom [.inr (K_DEED, i), .inr (K_DEED, j)] M (Q_takeFrom M i j) := by
  refine oCt.of (ls := [some (.inr (K_DEED, i)), some (.inr (K_DEED, j)), none]) mok_Deed_takeFrom rfl rfl ?_
  have loop : ∀ (n t : Nat) (M1 : oM), t + n = 10 → (∀ w, w < 5 → M1 K_DEED i w = M K_DEED j w) → (∀ s, s < t → M1 K_DK i s = M K_DK j s ∧ M1 K_DW i s = M K_DW j s ∧ M1 K_DL i s = M K_DL j s) → oFr (oDS i) M M1 → oG k_Deed_takeFrom 0 42 [some (.inr (K_DEED, i)), some (.inr (K_DEED, j)), some (.inl (nI t))] [] M1 (Q_takeFrom M i j) := by
    intro n
    induction n with
    | zero =>
      intro t M1 ht h1 h2 h3
      refine oRun_ok 2 rfl ?_
      refine g_ic_ge rfl (fun h45 => ?_) (fun h45 => ?_)
      · exact g_ret rfl rfl ⟨rfl, h1, fun s hs => h2 s (by omega), h3⟩
      · exact absurd (nI_le (a := 10) (b := t) (by omega) (by omega)) h45
    | succ n ih =>
      intro t M1 ht h1 h2 h3
      refine oRun_ok 2 rfl ?_
      refine g_ic_ge rfl (fun h45 => ?_) (fun h45 => ?_)
      · have := (nIle (a := 10) (b := t) (by omega) (by omega)).mp h45
        omega
      · have e : ∀ k, M1 k j = M k j := fun k => h3 k j (fun q => hij q.1)
        refine oRun_ok 6 rfl ?_
        refine g_iald t rfl rfl rfl (by omega) ?_
        refine g_iast t rfl rfl rfl (by omega) ?_
        refine oRun_ok 6 rfl ?_
        refine g_iald t rfl rfl rfl (by omega) ?_
        refine g_iast t rfl rfl rfl (by omega) ?_
        refine oRun_ok 6 rfl ?_
        refine g_iald t rfl rfl rfl (by omega) ?_
        refine g_iast t rfl rfl rfl (by omega) ?_
        refine oRun_ok 2 rfl ?_
        rw [nI_1]
        refine ih (t + 1) _ (by omega) h1 (fun s hs => ?_) (((h3.up ⟨rfl, Or.inr (Or.inl rfl)⟩).up ⟨rfl, Or.inr (Or.inr (Or.inl rfl))⟩).up ⟨rfl, Or.inr (Or.inr (Or.inr rfl))⟩)
        by_cases hst : s = t
        · subst hst
          refine ⟨?_, ?_, ?_⟩
          · show oUp M1 6 i s _ 6 i s = _
            rw [oUp_self, e]
          · show oUp (oUp M1 6 i s _) 7 i s _ 7 i s = _
            rw [oUp_self]
            show M1 7 j s = _
            rw [e]
          · show oUp (oUp (oUp M1 6 i s _) 7 i s _) 8 i s _ 8 i s = _
            rw [oUp_self]
            show M1 8 j s = _
            rw [e]
        · obtain ⟨a, b, c⟩ := h2 s (by omega)
          refine ⟨?_, ?_, ?_⟩
          · show oUp M1 6 i t _ 6 i s = _
            rw [oUp_j hst, a]
          · show oUp (oUp M1 6 i t _) 7 i t _ 7 i s = _
            rw [oUp_j hst]
            exact b
          · show oUp (oUp (oUp M1 6 i t _) 7 i t _) 8 i t _ 8 i s = _
            rw [oUp_j hst]
            exact c
  refine oRun_ok 22 rfl ?_
  refine loop 10 0 _ rfl (fun w hw => ?_) (fun s hs => by omega) (((((oFr.rf.up ⟨rfl, Or.inl rfl⟩).up ⟨rfl, Or.inl rfl⟩).up ⟨rfl, Or.inl rfl⟩).up ⟨rfl, Or.inl rfl⟩).up ⟨rfl, Or.inl rfl⟩)
  have hu : ∀ (M1 : oM) (a : Nat) (v : Int32) (b : Nat), oUp M1 5 i a v 5 j b = M1 5 j b := fun M1 a v b => by rw [oUp_i hij]
  simp only [hu]
  match w, hw with
  | 0, _ => simp [oUp]
  | 1, _ => simp [oUp]
  | 2, _ => simp [oUp]
  | 3, _ => simp [oUp]
  | 4, _ => simp [oUp]
/-- a row from which place c is gone, up to t -/
def oGone (c t : Nat) (f : Nat → Int32) : Nat → Int32 := fun j => if c ≤ j ∧ j < t then f (j + 1) else f j
theorem oGone_0 (c : Nat) (f : Nat → Int32) : oGone c c f = f := by
  funext j
  unfold oGone
  rw [if_neg (by omega)]
theorem oGone_s {c t : Nat} {f : Nat → Int32} (h : c ≤ t) : (fun j' => if j' = t then oGone c t f (t + 1) else oGone c t f j') = oGone c (t + 1) f := by
  funext j
  by_cases hj : j = t
  · subst hj
    show (if j = j then oGone c j f (j + 1) else _) = _
    rw [if_pos rfl]
    unfold oGone
    rw [if_neg (by omega), if_pos (by omega)]
  · show (if j = t then _ else oGone c t f j) = _
    rw [if_neg hj]
    unfold oGone
    by_cases h1 : c ≤ j ∧ j < t
    · rw [if_pos h1, if_pos (by omega)]
    · rw [if_neg h1, if_neg (by omega)]
def Q_removeCall (M : oM) (i c n : Nat) : Option Int32 → oM → Prop := fun r M' => r = none ∧ M' K_DEED i 4 = nI (n - 1) ∧ (∀ w, ¬ w = 4 → M' K_DEED i w = M K_DEED i w) ∧ M' K_DK i = oGone c (n - 1) (M K_DK i) ∧ M' K_DW i = oGone c (n - 1) (M K_DW i) ∧ M' K_DL i = oGone c (n - 1) (M K_DL i) ∧ oFr (oDS i) M M'
theorem c_Deed_removeCall (M : oM) (i c n : Nat) (hn : M K_DEED i 4 = nI n) (hc : c < n) (h10 : n ≤ 10) : oCt 2 k_Deed_removeCall [.inr (K_DEED, i), .inl (nI c)] M (Q_removeCall M i c n) := by
  refine oCt.of (ls := [some (.inr (K_DEED, i)), some (.inl (nI c)), none]) mok_Deed_removeCall rfl rfl ?_
  have loop : ∀ (q t : Nat) (M1 : oM), t + 1 + q = n → c ≤ t → M1 K_DEED i = M K_DEED i → M1 K_DK i = oGone c t (M K_DK i) → M1 K_DW i = oGone c t (M K_DW i) → M1 K_DL i = oGone c t (M K_DL i) → oFr (oDS i) M M1 → oG k_Deed_removeCall 2 11 [some (.inr (K_DEED, i)), some (.inl (nI c)), some (.inl (nI t))] [] M1 (Q_removeCall M i c n) := by
    intro q
    induction q with
    | zero =>
      intro t M1 ht hct h0 h1 h2 h3 h4
      have ht : t = n - 1 := by omega
      refine oRun_ok 5 rfl ?_
      refine g_ic_ge rfl (fun h18 => ?_) (fun h18 => ?_)
      · refine oRun_ok 6 rfl ?_
        refine g_ret rfl rfl ⟨rfl, ?_, fun w hw => ?_, ?_, ?_, ?_, h4.up ⟨rfl, Or.inl rfl⟩⟩
        · rw [oUp_self, h0, hn]
          exact nIsub (b := 1) (by omega)
        · rw [oUp_j hw, h0]
        · rw [← ht]; exact h1
        · rw [← ht]; exact h2
        · rw [← ht]; exact h3
      · rw [nI_1, h0, hn, nIle (by omega) (by omega)] at h18
        omega
    | succ q ih =>
      intro t M1 ht hct h0 h1 h2 h3 h4
      refine oRun_ok 5 rfl ?_
      refine g_ic_ge rfl (fun h18 => ?_) (fun h18 => ?_)
      · rw [nI_1, h0, hn, nIle (by omega) (by omega)] at h18
        omega
      · refine oRun_ok 8 rfl ?_
        refine g_iald (t + 1) rfl rfl (nI_1 t) (by omega) ?_
        refine g_iast t rfl rfl rfl (by omega) ?_
        refine oRun_ok 8 rfl ?_
        refine g_iald (t + 1) rfl rfl (nI_1 t) (by omega) ?_
        refine g_iast t rfl rfl rfl (by omega) ?_
        refine oRun_ok 8 rfl ?_
        refine g_iald (t + 1) rfl rfl (nI_1 t) (by omega) ?_
        refine g_iast t rfl rfl rfl (by omega) ?_
        refine oRun_ok 2 rfl ?_
        rw [nI_1]
        refine ih (t + 1) _ (by omega) (by omega) h0 ?_ ?_ ?_ (((h4.up ⟨rfl, Or.inr (Or.inl rfl)⟩).up ⟨rfl, Or.inr (Or.inr (Or.inl rfl))⟩).up ⟨rfl, Or.inr (Or.inr (Or.inr rfl))⟩)
        · show oUp M1 6 i t (M1 6 i (t + 1)) 6 i = _
          rw [oUp_at, h1, oGone_s hct]
        · show oUp (oUp M1 6 i t _) 7 i t (M1 7 i (t + 1)) 7 i = _
          rw [oUp_at]
          show (fun j' => if j' = t then M1 7 i (t + 1) else M1 7 i j') = _
          rw [h2, oGone_s hct]
        · show oUp (oUp (oUp M1 6 i t _) 7 i t _) 8 i t (M1 8 i (t + 1)) 8 i = _
          rw [oUp_at]
          show (fun j' => if j' = t then M1 8 i (t + 1) else M1 8 i j') = _
          rw [h3, oGone_s hct]
  refine oRun_ok 2 rfl ?_
  refine g_callV rfl rfl rfl rfl rfl mok_Deed_hasNumber (by decide) (c_Deed_hasNumber M i (nI c)) ?_
  rintro r2 M2 ⟨rfl, e⟩; rw [e]
  refine g_if_ne rfl (fun h5 => ?_) (fun h5 => ?_)
  · refine oRun_ok 2 rfl ?_
    exact loop (n - 1 - c) c M (by omega) (Nat.le_refl c) rfl (oGone_0 c _).symm (oGone_0 c _).symm (oGone_0 c _).symm oFr.rf
  · rw [hn, wiN (by omega) (by omega)] at h5
    exact absurd hc h5
end
section
/-! ===== Laws ===== -/
def oLr : Option Nat → Int32
  | none => -1000000005
  | some t => nI t
theorem c_Laws_lastOf (M : oM) (N : Nat → Int32) (key : Int32) (n : Nat) (hn : n ≤ 14) (hk : ∀ t, t < n → M K_TEXT t 0 = tK N t) : oCt 1 k_Laws_lastOf [.inr (K_LAWS, 0), .inl key, .inl (nI n)] M (fun r M' => r = some (oLr (oLast N key n)) ∧ M' = M) := by
  refine oCt.of (ls := [some (.inr (K_LAWS, 0)), some (.inl key), some (.inl (nI n)), none]) mok_Laws_lastOf rfl rfl ?_
  have loop : ∀ (t : Nat), t ≤ n → oLast N key n = oLast N key t → oG k_Laws_lastOf 1 9 [some (.inr (K_LAWS, 0)), some (.inl key), some (.inl (nI n)), some (.inl (nI t - 1))] [] M (fun r M' => r = some (oLr (oLast N key n)) ∧ M' = M) := by
    intro t
    induction t with
    | zero =>
      intro _ he
      refine oRun_ok 1 rfl ?_
      refine g_if_lt rfl (fun h10 => ?_) (fun h10 => ?_)
      · refine oRun_ok 1 rfl ?_
        exact g_iret rfl rfl rfl ⟨by rw [he]; rfl, rfl⟩
      · exact absurd (by decide) h10
    | succ t ih =>
      intro ht he
      rw [nI_pred]
      refine oRun_ok 1 rfl ?_
      refine g_if_lt rfl (fun h10 => ?_) (fun h10 => ?_)
      · exact absurd h10 (nI_pos (by omega))
      · refine oRun_ok 3 rfl ?_
        refine g_aald t rfl rfl rfl (by omega) (Nat.zero_add t).symm ?_
        refine oRun_ok 2 rfl ?_
        rw [hk t (by omega)]
        rw [show oLast N key (t + 1) = if tK N t = key then some t else oLast N key t from rfl] at he
        refine g_ic_ne rfl (fun h23 => ?_) (fun h23 => ?_)
        · refine oRun_ok 2 rfl ?_
          rw [if_neg h23] at he
          rw [← Int32.sub_eq_add_neg]
          exact ih (by omega) he
        · refine oRun_ok 1 rfl ?_
          rw [if_pos h23] at he
          exact g_iret rfl rfl rfl ⟨by rw [he]; rfl, rfl⟩
  refine oRun_ok 2 rfl ?_
  refine g_callS rfl rfl rfl rfl mok_Math_min (by decide) (c_Math_min M _ _) ?_
  rintro r3 M3 ⟨rfl, e⟩; rw [e]
  have hm : f_Math_min (nI n) 14 = nI n := by
    unfold f_Math_min
    rw [if_neg (fun h => by rw [show (14 : Int32) = nI 14 from rfl, nIlt (by omega) (by omega)] at h; omega)]
  rw [hm]
  refine oRun_ok 3 rfl ?_
  exact loop n (Nat.le_refl n) rfl
def oNam (M : oM) (i : Nat) (c num : Int32) : Int32 := if c = 99 then M K_DEED i 4 else if c = 110 then num else if c = 115 then M K_DEED i 3 else M K_DEED i 2
theorem c_Laws_named (M : oM) (i : Nat) (c num : Int32) : oCt 0 k_Laws_named [.inl c, .inr (K_DEED, i), .inl num] M (fun r M' => r = some (oNam M i c num) ∧ M' = M) := by
  refine oCt.of (ls := [some (.inl c), some (.inr (K_DEED, i)), some (.inl num)]) mok_Laws_named rfl rfl ?_
  refine oRun_ok 1 rfl ?_
  unfold oNam
  refine g_lsw [(99, 43), (110, 41), (115, 36)] 48 rfl (by decide +kernel) (by decide +kernel) rfl ⟨fun h => ?_, fun h => ?_, fun h => ?_, trivial⟩ (fun h => ?_)
  · refine oRun_ok 2 rfl ?_
    exact g_iret rfl rfl rfl ⟨by rw [if_pos h], rfl⟩
  · refine oRun_ok 1 rfl ?_
    exact g_iret rfl rfl rfl ⟨by rw [if_neg (by rw [h]; decide), if_pos h], rfl⟩
  · refine oRun_ok 2 rfl ?_
    exact g_iret rfl rfl rfl ⟨by rw [if_neg (by rw [h]; decide), if_neg (by rw [h]; decide), if_pos h], rfl⟩
  · refine oRun_ok 2 rfl ?_
    have h1 : ¬ c = 99 := h (99, 43) (by decide)
    have h2 : ¬ c = 110 := h (110, 41) (by decide)
    have h3 : ¬ c = 115 := h (115, 36) (by decide)
    exact g_iret rfl rfl rfl ⟨by rw [if_neg h1, if_neg h2, if_neg h3], rfl⟩
/-- what a code of the class stands for -/
theorem oTr_cases {key cc c : Int32} (h : oTr key cc = some c) :
    (0 ≤ cc ∧ c = cc ∧ cc ≤ 9999) ∨
    (cc < 0 ∧ 0 ≤ c ∧ ¬ c < 10000 ∧ ¬ f_Oak_isLetter (-cc) = 0 ∧ ∀ (M : oM) (i : Nat) (num : Int32) (g : Nat → Int32), M K_DEED i 2 = g 0 → (key = 1 → M K_DEED i 3 = g 1) → (key = 2 → num = g 1 ∧ M K_DEED i 4 = g 2) → oNam M i (-cc) num = g (c - 10000).toNatClampNeg) ∨
    (cc = -33 ∧ c = -10) ∨
    (cc < 0 ∧ ¬ cc = -33 ∧ f_Oak_isLetter (-cc) = 0 ∧ ¬ 0 ≤ c ∧ ¬ c = -10 ∧ ∀ a b, f_Laws_joined (-cc) a b = f_Mod_two c a b) := by
  unfold oTr at h
  by_cases h0 : 0 ≤ cc
  · rw [if_pos h0] at h
    by_cases h1 : cc ≤ 9999
    · rw [if_pos h1] at h
      cases h
      exact Or.inl ⟨h0, rfl, h1⟩
    · rw [if_neg h1] at h
      cases h
  rw [if_neg h0] at h
  by_cases e : cc = -121
  · rw [if_pos e] at h
    cases h
    subst e
    exact Or.inr (Or.inl ⟨by decide, by decide, by decide, by decide, fun M i num g h1 _ _ => h1⟩)
  rw [if_neg e] at h
  by_cases e : cc = -115
  · rw [if_pos e] at h
    by_cases ek : key = 1
    · rw [if_pos ek] at h
      cases h
      subst e
      exact Or.inr (Or.inl ⟨by decide, by decide, by decide, by decide, fun M i num g _ h2 _ => h2 ek⟩)
    · rw [if_neg ek] at h
      cases h
  rw [if_neg e] at h
  by_cases e : cc = -110
  · rw [if_pos e] at h
    by_cases ek : key = 2
    · rw [if_pos ek] at h
      cases h
      subst e
      exact Or.inr (Or.inl ⟨by decide, by decide, by decide, by decide, fun M i num g _ _ h3 => (h3 ek).1⟩)
    · rw [if_neg ek] at h
      cases h
  rw [if_neg e] at h
  by_cases e : cc = -99
  · rw [if_pos e] at h
    by_cases ek : key = 2
    · rw [if_pos ek] at h
      cases h
      subst e
      exact Or.inr (Or.inl ⟨by decide, by decide, by decide, by decide, fun M i num g _ _ h3 => (h3 ek).2⟩)
    · rw [if_neg ek] at h
      cases h
  rw [if_neg e] at h
  by_cases e : cc = -124
  · rw [if_pos e] at h
    cases h
    subst e
    exact Or.inr (Or.inr (Or.inr ⟨by decide, by decide, by decide, by decide, by decide, fun a b => by simp [f_Laws_joined, f_Mod_two]⟩))
  rw [if_neg e] at h
  by_cases e : cc = -38
  · rw [if_pos e] at h
    cases h
    subst e
    exact Or.inr (Or.inr (Or.inr ⟨by decide, by decide, by decide, by decide, by decide, fun a b => by simp [f_Laws_joined, f_Mod_two]⟩))
  rw [if_neg e] at h
  by_cases e : cc = -60
  · rw [if_pos e] at h
    cases h
    subst e
    exact Or.inr (Or.inr (Or.inr ⟨by decide, by decide, by decide, by decide, by decide, fun a b => by simp [f_Laws_joined, f_Mod_two]⟩))
  rw [if_neg e] at h
  by_cases e : cc = -61
  · rw [if_pos e] at h
    cases h
    subst e
    exact Or.inr (Or.inr (Or.inr ⟨by decide, by decide, by decide, by decide, by decide, fun a b => by simp [f_Laws_joined, f_Mod_two]⟩))
  rw [if_neg e] at h
  by_cases e : cc = -62
  · rw [if_pos e] at h
    cases h
    subst e
    exact Or.inr (Or.inr (Or.inr ⟨by decide, by decide, by decide, by decide, by decide, fun a b => by simp [f_Laws_joined, f_Mod_two]⟩))
  rw [if_neg e] at h
  by_cases e : cc = -43
  · rw [if_pos e] at h
    cases h
    subst e
    exact Or.inr (Or.inr (Or.inr ⟨by decide, by decide, by decide, by decide, by decide, fun a b => by simp [f_Laws_joined, f_Mod_two]⟩))
  rw [if_neg e] at h
  by_cases e : cc = -45
  · rw [if_pos e] at h
    cases h
    subst e
    exact Or.inr (Or.inr (Or.inr ⟨by decide, by decide, by decide, by decide, by decide, fun a b => by simp [f_Laws_joined, f_Mod_two]⟩))
  rw [if_neg e] at h
  by_cases e : cc = -42
  · rw [if_pos e] at h
    cases h
    subst e
    exact Or.inr (Or.inr (Or.inr ⟨by decide, by decide, by decide, by decide, by decide, fun a b => by simp [f_Laws_joined, f_Mod_two]⟩))
  rw [if_neg e] at h
  by_cases e : cc = -47
  · rw [if_pos e] at h
    cases h
    subst e
    exact Or.inr (Or.inr (Or.inr ⟨by decide, by decide, by decide, by decide, by decide, fun a b => by simp [f_Laws_joined, f_Mod_two]⟩))
  rw [if_neg e] at h
  by_cases e : cc = -33
  · rw [if_pos e] at h
    cases h
    exact Or.inr (Or.inr (Or.inl ⟨e, rfl⟩))
  rw [if_neg e] at h
  cases h
end
section
/-! ===== Laws.workOut ===== -/
def oKs (k0 : Nat) : Nat → Nat → Prop := fun k _ => k = k0
theorem top_up (h : Nat) : nI h - 1 + 1 = nI h := Int32.sub_add_cancel _ _
theorem oEv_pos {g c : Nat → Int32} {k : Nat} (h : 0 ≤ c k) : oEv g c (k + 1) = ((oEv g c k).1 + 1, upd (oEv g c k).2 (oEv g c k).1 (if c k < 10000 then c k else g (c k - 10000).toNatClampNeg)) := by
  rw [oEv, if_pos h]
theorem oEv_not {g c : Nat → Int32} {k : Nat} (h : c k = -10) : oEv g c (k + 1) = ((oEv g c k).1, upd (oEv g c k).2 ((oEv g c k).1 - 1) (if (oEv g c k).2 ((oEv g c k).1 - 1) = 0 then 1 else 0)) := by
  rw [oEv, if_neg (by rw [h]; decide), if_pos h]
theorem oEv_two {g c : Nat → Int32} {k : Nat} (h0 : ¬ 0 ≤ c k) (h : ¬ c k = -10) : oEv g c (k + 1) = ((oEv g c k).1 - 1, upd (oEv g c k).2 ((oEv g c k).1 - 2) (f_Mod_two (c k) ((oEv g c k).2 ((oEv g c k).1 - 2)) ((oEv g c k).2 ((oEv g c k).1 - 1)))) := by
  rw [oEv, if_neg h0, if_neg h]
theorem oDp_pos {c : Nat → Int32} {k h : Nat} (hd : oDp c k = some h) (h0 : 0 ≤ c k) : oDp c (k + 1) = some (h + 1) := by
  rw [oDp, hd]
  simp only
  rw [if_pos h0]
theorem oDp_not {c : Nat → Int32} {k h h' : Nat} (hd : oDp c k = some h) (h0 : c k = -10) (h1 : oDp c (k + 1) = some h') : 1 ≤ h ∧ h' = h := by
  rw [oDp, hd] at h1
  simp only at h1
  rw [if_neg (by rw [h0]; decide), if_pos h0] at h1
  by_cases hz : 1 ≤ h
  · rw [if_pos hz] at h1
    cases h1
    exact ⟨hz, rfl⟩
  · rw [if_neg hz] at h1
    cases h1
theorem oDp_two {c : Nat → Int32} {k h h' : Nat} (hd : oDp c k = some h) (h0 : ¬ 0 ≤ c k) (h2 : ¬ c k = -10) (h1 : oDp c (k + 1) = some h') : 2 ≤ h ∧ h' = h - 1 := by
  rw [oDp, hd] at h1
  simp only at h1
  rw [if_neg h0, if_neg h2] at h1
  by_cases hz : 2 ≤ h
  · rw [if_pos hz] at h1
    cases h1
    exact ⟨hz, rfl⟩
  · rw [if_neg hz] at h1
    cases h1
theorem upd_eq {f : Nat → Int32} {k : Nat} {x : Int32} : upd f k x k = x := if_pos rfl
theorem upd_ne {f : Nat → Int32} {k j : Nat} {x : Int32} (h : ¬ j = k) : upd f k x j = f j := if_neg h
set_option maxRecDepth 4000 in
theorem c_Laws_workOut (M : oM) (N g : Nat → Int32) (t i : Nat) (num : Int32) (hT : oTOk N t) (hR : oRT M N t) (ht : t < 14) (g0 : M K_DEED i 2 = g 0) (g1 : tK N t = 1 → M K_DEED i 3 = g 1) (g2 : tK N t = 2 → num = g 1 ∧ M K_DEED i 4 = g 2) :
    oCt 1 k_Laws_workOut [.inr (K_LAWS, 0), .inl (nI t), .inr (K_DEED, i), .inl num] M (fun r M' => r = some (oVal g N t) ∧ oFr (oKs K_LSTK) M M') := by
  obtain ⟨hT1, hT2, hT3, hT4⟩ := hT
  obtain ⟨hR1, hR2, hR3, hR4⟩ := hR
  refine oCt.of (ls := [some (.inr (K_LAWS, 0)), some (.inl (nI t)), some (.inr (K_DEED, i)), some (.inl num), none, none, none, none]) mok_Laws_workOut rfl rfl ?_
  have loop : ∀ (q k h : Nat) (M1 : oM) (x7 : Option oV), k + q = tN N t → oDp (tC N t) k = some h → (∀ j, j < h → M1 K_LSTK 0 j = (oEv g (tC N t) k).2 j) → oFr (oKs K_LSTK) M M1 → oG k_Laws_workOut 1 14 [some (.inr (K_LAWS, 0)), some (.inl (nI t)), some (.inr (K_DEED, i)), some (.inl num), some (.inr (K_TEXT, t)), some (.inl (nI h - 1)), some (.inl (nI k)), x7] [] M1 (fun r M' => r = some (oVal g N t) ∧ oFr (oKs K_LSTK) M M') := by
    intro q
    induction q with
    | zero =>
      intro k h M1 x7 hk hd ha hf
      have hk : k = tN N t := by omega
      subst hk
      have hh : h = 1 := by
        have := hd.symm.trans hT3
        exact Option.some.inj this
      subst hh
      have e2 : M1 K_TEXT t 2 = nI (tN N t) := by rw [hf K_TEXT t (show ¬ K_TEXT = K_LSTK by decide), hR3]
      refine oRun_ok 3 rfl ?_
      refine g_ic_ge rfl (fun h21 => ?_) (fun h21 => ?_)
      · refine oRun_ok 3 rfl ?_
        refine g_iald 0 rfl rfl rfl (by decide) ?_
        exact g_iret rfl rfl rfl ⟨by rw [ha 0 (by decide)]; rfl, hf⟩
      · rw [show M1 19 t 2 = nI (tN N t) from e2] at h21
        exact absurd (Int32.le_refl _) h21
    | succ q ih =>
      intro k h M1 x7 hk hd ha hf
      obtain ⟨hE, hhk⟩ := oDp_h g k h hd
      obtain ⟨h', hd'⟩ := oDp_back (k := k + 1) hT3 (by omega)
      have e2 : M1 K_TEXT t 2 = nI (tN N t) := by rw [hf K_TEXT t (show ¬ K_TEXT = K_LSTK by decide), hR3]
      have ec : M1 K_TCOD t k = M K_TCOD t k := by rw [hf K_TCOD t (show ¬ K_TCOD = K_LSTK by decide)]
      have eD : M1 K_DEED i = M K_DEED i := hf K_DEED i (show ¬ K_DEED = K_LSTK by decide)
      have hcc := hR4 k (by omega)
      rw [← ec] at hcc
      generalize hz : M1 K_TCOD t k = cc at hcc
      have hcc2 := oTr_cases hcc
      refine oRun_ok 3 rfl ?_
      refine g_ic_ge rfl (fun h21 => ?_) (fun h21 => ?_)
      · rw [show M1 19 t 2 = nI (tN N t) from e2, nIle (by omega) (by omega)] at h21
        omega
      refine oRun_ok 3 rfl ?_
      refine g_iald k rfl rfl rfl (by omega) ?_
      rw [show M1 20 t k = cc from hz]
      refine oRun_ok 2 rfl ?_
      rcases hcc2 with ⟨c1, c2, c3⟩ | ⟨c1, c2, c3, c4, c5⟩ | ⟨c1, c2⟩ | ⟨c1, c2, c3, c4, c5, c6⟩
      · -- a number
        have hpos : 0 ≤ tC N t k := by show 0 ≤ N (188 + 96 * t + k); rw [c2]; exact c1
        have hev := oEv_pos (g := g) hpos
        refine g_if_lt rfl (fun h36 => absurd (Int32.lt_of_lt_of_le h36 c1) Int32.lt_irrefl) (fun h36 => ?_)
        refine oRun_ok 5 rfl ?_
        refine g_iast h rfl rfl (top_up h) (by omega) ?_
        refine oRun_ok 3 rfl ?_
        rw [nI_1, show nI h - 1 + 1 = nI (h + 1) - 1 by rw [top_up, nI_pred]]
        refine ih (k + 1) (h + 1) _ _ (by omega) (oDp_pos hd hpos) (fun j hj => ?_) (hf.up rfl)
        rw [hev]
        show oUp M1 21 0 h cc 21 0 j = upd _ _ _ j
        by_cases hjh : j = h
        · subst hjh
          rw [oUp_self, hE, upd_eq, if_pos (show tC N t k < 10000 by show N (188 + 96 * t + k) < 10000; rw [c2]; exact Int32.lt_of_le_of_lt c3 (by decide))]
          exact c2.symm
        · rw [oUp_j hjh, hE, upd_ne hjh]
          exact ha j (by omega)
      · -- a name
        have hev := oEv_pos (g := g) (c := tC N t) (k := k) c2
        refine g_if_lt rfl (fun h36 => ?_) (fun h36 => absurd c1 h36)
        refine oRun_ok 2 rfl ?_
        refine g_callSN rfl rfl rfl rfl mok_Oak_isLetter (by decide) (c_Oak_isLetter M1 _) ?_
        rintro r57 M57 ⟨rfl, e⟩; rw [e]
        refine g_if_eq rfl (fun h60 => absurd h60 c4) (fun h60 => ?_)
        refine oRun_ok 8 rfl ?_
        refine g_callS rfl rfl rfl rfl mok_Laws_named (by decide) (c_Laws_named M1 i _ _) ?_
        rintro r77 M77 ⟨rfl, e⟩; rw [e]
        refine g_iast h rfl rfl (top_up h) (by omega) ?_
        refine oRun_ok 3 rfl ?_
        rw [nI_1, show nI h - 1 + 1 = nI (h + 1) - 1 by rw [top_up, nI_pred]]
        refine ih (k + 1) (h + 1) _ _ (by omega) (oDp_pos hd c2) (fun j hj => ?_) (hf.up rfl)
        rw [hev]
        show oUp M1 21 0 h _ 21 0 j = upd _ _ _ j
        by_cases hjh : j = h
        · subst hjh
          rw [oUp_self, hE, upd_eq, if_neg (show ¬ tC N t k < 10000 from c3)]
          exact c5 M1 i num g (by rw [eD]; exact g0) (fun hk => by rw [eD]; exact g1 hk) (fun hk => by rw [eD]; exact g2 hk)
        · rw [oUp_j hjh, hE, upd_ne hjh]
          exact ha j (by omega)
      · -- not
        obtain ⟨p1, p2⟩ := oDp_not hd (show tC N t k = -10 from c2) hd'
        subst p2
        have hev := oEv_not (g := g) (show tC N t k = -10 from c2)
        refine g_if_lt rfl (fun h36 => ?_) (fun h36 => absurd (show cc < 0 by rw [c1]; decide) h36)
        refine oRun_ok 2 rfl ?_
        refine g_callSN rfl rfl rfl rfl mok_Oak_isLetter (by decide) (c_Oak_isLetter M1 _) ?_
        rintro r57 M57 ⟨rfl, e⟩; rw [e]
        refine g_if_eq rfl (fun h60 => ?_) (fun h60 => absurd (show f_Oak_isLetter (-cc) = 0 by rw [c1]; decide) h60)
        refine oRun_ok 2 rfl ?_
        refine g_ic_ne rfl (fun h88 => absurd c1 h88) (fun h88 => ?_)
        have et : nI h' - 1 = nI (h' - 1) := nIsub (b := 1) p1
        rw [et]
        refine oRun_ok 1 rfl ?_
        refine g_if_lt rfl (fun h93 => absurd h93 (nI_pos (by omega))) (fun h93 => ?_)
        refine oRun_ok 6 rfl ?_
        refine g_iald (h' - 1) rfl rfl rfl (by omega) ?_
        have hval : M1 21 0 (h' - 1) = (oEv g (tC N t) k).2 (h' - 1) := ha (h' - 1) (by omega)
        have fin : ∀ v : Int32, v = (if (oEv g (tC N t) k).2 (h' - 1) = 0 then 1 else 0) → ∀ x7, oG k_Laws_workOut 1 159 [some (.inr (K_LAWS, 0)), some (.inl (nI t)), some (.inr (K_DEED, i)), some (.inl num), some (.inr (K_TEXT, t)), some (.inl (nI (h' - 1))), some (.inl (nI k)), x7] [] (oUp M1 21 0 (h' - 1) v) (fun r M' => r = some (oVal g N t) ∧ oFr (oKs K_LSTK) M M') := by
          intro v hv x7
          refine oRun_ok 2 rfl ?_
          rw [nI_1, ← et]
          refine ih (k + 1) h' _ _ (by omega) hd' (fun j hj => ?_) (hf.up rfl)
          rw [hev]
          show oUp M1 21 0 (h' - 1) v 21 0 j = upd _ _ _ j
          by_cases hjh : j = h' - 1
          · subst hjh
            rw [oUp_self, hE, upd_eq]
            exact hv
          · rw [oUp_j hjh, hE, upd_ne hjh]
            exact ha j (by omega)
        refine g_if_ne rfl (fun h109 => ?_) (fun h109 => ?_)
        · refine oRun_ok 1 rfl ?_
          refine g_iast (h' - 1) rfl rfl rfl (by omega) ?_
          refine oRun_ok 1 rfl ?_
          rw [hval] at h109
          exact fin 0 (by rw [if_neg h109]) _
        · refine oRun_ok 2 rfl ?_
          refine g_iast (h' - 1) rfl rfl rfl (by omega) ?_
          refine oRun_ok 1 rfl ?_
          rw [hval] at h109
          exact fin 1 (by rw [if_pos h109]) _
      · -- a sign between two
        obtain ⟨p1, p2⟩ := oDp_two hd (show ¬ 0 ≤ tC N t k from c4) (show ¬ tC N t k = -10 from c5) hd'
        have hev := oEv_two (g := g) (show ¬ 0 ≤ tC N t k from c4) (show ¬ tC N t k = -10 from c5)
        refine g_if_lt rfl (fun h36 => ?_) (fun h36 => absurd c1 h36)
        refine oRun_ok 2 rfl ?_
        refine g_callSN rfl rfl rfl rfl mok_Oak_isLetter (by decide) (c_Oak_isLetter M1 _) ?_
        rintro r57 M57 ⟨rfl, e⟩; rw [e]
        refine g_if_eq rfl (fun h60 => ?_) (fun h60 => absurd c3 h60)
        refine oRun_ok 2 rfl ?_
        refine g_ic_ne rfl (fun h88 => ?_) (fun h88 => absurd h88 c2)
        have et : nI h - 1 = nI (h - 1) := nIsub (b := 1) (by omega)
        have et2 : nI (h - 1) + -1 = nI (h - 2) := by
          rw [← Int32.sub_eq_add_neg]
          exact nIsub (a := h - 1) (b := 1) (by omega)
        rw [et]
        refine oRun_ok 2 rfl ?_
        refine g_ic_lt rfl (fun h124 => ?_) (fun h124 => ?_)
        · rw [show (1 : Int32) = nI 1 from rfl, nIlt (by omega) (by omega)] at h124
          omega
        refine oRun_ok 9 rfl ?_
        refine g_iald (h - 2) rfl rfl et2 (by omega) ?_
        refine oRun_ok 5 rfl ?_
        refine g_iald (h - 1) rfl rfl (by rw [et2, nI_1, show h - 2 + 1 = h - 1 by omega]) (by omega) ?_
        refine g_callS rfl rfl rfl rfl mok_Laws_joined (by decide) (c_Laws_joined M1 _ _ _) ?_
        rintro r155 M155 ⟨rfl, e⟩; rw [e]
        refine g_iast (h - 2) rfl rfl et2 (by omega) ?_
        refine oRun_ok 2 rfl ?_
        rw [nI_1, et2, show nI (h - 2) = nI (h - 1) - 1 from (nIsub (a := h - 1) (b := 1) (by omega)).symm]
        subst p2
        refine ih (k + 1) (h - 1) _ _ (by omega) hd' (fun j hj => ?_) (hf.up rfl)
        rw [hev]
        show oUp M1 21 0 (h - 2) _ 21 0 j = upd _ _ _ j
        by_cases hjh : j = h - 2
        · subst hjh
          rw [oUp_self, hE, upd_eq]
          show f_Laws_joined (-cc) (M1 21 0 (h - 2)) (M1 21 0 (h - 1)) = _
          rw [c6, show M1 21 0 (h - 2) = _ from ha (h - 2) (by omega), show M1 21 0 (h - 1) = _ from ha (h - 1) (by omega)]
          rfl
        · rw [oUp_j hjh, hE, upd_ne hjh]
          exact ha j (by omega)
  refine oRun_ok 3 rfl ?_
  refine g_aald t rfl rfl rfl ht (Nat.zero_add t).symm ?_
  refine oRun_ok 5 rfl ?_
  exact loop (tN N t) 0 0 M none (by omega) rfl (fun j hj => by omega) oFr.rf
end
section
/-! ===== Land: reads ===== -/
theorem c_Land_hasStone (M : oM) (l : Nat) (v : Int32) : oCt 1 k_Land_hasStone [.inr (K_LAND, l), .inl v] M (fun r M' => r = some (f_Oak_isWithin v 0 (M K_LAND l 1 - 1)) ∧ M' = M) := by
  refine oCt.of (ls := [some (.inr (K_LAND, l)), some (.inl v)]) mok_Land_hasStone rfl rfl ?_
  refine oRun_ok 6 rfl ?_
  refine g_callSN rfl rfl rfl rfl mok_Oak_isWithin (by decide) (c_Oak_isWithin M _ _ _) ?_
  rintro r8 M8 ⟨rfl, e⟩; rw [e]
  exact g_iret rfl rfl (n_Oak_isWithin _ _ _) ⟨rfl, rfl⟩
theorem c_Land_hasDeed (M : oM) (l : Nat) (v : Int32) : oCt 1 k_Land_hasDeed [.inr (K_LAND, l), .inl v] M (fun r M' => r = some (f_Oak_isWithin v 0 (M K_LAND l 4 - 1)) ∧ M' = M) := by
  refine oCt.of (ls := [some (.inr (K_LAND, l)), some (.inl v)]) mok_Land_hasDeed rfl rfl ?_
  refine oRun_ok 6 rfl ?_
  refine g_callSN rfl rfl rfl rfl mok_Oak_isWithin (by decide) (c_Oak_isWithin M _ _ _) ?_
  rintro r8 M8 ⟨rfl, e⟩; rw [e]
  exact g_iret rfl rfl (n_Oak_isWithin _ _ _) ⟨rfl, rfl⟩
def oHasCall (M : oM) (l : Nat) (d c : Int32) : Int32 := if f_Oak_isWithin d 0 (M K_LAND l 4 - 1) = 0 then 0 else if f_Oak_isWithin c 0 (M K_DEED (4 * l + d.toNatClampNeg) 4 - 1) = 0 then 0 else 1
theorem c_Land_hasCall (M : oM) (l n : Nat) (d c : Int32) (hn : M K_LAND l 4 = nI n) (h4 : n ≤ 4) : oCt 2 k_Land_hasCall [.inr (K_LAND, l), .inl d, .inl c] M (fun r M' => r = some (oHasCall M l d c) ∧ M' = M) := by
  refine oCt.of (ls := [some (.inr (K_LAND, l)), some (.inl d), some (.inl c)]) mok_Land_hasCall rfl rfl ?_
  refine oRun_ok 2 rfl ?_
  refine g_callV rfl rfl rfl rfl rfl mok_Land_hasDeed (by decide) (c_Land_hasDeed M l d) ?_
  rintro r2 M2 ⟨rfl, e⟩; rw [e]
  unfold oHasCall
  refine g_if_eq rfl (fun h5 => ?_) (fun h5 => ?_)
  · refine oRun_ok 1 rfl ?_
    exact g_iret rfl rfl rfl ⟨by rw [if_pos h5], rfl⟩
  · rw [if_neg h5]
    rw [hn] at h5
    obtain ⟨j, hj, rfl⟩ := wiI (by omega) h5
    rw [nIc (by omega)]
    refine oRun_ok 3 rfl ?_
    refine g_aald j rfl rfl rfl (by omega) rfl ?_
    refine oRun_ok 1 rfl ?_
    refine g_callV rfl rfl rfl rfl rfl mok_Deed_hasNumber (by decide) (c_Deed_hasNumber M (4 * l + j) c) ?_
    rintro r15 M15 ⟨rfl, e⟩; rw [e]
    refine g_if_eq rfl (fun h18 => ?_) (fun h18 => ?_)
    · refine oRun_ok 1 rfl ?_
      exact g_iret rfl rfl rfl ⟨by rw [if_pos h18], rfl⟩
    · refine oRun_ok 2 rfl ?_
      exact g_iret rfl rfl rfl ⟨by rw [if_neg h18], rfl⟩
/-- whether one of the first n deeds has the year -/
def oAnyY (N : Nat → Int32) (y : Int32) : Nat → Bool
  | 0 => false
  | n + 1 => oAnyY N y n || decide (N (20 + 35 * n + 2) = y)
theorem oAnyY_iff {N : Nat → Int32} {y : Int32} : ∀ {n : Nat}, oAnyY N y n = true ↔ ∃ d, d < n ∧ N (20 + 35 * d + 2) = y
  | 0 => by simp [oAnyY]
  | n + 1 => by
    rw [oAnyY, Bool.or_eq_true, oAnyY_iff, decide_eq_true_eq]
    constructor
    · rintro (⟨d, h1, h2⟩ | h)
      · exact ⟨d, by omega, h2⟩
      · exact ⟨n, by omega, h⟩
    · rintro ⟨d, h1, h2⟩
      by_cases e : d = n
      · subst e
        exact Or.inr h2
      · exact Or.inl ⟨d, by omega, h2⟩
theorem c_Land_hasYear (M : oM) (N : Nat → Int32) (l : Nat) (y : Int32) (hN : oNOk N) (hL : oRL M N l) : oCt 0 k_Land_hasYear [.inr (K_LAND, l), .inl y] M (fun r M' => r = some (bI (oAnyY N y (cD N))) ∧ M' = M) := by
  obtain ⟨hD, hD4⟩ := oND hN
  refine oCt.of (ls := [some (.inr (K_LAND, l)), some (.inl y), none]) mok_Land_hasYear rfl rfl ?_
  have loop : ∀ (q d : Nat), d + q = cD N → oAnyY N y d = false → oG k_Land_hasYear 0 2 [some (.inr (K_LAND, l)), some (.inl y), some (.inl (nI d))] [] M (fun r M' => r = some (bI (oAnyY N y (cD N))) ∧ M' = M) := by
    intro q
    induction q with
    | zero =>
      intro d hd hf
      refine oRun_ok 3 rfl ?_
      rw [show M 1 l 4 = nI (cD N) from hL.2.1.trans hD]
      refine g_ic_ge rfl (fun h7 => ?_) (fun h7 => ?_)
      · refine oRun_ok 1 rfl ?_
        exact g_iret rfl rfl rfl ⟨by rw [show cD N = d by omega, hf]; rfl, rfl⟩
      · rw [nIle (by omega) (by omega)] at h7
        omega
    | succ q ih =>
      intro d hd hf
      refine oRun_ok 3 rfl ?_
      rw [show M 1 l 4 = nI (cD N) from hL.2.1.trans hD]
      refine g_ic_ge rfl (fun h7 => ?_) (fun h7 => ?_)
      · rw [nIle (by omega) (by omega)] at h7
        omega
      refine oRun_ok 3 rfl ?_
      refine g_aald d rfl rfl rfl (by omega) rfl ?_
      refine oRun_ok 2 rfl ?_
      rw [show M 5 (4 * l + d) 2 = N (20 + 35 * d + 2) from (hL.2.2.2.2.2.1 d (by omega)).1 2 (by decide)]
      refine g_ic_ne rfl (fun h20 => ?_) (fun h20 => ?_)
      · refine oRun_ok 2 rfl ?_
        rw [nI_1]
        exact ih (d + 1) (by omega) (by rw [oAnyY, hf, decide_eq_false h20]; rfl)
      · refine oRun_ok 1 rfl ?_
        refine g_iret rfl rfl rfl ⟨?_, rfl⟩
        rw [(oAnyY_iff (n := cD N)).mpr ⟨d, by omega, h20⟩]
        rfl
  refine oRun_ok 2 rfl ?_
  exact loop (cD N) 0 (by omega) rfl
theorem c_Land_putStone (M : oM) (l s n : Nat) (x y : Int32) (hn : M K_LAND l 1 = nI n) (hs : s < n) (h8 : n ≤ 8) : oCt 2 k_Land_putStone [.inr (K_LAND, l), .inl (nI s), .inl x, .inl y] M (fun r M' => r = none ∧ M' = oUp (oUp M K_STX l s x) K_STY l s y) := by
  refine oCt.of (ls := [some (.inr (K_LAND, l)), some (.inl (nI s)), some (.inl x), some (.inl y)]) mok_Land_putStone rfl rfl ?_
  refine oRun_ok 2 rfl ?_
  refine g_callV rfl rfl rfl rfl rfl mok_Land_hasStone (by decide) (c_Land_hasStone M l (nI s)) ?_
  rintro r2 M2 ⟨rfl, e⟩; rw [e]
  refine g_if_eq rfl (fun h5 => ?_) (fun h5 => ?_)
  · rw [hn, wiN (by omega) (by omega)] at h5
    exact absurd hs h5
  · refine oRun_ok 4 rfl ?_
    refine g_iast s rfl rfl rfl (by omega) ?_
    refine oRun_ok 4 rfl ?_
    refine g_iast s rfl rfl rfl (by omega) ?_
    exact g_ret rfl rfl ⟨rfl, rfl⟩
def oSumC (N : Nat → Int32) : Nat → Int32
  | 0 => 0
  | n + 1 => oSumC N n + N (20 + 35 * n + 4)
theorem c_Land_callsOfAll (M : oM) (N : Nat → Int32) (l : Nat) (hN : oNOk N) (hL : oRL M N l) : oCt 0 k_Land_callsOfAll [.inr (K_LAND, l)] M (fun r M' => r = some (oSumC N (cD N)) ∧ M' = M) := by
  obtain ⟨hD, hD4⟩ := oND hN
  refine oCt.of (ls := [some (.inr (K_LAND, l)), none, none]) mok_Land_callsOfAll rfl rfl ?_
  have loop : ∀ (q d : Nat), d + q = cD N → oG k_Land_callsOfAll 0 4 [some (.inr (K_LAND, l)), some (.inl (oSumC N d)), some (.inl (nI d))] [] M (fun r M' => r = some (oSumC N (cD N)) ∧ M' = M) := by
    intro q
    induction q with
    | zero =>
      intro d hd
      refine oRun_ok 3 rfl ?_
      rw [show M 1 l 4 = nI (cD N) from hL.2.1.trans hD]
      refine g_ic_ge rfl (fun h9 => ?_) (fun h9 => ?_)
      · refine oRun_ok 1 rfl ?_
        exact g_iret rfl rfl rfl ⟨by rw [show cD N = d by omega], rfl⟩
      · rw [nIle (by omega) (by omega)] at h9
        omega
    | succ q ih =>
      intro d hd
      refine oRun_ok 3 rfl ?_
      rw [show M 1 l 4 = nI (cD N) from hL.2.1.trans hD]
      refine g_ic_ge rfl (fun h9 => ?_) (fun h9 => ?_)
      · rw [nIle (by omega) (by omega)] at h9
        omega
      refine oRun_ok 4 rfl ?_
      refine g_aald d rfl rfl rfl (by omega) rfl ?_
      refine oRun_ok 5 rfl ?_
      rw [nI_1, show M 5 (4 * l + d) 4 = N (20 + 35 * d + 4) from (hL.2.2.2.2.2.1 d (by omega)).1 4 (by decide)]
      exact ih (d + 1) (by omega)
  refine oRun_ok 4 rfl ?_
  exact loop (cD N) 0 (by omega)
def oDraw (z : Int32) : Int32 := z * 1103515245 + 12345
theorem c_Land_drawNumber (M : oM) (l : Nat) : oCt 0 k_Land_drawNumber [.inr (K_LAND, l)] M (fun r M' => r = some (oUshr (oDraw (M K_LAND l 7)) 8) ∧ M' = oUp M K_LAND l 7 (oDraw (M K_LAND l 7))) := by
  refine oCt.of (ls := [some (.inr (K_LAND, l))]) mok_Land_drawNumber rfl rfl ?_
  refine oRun_ok 12 rfl ?_
  refine g_iret rfl rfl rfl ⟨?_, rfl⟩
  rw [show oUp M K_LAND l 7 (M 1 l 7 * 1103515245 + 12345) 1 l 7 = _ from oUp_self]
  rfl
theorem and7 (x : Int32) : x &&& 7 = oRem (oRem x 8 + 8) 8 := by
  have h1 := pk_and x (m := 7) 3 rfl
  rw [h1, iEq, nIt (by omega)]
  have e8 : (8 : Int32).toInt = 8 := rfl
  have h2 := oRem_toInt (a := x) (b := 8) (by decide)
  rw [e8] at h2
  have h3 : -8 < x.toInt.tmod 8 ∧ x.toInt.tmod 8 < 8 := by
    have := Int.natAbs_tmod x.toInt 8
    have h4 : x.toInt.natAbs % (8 : Int).natAbs < 8 := Nat.mod_lt _ (by decide)
    omega
  have h5 : (oRem x 8 + 8).toInt = x.toInt.tmod 8 + 8 := by
    rw [iAdd (by rw [h2, e8]; omega), h2, e8]
  rw [oRem_toInt (by decide), h5, e8]
  have h6 : (x.toBitVec.toNat : Int) % 8 = x.toInt % 8 := by
    have : x.toInt = (x.toBitVec.toNat : Int) ∨ x.toInt = (x.toBitVec.toNat : Int) - 4294967296 := by
      show x.toBitVec.toInt = _ ∨ x.toBitVec.toInt = _
      rw [BitVec.toInt_eq_toNat_cond]
      split
      · exact Or.inl rfl
      · exact Or.inr rfl
    rcases this with h | h <;> omega
  have h7 : x.toInt.tmod 8 = x.toInt % 8 ∨ x.toInt.tmod 8 = x.toInt % 8 - 8 := by
    rw [Int.tmod_eq_emod]
    split
    · left; omega
    · right
      have : (8 : Int).natAbs = 8 := rfl
      omega
  have h8 : (x.toInt.tmod 8 + 8).tmod 8 = (x.toInt.tmod 8 + 8) % 8 := Int.tmod_eq_emod_of_nonneg (by omega)
  rw [h8]
  omega
theorem clamp_eq (v : Int32) : f_Math_max (-9) (f_Math_min 9 v) = f_Mod_within v (-9) 9 := by
  unfold f_Math_max f_Math_min f_Mod_within
  have e9 : (9 : Int32).toInt = 9 := rfl
  have em : (-9 : Int32).toInt = -9 := rfl
  by_cases h1 : v < 9
  · rw [if_pos h1]
    have h1' := iLt.mp h1
    by_cases h2 : -9 < v
    · rw [if_pos h2, if_pos (Int32.le_of_lt h2), if_pos (Int32.le_of_lt h1)]
    · rw [if_neg h2]
      by_cases h3 : -9 ≤ v
      · rw [if_pos h3, if_pos (Int32.le_of_lt h1)]
        exact Int32.le_antisymm h3 (Int32.not_lt.mp h2)
      · rw [if_neg h3]
  · rw [if_neg h1, if_pos (by decide : (-9 : Int32) < 9)]
    have h2 : (9 : Int32) ≤ v := Int32.not_lt.mp h1
    rw [if_pos (Int32.le_trans (by decide) h2)]
    by_cases h3 : v ≤ 9
    · rw [if_pos h3]
      exact Int32.le_antisymm h2 h3
    · rw [if_neg h3]
end
section
/-! ===== Land: needle, chain, rank; all taken from another land ===== -/
theorem oLr_none {t : Nat} (h : t < 14) : ¬ nI t = -1000000005 := by
  rw [iEq, nIt (by omega), show (-1000000005 : Int32).toInt = -1000000005 from rfl]
  omega
/-- what the texts of a land, and a deed of it, are in the class -/
theorem oRL_last {M : oM} {N : Nat → Int32} {l : Nat} (hN : oNOk N) (hL : oRL M N l) : (M K_LAND l 6 = nI (cT N) ∧ cT N ≤ 14) ∧ ∀ t, t < cT N → M K_TEXT t 0 = tK N t := by
  obtain ⟨h1, h2⟩ := oNT hN
  exact ⟨⟨hL.2.2.1.trans h1, h2⟩, fun t ht => (hL.2.2.2.2.2.2 t ht).1⟩
theorem oEv_key {N g g' : Nat → Int32} {t key : Nat} (hT : oTOk N t) (hk : tK N t = nI key) (hk2 : key < 3) (hg : ∀ j, j ≤ key → g j = g' j) : oVal g N t = oVal g' N t := by
  unfold oVal
  rw [oEv_congr (key := key) (tN N t) (fun k hkn => by
    have := hT.2.2.2 k hkn
    rw [hk, nIt (by omega)] at this
    exact this) hg]
theorem c_Land_needleOf (M : oM) (N : Nat → Int32) (l d : Nat) (hN : oNOk N) (hL : oRL M N l) (hd : d < cD N) : oCt 2 k_Land_needleOf [.inr (K_LAND, l), .inl (nI d)] M (fun r M' => r = some (sNd N d) ∧ oFr (oKs K_LSTK) M M') := by
  obtain ⟨⟨t1, t2⟩, t3⟩ := oRL_last hN hL
  obtain ⟨-, d4⟩ := oND hN
  refine oCt.of (ls := [some (.inr (K_LAND, l)), some (.inl (nI d)), none]) mok_Land_needleOf rfl rfl ?_
  refine oRun_ok 5 rfl ?_
  rw [show M 1 l 6 = nI (cT N) from t1]
  refine g_callV rfl rfl rfl rfl rfl mok_Laws_lastOf (by decide) (c_Laws_lastOf M N 0 (cT N) t2 t3) ?_
  rintro r9 M9 ⟨rfl, e⟩; rw [e]
  refine oRun_ok 3 rfl ?_
  unfold sNd
  cases hz : oLast N 0 (cT N) with
  | none =>
    refine g_ic_ne rfl (fun h16 => absurd rfl h16) (fun h16 => ?_)
    refine oRun_ok 2 rfl ?_
    exact g_iret rfl rfl rfl ⟨rfl, oFr.rf⟩
  | some t =>
    obtain ⟨a1, a2⟩ := oLast_lt hz
    refine g_ic_ne rfl (fun h16 => ?_) (fun h16 => absurd h16 (oLr_none (by omega)))
    refine oRun_ok 6 rfl ?_
    refine g_aald d rfl rfl rfl (by omega) rfl ?_
    refine oRun_ok 1 rfl ?_
    have hD := hL.2.2.2.2.2.1 d hd
    refine g_callV rfl rfl rfl rfl rfl mok_Laws_workOut (by decide) (c_Laws_workOut M N (gN N d) t (4 * l + d) (nI d) (hN.2.2.2.2.2 t a1) (hL.2.2.2.2.2.2 t a1) (by omega) (hD.1 2 (by decide)) (fun hk => ?_) (fun hk => ?_)) ?_
    · rw [a2] at hk
      exact absurd hk (by decide)
    · rw [a2] at hk
      exact absurd hk (by decide)
    rintro r35 M35 ⟨rfl, hf⟩
    refine oRun_ok 2 rfl ?_
    refine g_iret rfl rfl rfl ⟨?_, hf⟩
    rw [and7]
theorem c_Land_chainOf (M : oM) (N : Nat → Int32) (l d : Nat) (hN : oNOk N) (hL : oRL M N l) (hd : d < cD N) : oCt 2 k_Land_chainOf [.inr (K_LAND, l), .inl (nI d)] M (fun r M' => r = some (sCh N d) ∧ oFr (oKs K_LSTK) M M') := by
  obtain ⟨⟨t1, t2⟩, t3⟩ := oRL_last hN hL
  obtain ⟨-, d4⟩ := oND hN
  have hD := hL.2.2.2.2.2.1 d hd
  refine oCt.of (ls := [some (.inr (K_LAND, l)), some (.inl (nI d)), none]) mok_Land_chainOf rfl rfl ?_
  refine oRun_ok 5 rfl ?_
  rw [show M 1 l 6 = nI (cT N) from t1]
  refine g_callV rfl rfl rfl rfl rfl mok_Laws_lastOf (by decide) (c_Laws_lastOf M N 1 (cT N) t2 t3) ?_
  rintro r9 M9 ⟨rfl, e⟩; rw [e]
  refine oRun_ok 3 rfl ?_
  unfold sCh
  cases hz : oLast N 1 (cT N) with
  | none =>
    refine g_ic_ne rfl (fun h16 => absurd rfl h16) (fun h16 => ?_)
    refine oRun_ok 3 rfl ?_
    refine g_aald d rfl rfl rfl (by omega) rfl ?_
    refine oRun_ok 1 rfl ?_
    exact g_iret rfl rfl rfl ⟨by rw [show M 5 (4 * l + d) 3 = _ from hD.1 3 (by decide)], oFr.rf⟩
  | some t =>
    obtain ⟨a1, a2⟩ := oLast_lt hz
    refine g_ic_ne rfl (fun h16 => ?_) (fun h16 => absurd h16 (oLr_none (by omega)))
    refine oRun_ok 8 rfl ?_
    refine g_aald d rfl rfl rfl (by omega) rfl ?_
    refine oRun_ok 1 rfl ?_
    refine g_callV rfl rfl rfl rfl rfl mok_Laws_workOut (by decide) (c_Laws_workOut M N (gC N d) t (4 * l + d) (nI d) (hN.2.2.2.2.2 t a1) (hL.2.2.2.2.2.2 t a1) (by omega) (hD.1 2 (by decide)) (fun _ => hD.1 3 (by decide)) (fun hk => ?_)) ?_
    · rw [a2] at hk
      exact absurd hk (by decide)
    rintro r45 M45 ⟨rfl, hf⟩
    refine g_callS rfl rfl rfl rfl mok_Math_min (by decide) (c_Math_min M45 _ _) ?_
    rintro r48 M48 ⟨rfl, e⟩; rw [e]
    refine g_callS rfl rfl rfl rfl mok_Math_max (by decide) (c_Math_max M45 _ _) ?_
    rintro r51 M51 ⟨rfl, e⟩; rw [e]
    refine g_iret rfl rfl rfl ⟨?_, hf⟩
    rw [clamp_eq]
theorem c_Land_rankOf (M : oM) (N : Nat → Int32) (l d : Nat) (hN : oNOk N) (hL : oRL M N l) (hd : d < cD N) : oCt 2 k_Land_rankOf [.inr (K_LAND, l), .inl (nI d)] M (fun r M' => r = some (sRk N d) ∧ oFr (oKs K_LSTK) M M') := by
  obtain ⟨⟨t1, t2⟩, t3⟩ := oRL_last hN hL
  obtain ⟨-, d4⟩ := oND hN
  have hD := hL.2.2.2.2.2.1 d hd
  refine oCt.of (ls := [some (.inr (K_LAND, l)), some (.inl (nI d)), none]) mok_Land_rankOf rfl rfl ?_
  refine oRun_ok 5 rfl ?_
  rw [show M 1 l 6 = nI (cT N) from t1]
  refine g_callV rfl rfl rfl rfl rfl mok_Laws_lastOf (by decide) (c_Laws_lastOf M N 2 (cT N) t2 t3) ?_
  rintro r9 M9 ⟨rfl, e⟩; rw [e]
  refine oRun_ok 3 rfl ?_
  unfold sRk
  cases hz : oLast N 2 (cT N) with
  | none =>
    refine g_ic_ne rfl (fun h16 => absurd rfl h16) (fun h16 => ?_)
    refine oRun_ok 3 rfl ?_
    refine g_aald d rfl rfl rfl (by omega) rfl ?_
    refine oRun_ok 2 rfl ?_
    exact g_iret rfl rfl rfl ⟨by rw [show M 5 (4 * l + d) 2 = _ from hD.1 2 (by decide)], oFr.rf⟩
  | some t =>
    obtain ⟨a1, a2⟩ := oLast_lt hz
    refine g_ic_ne rfl (fun h16 => ?_) (fun h16 => absurd h16 (oLr_none (by omega)))
    refine oRun_ok 6 rfl ?_
    refine g_aald d rfl rfl rfl (by omega) rfl ?_
    refine oRun_ok 1 rfl ?_
    refine g_callV rfl rfl rfl rfl rfl mok_Laws_workOut (by decide) (c_Laws_workOut M N (gF N d) t (4 * l + d) (nI d) (hN.2.2.2.2.2 t a1) (hL.2.2.2.2.2.2 t a1) (by omega) (hD.1 2 (by decide)) (fun hk => ?_) (fun _ => ⟨rfl, hD.1 4 (by decide)⟩)) ?_
    · rw [a2] at hk
      exact absurd hk (by decide)
    rintro r43 M43 ⟨rfl, hf⟩
    exact g_iret rfl rfl rfl ⟨rfl, hf⟩
/-- the cells of a land, but for its laws -/
def oLS (l : Nat) : Nat → Nat → Prop := fun k i => (i = l ∧ (k = K_LAND ∨ k = K_STX ∨ k = K_STY)) ∨ (4 * l ≤ i ∧ i < 4 * l + 4 ∧ (k = K_DEED ∨ k = K_DK ∨ k = K_DW ∨ k = K_DL))
def Q_landTake (M : oM) (a b : Nat) : Option Int32 → oM → Prop := fun r M' => r = none ∧ (M' K_LAND a 1 = M K_LAND b 1 ∧ M' K_LAND a 4 = M K_LAND b 4 ∧ M' K_LAND a 6 = M K_LAND b 6 ∧ M' K_LAND a 7 = M K_LAND b 7) ∧ (∀ s, s < 8 → M' K_STX a s = M K_STX b s ∧ M' K_STY a s = M K_STY b s) ∧ (∀ d, d < 4 → (∀ w, w < 5 → M' K_DEED (4 * a + d) w = M K_DEED (4 * b + d) w) ∧ ∀ s, s < 10 → M' K_DK (4 * a + d) s = M K_DK (4 * b + d) s ∧ M' K_DW (4 * a + d) s = M K_DW (4 * b + d) s ∧ M' K_DL (4 * a + d) s = M K_DL (4 * b + d) s) ∧ oFr (oLS a) M M'
theorem c_Land_takeFrom (M : oM) (a b : Nat) (hab : ¬ b = a) : oCt 1 k_Land_takeFrom [.inr (K_LAND, a), .inr (K_LAND, b)] M (Q_landTake M a b) := by
  refine oCt.of (ls := [some (.inr (K_LAND, a)), some (.inr (K_LAND, b)), none]) mok_Land_takeFrom rfl rfl ?_
  have hb : ∀ {M1 : oM}, oFr (oLS a) M M1 → (∀ k, k = K_LAND ∨ k = K_STX ∨ k = K_STY → M1 k b = M k b) ∧ ∀ k d, d < 4 → k = K_DEED ∨ k = K_DK ∨ k = K_DW ∨ k = K_DL → M1 k (4 * b + d) = M k (4 * b + d) := by
    intro M1 hf
    refine ⟨fun k hk => hf k b ?_, fun k d hd hk => hf k _ ?_⟩
    · rintro (⟨h1, -⟩ | ⟨-, -, h3⟩)
      · exact hab h1
      · rcases hk with rfl | rfl | rfl <;> rcases h3 with h | h | h | h <;> revert h <;> decide
    · rintro (⟨-, h1⟩ | ⟨h1, h2, -⟩)
      · rcases hk with rfl | rfl | rfl | rfl <;> rcases h1 with h | h | h <;> revert h <;> decide
      · omega
  have last : ∀ (q d : Nat) (M1 : oM), d + q = 4 → (M1 K_LAND a 1 = M K_LAND b 1 ∧ M1 K_LAND a 4 = M K_LAND b 4) → (∀ s, s < 8 → M1 K_STX a s = M K_STX b s ∧ M1 K_STY a s = M K_STY b s) → (∀ e, e < d → (∀ w, w < 5 → M1 K_DEED (4 * a + e) w = M K_DEED (4 * b + e) w) ∧ ∀ s, s < 10 → M1 K_DK (4 * a + e) s = M K_DK (4 * b + e) s ∧ M1 K_DW (4 * a + e) s = M K_DW (4 * b + e) s ∧ M1 K_DL (4 * a + e) s = M K_DL (4 * b + e) s) → oFr (oLS a) M M1 → oG k_Land_takeFrom 1 56 [some (.inr (K_LAND, a)), some (.inr (K_LAND, b)), some (.inl (nI d))] [] M1 (Q_landTake M a b) := by
    intro q
    induction q with
    | zero =>
      intro d M1 hd h1 h2 h3 h4
      refine oRun_ok 2 rfl ?_
      refine g_ic_ge rfl (fun h58 => ?_) (fun h58 => absurd (nI_le (a := 4) (b := d) (by omega) (by omega)) h58)
      refine oRun_ok 8 rfl ?_
      have hb' := hb h4
      refine g_ret rfl rfl ⟨rfl, ⟨?_, ?_, ?_, ?_⟩, h2, fun e he => h3 e (by omega), (h4.up (Or.inl ⟨rfl, Or.inl rfl⟩)).up (Or.inl ⟨rfl, Or.inl rfl⟩)⟩
      · rw [oUp_j (by decide), oUp_j (by decide)]; exact h1.1
      · rw [oUp_j (by decide), oUp_j (by decide)]; exact h1.2
      · rw [oUp_j (by decide), oUp_self]
        show M1 K_LAND b 6 = _
        rw [hb'.1 K_LAND (Or.inl rfl)]
      · rw [oUp_self]
        show oUp M1 K_LAND a 6 _ K_LAND b 7 = _
        rw [oUp_i hab, hb'.1 K_LAND (Or.inl rfl)]
    | succ q ih =>
      intro d M1 hd h1 h2 h3 h4
      refine oRun_ok 2 rfl ?_
      refine g_ic_ge rfl (fun h58 => ?_) (fun h58 => ?_)
      · have := (nIle (a := 4) (b := d) (by omega) (by omega)).mp h58
        omega
      refine oRun_ok 3 rfl ?_
      refine g_aald d rfl rfl rfl (by omega) rfl ?_
      refine oRun_ok 3 rfl ?_
      refine g_aald d rfl rfl rfl (by omega) rfl ?_
      refine g_callV rfl rfl rfl rfl rfl mok_Deed_takeFrom (by decide) (c_Deed_takeFrom M1 (4 * a + d) (4 * b + d) (by omega)) ?_
      rintro r73 M73 ⟨rfl, k1, k2, k3⟩
      refine oRun_ok 2 rfl ?_
      rw [nI_1]
      have hb' := hb h4
      have nd : ∀ k i, ¬ i = 4 * a + d → M73 k i = M1 k i := fun k i hi => k3 k i (fun q => hi q.1)
      have nk : ∀ k i, k = K_LAND ∨ k = K_STX ∨ k = K_STY → M73 k i = M1 k i := fun k i hk => k3 k i (by
        rintro ⟨-, h⟩
        rcases hk with rfl | rfl | rfl <;> rcases h with h | h | h | h <;> revert h <;> decide)
      refine ih (d + 1) M73 (by omega) ?_ ?_ ?_ (h4.tr (k3.mono ?_))
      · rw [nk K_LAND a (Or.inl rfl)]; exact h1
      · intro s hs
        rw [nk K_STX a (Or.inr (Or.inl rfl)), nk K_STY a (Or.inr (Or.inr rfl))]
        exact h2 s hs
      · intro e he
        by_cases hed : e = d
        · subst hed
          refine ⟨fun w hw => ?_, fun s hs => ?_⟩
          · rw [k1 w hw, hb'.2 K_DEED e (by omega) (Or.inl rfl)]
          · obtain ⟨x, y, z'⟩ := k2 s hs
            rw [x, y, z', hb'.2 K_DK e (by omega) (Or.inr (Or.inl rfl)), hb'.2 K_DW e (by omega) (Or.inr (Or.inr (Or.inl rfl))), hb'.2 K_DL e (by omega) (Or.inr (Or.inr (Or.inr rfl)))]
            exact ⟨rfl, rfl, rfl⟩
        · rw [nd K_DEED _ (by omega), nd K_DK _ (by omega), nd K_DW _ (by omega), nd K_DL _ (by omega)]
          exact h3 e (by omega)
      · rintro k i ⟨rfl, hk⟩
        exact Or.inr ⟨by omega, by omega, hk⟩
  have first : ∀ (q s : Nat) (M1 : oM), s + q = 8 → M1 K_LAND a 1 = M K_LAND b 1 → (∀ j, j < s → M1 K_STX a j = M K_STX b j ∧ M1 K_STY a j = M K_STY b j) → oFr (oLS a) M M1 → oG k_Land_takeFrom 1 10 [some (.inr (K_LAND, a)), some (.inr (K_LAND, b)), some (.inl (nI s))] [] M1 (Q_landTake M a b) := by
    intro q
    induction q with
    | zero =>
      intro s M1 hs h1 h2 h3
      refine oRun_ok 2 rfl ?_
      refine g_ic_ge rfl (fun h13 => ?_) (fun h13 => absurd (nI_le (a := 8) (b := s) (by omega) (by omega)) h13)
      refine oRun_ok 6 rfl ?_
      refine last 4 0 _ rfl ⟨?_, ?_⟩ (fun j hj => h2 j (by omega)) (fun e he => by omega) (h3.up (Or.inl ⟨rfl, Or.inl rfl⟩))
      · rw [oUp_j (by decide)]; exact h1
      · rw [oUp_self, show M1 1 b 4 = M1 K_LAND b 4 from rfl, (hb h3).1 K_LAND (Or.inl rfl)]
    | succ q ih =>
      intro s M1 hs h1 h2 h3
      refine oRun_ok 2 rfl ?_
      refine g_ic_ge rfl (fun h13 => ?_) (fun h13 => ?_)
      · have := (nIle (a := 8) (b := s) (by omega) (by omega)).mp h13
        omega
      refine oRun_ok 6 rfl ?_
      refine g_iald s rfl rfl rfl (by omega) ?_
      refine g_iast s rfl rfl rfl (by omega) ?_
      refine oRun_ok 6 rfl ?_
      refine g_iald s rfl rfl rfl (by omega) ?_
      refine g_iast s rfl rfl rfl (by omega) ?_
      refine oRun_ok 2 rfl ?_
      rw [nI_1]
      refine ih (s + 1) _ (by omega) h1 (fun j hj => ?_) ((h3.up (Or.inl ⟨rfl, Or.inr (Or.inl rfl)⟩)).up (Or.inl ⟨rfl, Or.inr (Or.inr rfl)⟩))
      by_cases hjs : j = s
      · subst hjs
        refine ⟨?_, ?_⟩
        · show oUp M1 2 a j _ 2 a j = _
          rw [oUp_self, show M1 2 b j = M1 K_STX b j from rfl, (hb h3).1 K_STX (Or.inr (Or.inl rfl))]
        · show oUp (oUp M1 2 a j _) 3 a j _ 3 a j = _
          rw [oUp_self]
          show M1 K_STY b j = _
          rw [(hb h3).1 K_STY (Or.inr (Or.inr rfl))]
      · obtain ⟨x, y⟩ := h2 j (by omega)
        refine ⟨?_, ?_⟩
        · show oUp M1 2 a s _ 2 a j = _
          rw [oUp_j hjs]; exact x
        · show oUp (oUp M1 2 a s _) 3 a s _ 3 a j = _
          rw [oUp_j hjs]; exact y
  refine oRun_ok 6 rfl ?_
  refine first 8 0 _ rfl ?_ (fun j hj => by omega) (oFr.rf.up (Or.inl ⟨rfl, Or.inl rfl⟩))
  rw [oUp_self]
end
section
/-! ===== Walk: a step ===== -/
def oSO (f : Nat → Int32) (bx b2 nd ch : Int32) : Nat → Int32 := fun j => if j = 13 then b2 else if j = 12 then bx else if j = 11 then ch else if j = 10 then nd else if j = 9 then b2 else if j = 8 then bx else f j
def oKi (k0 i0 : Nat) : Nat → Nat → Prop := fun k i => k = k0 ∧ i = i0
theorem c_Walk_setOut (M : oM) (w i : Nat) (nd ch : Int32) : oCt 0 k_Walk_setOut [.inr (K_WALK, w), .inr (K_DEED, i), .inl nd, .inl ch] M (fun r M' => r = none ∧ M' K_WALK w = oSO (M K_WALK w) (M K_DEED i 0) (M K_DEED i 1) nd ch ∧ oFr (oKi K_WALK w) M M') := by
  refine oCt.of (ls := [some (.inr (K_WALK, w)), some (.inr (K_DEED, i)), some (.inl nd), some (.inl ch)]) mok_Walk_setOut rfl rfl ?_
  refine oRun_ok 22 rfl ?_
  refine g_ret rfl rfl ⟨rfl, ?_, (((((oFr.rf.up ⟨rfl, rfl⟩).up ⟨rfl, rfl⟩).up ⟨rfl, rfl⟩).up ⟨rfl, rfl⟩).up ⟨rfl, rfl⟩).up ⟨rfl, rfl⟩⟩
  simp only [oUp_at]
  rfl
theorem c_Walk_stepBy (M : oM) (w j : Nat) (way len : Int32) (hj : j < 8) (hw : way &&& 7 = nI j) : oCt 1 k_Walk_stepBy [.inr (K_WALK, w), .inl way, .inl len] M (fun r M' => r = none ∧ M' = oUp (oUp M K_WALK w 12 (M K_WALK w 12 + oTV 1 j * f_Oak_trueOf len (M K_WALK w 11))) K_WALK w 13 (M K_WALK w 13 + oTV 2 j * f_Oak_trueOf len (M K_WALK w 11))) := by
  refine oCt.of (ls := [some (.inr (K_WALK, w)), some (.inl way), some (.inl len), none, none]) mok_Walk_stepBy rfl rfl ?_
  refine oRun_ok 3 rfl ?_
  refine g_callSN rfl rfl rfl rfl mok_Oak_trueOf (by decide) (c_Oak_trueOf M _ _) ?_
  rintro r5 M5 ⟨rfl, e⟩; rw [e]
  refine oRun_ok 8 rfl ?_
  refine g_stepx rfl rfl ?_
  refine oRun_ok 1 rfl ?_
  refine g_tld j rfl (by decide) hw hj ?_
  refine oRun_ok 7 rfl ?_
  refine g_stepy rfl rfl ?_
  refine oRun_ok 1 rfl ?_
  refine g_tld j rfl (by decide) hw hj ?_
  refine oRun_ok 4 rfl ?_
  refine g_ret rfl rfl ⟨rfl, ?_⟩
  rw [show oUp M K_WALK w 12 (M 9 w 12 + oTV 1 j * f_Oak_trueOf len (M 9 w 11)) 9 w 13 = M 9 w 13 from oUp_j (by decide)]
def sW (nd kind way : Int32) : Int32 := if kind = 1 ∨ kind = 3 then way else oRem (way + nd + (if kind = 5 then 4 else 0)) 8
/-- where a call ends -/
def sStep (N : Nat → Int32) (bx b2 nd ch kind way len x y : Int32) : Int32 × Int32 :=
  if kind = 3 ∧ ¬ f_Mod_in (len - 1) 0 (N 1 - 1) = 0 then (N (4 + 2 * (len - 1).toNatClampNeg), N (4 + 2 * (len - 1).toNatClampNeg + 1))
  else if kind = 2 then (bx, b2)
  else if kind = 4 then ((x + bx) / 2, (y + b2) / 2)
  else (x + f_Mod_trueBy len ch * f_Mod_acrossBy (sW nd kind way), y + f_Mod_trueBy len ch * f_Mod_upBy (sW nd kind way))
theorem tab_eq : ∀ j : Fin 8, oTV 1 j.val = f_Mod_acrossBy (nI j.val) ∧ oTV 2 j.val = f_Mod_upBy (nI j.val) := by decide +kernel
theorem nI_and7 {n : Nat} (h : n < 2147483648) : nI n &&& 7 = nI (n % 8) := pk_andN (n := n) (by omega) (m := 7) 3 rfl
theorem nI_rem8 {n : Nat} (h : n < 2147483648) : oRem (nI n) 8 = nI (n % 8) := nIrem (d := 8) h (by decide) (by decide)
theorem sW_free {nd : Int32} {kd wy : Nat} (hk : kd = 1 ∨ kd = 3) (hw : wy < 12) : sW nd (nI kd) (oRem (nI wy) 8) = nI (wy % 8) := by
  unfold sW
  rw [if_pos (by rcases hk with rfl | rfl <;> decide), nI_rem8 (by omega)]
theorem sW_needle {kd wy nd : Nat} (hk : kd = 0 ∨ kd = 5) (hw : wy < 12) (hn : nd < 8) : sW (nI nd) (nI kd) (oRem (nI wy) 8) = nI ((wy + nd + (if kd = 5 then 4 else 0)) % 8) := by
  unfold sW
  rw [if_neg (by rcases hk with rfl | rfl <;> decide), nI_rem8 (n := wy) (by omega), nI_add]
  rcases hk with rfl | rfl
  · rw [if_neg (by decide), if_neg (by decide), show (0 : Int32) = nI 0 from rfl, nI_add, nI_rem8 (by omega)]
    congr 1
    omega
  · rw [if_pos (show nI 5 = 5 from rfl), if_pos rfl, show (4 : Int32) = nI 4 from rfl, nI_add, nI_rem8 (by omega)]
    congr 1
    omega
theorem c_Walk_goOn (M : oM) (N : Nat → Int32) (w kd wy ln nd : Nat) (hN : oNOk N) (hL : oRL M N w) (h1 : kd < 6) (h2 : wy < 12) (h3 : 1 ≤ ln ∧ ln ≤ 20) (h4 : nd < 8) (hnd : M K_WALK w 10 = nI nd) :
    oCt 2 k_Walk_goOn [.inr (K_WALK, w), .inl (nI kd), .inl (nI wy), .inl (nI ln)] M (fun r M' => r = none ∧ M' = oUp (oUp M K_WALK w 12 (sStep N (M K_WALK w 8) (M K_WALK w 9) (nI nd) (M K_WALK w 11) (nI kd) (oRem (nI wy) 8) (nI ln) (M K_WALK w 12) (M K_WALK w 13)).1) K_WALK w 13 (sStep N (M K_WALK w 8) (M K_WALK w 9) (nI nd) (M K_WALK w 11) (nI kd) (oRem (nI wy) 8) (nI ln) (M K_WALK w 12) (M K_WALK w 13)).2) := by
  obtain ⟨hS, hS8⟩ := oNS hN
  refine oCt.of (ls := [some (.inr (K_WALK, w)), some (.inl (nI kd)), some (.inl (nI wy)), some (.inl (nI ln))]) mok_Walk_goOn rfl rfl ?_
  generalize hQ : (fun (r : Option Int32) (M' : oM) => r = none ∧ M' = oUp (oUp M K_WALK w 12 (sStep N (M K_WALK w 8) (M K_WALK w 9) (nI nd) (M K_WALK w 11) (nI kd) (oRem (nI wy) 8) (nI ln) (M K_WALK w 12) (M K_WALK w 13)).1) K_WALK w 13 (sStep N (M K_WALK w 8) (M K_WALK w 9) (nI nd) (M K_WALK w 11) (nI kd) (oRem (nI wy) 8) (nI ln) (M K_WALK w 12) (M K_WALK w 13)).2) = Q
  have fin : ∀ X Y, sStep N (M K_WALK w 8) (M K_WALK w 9) (nI nd) (M K_WALK w 11) (nI kd) (oRem (nI wy) 8) (nI ln) (M K_WALK w 12) (M K_WALK w 13) = (X, Y) → Q none (oUp (oUp M K_WALK w 12 X) K_WALK w 13 Y) := by
    intro X Y h
    rw [← hQ]
    refine ⟨rfl, ?_⟩
    rw [h]
  have tail : ¬ (nI kd = 3 ∧ ¬ f_Mod_in (nI ln - 1) 0 (N 1 - 1) = 0) → oG k_Walk_goOn 2 49 [some (.inr (K_WALK, w)), some (.inl (nI kd)), some (.inl (nI wy)), some (.inl (nI ln))] [] M Q := by
    intro hno
    have free : ∀ j, j < 8 → sW (nI nd) (nI kd) (oRem (nI wy) 8) = nI j → ¬ nI kd = 2 → ¬ nI kd = 4 → Q none (oUp (oUp M K_WALK w 12 (M K_WALK w 12 + oTV 1 j * f_Oak_trueOf (nI ln) (M K_WALK w 11))) K_WALK w 13 (M K_WALK w 13 + oTV 2 j * f_Oak_trueOf (nI ln) (M K_WALK w 11))) := by
      intro j hj he n2 n4
      refine fin _ _ ?_
      unfold sStep
      rw [if_neg hno, if_neg n2, if_neg n4, he, (tab_eq ⟨j, hj⟩).1, (tab_eq ⟨j, hj⟩).2, Int32.mul_comm (f_Mod_acrossBy _), Int32.mul_comm (f_Mod_upBy _)]
      rfl
    refine oRun_ok 1 rfl ?_
    have kn : ∀ a b : Nat, a < 100 → b < 100 → (nI a = nI b ↔ a = b) := fun a b ha hb => nIe (by omega) (by omega)
    refine g_tsw [(1, 84), (2, 93), (3, 84), (4, 112), (5, 145)] 161 rfl (by decide +kernel) rfl ⟨fun h => ?_, fun h => ?_, fun h => ?_, fun h => ?_, fun h => ?_, trivial⟩ (fun h => ?_)
    · have hk : kd = 1 := (kn kd 1 (by omega) (by omega)).mp h
      subst hk
      refine oRun_ok 3 rfl ?_
      refine g_callV rfl rfl rfl rfl rfl mok_Walk_stepBy (by decide) (c_Walk_stepBy M w (wy % 8) _ _ (by omega) (nI_and7 (by omega))) ?_
      rintro r M' ⟨rfl, e⟩; rw [e]
      refine oRun_ok 1 rfl ?_
      exact g_ret rfl rfl (free (wy % 8) (by omega) (sW_free (Or.inl rfl) h2) (by decide) (by decide))
    · have hk : kd = 2 := (kn kd 2 (by omega) (by omega)).mp h
      subst hk
      refine oRun_ok 9 rfl ?_
      refine g_ret rfl rfl ?_
      refine fin _ _ ?_
      unfold sStep
      rw [if_neg hno, if_pos h]
      rw [show oUp M 9 w 12 (M 9 w 8) 9 w 9 = M 9 w 9 from oUp_j (by decide)]
    · have hk : kd = 3 := (kn kd 3 (by omega) (by omega)).mp h
      subst hk
      refine oRun_ok 3 rfl ?_
      refine g_callV rfl rfl rfl rfl rfl mok_Walk_stepBy (by decide) (c_Walk_stepBy M w (wy % 8) _ _ (by omega) (nI_and7 (by omega))) ?_
      rintro r M' ⟨rfl, e⟩; rw [e]
      refine oRun_ok 1 rfl ?_
      exact g_ret rfl rfl (free (wy % 8) (by omega) (sW_free (Or.inr rfl) h2) (by decide) (by decide))
    · have hk : kd = 4 := (kn kd 4 (by omega) (by omega)).mp h
      subst hk
      refine oRun_ok 19 rfl ?_
      refine g_ret rfl rfl ?_
      refine fin _ _ ?_
      unfold sStep
      rw [if_neg hno, if_neg (by decide), if_pos h]
      rw [show oUp M 9 w 12 ((M 9 w 12 + M 9 w 8) / 2) 9 w 13 = M 9 w 13 from oUp_j (by decide), show oUp M 9 w 12 ((M 9 w 12 + M 9 w 8) / 2) 9 w 9 = M 9 w 9 from oUp_j (by decide)]
    · have hk : kd = 5 := (kn kd 5 (by omega) (by omega)).mp h
      subst hk
      refine oRun_ok 8 rfl ?_
      rw [show M 9 w 10 = nI nd from hnd, nI_add, show (4 : Int32) = nI 4 from rfl, nI_add]
      refine g_callV rfl rfl rfl rfl rfl mok_Walk_stepBy (by decide) (c_Walk_stepBy M w ((wy + nd + 4) % 8) _ _ (by omega) (nI_and7 (by omega))) ?_
      rintro r M' ⟨rfl, e⟩; rw [e]
      refine oRun_ok 1 rfl ?_
      exact g_ret rfl rfl (free ((wy + nd + 4) % 8) (by omega) (sW_needle (Or.inr rfl) h2 h4) (by decide) (by decide))
    · have hk : kd = 0 := by
        have n1 : ¬ kd = 1 := fun q => h (1, 84) (by decide) (by rw [q]; rfl)
        have n2 : ¬ kd = 2 := fun q => h (2, 93) (by decide) (by rw [q]; rfl)
        have n3 : ¬ kd = 3 := fun q => h (3, 84) (by decide) (by rw [q]; rfl)
        have n4 : ¬ kd = 4 := fun q => h (4, 112) (by decide) (by rw [q]; rfl)
        have n5 : ¬ kd = 5 := fun q => h (5, 145) (by decide) (by rw [q]; rfl)
        omega
      subst hk
      refine oRun_ok 6 rfl ?_
      rw [show M 9 w 10 = nI nd from hnd, nI_add]
      refine g_callV rfl rfl rfl rfl rfl mok_Walk_stepBy (by decide) (c_Walk_stepBy M w ((wy + nd) % 8) _ _ (by omega) (nI_and7 (by omega))) ?_
      rintro r M' ⟨rfl, e⟩; rw [e]
      exact g_ret rfl rfl (free ((wy + nd) % 8) (by omega) (sW_needle (Or.inl rfl) h2 h4) (by decide) (by decide))
  refine oRun_ok 2 rfl ?_
  refine g_ic_ne rfl (fun hk => tail (fun q => hk q.1)) (fun hk => ?_)
  refine oRun_ok 5 rfl ?_
  refine g_callV rfl rfl rfl rfl rfl mok_Land_hasStone (by decide) (c_Land_hasStone M w _) ?_
  rintro r12 M12 ⟨rfl, e⟩; rw [e]
  rw [show M K_LAND w 1 = N 1 from hL.1]
  refine g_if_eq rfl (fun h15 => tail (fun q => q.2 h15)) (fun h15 => ?_)
  have hst : ¬ f_Mod_in (nI ln - 1) 0 (N 1 - 1) = 0 := h15
  rw [hS, show nI ln - 1 = nI (ln - 1) from nIsub (b := 1) h3.1, wiN (by omega) (by omega)] at h15
  have hlt : ln - 1 < cS N := Decidable.not_not.mp h15
  obtain ⟨s1, s2⟩ := hL.2.2.2.2.1 (ln - 1) hlt
  refine oRun_ok 7 rfl ?_
  refine g_iald (ln - 1) rfl rfl (nIsub (b := 1) h3.1) (by omega) ?_
  refine oRun_ok 8 rfl ?_
  refine g_iald (ln - 1) rfl rfl (nIsub (b := 1) h3.1) (by omega) ?_
  refine oRun_ok 1 rfl ?_
  refine g_ret rfl rfl (fin _ _ ?_)
  unfold sStep
  rw [if_pos ⟨hk, hst⟩, show nI ln - 1 = nI (ln - 1) from nIsub (b := 1) h3.1, nIc (by omega), ← s1, ← s2]
  rfl
end
section
/-! ===== Walk: corners, gaps ===== -/
theorem oCt.imp {d k : Nat} {as : List oV} {M : oM} {Q Q' : Option Int32 → oM → Prop} (h : oCt d k as M Q) (hQ : ∀ r M', Q r M' → Q' r M') : oCt d k as M Q' := by
  intro l E hok
  refine MetFree.mono (h l E hok) (fun _ _ p => p) (fun _ _ _ _ _ p => p) (fun a s o t _ q => ?_)
  obtain ⟨⟨⟨r, M', h1, h2, h3⟩, h4⟩, h5⟩ := q
  exact ⟨⟨⟨r, M', h1, hQ r M' h2, h3⟩, h4⟩, h5⟩
def oRLk : List Nat := [K_LAND, K_STX, K_STY, K_DEED, K_DK, K_DW, K_DL, K_TEXT, K_TCOD]
def oKp (M M' : oM) : Prop := ∀ k ∈ oRLk, ∀ i, M' k i = M k i
theorem oFr.kp {S : Nat → Nat → Prop} {M M' : oM} (h : oFr S M M') (hS : ∀ k ∈ oRLk, ∀ i, ¬ S k i) : oKp M M' := fun k hk i => h k i (hS k hk i)
theorem oKp.rf {M : oM} : oKp M M := fun _ _ _ => rfl
theorem oKp.tr {M M1 M2 : oM} (h1 : oKp M M1) (h2 : oKp M1 M2) : oKp M M2 := fun k hk i => (h2 k hk i).trans (h1 k hk i)
theorem oRL_kp {M M' : oM} {N : Nat → Int32} {l : Nat} (h : oKp M M') (hL : oRL M N l) : oRL M' N l := by
  have e : ∀ k ∈ oRLk, ∀ i, M' k i = M k i := h
  unfold oRL oRD oRT at hL ⊢
  simp only [e K_LAND (by decide), e K_STX (by decide), e K_STY (by decide), e K_DEED (by decide), e K_DK (by decide), e K_DW (by decide), e K_DL (by decide), e K_TEXT (by decide), e K_TCOD (by decide)]
  exact hL
def sCor (N : Nat → Int32) (bx b2 nd ch : Int32) (ka wa la : Nat → Int32) : Nat → Int32 × Int32
  | 0 => (bx, b2)
  | k + 1 => sStep N bx b2 nd ch (ka k) (wa k) (la k) (sCor N bx b2 nd ch ka wa la k).1 (sCor N bx b2 nd ch ka wa la k).2
def kA (N : Nat → Int32) (d : Nat) : Nat → Int32 := fun j => N (20 + 35 * d + 5 + 3 * j)
def wA (N : Nat → Int32) (d : Nat) : Nat → Int32 := fun j => N (20 + 35 * d + 5 + 3 * j + 1)
def lA (N : Nat → Int32) (d : Nat) : Nat → Int32 := fun j => N (20 + 35 * d + 5 + 3 * j + 2)
def sC (N : Nat → Int32) (d : Nat) (nd ch : Int32) : Nat → Int32 × Int32 := sCor N (N (20 + 35 * d)) (N (20 + 35 * d + 1)) nd ch (kA N d) (wA N d) (lA N d)
def sGapP (bx b2 : Int32) (p : Int32 × Int32) : Int32 := f_Mod_size (p.1 - bx) + f_Mod_size (p.2 - b2)
/-- the gap of a deed with a needle and a chain -/
def sGap (N : Nat → Int32) (d : Nat) (nd ch : Int32) : Int32 := sGapP (N (20 + 35 * d)) (N (20 + 35 * d + 1)) (sC N d nd ch (cC N d))
theorem oCall_ok {N : Nat → Int32} {d j : Nat} (h : oDOk N d) (hj : j < cC N d) : ∃ kd wy ln, kd < 6 ∧ wy < 8 ∧ (1 ≤ ln ∧ ln ≤ 20) ∧ kA N d j = nI kd ∧ wA N d j = nI wy ∧ lA N d j = nI ln := by
  obtain ⟨h1, h2, h3⟩ := h.2.2.2.2.2 j hj
  refine ⟨_, _, _, ?_, ?_, ?_, nI_ofInt h1.1, nI_ofInt h2.1, nI_ofInt (by have := h3.1; show 0 ≤ (lA N d j).toInt; unfold lA; omega)⟩
  · have := h1.2; show (kA N d j).toInt.toNat < 6; unfold kA; have := h1.1; omega
  · have := h2.2; show (wA N d j).toInt.toNat < 8; unfold wA; have := h2.1; omega
  · have := h3.2; have := h3.1
    show 1 ≤ (lA N d j).toInt.toNat ∧ (lA N d j).toInt.toNat ≤ 20
    unfold lA
    omega
theorem sNd_lt (N : Nat → Int32) (d : Nat) : ∃ nd, nd < 8 ∧ sNd N d = nI nd := by
  unfold sNd
  split
  · exact ⟨0, by decide, rfl⟩
  · rename_i t ht
    rw [← and7, pk_and _ (m := 7) 3 rfl]
    exact ⟨_, Nat.mod_lt _ (by decide), rfl⟩
theorem rem8_id {n : Nat} (h : n < 8) : oRem (nI n) 8 = nI n := by rw [nI_rem8 (by omega), Nat.mod_eq_of_lt h]
/-- what a walk writes -/
def oWs (w : Nat) : Nat → Nat → Prop := fun k i => k = K_LSTK ∨ (i = w ∧ (k = K_WALK ∨ k = K_WX ∨ k = K_WY))
theorem oWs_kp (w : Nat) : ∀ k ∈ oRLk, ∀ i, ¬ oWs w k i := by
  intro k hk i h
  have : k = K_LSTK ∨ k = K_WALK ∨ k = K_WX ∨ k = K_WY := h.elim Or.inl (fun q => Or.inr q.2)
  revert hk
  rcases this with rfl | rfl | rfl | rfl <;> decide
theorem oKs_ws {w : Nat} {M M' : oM} (h : oFr (oKs K_LSTK) M M') : oFr (oWs w) M M' := h.mono (fun k i q => Or.inl q)
theorem oKi_ws {w : Nat} {M M' : oM} (h : oFr (oKi K_WALK w) M M') : oFr (oWs w) M M' := h.mono (fun k i q => Or.inr ⟨q.2, Or.inl q.1⟩)
/-- the walker stands at a corner of a deed -/
def oAt (M : oM) (w : Nat) (bx b2 nd ch : Int32) (p : Int32 × Int32) : Prop := M K_WALK w 8 = bx ∧ M K_WALK w 9 = b2 ∧ M K_WALK w 10 = nd ∧ M K_WALK w 11 = ch ∧ M K_WALK w 12 = p.1 ∧ M K_WALK w 13 = p.2
theorem oAt_step {M : oM} {w : Nat} {bx b2 nd ch x y : Int32} {p : Int32 × Int32} (h : oAt M w bx b2 nd ch p) : oAt (oUp (oUp M K_WALK w 12 x) K_WALK w 13 y) w bx b2 nd ch (x, y) := by
  obtain ⟨a1, a2, a3, a4, a5, a6⟩ := h
  refine ⟨?_, ?_, ?_, ?_, ?_, ?_⟩
  · rw [oUp_j (by decide), oUp_j (by decide)]; exact a1
  · rw [oUp_j (by decide), oUp_j (by decide)]; exact a2
  · rw [oUp_j (by decide), oUp_j (by decide)]; exact a3
  · rw [oUp_j (by decide), oUp_j (by decide)]; exact a4
  · rw [oUp_j (by decide), oUp_self]
  · rw [oUp_self]
theorem oAt_out {M M' : oM} {w : Nat} {bx b2 nd ch : Int32} (h : M' K_WALK w = oSO (M K_WALK w) bx b2 nd ch) : oAt M' w bx b2 nd ch (bx, b2) := by
  unfold oAt
  rw [h]
  exact ⟨rfl, rfl, rfl, rfl, rfl, rfl⟩
/-- one call further -/
theorem c_go (M : oM) (N : Nat → Int32) (w kd wy ln nd : Nat) (bx b2 ch : Int32) (p : Int32 × Int32) (hN : oNOk N) (hL : oRL M N w) (h1 : kd < 6) (h2 : wy < 12) (h3 : 1 ≤ ln ∧ ln ≤ 20) (h4 : nd < 8) (ha : oAt M w bx b2 (nI nd) ch p) :
    oCt 2 k_Walk_goOn [.inr (K_WALK, w), .inl (nI kd), .inl (nI wy), .inl (nI ln)] M (fun r M' => r = none ∧ oAt M' w bx b2 (nI nd) ch (sStep N bx b2 (nI nd) ch (nI kd) (oRem (nI wy) 8) (nI ln) p.1 p.2) ∧ oFr (oKi K_WALK w) M M' ∧ ∀ j, j < 8 → M' K_WALK w j = M K_WALK w j) := by
  obtain ⟨a1, a2, a3, a4, a5, a6⟩ := id ha
  refine (c_Walk_goOn M N w kd wy ln nd hN hL h1 h2 h3 h4 a3).imp ?_
  rintro r M' ⟨rfl, e⟩
  rw [a1, a2, a4, a5, a6] at e
  refine ⟨rfl, ?_, ?_, fun j hj => ?_⟩
  · rw [e]
    exact oAt_step ha
  · rw [e]
    exact (oFr.rf.up ⟨rfl, rfl⟩).up ⟨rfl, rfl⟩
  · rw [e, oUp_j (by omega), oUp_j (by omega)]
def Q_trace (M : oM) (N : Nat → Int32) (w d : Nat) : Option Int32 → oM → Prop := fun r M' => r = none ∧ M' K_WALK w 3 = nI (cC N d + 1) ∧ (∀ j, j ≤ cC N d → M' K_WX w j = (sC N d (sNd N d) (sCh N d) j).1 ∧ M' K_WY w j = (sC N d (sNd N d) (sCh N d) j).2) ∧ oFr (oWs w) M M'
theorem c_Walk_traceDeed (M : oM) (N : Nat → Int32) (w d : Nat) (hN : oNOk N) (hL : oRL M N w) (hd : d < cD N) : oCt 3 k_Walk_traceDeed [.inr (K_WALK, w), .inl (nI d)] M (Q_trace M N w d) := by
  obtain ⟨-, d4⟩ := oND hN
  have hDo := hN.2.2.2.2.1 d hd
  obtain ⟨hC, hC10⟩ := oNC hDo
  obtain ⟨nd, hnd8, hnd⟩ := sNd_lt N d
  refine oCt.of (ls := [some (.inr (K_WALK, w)), some (.inl (nI d)), none, none]) mok_Walk_traceDeed rfl rfl ?_
  refine oRun_ok 4 rfl ?_
  refine g_aald d rfl rfl rfl (by omega) rfl ?_
  refine oRun_ok 6 rfl ?_
  refine g_callV rfl rfl rfl rfl rfl mok_Land_needleOf (by decide) (c_Land_needleOf M N w d hN hL hd) ?_
  rintro r17 M17 ⟨rfl, f17⟩
  have L17 := oRL_kp ((oKs_ws (w := w) f17).kp (oWs_kp w)) hL
  refine oRun_ok 3 rfl ?_
  refine g_callV rfl rfl rfl rfl rfl mok_Land_chainOf (by decide) (c_Land_chainOf M17 N w d hN L17 hd) ?_
  rintro r25 M25 ⟨rfl, f25⟩
  have F25 : oFr (oWs w) M M25 := (oKs_ws f17).tr (oKs_ws f25)
  have L25 := oRL_kp (F25.kp (oWs_kp w)) hL
  refine g_callV rfl rfl rfl rfl rfl mok_Walk_setOut (by decide) (c_Walk_setOut M25 w (4 * w + d) _ _) ?_
  rintro r28 M28 ⟨rfl, e28, f28⟩
  have F28 : oFr (oWs w) M M28 := F25.tr (oKi_ws f28)
  have D25 := (L25.2.2.2.2.2.1 d hd).1
  rw [D25 0 (by decide), D25 1 (by decide)] at e28
  have A28 := oAt_out e28
  have loop : ∀ (q j : Nat) (M1 : oM), j + q = cC N d → oAt M1 w (N (20 + 35 * d)) (N (20 + 35 * d + 1)) (sNd N d) (sCh N d) (sC N d (sNd N d) (sCh N d) j) → (∀ a, a ≤ j → M1 K_WX w a = (sC N d (sNd N d) (sCh N d) a).1 ∧ M1 K_WY w a = (sC N d (sNd N d) (sCh N d) a).2) → oFr (oWs w) M M1 → oG k_Walk_traceDeed 3 53 [some (.inr (K_WALK, w)), some (.inl (nI d)), some (.inr (K_DEED, 4 * w + d)), some (.inl (nI j))] [] M1 (Q_trace M N w d) := by
    intro q
    induction q with
    | zero =>
      intro j M1 hj ha hc hf
      have L1 := oRL_kp (hf.kp (oWs_kp w)) hL
      have D1 := L1.2.2.2.2.2.1 d hd
      have ec : M1 5 (4 * w + d) 4 = nI (cC N d) := (D1.1 4 (by decide)).trans hC
      refine oRun_ok 3 rfl ?_
      rw [ec]
      refine g_ic_ge rfl (fun h58 => ?_) (fun h58 => ?_)
      · refine oRun_ok 6 rfl ?_
        refine g_ret rfl rfl ⟨rfl, ?_, fun a ha' => hc a (by omega), hf.up (Or.inr ⟨rfl, Or.inl rfl⟩)⟩
        rw [oUp_self, ec, nI_1]
      · rw [nIle (by omega) (by omega)] at h58
        omega
    | succ q ih =>
      intro j M1 hj ha hc hf
      have L1 := oRL_kp (hf.kp (oWs_kp w)) hL
      have D1 := L1.2.2.2.2.2.1 d hd
      have ec : M1 5 (4 * w + d) 4 = nI (cC N d) := (D1.1 4 (by decide)).trans hC
      obtain ⟨kd, wy, ln, b1, b2, b3, e1, e2, e3⟩ := oCall_ok hDo (show j < cC N d by omega)
      obtain ⟨g1, g2, g3⟩ := D1.2 j (by omega)
      refine oRun_ok 3 rfl ?_
      rw [ec]
      refine g_ic_ge rfl (fun h58 => ?_) (fun h58 => ?_)
      · rw [nIle (by omega) (by omega)] at h58
        omega
      refine oRun_ok 4 rfl ?_
      refine g_iald j rfl rfl rfl (by omega) ?_
      refine oRun_ok 3 rfl ?_
      refine g_iald j rfl rfl rfl (by omega) ?_
      refine oRun_ok 3 rfl ?_
      refine g_iald j rfl rfl rfl (by omega) ?_
      rw [show M1 6 (4 * w + d) j = nI kd from g1.trans e1, show M1 7 (4 * w + d) j = nI wy from g2.trans e2, show M1 8 (4 * w + d) j = nI ln from g3.trans e3]
      rw [hnd] at ha
      refine g_callV rfl rfl rfl rfl rfl mok_Walk_goOn (by decide) (c_go M1 N w kd wy ln nd _ _ _ _ hN L1 b1 (by omega) b3 hnd8 ha) ?_
      rintro r80 M80 ⟨rfl, a80, f80, -⟩
      rw [rem8_id b2, ← hnd, ← e1, ← e2, ← e3] at a80
      have a80 : oAt M80 w (N (20 + 35 * d)) (N (20 + 35 * d + 1)) (sNd N d) (sCh N d) (sC N d (sNd N d) (sCh N d) (j + 1)) := a80
      refine oRun_ok 7 rfl ?_
      refine g_iast (j + 1) rfl rfl (nI_1 j) (by omega) ?_
      refine oRun_ok 7 rfl ?_
      refine g_iast (j + 1) rfl rfl (nI_1 j) (by omega) ?_
      refine oRun_ok 2 rfl ?_
      rw [nI_1]
      have nx : ∀ a, M80 K_WX w a = M1 K_WX w a := fun a => by rw [f80 K_WX w (fun q => absurd q.1 (by decide))]
      have ny : ∀ a, M80 K_WY w a = M1 K_WY w a := fun a => by rw [f80 K_WY w (fun q => absurd q.1 (by decide))]
      refine ih (j + 1) _ (by omega) a80 (fun a ha' => ?_) (((hf.tr (oKi_ws f80)).up (Or.inr ⟨rfl, Or.inr (Or.inl rfl)⟩)).up (Or.inr ⟨rfl, Or.inr (Or.inr rfl)⟩))
      by_cases haj : a = j + 1
      · subst haj
        refine ⟨?_, ?_⟩
        · show oUp M80 10 w (j + 1) _ 10 w (j + 1) = _
          rw [oUp_self]
          exact a80.2.2.2.2.1
        · show oUp (oUp M80 10 w (j + 1) _) 11 w (j + 1) _ 11 w (j + 1) = _
          rw [oUp_self]
          exact a80.2.2.2.2.2
      · obtain ⟨x1, x2⟩ := hc a (by omega)
        refine ⟨?_, ?_⟩
        · show oUp M80 10 w (j + 1) _ 10 w a = _
          rw [oUp_j haj]
          exact (nx a).trans x1
        · show oUp (oUp M80 10 w (j + 1) _) 11 w (j + 1) _ 11 w a = _
          rw [oUp_j haj]
          exact (ny a).trans x2
  refine oRun_ok 5 rfl ?_
  refine g_iast 0 rfl rfl rfl (by decide) ?_
  refine oRun_ok 5 rfl ?_
  refine g_iast 0 rfl rfl rfl (by decide) ?_
  refine oRun_ok 2 rfl ?_
  refine loop (cC N d) 0 _ (by omega) A28 (fun a ha => ?_) ((F28.up (Or.inr ⟨rfl, Or.inr (Or.inl rfl)⟩)).up (Or.inr ⟨rfl, Or.inr (Or.inr rfl)⟩))
  have : a = 0 := by omega
  subst this
  refine ⟨?_, ?_⟩
  · show oUp M28 10 w 0 _ 10 w 0 = _
    rw [oUp_self]
    exact A28.2.2.2.2.1
  · show oUp (oUp M28 10 w 0 _) 11 w 0 _ 11 w 0 = _
    rw [oUp_self]
    exact A28.2.2.2.2.2
theorem c_Walk_cornersInRow (M : oM) (w p : Nat) (hp : p < 22) : oCt 0 k_Walk_cornersInRow [.inr (K_WALK, w), .inl (nI p)] M (fun r M' => r = some (if p % 2 = 0 then M K_WX w (p / 2) else M K_WY w (p / 2)) ∧ M' = M) := by
  refine oCt.of (ls := [some (.inr (K_WALK, w)), some (.inl (nI p))]) mok_Walk_cornersInRow rfl rfl ?_
  refine oRun_ok 3 rfl ?_
  rw [show oRem (nI p) 2 = nI (p % 2) from nIrem (d := 2) (by omega) (by decide) (by decide)]
  refine g_if_ne rfl (fun h3 => ?_) (fun h3 => ?_)
  · have hz : ¬ p % 2 = 0 := fun q => h3 (by rw [q]; rfl)
    rw [if_neg hz]
    refine oRun_ok 5 rfl ?_
    refine g_iald (p / 2) rfl rfl (nIdiv (d := 2) (by omega) (by decide) (by decide)) (by omega) ?_
    exact g_iret rfl rfl rfl ⟨rfl, rfl⟩
  · have hz : p % 2 = 0 := (nIe (a := p % 2) (b := 0) (by omega) (by omega)).mp h3
    rw [if_pos hz]
    refine oRun_ok 5 rfl ?_
    refine g_iald (p / 2) rfl rfl (nIdiv (d := 2) (by omega) (by decide) (by decide)) (by omega) ?_
    refine oRun_ok 1 rfl ?_
    exact g_iret rfl rfl rfl ⟨rfl, rfl⟩
theorem c_Walk_nextCorner (M : oM) (w i n : Nat) (hn : M K_WALK w 3 = nI n) (hn11 : n ≤ 11) (hi : i < n) : oCt 0 k_Walk_nextCorner [.inr (K_WALK, w), .inl (nI i)] M (fun r M' => r = some (nI (if i + 1 = n then 0 else i + 1)) ∧ M' = M) := by
  refine oCt.of (ls := [some (.inr (K_WALK, w)), some (.inl (nI i))]) mok_Walk_nextCorner rfl rfl ?_
  refine oRun_ok 5 rfl ?_
  rw [nI_1, show M 9 w 3 = nI n from hn]
  refine g_ic_ge rfl (fun h7 => ?_) (fun h7 => ?_)
  · rw [nIle (by omega) (by omega)] at h7
    rw [if_pos (by omega)]
    refine oRun_ok 1 rfl ?_
    exact g_iret rfl rfl rfl ⟨rfl, rfl⟩
  · rw [nIle (by omega) (by omega)] at h7
    rw [if_neg (by omega)]
    refine oRun_ok 4 rfl ?_
    exact g_iret rfl rfl rfl ⟨by rw [nI_1], rfl⟩
theorem c_Walk_gapHere (M : oM) (w : Nat) : oCt 2 k_Walk_gapHere [.inr (K_WALK, w)] M (fun r M' => r = some (sGapP (M K_WALK w 8) (M K_WALK w 9) (M K_WALK w 12, M K_WALK w 13)) ∧ M' = M) := by
  refine oCt.of (ls := [some (.inr (K_WALK, w))]) mok_Walk_gapHere rfl rfl ?_
  refine oRun_ok 8 rfl ?_
  refine g_callSN rfl rfl rfl rfl mok_Oak_farApart (by decide) (c_Oak_farApart M _ _ _ _) ?_
  rintro r16 M16 ⟨rfl, e⟩; rw [e]
  exact g_iret rfl rfl rfl ⟨rfl, rfl⟩
end
section
/-! ===== Walk: gaps ===== -/
/-- what a gap leaves of the walker: all but where it stands -/
def oWk8 (M M' : oM) (w : Nat) : Prop := ∀ j, j < 8 → M' K_WALK w j = M K_WALK w j
theorem oSO_8 {f : Nat → Int32} {bx b2 nd ch : Int32} {j : Nat} (h : j < 8) : oSO f bx b2 nd ch j = f j := by
  unfold oSO
  rw [if_neg (by omega), if_neg (by omega), if_neg (by omega), if_neg (by omega), if_neg (by omega), if_neg (by omega)]
def oWg (w : Nat) : Nat → Nat → Prop := oKi K_WALK w
theorem oWg_kp (w : Nat) : ∀ k ∈ oRLk, ∀ i, ¬ oKi K_WALK w k i := by
  intro k hk i h
  have := h.1
  subst this
  revert hk
  decide
def Q_gapBy (M : oM) (N : Nat → Int32) (w d : Nat) (nd ch : Int32) : Option Int32 → oM → Prop := fun r M' => r = some (sGap N d nd ch) ∧ oWk8 M M' w ∧ M' K_WALK w 10 = nd ∧ M' K_WALK w 11 = ch ∧ oFr (oKi K_WALK w) M M'
theorem c_Walk_gapBy (M : oM) (N : Nat → Int32) (w d nd : Nat) (ch : Int32) (hN : oNOk N) (hL : oRL M N w) (hd : d < cD N) (hnd : nd < 8) : oCt 3 k_Walk_gapBy [.inr (K_WALK, w), .inl (nI d), .inl (nI nd), .inl ch] M (Q_gapBy M N w d (nI nd) ch) := by
  obtain ⟨-, d4⟩ := oND hN
  have hDo := hN.2.2.2.2.1 d hd
  obtain ⟨hC, hC10⟩ := oNC hDo
  refine oCt.of (ls := [some (.inr (K_WALK, w)), some (.inl (nI d)), some (.inl (nI nd)), some (.inl ch), none, none]) mok_Walk_gapBy rfl rfl ?_
  refine oRun_ok 4 rfl ?_
  refine g_aald d rfl rfl rfl (by omega) rfl ?_
  refine oRun_ok 5 rfl ?_
  refine g_callV rfl rfl rfl rfl rfl mok_Walk_setOut (by decide) (c_Walk_setOut M w (4 * w + d) _ _) ?_
  rintro r16 M16 ⟨rfl, e16, f16⟩
  have D0 := (hL.2.2.2.2.2.1 d hd).1
  have e16' := e16
  rw [D0 0 (by decide), D0 1 (by decide)] at e16
  have loop : ∀ (q j : Nat) (M1 : oM), j + q = cC N d → oAt M1 w (N (20 + 35 * d)) (N (20 + 35 * d + 1)) (nI nd) ch (sC N d (nI nd) ch j) → oWk8 M M1 w → oFr (oKi K_WALK w) M M1 → oG k_Walk_gapBy 3 22 [some (.inr (K_WALK, w)), some (.inl (nI d)), some (.inl (nI nd)), some (.inl ch), some (.inr (K_DEED, 4 * w + d)), some (.inl (nI j))] [] M1 (Q_gapBy M N w d (nI nd) ch) := by
    intro q
    induction q with
    | zero =>
      intro j M1 hj ha h8 hf
      have hj : j = cC N d := by omega
      subst hj
      have L1 := oRL_kp (hf.kp (oWg_kp w)) hL
      have ec : M1 5 (4 * w + d) 4 = nI (cC N d) := ((L1.2.2.2.2.2.1 d hd).1 4 (by decide)).trans hC
      refine oRun_ok 3 rfl ?_
      rw [ec]
      refine g_ic_ge rfl (fun h29 => ?_) (fun h29 => absurd (Int32.le_refl _) h29)
      refine oRun_ok 1 rfl ?_
      refine g_callV rfl rfl rfl rfl rfl mok_Walk_gapHere (by decide) (c_Walk_gapHere M1 w) ?_
      rintro r67 M67 ⟨rfl, e⟩; rw [e]
      obtain ⟨a1, a2, a3, a4, a5, a6⟩ := ha
      refine g_iret rfl rfl rfl ⟨?_, h8, a3, a4, hf⟩
      rw [a1, a2, a5, a6]
      rfl
    | succ q ih =>
      intro j M1 hj ha h8 hf
      have L1 := oRL_kp (hf.kp (oWg_kp w)) hL
      have D1 := L1.2.2.2.2.2.1 d hd
      have ec : M1 5 (4 * w + d) 4 = nI (cC N d) := (D1.1 4 (by decide)).trans hC
      obtain ⟨kd, wy, ln, b1, b2, b3, e1, e2, e3⟩ := oCall_ok hDo (show j < cC N d by omega)
      obtain ⟨g1, g2, g3⟩ := D1.2 j (by omega)
      refine oRun_ok 3 rfl ?_
      rw [ec]
      refine g_ic_ge rfl (fun h29 => ?_) (fun h29 => ?_)
      · rw [nIle (by omega) (by omega)] at h29
        omega
      refine oRun_ok 4 rfl ?_
      refine g_iald j rfl rfl rfl (by omega) ?_
      refine oRun_ok 3 rfl ?_
      refine g_iald j rfl rfl rfl (by omega) ?_
      refine oRun_ok 3 rfl ?_
      refine g_iald j rfl rfl rfl (by omega) ?_
      rw [show M1 6 (4 * w + d) j = nI kd from g1.trans e1, show M1 7 (4 * w + d) j = nI wy from g2.trans e2, show M1 8 (4 * w + d) j = nI ln from g3.trans e3]
      refine g_callV rfl rfl rfl rfl rfl mok_Walk_goOn (by decide) (c_go M1 N w kd wy ln nd _ _ _ _ hN L1 b1 (by omega) b3 hnd ha) ?_
      rintro r57 M57 ⟨rfl, a57, f57, k57⟩
      rw [rem8_id b2, ← e1, ← e2, ← e3] at a57
      refine oRun_ok 2 rfl ?_
      rw [nI_1]
      exact ih (j + 1) M57 (by omega) a57 (fun i hi => (k57 i hi).trans (h8 i hi)) (hf.tr f57)
  refine oRun_ok 2 rfl ?_
  exact loop (cC N d) 0 M16 (by omega) (oAt_out e16) (fun j hj => by rw [e16', oSO_8 hj]) f16
-- slips: 1 a call left out, 2 its way turned about, 3 exchanged with the next
def sSl (s c : Nat) (f : Nat → Int32) : Nat → Int32 := fun k => if s = 1 then (if k < c then f k else f (k + 1)) else if s = 3 then (if k = c then f (c + 1) else if k = c + 1 then f c else f k) else f k
def sSw (s c : Nat) (f : Nat → Int32) : Nat → Int32 := fun k => if s = 2 then (if k = c then oRem (f k + 4) 8 else f k) else sSl s c f k
def sSn (s n : Nat) : Nat := if s = 1 then n - 1 else n
def sCS (N : Nat → Int32) (d : Nat) (nd ch : Int32) (s c : Nat) : Nat → Int32 × Int32 := sCor N (N (20 + 35 * d)) (N (20 + 35 * d + 1)) nd ch (sSl s c (kA N d)) (sSw s c (wA N d)) (sSl s c (lA N d))
def sGapS (N : Nat → Int32) (d : Nat) (nd ch : Int32) (s c : Nat) : Int32 := sGapP (N (20 + 35 * d)) (N (20 + 35 * d + 1)) (sCS N d nd ch s c (sSn s (cC N d)))
/-- which call stands at place j with a slip -/
def sFrom (s c j : Nat) : Nat := if s = 3 then (if j = c then c + 1 else if j = c + 1 then c else j) else j
def Q_gapS (M : oM) (N : Nat → Int32) (w d : Nat) (nd ch : Int32) (s c : Nat) : Option Int32 → oM → Prop := fun r M' => r = some (sGapS N d nd ch s c) ∧ oWk8 M M' w ∧ M' K_WALK w 10 = nd ∧ M' K_WALK w 11 = ch ∧ oFr (oKi K_WALK w) M M'
theorem c_Walk_gapWithSlip (M : oM) (N : Nat → Int32) (w d nd s c : Nat) (ch : Int32) (hN : oNOk N) (hL : oRL M N w) (hd : d < cD N) (hnd : nd < 8) (hnM : M K_WALK w 10 = nI nd) (hcM : M K_WALK w 11 = ch) (hs : 1 ≤ s ∧ s ≤ 3) (hc : c < cC N d) (hc3 : s = 3 → c + 1 < cC N d) : oCt 3 k_Walk_gapWithSlip [.inr (K_WALK, w), .inr (K_DEED, 4 * w + d), .inl (nI s), .inl (nI c)] M (Q_gapS M N w d (nI nd) ch s c) := by
  obtain ⟨-, d4⟩ := oND hN
  have hDo := hN.2.2.2.2.1 d hd
  obtain ⟨hC, hC10⟩ := oNC hDo
  refine oCt.of (ls := [some (.inr (K_WALK, w)), some (.inr (K_DEED, 4 * w + d)), some (.inl (nI s)), some (.inl (nI c)), none, none, none]) mok_Walk_gapWithSlip rfl rfl ?_
  refine oRun_ok 6 rfl ?_
  rw [show M 9 w 10 = nI nd from hnM, show M 9 w 11 = ch from hcM]
  refine g_callV rfl rfl rfl rfl rfl mok_Walk_setOut (by decide) (c_Walk_setOut M w (4 * w + d) _ _) ?_
  rintro r10 M10 ⟨rfl, e10, f10⟩
  have D0 := (hL.2.2.2.2.2.1 d hd).1
  have e10' := e10
  rw [D0 0 (by decide), D0 1 (by decide)] at e10
  have kn : ∀ a b : Nat, a < 100 → b < 100 → (nI a = nI b ↔ a = b) := fun a b ha hb => nIe (by omega) (by omega)
  -- how many steps are done before place j
  have loop : ∀ (q j : Nat) (M1 : oM) (x5 x6 : Option oV), j + q = cC N d → oAt M1 w (N (20 + 35 * d)) (N (20 + 35 * d + 1)) (nI nd) ch (sCS N d (nI nd) ch s c (if s = 1 ∧ c < j then j - 1 else j)) → oWk8 M M1 w → oFr (oKi K_WALK w) M M1 → oG k_Walk_gapWithSlip 3 16 [some (.inr (K_WALK, w)), some (.inr (K_DEED, 4 * w + d)), some (.inl (nI s)), some (.inl (nI c)), some (.inl (nI j)), x5, x6] [] M1 (Q_gapS M N w d (nI nd) ch s c) := by
    intro q
    induction q with
    | zero =>
      intro j M1 x5 x6 hj ha h8 hf
      have L1 := oRL_kp (hf.kp (oWg_kp w)) hL
      have ec : M1 5 (4 * w + d) 4 = nI (cC N d) := ((L1.2.2.2.2.2.1 d hd).1 4 (by decide)).trans hC
      refine oRun_ok 3 rfl ?_
      rw [ec]
      refine g_ic_ge rfl (fun h22 => ?_) (fun h22 => ?_)
      · refine oRun_ok 1 rfl ?_
        refine g_callV rfl rfl rfl rfl rfl mok_Walk_gapHere (by decide) (c_Walk_gapHere M1 w) ?_
        rintro r148 M148 ⟨rfl, e⟩; rw [e]
        have hn : (if s = 1 ∧ c < j then j - 1 else j) = sSn s (cC N d) := by
          unfold sSn
          by_cases h1 : s = 1
          · rw [if_pos h1, if_pos ⟨h1, by omega⟩]; omega
          · rw [if_neg h1, if_neg (fun q => h1 q.1)]; omega
        rw [hn] at ha
        obtain ⟨a1, a2, a3, a4, a5, a6⟩ := ha
        refine g_iret rfl rfl rfl ⟨?_, h8, a3, a4, hf⟩
        rw [a1, a2, a5, a6]
        rfl
      · rw [nIle (by omega) (by omega)] at h22
        omega
    | succ q ih =>
      intro j M1 x5 x6 hj ha h8 hf
      have L1 := oRL_kp (hf.kp (oWg_kp w)) hL
      have D1 := L1.2.2.2.2.2.1 d hd
      have ec : M1 5 (4 * w + d) 4 = nI (cC N d) := (D1.1 4 (by decide)).trans hC
      have hfr : sFrom s c j < cC N d := by
        unfold sFrom
        split
        · have := hc3 (by assumption)
          split
          · omega
          · split <;> omega
        · omega
      -- from place 113 on: a call is gone by
      have go : ∀ tu : Nat, tu = (if s = 2 ∧ j = c then 4 else 0) → ¬ (s = 1 ∧ j = c) → oG k_Walk_gapWithSlip 3 113 [some (.inr (K_WALK, w)), some (.inr (K_DEED, 4 * w + d)), some (.inl (nI s)), some (.inl (nI c)), some (.inl (nI j)), some (.inl (nI (sFrom s c j))), some (.inl (nI tu))] [] M1 (Q_gapS M N w d (nI nd) ch s c) := by
        intro tu htu hno
        obtain ⟨kd, wy, ln, b1, b2, b3, e1, e2, e3⟩ := oCall_ok hDo hfr
        obtain ⟨g1, g2, g3⟩ := D1.2 (sFrom s c j) hfr
        refine oRun_ok 4 rfl ?_
        refine g_iald (sFrom s c j) rfl rfl rfl (by omega) ?_
        refine oRun_ok 3 rfl ?_
        refine g_iald (sFrom s c j) rfl rfl rfl (by omega) ?_
        refine oRun_ok 5 rfl ?_
        refine g_iald (sFrom s c j) rfl rfl rfl (by omega) ?_
        rw [show M1 6 (4 * w + d) (sFrom s c j) = nI kd from g1.trans e1, show M1 7 (4 * w + d) (sFrom s c j) = nI wy from g2.trans e2, show M1 8 (4 * w + d) (sFrom s c j) = nI ln from g3.trans e3, nI_add]
        have htu4 : tu ≤ 4 := by rw [htu]; split <;> omega
        refine g_callV rfl rfl rfl rfl rfl mok_Walk_goOn (by decide) (c_go M1 N w kd (wy + tu) ln nd _ _ _ _ hN L1 b1 (by omega) b3 hnd ha) ?_
        rintro r138 M138 ⟨rfl, a138, f138, k138⟩
        refine oRun_ok 2 rfl ?_
        rw [nI_1]
        refine ih (j + 1) M138 _ _ (by omega) ?_ (fun i hi => (k138 i hi).trans (h8 i hi)) (hf.tr f138)
        generalize hm : (if s = 1 ∧ c < j then j - 1 else j) = m at a138
        have hm1 : (if s = 1 ∧ c < j + 1 then j + 1 - 1 else j + 1) = m + 1 := by
          rw [← hm]
          split <;> split <;> omega
        rw [hm1]
        have kS : ∀ f : Nat → Int32, sSl s c f m = f (sFrom s c j) := by
          intro f
          unfold sSl sFrom
          by_cases h1 : s = 1
          · rw [if_pos h1, if_neg (show ¬ s = 3 by omega)]
            by_cases h2 : c < j
            · rw [if_pos ⟨h1, h2⟩] at hm
              rw [if_neg (by omega), show m + 1 = j by omega]
            · rw [if_neg (fun q => h2 q.2)] at hm
              have : ¬ j = c := fun q => hno ⟨h1, q⟩
              rw [if_pos (by omega), hm]
          · rw [if_neg h1]
            rw [if_neg (fun q => h1 q.1)] at hm
            subst hm
            by_cases h3 : s = 3
            · rw [if_pos h3, if_pos h3]
              by_cases h4 : j = c
              · rw [if_pos h4, if_pos h4]
              · rw [if_neg h4, if_neg h4]
                by_cases h5 : j = c + 1
                · rw [if_pos h5, if_pos h5]
                · rw [if_neg h5, if_neg h5]
            · rw [if_neg h3, if_neg h3]
        have wS : sSw s c (wA N d) m = oRem (nI (wy + tu)) 8 := by
          unfold sSw
          by_cases h2 : s = 2
          · rw [if_pos h2]
            rw [if_neg (show ¬ (s = 1 ∧ c < j) by omega)] at hm
            subst hm
            have hfj : sFrom s c j = j := by unfold sFrom; rw [if_neg (by omega)]
            rw [hfj] at e2
            by_cases h4 : j = c
            · rw [if_pos h4, e2, htu, if_pos ⟨h2, h4⟩, show (4 : Int32) = nI 4 from rfl, nI_add]
            · rw [if_neg h4, e2, htu, if_neg (fun q => h4 q.2), Nat.add_zero, rem8_id b2]
          · rw [if_neg h2, kS, e2, htu, if_neg (fun q => h2 q.1), Nat.add_zero, rem8_id b2]
        show oAt M138 w _ _ _ _ (sStep N _ _ _ _ (sSl s c (kA N d) m) (sSw s c (wA N d) m) (sSl s c (lA N d) m) _ _)
        rw [kS, kS, wS, e1, e3]
        exact a138
      -- from place 95 on
      have at95 : ¬ (s = 1 ∧ j = c) → ∀ x6, oG k_Walk_gapWithSlip 3 95 [some (.inr (K_WALK, w)), some (.inr (K_DEED, 4 * w + d)), some (.inl (nI s)), some (.inl (nI c)), some (.inl (nI j)), some (.inl (nI (sFrom s c j))), x6] [] M1 (Q_gapS M N w d (nI nd) ch s c) := by
        intro hno x6
        refine oRun_ok 2 rfl ?_
        refine g_ic_ne rfl (fun h97 => ?_) (fun h97 => ?_)
        · refine oRun_ok 2 rfl ?_
          exact go 0 (by rw [if_neg (fun q => h97 (by rw [q.1]; rfl))]) hno
        · have hs2 : s = 2 := (kn s 2 (by omega) (by omega)).mp h97
          refine oRun_ok 2 rfl ?_
          refine g_ic_ne rfl (fun h103 => ?_) (fun h103 => ?_)
          · refine oRun_ok 2 rfl ?_
            exact go 0 (by rw [if_neg (fun q => h103 (by rw [q.2]))]) hno
          · have hjc : j = c := (kn j c (by omega) (by omega)).mp h103
            refine oRun_ok 3 rfl ?_
            exact go 4 (by rw [if_pos ⟨hs2, hjc⟩]) hno
      -- from place 84 on
      have at84 : ∀ x6, oG k_Walk_gapWithSlip 3 84 [some (.inr (K_WALK, w)), some (.inr (K_DEED, 4 * w + d)), some (.inl (nI s)), some (.inl (nI c)), some (.inl (nI j)), some (.inl (nI (sFrom s c j))), x6] [] M1 (Q_gapS M N w d (nI nd) ch s c) := by
        intro x6
        refine oRun_ok 2 rfl ?_
        refine g_ic_ne rfl (fun h86 => at95 (fun q => h86 (by rw [q.1]; rfl)) x6) (fun h86 => ?_)
        have hs1 : s = 1 := (kn s 1 (by omega) (by omega)).mp h86
        refine oRun_ok 2 rfl ?_
        refine g_ic_eq rfl (fun h92 => ?_) (fun h92 => at95 (fun q => h92 (by rw [q.2])) x6)
        have hjc : j = c := (kn j c (by omega) (by omega)).mp h92
        refine oRun_ok 2 rfl ?_
        rw [nI_1]
        refine ih (j + 1) M1 _ _ (by omega) ?_ h8 hf
        rw [if_neg (by omega)] at ha
        rw [if_pos ⟨hs1, by omega⟩]
        exact ha
      refine oRun_ok 3 rfl ?_
      rw [ec]
      refine g_ic_ge rfl (fun h22 => ?_) (fun h22 => ?_)
      · rw [nIle (by omega) (by omega)] at h22
        omega
      -- from place 60 on
      have at60 : ¬ (s = 3 ∧ j = c) → oG k_Walk_gapWithSlip 3 60 [some (.inr (K_WALK, w)), some (.inr (K_DEED, 4 * w + d)), some (.inl (nI s)), some (.inl (nI c)), some (.inl (nI j)), some (.inl (nI j)), x6] [] M1 (Q_gapS M N w d (nI nd) ch s c) := by
        intro hno
        refine oRun_ok 2 rfl ?_
        refine g_ic_ne rfl (fun h62 => ?_) (fun h62 => ?_)
        · have : sFrom s c j = j := by
            unfold sFrom
            rw [if_neg (fun q => h62 (by rw [q]; rfl))]
          have h := at84 x6
          rw [this] at h
          exact h
        · have hs3 : s = 3 := (kn s 3 (by omega) (by omega)).mp h62
          refine oRun_ok 1 rfl ?_
          refine g_if_le rfl (fun h67 => ?_) (fun h67 => ?_)
          · have hj0 : j = 0 := by
              rw [show (0 : Int32) = nI 0 from rfl, nIle (by omega) (by omega)] at h67
              omega
            have : sFrom s c j = j := by
              unfold sFrom
              rw [if_pos hs3, if_neg (fun q => hno ⟨hs3, q⟩), if_neg (by omega)]
            have h := at84 x6
            rw [this] at h
            exact h
          · have hj0 : ¬ j = 0 := fun q => h67 (by rw [q]; decide)
            refine oRun_ok 4 rfl ?_
            rw [nI_1]
            refine g_ic_ne rfl (fun h75 => ?_) (fun h75 => ?_)
            · have : sFrom s c j = j := by
                unfold sFrom
                rw [if_pos hs3, if_neg (fun q => hno ⟨hs3, q⟩), if_neg (fun q => h75 (by rw [q]))]
              have h := at84 x6
              rw [this] at h
              exact h
            · have hjc : j = c + 1 := (kn j (c + 1) (by omega) (by omega)).mp h75
              have : sFrom s c j = j - 1 := by
                unfold sFrom
                rw [if_pos hs3, if_neg (by omega), if_pos hjc]
                omega
              refine oRun_ok 4 rfl ?_
              rw [show nI j - 1 = nI (j - 1) from nIsub (b := 1) (by omega)]
              have h := at84 x6
              rw [this] at h
              exact h
      refine oRun_ok 4 rfl ?_
      refine g_ic_ne rfl (fun h31 => at60 (fun q => h31 (by rw [q.1]; rfl))) (fun h31 => ?_)
      have hs3 : s = 3 := (kn s 3 (by omega) (by omega)).mp h31
      refine oRun_ok 2 rfl ?_
      refine g_ic_ne rfl (fun h37 => at60 (fun q => h37 (by rw [q.2]))) (fun h37 => ?_)
      have hjc : j = c := (kn j c (by omega) (by omega)).mp h37
      refine oRun_ok 5 rfl ?_
      rw [ec, nI_1]
      refine g_ic_ge rfl (fun h48 => ?_) (fun h48 => ?_)
      · rw [nIle (by omega) (by omega)] at h48
        have := hc3 hs3
        omega
      · have : sFrom s c j = j + 1 := by
          unfold sFrom
          rw [if_pos hs3, if_pos hjc]
          omega
        refine oRun_ok 5 rfl ?_
        rw [nI_1]
        have h := at84 x6
        rw [this] at h
        exact h
  refine oRun_ok 2 rfl ?_
  refine loop (cC N d) 0 M10 _ _ (by omega) ?_ (fun j hj => by rw [e10', oSO_8 hj]) f10
  rw [if_neg (by omega)]
  exact oAt_out e10
end
section
/-! ===== how far corners lie ===== -/
theorem size_t {v : Int32} (h : -2147483648 < v.toInt) : (f_Mod_size v).toInt = v.toInt.natAbs := by
  unfold f_Mod_size
  by_cases h0 : 0 ≤ v
  · rw [if_pos h0]
    have : 0 ≤ v.toInt := iLe.mp h0
    omega
  · rw [if_neg h0, iNeg h]
    have : ¬ 0 ≤ v.toInt := fun q => h0 (iLe.mpr q)
    omega
theorem across_t (v : Int32) : -1 ≤ (f_Mod_acrossBy v).toInt ∧ (f_Mod_acrossBy v).toInt ≤ 1 := by
  unfold f_Mod_acrossBy
  repeat' split
  all_goals decide
theorem up_t (v : Int32) : -1 ≤ (f_Mod_upBy v).toInt ∧ (f_Mod_upBy v).toInt ≤ 1 := by
  unfold f_Mod_upBy
  repeat' split
  all_goals decide
theorem true_t {len ch : Int32} (hl : inR len 1 20) (hc : inR ch (-9) 9) : 0 ≤ (f_Mod_trueBy len ch).toInt ∧ (f_Mod_trueBy len ch).toInt ≤ 21 := by
  unfold f_Mod_trueBy
  obtain ⟨l1, l2⟩ := hl
  obtain ⟨c1, c2⟩ := hc
  have e100 : (100 : Int32).toInt = 100 := rfl
  have h1 : (100 + ch).toInt = 100 + ch.toInt := by rw [iAdd (by rw [e100]; omega), e100]
  have hb : 0 ≤ len.toInt * (100 + ch.toInt) ∧ len.toInt * (100 + ch.toInt) ≤ 2180 := by
    refine ⟨Int.mul_nonneg (by omega) (by omega), ?_⟩
    have := Int.mul_le_mul (a := len.toInt) (c := 20) (b := 100 + ch.toInt) (d := 109) l2 (by omega) (by omega) (by decide)
    omega
  have h2 : (len * (100 + ch)).toInt = len.toInt * (100 + ch.toInt) := by rw [iMul (by rw [h1]; omega), h1]
  rw [iDiv (by left; rw [h2]; omega), h2, e100]
  have h3 : (len.toInt * (100 + ch.toInt)).tdiv 100 = (len.toInt * (100 + ch.toInt)) / 100 := Int.tdiv_eq_ediv_of_nonneg hb.1
  rw [h3]
  omega
theorem mul_small {a b : Int32} (ha : 0 ≤ a.toInt ∧ a.toInt ≤ 21) (hb : -1 ≤ b.toInt ∧ b.toInt ≤ 1) : -21 ≤ (a * b).toInt ∧ (a * b).toInt ≤ 21 := by
  have hb3 : b.toInt = -1 ∨ b.toInt = 0 ∨ b.toInt = 1 := by omega
  have hm : a.toInt * b.toInt = -a.toInt ∨ a.toInt * b.toInt = 0 ∨ a.toInt * b.toInt = a.toInt := by
    rcases hb3 with h | h | h <;> rw [h]
    · left; omega
    · right; left; omega
    · right; right; omega
  rw [iMul (by omega)]
  omega
theorem pr2 {a b : Int32} {lo hi : Int} (h1 : inR a lo hi) (h2 : inR b lo hi) : inR (a, b).1 lo hi ∧ inR (a, b).2 lo hi := ⟨h1, h2⟩
theorem sStep_bd {N : Nat → Int32} {bx b2 nd ch kind way len x y : Int32} {B : Int} (hN : oNOk N) (h1 : inR bx 0 29) (h2 : inR b2 0 29) (hc : inR ch (-9) 9) (hl : inR len 1 20) (hB : 99 ≤ B ∧ B ≤ 100000) (hx : inR x (-B) B) (hy : inR y (-B) B) : inR (sStep N bx b2 nd ch kind way len x y).1 (-(B + 21)) (B + 21) ∧ inR (sStep N bx b2 nd ch kind way len x y).2 (-(B + 21)) (B + 21) := by
  obtain ⟨x1, x2⟩ := hx
  obtain ⟨y1, y2⟩ := hy
  obtain ⟨p1, p2⟩ := h1
  obtain ⟨p3, p4⟩ := h2
  obtain ⟨hS, hS8⟩ := oNS hN
  unfold sStep
  split
  · rename_i h
    obtain ⟨-, h⟩ := h
    rw [hS] at h
    obtain ⟨n, hn, e⟩ := wiI (by omega) h
    rw [e, nIc (by omega)]
    obtain ⟨⟨a, b⟩, c, d⟩ := hN.2.2.2.1 n hn
    exact pr2 ⟨by omega, by omega⟩ ⟨by omega, by omega⟩
  · split
    · exact pr2 ⟨by omega, by omega⟩ ⟨by omega, by omega⟩
    · split
      · have e2 : (2 : Int32).toInt = 2 := rfl
        have q1 : (x + bx).toInt = x.toInt + bx.toInt := iAdd (by omega)
        have q2 : (y + b2).toInt = y.toInt + b2.toInt := iAdd (by omega)
        have r1 : ((x + bx) / 2).toInt = (x.toInt + bx.toInt).tdiv 2 := by rw [iDiv (by right; rw [e2]; decide), q1, e2]
        have r2 : ((y + b2) / 2).toInt = (y.toInt + b2.toInt).tdiv 2 := by rw [iDiv (by right; rw [e2]; decide), q2, e2]
        have t1 : ((x.toInt + bx.toInt).tdiv 2).natAbs = (x.toInt + bx.toInt).natAbs / 2 := Int.natAbs_tdiv _ 2
        have t2 : ((y.toInt + b2.toInt).tdiv 2).natAbs = (y.toInt + b2.toInt).natAbs / 2 := Int.natAbs_tdiv _ 2
        refine pr2 ⟨?_, ?_⟩ ⟨?_, ?_⟩
        · rw [r1]; omega
        · rw [r1]; omega
        · rw [r2]; omega
        · rw [r2]; omega
      · have ht := true_t hl hc
        have ma := mul_small ht (across_t (sW nd kind way))
        have mu := mul_small ht (up_t (sW nd kind way))
        refine ⟨⟨?_, ?_⟩, ⟨?_, ?_⟩⟩
        · show -(B + 21) ≤ (x + f_Mod_trueBy len ch * f_Mod_acrossBy (sW nd kind way)).toInt
          rw [iAdd (by omega)]; omega
        · show (x + f_Mod_trueBy len ch * f_Mod_acrossBy (sW nd kind way)).toInt ≤ B + 21
          rw [iAdd (by omega)]; omega
        · show -(B + 21) ≤ (y + f_Mod_trueBy len ch * f_Mod_upBy (sW nd kind way)).toInt
          rw [iAdd (by omega)]; omega
        · show (y + f_Mod_trueBy len ch * f_Mod_upBy (sW nd kind way)).toInt ≤ B + 21
          rw [iAdd (by omega)]; omega
theorem sCor_bd {N : Nat → Int32} {bx b2 nd ch : Int32} {ka wa la : Nat → Int32} (hN : oNOk N) (h1 : inR bx 0 29) (h2 : inR b2 0 29) (hc : inR ch (-9) 9) : ∀ (k : Nat), k ≤ 10 → (∀ j, j < k → inR (la j) 1 20) → inR (sCor N bx b2 nd ch ka wa la k).1 (-(99 + 21 * k)) (99 + 21 * k) ∧ inR (sCor N bx b2 nd ch ka wa la k).2 (-(99 + 21 * k)) (99 + 21 * k)
  | 0, _, _ => by
    obtain ⟨p1, p2⟩ := h1
    obtain ⟨p3, p4⟩ := h2
    exact ⟨⟨by show _ ≤ bx.toInt; omega, by show bx.toInt ≤ _; omega⟩, ⟨by show _ ≤ b2.toInt; omega, by show b2.toInt ≤ _; omega⟩⟩
  | k + 1, hk, hl => by
    have ih := sCor_bd (nd := nd) (ka := ka) (wa := wa) hN h1 h2 hc k (by omega) (fun j hj => hl j (by omega))
    have := sStep_bd (nd := nd) (kind := ka k) (way := wa k) (B := 99 + 21 * (k : Int)) hN h1 h2 hc (hl k (by omega)) (by omega) ih.1 ih.2
    have e : (99 + 21 * ((k + 1 : Nat) : Int)) = 99 + 21 * (k : Int) + 21 := by omega
    rw [e]
    exact this
theorem sCor_far {N : Nat → Int32} {bx b2 nd ch : Int32} {ka wa la : Nat → Int32} {k : Nat} (hN : oNOk N) (h1 : inR bx 0 29) (h2 : inR b2 0 29) (hc : inR ch (-9) 9) (hk : k ≤ 10) (hl : ∀ j, j < k → inR (la j) 1 20) : inR (sCor N bx b2 nd ch ka wa la k).1 (-309) 309 ∧ inR (sCor N bx b2 nd ch ka wa la k).2 (-309) 309 := by
  obtain ⟨⟨a, b⟩, c, d⟩ := sCor_bd (nd := nd) (ka := ka) (wa := wa) hN h1 h2 hc k hk hl
  exact ⟨⟨by omega, by omega⟩, ⟨by omega, by omega⟩⟩
theorem sGapP_rng {bx b2 : Int32} {p : Int32 × Int32} (h1 : inR bx 0 29) (h2 : inR b2 0 29) (hx : inR p.1 (-309) 309) (hy : inR p.2 (-309) 309) : inR (sGapP bx b2 p) 0 1000 := by
  obtain ⟨a1, a2⟩ := h1
  obtain ⟨b1, b3⟩ := h2
  obtain ⟨c1, c2⟩ := hx
  obtain ⟨d1, d2⟩ := hy
  have e1 : (p.1 - bx).toInt = p.1.toInt - bx.toInt := iSub (by omega)
  have e2 : (p.2 - b2).toInt = p.2.toInt - b2.toInt := iSub (by omega)
  have s1 := size_t (v := p.1 - bx) (by omega)
  have s2 := size_t (v := p.2 - b2) (by omega)
  unfold sGapP
  have : (f_Mod_size (p.1 - bx) + f_Mod_size (p.2 - b2)).toInt = (f_Mod_size (p.1 - bx)).toInt + (f_Mod_size (p.2 - b2)).toInt := iAdd (by omega)
  exact ⟨by rw [this]; omega, by rw [this]; omega⟩
theorem lA_rng {N : Nat → Int32} {d j : Nat} (h : oDOk N d) (hj : j < cC N d) : inR (lA N d j) 1 20 := (h.2.2.2.2.2 j hj).2.2
theorem sC_far {N : Nat → Int32} {d k : Nat} {nd ch : Int32} (hN : oNOk N) (hd : d < cD N) (hc : inR ch (-9) 9) (hk : k ≤ cC N d) : inR (sC N d nd ch k).1 (-309) 309 ∧ inR (sC N d nd ch k).2 (-309) 309 := by
  have hDo := hN.2.2.2.2.1 d hd
  obtain ⟨-, h10⟩ := oNC hDo
  exact sCor_far hN hDo.1 hDo.2.1 hc (by omega) (fun j hj => lA_rng hDo (by omega))
theorem sGap_rng {N : Nat → Int32} {d : Nat} {nd ch : Int32} (hN : oNOk N) (hd : d < cD N) (hc : inR ch (-9) 9) : inR (sGap N d nd ch) 0 1000 := by
  have hDo := hN.2.2.2.2.1 d hd
  obtain ⟨a, b⟩ := sC_far (nd := nd) hN hd hc (Nat.le_refl _)
  exact sGapP_rng hDo.1 hDo.2.1 a b
theorem within_rng (v : Int32) : inR (f_Mod_within v (-9) 9) (-9) 9 := by
  unfold f_Mod_within
  split
  · rename_i h
    split
    · rename_i h2
      exact ⟨iLe.mp h, iLe.mp h2⟩
    · exact ⟨by decide, by decide⟩
  · exact ⟨by decide, by decide⟩
theorem sCh_rng {N : Nat → Int32} {d : Nat} (hN : oNOk N) (hd : d < cD N) : inR (sCh N d) (-9) 9 := by
  unfold sCh
  split
  · exact (hN.2.2.2.2.1 d hd).2.2.2.1
  · exact within_rng _
end
section
/-! ===== Walk: what is best ===== -/
def sMin (v num : Nat → Int32) : Nat → Int32 × Int32
  | 0 => (2147483647, 0)
  | n + 1 => if v n < (sMin v num n).1 then (v n, num n) else sMin v num n
theorem c_Walk_takeIfBetter (M : oM) (w : Nat) (num gap : Int32) : oCt 0 k_Walk_takeIfBetter [.inr (K_WALK, w), .inl num, .inl gap] M (fun r M' => r = none ∧ M' K_WALK w 4 = (if gap < M K_WALK w 4 then gap else M K_WALK w 4) ∧ M' K_WALK w 7 = (if gap < M K_WALK w 4 then num else M K_WALK w 7) ∧ oFr (oKi K_WALK w) M M') := by
  refine oCt.of (ls := [some (.inr (K_WALK, w)), some (.inl num), some (.inl gap)]) mok_Walk_takeIfBetter rfl rfl ?_
  refine oRun_ok 3 rfl ?_
  refine g_ic_ge rfl (fun h5 => ?_) (fun h5 => ?_)
  · have hn : ¬ gap < M K_WALK w 4 := fun q => absurd (Int32.lt_of_lt_of_le q h5) Int32.lt_irrefl
    exact g_ret rfl rfl ⟨rfl, by rw [if_neg hn], by rw [if_neg hn], oFr.rf⟩
  · have hp : gap < M K_WALK w 4 := Int32.not_le.mp h5
    refine oRun_ok 6 rfl ?_
    refine g_ret rfl rfl ⟨rfl, ?_, ?_, (oFr.rf.up ⟨rfl, rfl⟩).up ⟨rfl, rfl⟩⟩
    · rw [if_pos hp, oUp_j (by decide), oUp_self]
    · rw [if_pos hp, oUp_self]
def Q_best (M : oM) (w : Nat) (p : Int32 × Int32) : Option Int32 → oM → Prop := fun r M' => r = none ∧ M' K_WALK w 4 = p.1 ∧ M' K_WALK w 7 = p.2 ∧ oFr (oWs w) M M'
theorem sMin_step {v num : Nat → Int32} {n : Nat} {b o b' o' : Int32} (hv : inR (v n) 0 100000) (h4 : b = (sMin v num n).1) (h7 : 0 < n → o = (sMin v num n).2) (hb' : b' = if v n < b then v n else b) (ho' : o' = if v n < b then num n else o) : b' = (sMin v num (n + 1)).1 ∧ o' = (sMin v num (n + 1)).2 := by
  rw [sMin]
  by_cases h : v n < b
  · rw [if_pos h] at hb' ho'
    rw [h4] at h
    rw [if_pos h]
    exact ⟨hb', ho'⟩
  · rw [if_neg h] at hb' ho'
    have hn : 0 < n := by
      rcases Nat.eq_zero_or_pos n with h0 | h0
      · subst h0
        exact absurd (by rw [h4, iLt]; show (v 0).toInt < 2147483647; have := hv.2; omega) h
      · exact h0
    rw [h4] at h
    rw [if_neg h, hb', ho']
    exact ⟨h4, h7 hn⟩
theorem c_Walk_findBestNeedle (M : oM) (N : Nat → Int32) (w d : Nat) (hN : oNOk N) (hL : oRL M N w) (hd : d < cD N) : oCt 4 k_Walk_findBestNeedle [.inr (K_WALK, w), .inl (nI d)] M (Q_best M w (sMin (fun n => sGap N d (nI n) (sCh N d)) nI 8)) := by
  have hcr := sCh_rng hN hd
  refine oCt.of (ls := [some (.inr (K_WALK, w)), some (.inl (nI d)), none, none]) mok_Walk_findBestNeedle rfl rfl ?_
  refine oRun_ok 3 rfl ?_
  refine g_callV rfl rfl rfl rfl rfl mok_Land_chainOf (by decide) (c_Land_chainOf M N w d hN hL hd) ?_
  rintro r5 M5 ⟨rfl, f5⟩
  have loop : ∀ (q n : Nat) (M1 : oM), n + q = 8 → M1 K_WALK w 4 = (sMin (fun n => sGap N d (nI n) (sCh N d)) nI n).1 → (0 < n → M1 K_WALK w 7 = (sMin (fun n => sGap N d (nI n) (sCh N d)) nI n).2) → oFr (oWs w) M M1 → oG k_Walk_findBestNeedle 4 17 [some (.inr (K_WALK, w)), some (.inl (nI d)), some (.inl (sCh N d)), some (.inl (nI n))] [] M1 (Q_best M w (sMin (fun n => sGap N d (nI n) (sCh N d)) nI 8)) := by
    intro q
    induction q with
    | zero =>
      intro n M1 hn h4 h7 hf
      have hn : n = 8 := by omega
      subst hn
      refine oRun_ok 2 rfl ?_
      refine g_ic_ge rfl (fun h20 => ?_) (fun h20 => absurd (by decide) h20)
      exact g_ret rfl rfl ⟨rfl, h4, h7 (by decide), hf⟩
    | succ q ih =>
      intro n M1 hn h4 h7 hf
      refine oRun_ok 2 rfl ?_
      refine g_ic_ge rfl (fun h20 => ?_) (fun h20 => ?_)
      · have := (nIle (a := 8) (b := n) (by omega) (by omega)).mp h20
        omega
      have L1 := oRL_kp (hf.kp (oWs_kp w)) hL
      refine oRun_ok 6 rfl ?_
      refine g_callV rfl rfl rfl rfl rfl mok_Walk_gapBy (by decide) (c_Walk_gapBy M1 N w d n (sCh N d) hN L1 hd (by omega)) ?_
      rintro r29 M29 ⟨rfl, k29, -, -, f29⟩
      refine g_callV rfl rfl rfl rfl rfl mok_Walk_takeIfBetter (by decide) (c_Walk_takeIfBetter M29 w _ _) ?_
      rintro r32 M32 ⟨rfl, a, b, f32⟩
      refine oRun_ok 2 rfl ?_
      rw [nI_1]
      obtain ⟨x, y⟩ := sMin_step (v := fun n => sGap N d (nI n) (sCh N d)) (num := nI) (n := n) (by have := sGap_rng (nd := nI n) hN hd hcr; exact ⟨this.1, by have := this.2; omega⟩) ((k29 4 (by decide)).trans h4) (fun h => (k29 7 (by decide)).trans (h7 h)) a b
      exact ih (n + 1) M32 (by omega) x (fun _ => y) ((hf.tr (oKi_ws f29)).tr (oKi_ws f32))
  refine oRun_ok 6 rfl ?_
  exact loop 8 0 _ rfl (by rw [oUp_self]; rfl) (fun h => by omega) ((oKs_ws f5).up (Or.inr ⟨rfl, Or.inl rfl⟩))
theorem c9 (n : Nat) (h : n ≤ 19) : (nI n - 9).toInt = (n : Int) - 9 := by
  have e : (9 : Int32).toInt = 9 := rfl
  rw [iSub (by rw [nIt (by omega), e]; omega), nIt (by omega), e]
theorem c9_s (n : Nat) : nI n - 9 + 1 = nI (n + 1) - 9 := by
  rw [← nI_1, Int32.sub_eq_add_neg, Int32.sub_eq_add_neg, Int32.add_assoc, Int32.add_assoc, Int32.add_comm (-9) 1]
theorem c_Walk_findBestChain (M : oM) (N : Nat → Int32) (w d : Nat) (hN : oNOk N) (hL : oRL M N w) (hd : d < cD N) : oCt 4 k_Walk_findBestChain [.inr (K_WALK, w), .inl (nI d)] M (Q_best M w (sMin (fun n => sGap N d (sNd N d) (nI n - 9)) (fun n => nI n - 9) 19)) := by
  obtain ⟨nd, hnd8, hnd⟩ := sNd_lt N d
  refine oCt.of (ls := [some (.inr (K_WALK, w)), some (.inl (nI d)), none, none]) mok_Walk_findBestChain rfl rfl ?_
  refine oRun_ok 3 rfl ?_
  refine g_callV rfl rfl rfl rfl rfl mok_Land_needleOf (by decide) (c_Land_needleOf M N w d hN hL hd) ?_
  rintro r5 M5 ⟨rfl, f5⟩
  have loop : ∀ (q n : Nat) (M1 : oM), n + q = 19 → M1 K_WALK w 4 = (sMin (fun n => sGap N d (sNd N d) (nI n - 9)) (fun n => nI n - 9) n).1 → (0 < n → M1 K_WALK w 7 = (sMin (fun n => sGap N d (sNd N d) (nI n - 9)) (fun n => nI n - 9) n).2) → oFr (oWs w) M M1 → oG k_Walk_findBestChain 4 18 [some (.inr (K_WALK, w)), some (.inl (nI d)), some (.inl (sNd N d)), some (.inl (nI n - 9))] [] M1 (Q_best M w (sMin (fun n => sGap N d (sNd N d) (nI n - 9)) (fun n => nI n - 9) 19)) := by
    intro q
    induction q with
    | zero =>
      intro n M1 hn h4 h7 hf
      have hn : n = 19 := by omega
      subst hn
      refine oRun_ok 2 rfl ?_
      refine g_ic_gt rfl (fun h21 => ?_) (fun h21 => absurd (by decide) h21)
      exact g_ret rfl rfl ⟨rfl, h4, h7 (by decide), hf⟩
    | succ q ih =>
      intro n M1 hn h4 h7 hf
      have hc9 := c9 n (by omega)
      refine oRun_ok 2 rfl ?_
      refine g_ic_gt rfl (fun h21 => ?_) (fun h21 => ?_)
      · have := iLt.mp h21
        rw [hc9, show (9 : Int32).toInt = 9 from rfl] at this
        omega
      have L1 := oRL_kp (hf.kp (oWs_kp w)) hL
      refine oRun_ok 6 rfl ?_
      rw [hnd]
      refine g_callV rfl rfl rfl rfl rfl mok_Walk_gapBy (by decide) (c_Walk_gapBy M1 N w d nd (nI n - 9) hN L1 hd hnd8) ?_
      rintro r30 M30 ⟨rfl, k30, -, -, f30⟩
      refine g_callV rfl rfl rfl rfl rfl mok_Walk_takeIfBetter (by decide) (c_Walk_takeIfBetter M30 w _ _) ?_
      rintro r33 M33 ⟨rfl, a, b, f33⟩
      refine oRun_ok 2 rfl ?_
      rw [c9_s, ← hnd]
      rw [← hnd] at a b
      obtain ⟨x, y⟩ := sMin_step (v := fun n => sGap N d (sNd N d) (nI n - 9)) (num := fun n => nI n - 9) (n := n) (by have := sGap_rng (nd := sNd N d) (ch := nI n - 9) hN hd ⟨by omega, by omega⟩; exact ⟨this.1, by have := this.2; omega⟩) ((k30 4 (by decide)).trans h4) (fun h => (k30 7 (by decide)).trans (h7 h)) a b
      exact ih (n + 1) M33 (by omega) x (fun _ => y) ((hf.tr (oKi_ws f30)).tr (oKi_ws f33))
  refine oRun_ok 6 rfl ?_
  exact loop 19 0 _ rfl (by rw [oUp_self]; rfl) (fun h => by omega) ((oKs_ws f5).up (Or.inr ⟨rfl, Or.inl rfl⟩))
/-- the gaps of the deeds of a year, together -/
def sLs (N : Nat → Int32) (y nd : Int32) : Nat → Int32
  | 0 => 0
  | d + 1 => if N (20 + 35 * d + 2) = y then sLs N y nd d + sGap N d nd (sCh N d) else sLs N y nd d
theorem sLs_rng {N : Nat → Int32} {y nd : Int32} (hN : oNOk N) : ∀ (n : Nat), n ≤ cD N → inR (sLs N y nd n) 0 (1000 * n)
  | 0, _ => ⟨by show (0 : Int) ≤ (0 : Int32).toInt; decide, by show (0 : Int32).toInt ≤ _; decide⟩
  | n + 1, h => by
    obtain ⟨a, b⟩ := sLs_rng (y := y) (nd := nd) hN n (by omega)
    obtain ⟨-, h4⟩ := oND hN
    rw [sLs]
    split
    · have hn : n < cD N := by omega
      obtain ⟨c, d⟩ := sGap_rng (nd := nd) hN hn (sCh_rng hN hn)
      have : (sLs N y nd n + sGap N n nd (sCh N n)).toInt = (sLs N y nd n).toInt + (sGap N n nd (sCh N n)).toInt := iAdd (by omega)
      exact ⟨by rw [this]; omega, by rw [this]; omega⟩
    · exact ⟨a, by omega⟩
theorem c_Walk_learntOf (M : oM) (N : Nat → Int32) (w : Nat) (y : Int32) (hN : oNOk N) (hL : oRL M N w) : oCt 4 k_Walk_learntOf [.inr (K_WALK, w), .inl y] M (fun r M' => r = some (sMin (fun n => sLs N y (nI n) (cD N)) nI 8).2 ∧ oFr (oWs w) M M') := by
  obtain ⟨hD, hD4⟩ := oND hN
  refine oCt.of (ls := [some (.inr (K_WALK, w)), some (.inl y), none, none, none]) mok_Walk_learntOf rfl rfl ?_
  have loop : ∀ (q n : Nat) (M1 : oM) (x3 x4 : Option oV), n + q = 8 → M1 K_WALK w 4 = (sMin (fun n => sLs N y (nI n) (cD N)) nI n).1 → (0 < n → M1 K_WALK w 7 = (sMin (fun n => sLs N y (nI n) (cD N)) nI n).2) → oFr (oWs w) M M1 → oG k_Walk_learntOf 4 8 [some (.inr (K_WALK, w)), some (.inl y), some (.inl (nI n)), x3, x4] [] M1 (fun r M' => r = some (sMin (fun n => sLs N y (nI n) (cD N)) nI 8).2 ∧ oFr (oWs w) M M') := by
    intro q
    induction q with
    | zero =>
      intro n M1 x3 x4 hn h4 h7 hf
      have hn : n = 8 := by omega
      subst hn
      refine oRun_ok 2 rfl ?_
      refine g_ic_ge rfl (fun h11 => ?_) (fun h11 => absurd (by decide) h11)
      refine oRun_ok 2 rfl ?_
      exact g_iret rfl rfl rfl ⟨by rw [show M1 9 w 7 = _ from h7 (by decide)], hf⟩
    | succ q ih =>
      intro n M1 x3 x4 hn h4 h7 hf
      refine oRun_ok 2 rfl ?_
      refine g_ic_ge rfl (fun h11 => ?_) (fun h11 => ?_)
      · have := (nIle (a := 8) (b := n) (by omega) (by omega)).mp h11
        omega
      have inner : ∀ (p e : Nat) (M2 : oM), e + p = cD N → oWk8 M1 M2 w → oFr (oWs w) M M2 → oG k_Walk_learntOf 4 19 [some (.inr (K_WALK, w)), some (.inl y), some (.inl (nI n)), some (.inl (sLs N y (nI n) e)), some (.inl (nI e))] [] M2 (fun r M' => r = some (sMin (fun n => sLs N y (nI n) (cD N)) nI 8).2 ∧ oFr (oWs w) M M') := by
        intro p
        induction p with
        | zero =>
          intro e M2 he k2 f2
          have he : e = cD N := by omega
          subst he
          have L2 := oRL_kp (f2.kp (oWs_kp w)) hL
          refine oRun_ok 4 rfl ?_
          rw [show M2 1 w 4 = nI (cD N) from L2.2.1.trans hD]
          refine g_ic_ge rfl (fun h28 => ?_) (fun h28 => absurd (Int32.le_refl _) h28)
          refine oRun_ok 3 rfl ?_
          refine g_callV rfl rfl rfl rfl rfl mok_Walk_takeIfBetter (by decide) (c_Walk_takeIfBetter M2 w _ _) ?_
          rintro r76 M76 ⟨rfl, a, b, f76⟩
          refine oRun_ok 2 rfl ?_
          rw [nI_1]
          obtain ⟨x, y'⟩ := sMin_step (v := fun n => sLs N y (nI n) (cD N)) (num := nI) (n := n) (by have := sLs_rng (y := y) (nd := nI n) hN (cD N) (Nat.le_refl _); exact ⟨this.1, by have := this.2; omega⟩) ((k2 4 (by decide)).trans h4) (fun h => (k2 7 (by decide)).trans (h7 h)) a b
          exact ih (n + 1) M76 _ _ (by omega) x (fun _ => y') (f2.tr (oKi_ws f76))
        | succ p ip =>
          intro e M2 he k2 f2
          have L2 := oRL_kp (f2.kp (oWs_kp w)) hL
          refine oRun_ok 4 rfl ?_
          rw [show M2 1 w 4 = nI (cD N) from L2.2.1.trans hD]
          refine g_ic_ge rfl (fun h28 => ?_) (fun h28 => ?_)
          · rw [nIle (by omega) (by omega)] at h28
            omega
          refine oRun_ok 4 rfl ?_
          refine g_aald e rfl rfl rfl (by omega) rfl ?_
          refine oRun_ok 2 rfl ?_
          rw [show M2 5 (4 * w + e) 2 = N (20 + 35 * e + 2) from (L2.2.2.2.2.2.1 e (by omega)).1 2 (by decide)]
          refine g_ic_ne rfl (fun h45 => ?_) (fun h45 => ?_)
          · refine oRun_ok 2 rfl ?_
            rw [nI_1]
            have h := ip (e + 1) M2 (by omega) k2 f2
            rw [sLs, if_neg h45] at h
            exact h
          · refine oRun_ok 7 rfl ?_
            refine g_callV rfl rfl rfl rfl rfl mok_Land_chainOf (by decide) (c_Land_chainOf M2 N w e hN L2 (by omega)) ?_
            rintro r59 M59 ⟨rfl, f59⟩
            have L59 := oRL_kp ((oKs_ws (w := w) f59).kp (oWs_kp w)) L2
            refine g_callV rfl rfl rfl rfl rfl mok_Walk_gapBy (by decide) (c_Walk_gapBy M59 N w e n (sCh N e) hN L59 (by omega) (by omega)) ?_
            rintro r62 M62 ⟨rfl, k62, -, -, f62⟩
            refine oRun_ok 4 rfl ?_
            rw [nI_1]
            have h := ip (e + 1) M62 (by omega) (fun j hj => by rw [k62 j hj, f59 K_WALK w (show ¬ K_WALK = K_LSTK by decide)]; exact k2 j hj) ((f2.tr (oKs_ws f59)).tr (oKi_ws f62))
            rw [sLs, if_pos h45] at h
            exact h
      refine oRun_ok 4 rfl ?_
      exact inner (cD N) 0 M1 (by omega) (fun _ _ => rfl) hf
  refine oRun_ok 5 rfl ?_
  exact loop 8 0 _ _ _ rfl (by rw [oUp_self]; rfl) (fun h => by omega) (oFr.rf.up (Or.inr ⟨rfl, Or.inl rfl⟩))
end
section
/-! ===== Walk: the best slip; the area ===== -/
def sB1 (v : Nat → Int32) (s : Int32) : Nat → Int32 × Int32 × Int32 → Int32 × Int32 × Int32
  | 0, st => st
  | n + 1, st => if v n < (sB1 v s n st).1 then (v n, s, nI n) else sB1 v s n st
theorem sB1_0 {v : Nat → Int32} {s : Int32} {st : Int32 × Int32 × Int32} : sB1 v s 0 st = st := rfl
def sSlip (N : Nat → Int32) (d : Nat) (nd ch c0 : Int32) : Int32 × Int32 × Int32 := sB1 (sGapS N d nd ch 3) (nI 3) (cC N d - 1) (sB1 (sGapS N d nd ch 2) (nI 2) (cC N d) (sB1 (sGapS N d nd ch 1) (nI 1) (cC N d) (sGap N d nd ch, 0, c0)))
def Q_slip (M : oM) (w : Nat) (p : Int32 × Int32 × Int32) : Option Int32 → oM → Prop := fun r M' => r = none ∧ M' K_WALK w 4 = p.1 ∧ M' K_WALK w 5 = p.2.1 ∧ M' K_WALK w 6 = p.2.2 ∧ oFr (oWs w) M M'
/-- the walker between two slips -/
def oBs (M M1 : oM) (w : Nat) (nd ch : Int32) (p : Int32 × Int32 × Int32) : Prop := M1 K_WALK w 4 = p.1 ∧ M1 K_WALK w 5 = p.2.1 ∧ M1 K_WALK w 6 = p.2.2 ∧ M1 K_WALK w 10 = nd ∧ M1 K_WALK w 11 = ch ∧ oFr (oWs w) M M1
theorem c_Walk_findBestSlip (M : oM) (N : Nat → Int32) (w d : Nat) (hN : oNOk N) (hL : oRL M N w) (hd : d < cD N) : oCt 4 k_Walk_findBestSlip [.inr (K_WALK, w), .inl (nI d)] M (Q_slip M w (sSlip N d (sNd N d) (sCh N d) 0)) := by
  obtain ⟨-, d4⟩ := oND hN
  have hDo := hN.2.2.2.2.1 d hd
  obtain ⟨hC, hC10⟩ := oNC hDo
  obtain ⟨nd, hnd8, hnd⟩ := sNd_lt N d
  refine oCt.of (ls := [some (.inr (K_WALK, w)), some (.inl (nI d)), none, none, none, none, none]) mok_Walk_findBestSlip rfl rfl ?_
  have inner : ∀ (s mn : Nat) (mI : Int32) (st : Int32 × Int32 × Int32), 1 ≤ s ∧ s ≤ 3 → mn ≤ cC N d → (s = 3 → mn + 1 ≤ cC N d ∨ mn = 0) → (∀ a : Nat, a ≤ 10 → (mI ≤ nI a ↔ mn ≤ a)) → (∀ (M2 : oM) (x6 : Option oV), oBs M M2 w (sNd N d) (sCh N d) (sB1 (sGapS N d (sNd N d) (sCh N d) s) (nI s) mn st) → oG k_Walk_findBestSlip 4 124 [some (.inr (K_WALK, w)), some (.inl (nI d)), some (.inr (K_DEED, 4 * w + d)), some (.inl (nI s)), some (.inl mI), some (.inl (nI mn)), x6] [] M2 (Q_slip M w (sSlip N d (sNd N d) (sCh N d) 0))) →
      ∀ (q c : Nat) (M1 : oM) (x6 : Option oV), c + q = mn → oBs M M1 w (sNd N d) (sCh N d) (sB1 (sGapS N d (sNd N d) (sCh N d) s) (nI s) c st) → oG k_Walk_findBestSlip 4 75 [some (.inr (K_WALK, w)), some (.inl (nI d)), some (.inr (K_DEED, 4 * w + d)), some (.inl (nI s)), some (.inl mI), some (.inl (nI c)), x6] [] M1 (Q_slip M w (sSlip N d (sNd N d) (sCh N d) 0)) := by
    intro s mn mI st hs hmn hm3 hmI kont q
    induction q with
    | zero =>
      intro c M1 x6 hc hb
      have hc : c = mn := by omega
      subst hc
      refine oRun_ok 2 rfl ?_
      refine g_ic_ge rfl (fun h79 => kont M1 x6 hb) (fun h79 => absurd ((hmI c (by omega)).mpr (Nat.le_refl c)) h79)
    | succ q ih =>
      intro c M1 x6 hc hb
      refine oRun_ok 2 rfl ?_
      refine g_ic_ge rfl (fun h79 => ?_) (fun h79 => ?_)
      · have := (hmI c (by omega)).mp h79
        omega
      obtain ⟨b4, b5, b6, b10, b11, hf⟩ := hb
      have L1 := oRL_kp (hf.kp (oWs_kp w)) hL
      refine oRun_ok 4 rfl ?_
      refine g_callV rfl rfl rfl rfl rfl mok_Walk_gapWithSlip (by decide) (c_Walk_gapWithSlip M1 N w d nd s c (sCh N d) hN L1 hd hnd8 (b10.trans hnd) b11 hs (by omega) (fun h3 => by rcases hm3 h3 with h | h <;> omega)) ?_
      rintro r87 M87 ⟨rfl, k87, n87, c87, f87⟩
      rw [← hnd]
      rw [← hnd] at n87
      have F87 := hf.tr (oKi_ws f87)
      refine oRun_ok 4 rfl ?_
      rw [show M87 9 w 4 = (sB1 (sGapS N d (sNd N d) (sCh N d) s) (nI s) c st).1 from (k87 4 (by decide)).trans b4]
      refine g_ic_ge rfl (fun h98 => ?_) (fun h98 => ?_)
      · refine oRun_ok 2 rfl ?_
        rw [nI_1]
        refine ih (c + 1) M87 _ (by omega) ?_
        rw [sB1, if_neg (fun q => absurd (Int32.lt_of_lt_of_le q h98) Int32.lt_irrefl)]
        exact ⟨(k87 4 (by decide)).trans b4, (k87 5 (by decide)).trans b5, (k87 6 (by decide)).trans b6, n87, c87, F87⟩
      · refine oRun_ok 11 rfl ?_
        rw [nI_1]
        refine ih (c + 1) _ _ (by omega) ?_
        rw [sB1, if_pos (Int32.not_le.mp h98)]
        refine ⟨?_, ?_, ?_, ?_, ?_, ((F87.up (Or.inr ⟨rfl, Or.inl rfl⟩)).up (Or.inr ⟨rfl, Or.inl rfl⟩)).up (Or.inr ⟨rfl, Or.inl rfl⟩)⟩
        · rw [oUp_j (by decide), oUp_j (by decide), oUp_self]
        · rw [oUp_j (by decide), oUp_self]
        · rw [oUp_self]
        · rw [oUp_j (by decide), oUp_j (by decide), oUp_j (by decide)]; exact n87
        · rw [oUp_j (by decide), oUp_j (by decide), oUp_j (by decide)]; exact c87
  have lim : ∀ mn a : Nat, mn ≤ 10 → a ≤ 10 → (nI mn ≤ nI a ↔ mn ≤ a) := fun mn a h1 h2 => nIle (by omega) (by omega)
  have lim3 : ∀ a : Nat, a ≤ 10 → (nI (cC N d) - 1 ≤ nI a ↔ cC N d - 1 ≤ a) := by
    intro a ha
    rw [iLe, nIt (by omega)]
    have e1 : (1 : Int32).toInt = 1 := rfl
    have : (nI (cC N d) - 1).toInt = (cC N d : Int) - 1 := by rw [iSub (by rw [nIt (by omega), e1]; omega), nIt (by omega), e1]
    rw [this]
    omega
  have cnt : ∀ {M1 : oM}, oFr (oWs w) M M1 → M1 5 (4 * w + d) 4 = nI (cC N d) := fun hf => ((oRL_kp (hf.kp (oWs_kp w)) hL).2.2.2.2.2.1 d hd).1 4 (by decide) |>.trans hC
  refine oRun_ok 4 rfl ?_
  refine g_aald d rfl rfl rfl (by omega) rfl ?_
  refine oRun_ok 7 rfl ?_
  refine g_callV rfl rfl rfl rfl rfl mok_Land_needleOf (by decide) (c_Land_needleOf M N w d hN hL hd) ?_
  rintro r18 M18 ⟨rfl, f18⟩
  have L18 := oRL_kp ((oKs_ws (w := w) f18).kp (oWs_kp w)) hL
  refine oRun_ok 3 rfl ?_
  refine g_callV rfl rfl rfl rfl rfl mok_Land_chainOf (by decide) (c_Land_chainOf M18 N w d hN L18 hd) ?_
  rintro r26 M26 ⟨rfl, f26⟩
  have F26 : oFr (oWs w) M M26 := (oKs_ws f18).tr (oKs_ws f26)
  have L26 := oRL_kp (F26.kp (oWs_kp w)) hL
  rw [hnd]
  refine g_callV rfl rfl rfl rfl rfl mok_Walk_gapBy (by decide) (c_Walk_gapBy M26 N w d nd (sCh N d) hN L26 hd hnd8) ?_
  rintro r29 M29 ⟨rfl, k29, n29, c29, f29⟩
  rw [← hnd]
  rw [← hnd] at n29
  have F29 := F26.tr (oKi_ws f29)
  refine oRun_ok 9 rfl ?_
  generalize hM0 : oUp (oUp (oUp M29 K_WALK w 4 (sGap N d (sNd N d) (sCh N d))) K_WALK w 5 0) K_WALK w 6 0 = M0
  have B0 : oBs M M0 w (sNd N d) (sCh N d) (sGap N d (sNd N d) (sCh N d), 0, 0) := by
    rw [← hM0]
    refine ⟨?_, ?_, ?_, ?_, ?_, ((F29.up (Or.inr ⟨rfl, Or.inl rfl⟩)).up (Or.inr ⟨rfl, Or.inl rfl⟩)).up (Or.inr ⟨rfl, Or.inl rfl⟩)⟩
    · rw [oUp_j (by decide), oUp_j (by decide), oUp_self]
    · rw [oUp_j (by decide), oUp_self]
    · rw [oUp_self]
    · rw [oUp_j (by decide), oUp_j (by decide), oUp_j (by decide)]; exact n29
    · rw [oUp_j (by decide), oUp_j (by decide), oUp_j (by decide)]; exact c29
  clear hM0
  -- slip 1
  refine oRun_ok 2 rfl ?_
  refine g_ic_gt rfl (fun h => absurd h (by decide)) (fun _ => ?_)
  refine oRun_ok 2 rfl ?_
  refine g_ic_ne rfl (fun _ => ?_) (fun h => absurd h (by decide))
  refine oRun_ok 5 rfl ?_
  rw [cnt B0.2.2.2.2.2]
  refine inner 1 (cC N d) (nI (cC N d)) (sGap N d (sNd N d) (sCh N d), 0, 0) (by decide) (Nat.le_refl _) (fun h => absurd h (by decide)) (fun a ha => lim _ a (by omega) ha) (fun M1 x6 B1 => ?_) (cC N d) 0 M0 _ (by omega) (by rw [sB1_0]; exact B0)
  refine oRun_ok 2 rfl ?_
  rw [nI_1]
  -- slip 2
  refine oRun_ok 2 rfl ?_
  refine g_ic_gt rfl (fun h => absurd h (by decide)) (fun _ => ?_)
  refine oRun_ok 2 rfl ?_
  refine g_ic_ne rfl (fun _ => ?_) (fun h => absurd h (by decide))
  refine oRun_ok 5 rfl ?_
  rw [cnt B1.2.2.2.2.2]
  refine inner 2 (cC N d) (nI (cC N d)) (sB1 (sGapS N d (sNd N d) (sCh N d) 1) (nI 1) (cC N d) (sGap N d (sNd N d) (sCh N d), 0, 0)) (by decide) (Nat.le_refl _) (fun h => absurd h (by decide)) (fun a ha => lim _ a (by omega) ha) (fun M2 x6 B2 => ?_) (cC N d) 0 M1 _ (by omega) (by rw [sB1_0]; exact B1)
  refine oRun_ok 2 rfl ?_
  rw [nI_1]
  -- slip 3
  refine oRun_ok 2 rfl ?_
  refine g_ic_gt rfl (fun h => absurd h (by decide)) (fun _ => ?_)
  refine oRun_ok 2 rfl ?_
  refine g_ic_ne rfl (fun h => absurd (by decide) h) (fun _ => ?_)
  refine oRun_ok 8 rfl ?_
  rw [cnt B2.2.2.2.2.2]
  refine inner 3 (cC N d - 1) (nI (cC N d) - 1) (sB1 (sGapS N d (sNd N d) (sCh N d) 2) (nI 2) (cC N d) (sB1 (sGapS N d (sNd N d) (sCh N d) 1) (nI 1) (cC N d) (sGap N d (sNd N d) (sCh N d), 0, 0))) (by decide) (by omega) (fun _ => by omega) lim3 (fun M3 x6 B3 => ?_) (cC N d - 1) 0 M2 _ (by omega) (by rw [sB1_0]; exact B2)
  refine oRun_ok 2 rfl ?_
  rw [nI_1]
  refine oRun_ok 2 rfl ?_
  refine g_ic_gt rfl (fun _ => ?_) (fun h => absurd (by decide) h)
  exact g_ret rfl rfl ⟨rfl, B3.1, B3.2.1, B3.2.2.1, B3.2.2.2.2.2⟩
end
section
/-! ===== Walk: the area ===== -/
/-- the area over the first n sides of corners -/
def sAr (cx cy : Nat → Int32) (n : Nat) : Nat → Int32
  | 0 => 0
  | k + 1 => sAr cx cy n k + (cx k * cy (if k + 1 = n then 0 else k + 1) - cy k * cx (if k + 1 = n then 0 else k + 1))
theorem c_Walk_twiceArea (M : oM) (w n : Nat) (hn : M K_WALK w 3 = nI n) (hn11 : n ≤ 11) : oCt 1 k_Walk_twiceArea [.inr (K_WALK, w)] M (fun r M' => r = some (sAr (M K_WX w) (M K_WY w) n n) ∧ M' = M) := by
  refine oCt.of (ls := [some (.inr (K_WALK, w)), none, none, none]) mok_Walk_twiceArea rfl rfl ?_
  have loop : ∀ (q k : Nat) (x3 : Option oV), k + q = n → oG k_Walk_twiceArea 1 4 [some (.inr (K_WALK, w)), some (.inl (sAr (M K_WX w) (M K_WY w) n k)), some (.inl (nI k)), x3] [] M (fun r M' => r = some (sAr (M K_WX w) (M K_WY w) n n) ∧ M' = M) := by
    intro q
    induction q with
    | zero =>
      intro k x3 hk
      have hk : k = n := by omega
      subst hk
      refine oRun_ok 3 rfl ?_
      rw [show M 9 w 3 = nI k from hn]
      refine g_ic_ge rfl (fun _ => ?_) (fun h => absurd (Int32.le_refl _) h)
      refine oRun_ok 1 rfl ?_
      exact g_iret rfl rfl rfl ⟨rfl, rfl⟩
    | succ q ih =>
      intro k x3 hk
      refine oRun_ok 3 rfl ?_
      rw [show M 9 w 3 = nI n from hn]
      refine g_ic_ge rfl (fun h9 => ?_) (fun _ => ?_)
      · rw [nIle (by omega) (by omega)] at h9
        omega
      refine oRun_ok 2 rfl ?_
      refine g_callV rfl rfl rfl rfl rfl mok_Walk_nextCorner (by decide) (c_Walk_nextCorner M w k n hn hn11 (by omega)) ?_
      rintro r14 M14 ⟨rfl, e⟩; rw [e]
      have hx : (if k + 1 = n then 0 else k + 1) < 11 := by split <;> omega
      refine oRun_ok 5 rfl ?_
      refine g_iald k rfl rfl rfl (by omega) ?_
      refine oRun_ok 3 rfl ?_
      refine g_iald _ rfl rfl rfl hx ?_
      refine oRun_ok 4 rfl ?_
      refine g_iald k rfl rfl rfl (by omega) ?_
      refine oRun_ok 3 rfl ?_
      refine g_iald _ rfl rfl rfl hx ?_
      refine oRun_ok 6 rfl ?_
      rw [nI_1]
      exact ih (k + 1) _ (by omega)
  refine oRun_ok 4 rfl ?_
  exact loop n 0 _ (by omega)
end
section
/-! ===== numbers of cells ===== -/
def tb (v : Int32) (x : Nat) : Bool := v.toBitVec.getLsbD x
theorem tb_xor (a b : Int32) (x : Nat) : tb (a ^^^ b) x = Bool.xor (tb a x) (tb b x) := by
  unfold tb
  rw [Int32.toBitVec_xor, BitVec.getLsbD_xor]
theorem tb_and (a b : Int32) (x : Nat) : tb (a &&& b) x = (tb a x && tb b x) := by
  unfold tb
  rw [Int32.toBitVec_and, BitVec.getLsbD_and]
theorem tb_or (a b : Int32) (x : Nat) : tb (a ||| b) x = (tb a x || tb b x) := by
  unfold tb
  rw [Int32.toBitVec_or, BitVec.getLsbD_or]
theorem tb_nI {n x : Nat} (hx : x < 32) : tb (nI n) x = n.testBit x := by
  show (BitVec.ofNat 32 n).getLsbD x = _
  rw [BitVec.getLsbD_ofNat]
  simp [hx]
theorem tb_hi {v : Int32} {x : Nat} (h : 32 ≤ x) : tb v x = false := BitVec.getLsbD_of_ge _ _ h
theorem mask_eq : ∀ L : Fin 31, ((1 : Int32) <<< (nI L.val &&& 31)) - 1 = nI (2 ^ L.val - 1) := by decide +kernel
theorem tb_mask {L : Nat} (hL : L ≤ 30) (x : Nat) : tb (((1 : Int32) <<< (nI L &&& 31)) - 1) x = decide (x < L) := by
  rw [mask_eq ⟨L, by omega⟩]
  by_cases hx : x < 32
  · rw [tb_nI hx, Nat.testBit_two_pow_sub_one]
  · rw [tb_hi (by omega)]
    exact (decide_eq_false (by omega)).symm
theorem neg_msb (v : Int32) : v.toBitVec.msb = decide (v.toInt < 0) := BitVec.msb_eq_toInt
theorem xor_nonneg {a b : Int32} (hb : 0 ≤ b.toInt) : 0 ≤ a ^^^ b ↔ 0 ≤ a.toInt := by
  have h1 := neg_msb (a ^^^ b)
  rw [Int32.toBitVec_xor, BitVec.msb_xor, neg_msb, neg_msb, decide_eq_false (show ¬ b.toInt < 0 by omega)] at h1
  rw [iLe, show (0 : Int32).toInt = 0 from rfl]
  by_cases ha : a.toInt < 0
  · rw [decide_eq_true ha] at h1
    have : (a ^^^ b).toInt < 0 := by simpa using h1.symm
    omega
  · rw [decide_eq_false ha] at h1
    have : ¬ (a ^^^ b).toInt < 0 := by simpa using h1.symm
    omega
theorem floorDiv_t {a b : Int32} (hb : 0 < b.toInt) (ha : -2147483648 < a.toInt) : (f_Math_floorDiv a b).toInt = a.toInt / b.toInt := by
  have hq : (a / b).toInt = a.toInt.tdiv b.toInt := iDiv (Or.inl ha)
  have hra := iRng a
  have hrb := iRng b
  have habs : (a.toInt.tdiv b.toInt).natAbs ≤ a.toInt.natAbs := by
    rw [Int.natAbs_tdiv]
    exact Nat.div_le_self _ _
  have hmulabs : (a.toInt.tdiv b.toInt * b.toInt).natAbs ≤ a.toInt.natAbs := by
    rw [Int.natAbs_mul, Int.natAbs_tdiv]
    exact Nat.div_mul_le_self _ _
  have hm : ((a / b) * b).toInt = a.toInt.tdiv b.toInt * b.toInt := by rw [iMul (by rw [hq]; omega), hq]
  unfold f_Math_floorDiv
  by_cases h0 : 0 ≤ a ^^^ b
  · rw [if_pos h0, hq]
    exact Int.tdiv_eq_ediv_of_nonneg ((xor_nonneg (by omega)).mp h0)
  · have hneg : a.toInt < 0 := by
      have : ¬ 0 ≤ a.toInt := fun q => h0 ((xor_nonneg (by omega)).mpr q)
      omega
    rw [if_neg h0]
    by_cases h1 : (a / b) * b = a
    · rw [if_pos h1, hq]
      have h2 : a.toInt.tdiv b.toInt * b.toInt = a.toInt := by rw [← hm, h1]
      have : a.toInt / b.toInt = a.toInt.tdiv b.toInt := by
        conv => lhs; rw [← h2]
        exact Int.mul_ediv_cancel _ (by omega)
      exact this.symm
    · rw [if_neg h1]
      have e1 : (1 : Int32).toInt = 1 := rfl
      have hne : a.toInt.tdiv b.toInt * b.toInt ≠ a.toInt := fun q => h1 (iEq.mpr (by rw [hm, q]))
      rw [iSub (by rw [hq, e1]; omega), hq, e1]
      have hmod : a.toInt - b.toInt * a.toInt.tdiv b.toInt = a.toInt.tmod b.toInt := (Int.tmod_def _ _).symm
      rw [Int.mul_comm] at hmod
      have hlt : (a.toInt.tmod b.toInt).natAbs < b.toInt.natAbs := by
        rw [Int.natAbs_tmod]
        exact Nat.mod_lt _ (by omega)
      have hle : a.toInt.tmod b.toInt ≤ 0 := by
        have hsub : a.toInt.tdiv b.toInt * b.toInt ≤ 0 ∨ 0 < a.toInt.tdiv b.toInt * b.toInt := by omega
        have h3 : (a.toInt.tdiv b.toInt * b.toInt).natAbs ≤ a.toInt.natAbs := hmulabs
        omega
      have h4 : (a.toInt.tdiv b.toInt - 1) * b.toInt = a.toInt.tdiv b.toInt * b.toInt - b.toInt := by rw [Int.sub_mul, Int.one_mul]
      have h5 : a.toInt.tdiv b.toInt * b.toInt = (a.toInt.tdiv b.toInt - 1 + 1) * b.toInt := by rw [Int.sub_add_cancel]
      symm
      rw [Int.ediv_eq_iff_of_pos hb]
      constructor
      · rw [h4]; omega
      · rw [h4]; omega
end
section
/-! ===== Cells.addSide ===== -/
/-- across of a side at the height y and a half, times twice its rise -/
def sA (lx ly hx hy y : Int) : Int := 2 * lx * (hy - ly) + (hx - lx) * (2 * (y - ly) + 1)
/-- a cell lies left of a side that goes up from l to h -/
def sSd (lx ly hx hy x y : Int) : Bool := decide (ly ≤ y ∧ y < hy ∧ (2 * x + 1) * (hy - ly) < sA lx ly hx hy y)
theorem mul_bd {a b A B : Int} (ha : -A ≤ a ∧ a ≤ A) (hb : -B ≤ b ∧ b ≤ B) (hA : 0 ≤ A) (hB : 0 ≤ B) : -(A * B) ≤ a * b ∧ a * b ≤ A * B := by
  have h1 : (a * b).natAbs ≤ (A * B).natAbs := by
    rw [Int.natAbs_mul, Int.natAbs_mul]
    exact Nat.mul_le_mul (by omega) (by omega)
  have h2 : 0 ≤ A * B := Int.mul_nonneg hA hB
  omega
def oAcr (lx ly hx hy y : Int32) : Int32 := 2 * lx * (hy - ly) + (hx - lx) * (2 * (y - ly) + 1)
def oLeft (lx ly hx hy y : Int32) : Int32 := f_Math_max 0 (f_Math_min 30 ((f_Math_floorDiv (oAcr lx ly hx hy y - 1) (hy - ly) + 1) >>> ((1 : Int32) &&& 31)))
theorem oAcr_t {lx ly hx hy y : Int32} (h1 : inR lx (-309) 309) (h2 : inR ly (-309) 309) (h3 : inR hx (-309) 309) (h4 : inR hy (-309) 309) (hy0 : inR y (-309) 309) : (oAcr lx ly hx hy y).toInt = sA lx.toInt ly.toInt hx.toInt hy.toInt y.toInt ∧ -2000000 ≤ sA lx.toInt ly.toInt hx.toInt hy.toInt y.toInt ∧ sA lx.toInt ly.toInt hx.toInt hy.toInt y.toInt ≤ 2000000 ∧ (hy - ly).toInt = hy.toInt - ly.toInt := by
  obtain ⟨a1, a2⟩ := h1
  obtain ⟨b1, b2⟩ := h2
  obtain ⟨c1, c2⟩ := h3
  obtain ⟨d1, d2⟩ := h4
  obtain ⟨e1, e2⟩ := hy0
  have t2 : (2 : Int32).toInt = 2 := rfl
  have t1 : (1 : Int32).toInt = 1 := rfl
  have q1 : (2 * lx).toInt = 2 * lx.toInt := by rw [iMul (by rw [t2]; omega), t2]
  have q2 : (hy - ly).toInt = hy.toInt - ly.toInt := iSub (by omega)
  have q3 : (hx - lx).toInt = hx.toInt - lx.toInt := iSub (by omega)
  have q4 : (y - ly).toInt = y.toInt - ly.toInt := iSub (by omega)
  have q5 : (2 * (y - ly)).toInt = 2 * (y.toInt - ly.toInt) := by rw [iMul (by rw [t2, q4]; omega), t2, q4]
  have q6 : (2 * (y - ly) + 1).toInt = 2 * (y.toInt - ly.toInt) + 1 := by rw [iAdd (by rw [q5, t1]; omega), q5, t1]
  have m1 := mul_bd (a := 2 * lx.toInt) (b := hy.toInt - ly.toInt) (A := 618) (B := 618) (by omega) (by omega) (by decide) (by decide)
  have m2 := mul_bd (a := hx.toInt - lx.toInt) (b := 2 * (y.toInt - ly.toInt) + 1) (A := 618) (B := 1237) (by omega) (by omega) (by decide) (by decide)
  have q7 : (2 * lx * (hy - ly)).toInt = 2 * lx.toInt * (hy.toInt - ly.toInt) := by rw [iMul (by rw [q1, q2]; omega), q1, q2]
  have q8 : ((hx - lx) * (2 * (y - ly) + 1)).toInt = (hx.toInt - lx.toInt) * (2 * (y.toInt - ly.toInt) + 1) := by rw [iMul (by rw [q3, q6]; omega), q3, q6]
  unfold oAcr sA
  refine ⟨?_, by omega, by omega, q2⟩
  rw [iAdd (by rw [q7, q8]; omega), q7, q8]
theorem oLeft_ok {lx ly hx hy y : Int32} (h1 : inR lx (-309) 309) (h2 : inR ly (-309) 309) (h3 : inR hx (-309) 309) (h4 : inR hy (-309) 309) (hy0 : inR y (-309) 309) (hr : ly.toInt < hy.toInt) : ∃ L, L ≤ 30 ∧ oLeft lx ly hx hy y = nI L ∧ ∀ x : Nat, x < 30 → (x < L ↔ (2 * (x : Int) + 1) * (hy.toInt - ly.toInt) < sA lx.toInt ly.toInt hx.toInt hy.toInt y.toInt) := by
  obtain ⟨ea, b1, b2, er⟩ := oAcr_t h1 h2 h3 h4 hy0
  generalize sA lx.toInt ly.toInt hx.toInt hy.toInt y.toInt = Ac at ea b1 b2 ⊢
  have hrise : 0 < hy.toInt - ly.toInt := by omega
  have hrise2 : hy.toInt - ly.toInt ≤ 618 := by
    have := h2.1; have := h4.2
    omega
  generalize hy.toInt - ly.toInt = r at er hrise hrise2 ⊢
  have t1 : (1 : Int32).toInt = 1 := rfl
  have f1 : (oAcr lx ly hx hy y - 1).toInt = Ac - 1 := by rw [iSub (by rw [ea, t1]; omega), ea, t1]
  have f2 : (f_Math_floorDiv (oAcr lx ly hx hy y - 1) (hy - ly)).toInt = (Ac - 1) / r := by
    rw [floorDiv_t (by rw [er]; exact hrise) (by rw [f1]; omega), f1, er]
  have f3 : -2000001 ≤ (Ac - 1) / r ∧ (Ac - 1) / r ≤ 2000000 := by
    constructor
    · rw [Int.le_ediv_iff_mul_le hrise]
      have := Int.mul_le_mul_of_nonneg_left (show (1 : Int) ≤ r by omega) (show (0 : Int) ≤ 2000001 by decide)
      omega
    · have : (Ac - 1) / r < 2000001 := by
        rw [Int.ediv_lt_iff_lt_mul hrise]
        have := Int.mul_le_mul_of_nonneg_left (show (1 : Int) ≤ r by omega) (show (0 : Int) ≤ 2000001 by decide)
        omega
      omega
  have f4 : (f_Math_floorDiv (oAcr lx ly hx hy y - 1) (hy - ly) + 1).toInt = (Ac - 1) / r + 1 := by rw [iAdd (by rw [f2, t1]; omega), f2, t1]
  have f5 : ((f_Math_floorDiv (oAcr lx ly hx hy y - 1) (hy - ly) + 1) >>> ((1 : Int32) &&& 31)).toInt = ((Ac - 1) / r + 1) / 2 := by
    rw [pk_shr _ _ 1 (by decide), f4, Int.shiftRight_eq_div_pow]
    rfl
  have key : ∀ x : Nat, ((x : Int) < ((Ac - 1) / r + 1) / 2 ↔ (2 * (x : Int) + 1) * r < Ac) := by
    intro x
    have h : (2 * (x : Int) + 1 ≤ (Ac - 1) / r) ↔ (2 * (x : Int) + 1) * r ≤ Ac - 1 := Int.le_ediv_iff_mul_le hrise
    constructor
    · intro q
      have := h.mp (by omega)
      omega
    · intro q
      have := h.mpr (by omega)
      omega
  unfold oLeft
  generalize (f_Math_floorDiv (oAcr lx ly hx hy y - 1) (hy - ly) + 1) >>> ((1 : Int32) &&& 31) = l0 at f5 ⊢
  have t30 : (30 : Int32).toInt = 30 := rfl
  have t0 : (0 : Int32).toInt = 0 := rfl
  unfold f_Math_max f_Math_min
  by_cases c1 : l0 < 30
  · rw [if_pos c1]
    have c1' := iLt.mp c1
    rw [t30] at c1'
    by_cases c2 : 0 < l0
    · rw [if_pos c2]
      have c2' := iLt.mp c2
      rw [t0] at c2'
      refine ⟨l0.toInt.toNat, by omega, nI_ofInt (by omega), fun x hx => ?_⟩
      rw [← key x]
      omega
    · rw [if_neg c2]
      have c2' : ¬ 0 < l0.toInt := fun q => c2 (iLt.mpr (by rw [t0]; exact q))
      refine ⟨0, by omega, rfl, fun x hx => ?_⟩
      rw [← key x]
      omega
  · rw [if_neg c1, if_pos (by decide : (0 : Int32) < 30)]
    have c1' : ¬ l0.toInt < 30 := fun q => c1 (iLt.mpr (by rw [t30]; exact q))
    refine ⟨30, by omega, rfl, fun x hx => ?_⟩
    rw [← key x]
    omega
theorem max_t (a b : Int32) : (f_Math_max a b).toInt = if a.toInt < b.toInt then b.toInt else a.toInt := by
  unfold f_Math_max
  by_cases h : a < b
  · rw [if_pos h, if_pos (iLt.mp h)]
  · rw [if_neg h, if_neg (fun q => h (iLt.mpr q))]
theorem min_t (a b : Int32) : (f_Math_min a b).toInt = if b.toInt < a.toInt then b.toInt else a.toInt := by
  unfold f_Math_min
  by_cases h : b < a
  · rw [if_pos h, if_pos (iLt.mp h)]
  · rw [if_neg h, if_neg (fun q => h (iLt.mpr q))]
def Q_side (M : oM) (r : Nat) (lx ly hx hy : Int32) : Option Int32 → oM → Prop := fun o M' => o = none ∧ (∀ y, y < 30 → ∀ x, tb (M' K_HROW r y) x = Bool.xor (tb (M K_HROW r y) x) (decide (x < 30) && sSd lx.toInt ly.toInt hx.toInt hy.toInt x y)) ∧ oFr (oKi K_HROW r) M M'
theorem c_Cells_addSide (M : oM) (c r : Nat) (lx ly hx hy : Int32) (h1 : inR lx (-309) 309) (h2 : inR ly (-309) 309) (h3 : inR hx (-309) 309) (h4 : inR hy (-309) 309) : oCt 1 k_Cells_addSide [.inr (K_CELLS, c), .inr (K_HROW, r), .inl lx, .inl ly, .inl hx, .inl hy] M (Q_side M r lx ly hx hy) := by
  have t30 : (30 : Int32).toInt = 30 := rfl
  have t0 : (0 : Int32).toInt = 0 := rfl
  have er : (hy - ly).toInt = hy.toInt - ly.toInt := (oAcr_t h1 h2 h3 h4 h4).2.2.2
  refine oCt.of (ls := [some (.inr (K_CELLS, c)), some (.inr (K_HROW, r)), some (.inl lx), some (.inl ly), some (.inl hx), some (.inl hy), none, none, none, none, none, none]) mok_Cells_addSide rfl rfl ?_
  refine oRun_ok 5 rfl ?_
  refine g_if_gt rfl (fun h8 => ?_) (fun h8 => ?_)
  · have hr : ly.toInt < hy.toInt := by
      have := iLt.mp h8
      rw [er, t0] at this
      omega
    refine oRun_ok 2 rfl ?_
    refine g_callS rfl rfl rfl rfl mok_Math_min (by decide) (c_Math_min M _ _) ?_
    rintro r16 M16 ⟨rfl, e⟩; rw [e]
    refine oRun_ok 3 rfl ?_
    refine g_callS rfl rfl rfl rfl mok_Math_max (by decide) (c_Math_max M _ _) ?_
    rintro r23 M23 ⟨rfl, e⟩; rw [e]
    refine oRun_ok 1 rfl ?_
    have hend := min_t hy 30
    have hbeg := max_t ly 0
    rw [t30] at hend
    rw [t0] at hbeg
    generalize f_Math_min hy 30 = en at hend ⊢
    have loop : ∀ (q : Nat) (y : Int32) (M1 : oM) (x9 x10 x11 : Option oV), (y.toInt : Int) + q = 31 → 0 ≤ y.toInt → ly.toInt ≤ y.toInt → (∀ y', y' < 30 → ∀ x, tb (M1 K_HROW r y') x = Bool.xor (tb (M K_HROW r y') x) (decide ((y' : Int) < y.toInt) && (decide (x < 30) && sSd lx.toInt ly.toInt hx.toInt hy.toInt x y'))) → oFr (oKi K_HROW r) M M1 → oG k_Cells_addSide 1 28 [some (.inr (K_CELLS, c)), some (.inr (K_HROW, r)), some (.inl lx), some (.inl ly), some (.inl hx), some (.inl hy), some (.inl (hy - ly)), some (.inl en), some (.inl y), x9, x10, x11] [] M1 (Q_side M r lx ly hx hy) := by
      intro q
      induction q with
      | zero =>
        intro y M1 x9 x10 x11 hq hy0 hly hb hf
        refine oRun_ok 2 rfl ?_
        refine g_ic_ge rfl (fun h32 => ?_) (fun h32 => ?_)
        · refine g_ret rfl rfl ⟨rfl, fun y' hy' x => ?_, hf⟩
          rw [hb y' hy' x, decide_eq_true (show (y' : Int) < y.toInt by omega), Bool.true_and]
        · exact absurd (iLe.mpr (by rw [hend]; split <;> omega)) h32
      | succ q ih =>
        intro y M1 x9 x10 x11 hq hy0 hly hb hf
        refine oRun_ok 2 rfl ?_
        refine g_ic_ge rfl (fun h32 => ?_) (fun h32 => ?_)
        · have h32' := iLe.mp h32
          rw [hend] at h32'
          refine g_ret rfl rfl ⟨rfl, fun y' hy' x => ?_, hf⟩
          rw [hb y' hy' x]
          by_cases hlt : (y' : Int) < y.toInt
          · rw [decide_eq_true hlt, Bool.true_and]
          · rw [decide_eq_false hlt, Bool.false_and]
            have : sSd lx.toInt ly.toInt hx.toInt hy.toInt x y' = false := by
              unfold sSd
              refine decide_eq_false (fun z => ?_)
              split at h32' <;> omega
            rw [this, Bool.and_false]
        · have h32' : y.toInt < en.toInt := by
            have := Int32.not_le.mp h32
            exact iLt.mp this
          rw [hend] at h32'
          have hy30 : y.toInt < 30 ∧ y.toInt < hy.toInt := by split at h32' <;> omega
          obtain ⟨L, hL, eL, kL⟩ := oLeft_ok (y := y) h1 h2 h3 h4 ⟨by omega, by omega⟩ hr
          have ey : y = nI y.toInt.toNat := nI_ofInt hy0
          generalize hY : y.toInt.toNat = Y at ey
          have hYi : y.toInt = (Y : Int) := by omega
          refine oRun_ok 22 rfl ?_
          refine g_callS rfl rfl rfl rfl mok_Math_floorDiv (by decide) (c_Math_floorDiv M1 _ _ (fun z => by rw [iEq, er, t0] at z; omega)) ?_
          rintro r63 M63 ⟨rfl, e⟩; rw [e]
          refine oRun_ok 8 rfl ?_
          refine g_callS rfl rfl rfl rfl mok_Math_min (by decide) (c_Math_min M1 _ _) ?_
          rintro r77 M77 ⟨rfl, e⟩; rw [e]
          refine g_callS rfl rfl rfl rfl mok_Math_max (by decide) (c_Math_max M1 _ _) ?_
          rintro r80 M80 ⟨rfl, e⟩; rw [e]
          rw [show f_Math_max 0 (f_Math_min 30 ((f_Math_floorDiv (2 * lx * (hy - ly) + (hx - lx) * (2 * (y - ly) + 1) - 1) (hy - ly) + 1) >>> ((1 : Int32) &&& 31))) = nI L from eL]
          refine oRun_ok 4 rfl ?_
          refine g_iald Y rfl rfl ey (by omega) ?_
          refine oRun_ok 6 rfl ?_
          refine g_iast Y rfl rfl ey (by omega) ?_
          refine oRun_ok 2 rfl ?_
          have hy1 : (y + 1).toInt = y.toInt + 1 := by
            have t1 : (1 : Int32).toInt = 1 := rfl
            rw [iAdd (by rw [t1]; omega), t1]
          refine ih (y + 1) _ _ _ _ (by rw [hy1]; omega) (by omega) (by omega) (fun y' hy' x => ?_) (hf.up ⟨rfl, rfl⟩)
          rw [hy1]
          by_cases hyy : y' = Y
          · subst hyy
            show tb (oUp M1 14 r y' _ 14 r y') x = _
            rw [oUp_self, tb_xor, tb_mask hL, show M1 14 r y' = M1 K_HROW r y' from rfl, hb y' hy' x, decide_eq_false (show ¬ (y' : Int) < y.toInt by omega), Bool.false_and, Bool.xor_false, decide_eq_true (show (y' : Int) < y.toInt + 1 by omega), Bool.true_and]
            congr 1
            by_cases hx30 : x < 30
            · rw [decide_eq_true hx30, Bool.true_and]
              unfold sSd
              rw [hYi] at kL
              have := kL x hx30
              by_cases hxL : x < L
              · rw [decide_eq_true hxL, decide_eq_true ⟨by omega, by omega, this.mp hxL⟩]
              · rw [decide_eq_false hxL, decide_eq_false (fun z => hxL (this.mpr z.2.2))]
            · rw [decide_eq_false hx30, Bool.false_and, decide_eq_false (by omega)]
          · show tb (oUp M1 14 r Y _ 14 r y') x = _
            rw [oUp_j hyy, show M1 14 r y' = M1 K_HROW r y' from rfl, hb y' hy' x]
            have : decide ((y' : Int) < y.toInt) = decide ((y' : Int) < y.toInt + 1) := by
              by_cases z : (y' : Int) < y.toInt
              · rw [decide_eq_true z, decide_eq_true (by omega)]
              · rw [decide_eq_false z, decide_eq_false (by omega)]
            rw [this]
    have hb0 : 0 ≤ (f_Math_max ly 0).toInt ∧ ly.toInt ≤ (f_Math_max ly 0).toInt ∧ ((f_Math_max ly 0).toInt = ly.toInt ∨ (f_Math_max ly 0).toInt = 0) := by
      rw [hbeg]
      split <;> omega
    by_cases hbig : (f_Math_max ly 0).toInt ≤ 31
    · refine loop (31 - (f_Math_max ly 0).toInt).toNat _ M _ _ _ (by omega) hb0.1 hb0.2.1 (fun y' hy' x => ?_) oFr.rf
      have hn : (decide ((y' : Int) < (f_Math_max ly 0).toInt) && (decide (x < 30) && sSd lx.toInt ly.toInt hx.toInt hy.toInt x y')) = false := by
        by_cases z : (y' : Int) < (f_Math_max ly 0).toInt
        · have : sSd lx.toInt ly.toInt hx.toInt hy.toInt x y' = false := by
            unfold sSd
            refine decide_eq_false (fun zz => ?_)
            omega
          rw [this, Bool.and_false, Bool.and_false]
        · rw [decide_eq_false z, Bool.false_and]
      rw [hn, Bool.xor_false]
    · refine oRun_ok 2 rfl ?_
      refine g_ic_ge rfl (fun h32 => ?_) (fun h32 => absurd (iLe.mpr (by rw [hend]; split <;> omega)) h32)
      refine g_ret rfl rfl ⟨rfl, fun y' hy' x => ?_, oFr.rf⟩
      have : sSd lx.toInt ly.toInt hx.toInt hy.toInt x y' = false := by
        unfold sSd
        refine decide_eq_false (fun z => ?_)
        omega
      rw [this, Bool.and_false, Bool.xor_false]
  · refine g_ret rfl rfl ⟨rfl, fun y' hy' x => ?_, oFr.rf⟩
    have : sSd lx.toInt ly.toInt hx.toInt hy.toInt x y' = false := by
      unfold sSd
      refine decide_eq_false (fun z => h8 (iLt.mpr (by rw [er, t0]; omega)))
    rw [this, Bool.and_false, Bool.xor_false]
end
section
/-! ===== Arrays.fill, Cells.fillDeed ===== -/
def Q_fill (M : oM) (kd i n : Nat) (v : Int32) : Option Int32 → oM → Prop := fun r M' => r = none ∧ (∀ j, j < n → M' kd i j = v) ∧ oFr (oKi kd i) M M'
theorem c_fill_HROW (M : oM) (i : Nat) (v : Int32) : oCt 0 k_Arrays_fill [.inr (K_HROW, i), .inl v] M (Q_fill M K_HROW i 30 v) := by
  refine oCt.of (ls := [some (.inr (K_HROW, i)), some (.inl v), none, none]) mok_Arrays_fill rfl rfl ?_
  refine oRun_ok 3 rfl ?_
  refine g_alen rfl rfl rfl rfl ?_
  refine oRun_ok 1 rfl ?_
  have loop : ∀ (q j : Nat) (M1 : oM), j + q = 30 → (∀ a, a < j → M1 K_HROW i a = v) → oFr (oKi K_HROW i) M M1 → oG k_Arrays_fill 0 5 [some (.inr (K_HROW, i)), some (.inl v), some (.inl (nI j)), some (.inl (nI 30))] [] M1 (Q_fill M K_HROW i 30 v) := by
    intro q
    induction q with
    | zero =>
      intro j M1 hj ha hf
      have hj : j = 30 := by omega
      subst hj
      refine oRun_ok 2 rfl ?_
      refine g_ic_ge rfl (fun _ => ?_) (fun h => absurd (Int32.le_refl _) h)
      exact g_ret rfl rfl ⟨rfl, ha, hf⟩
    | succ q ih =>
      intro j M1 hj ha hf
      refine oRun_ok 2 rfl ?_
      refine g_ic_ge rfl (fun h7 => ?_) (fun _ => ?_)
      · rw [nIle (by omega) (by omega)] at h7
        omega
      refine oRun_ok 3 rfl ?_
      refine g_iast j rfl rfl rfl (by omega) ?_
      refine oRun_ok 2 rfl ?_
      rw [nI_1]
      refine ih (j + 1) _ (by omega) (fun a ha' => ?_) (hf.up ⟨rfl, rfl⟩)
      by_cases e : a = j
      · subst e
        exact oUp_self
      · rw [oUp_j e]
        exact ha a (by omega)
  exact loop 30 0 M (by omega) (fun a ha => absurd ha (by omega)) oFr.rf
theorem c_fill_NOB (M : oM) (i : Nat) (v : Int32) : oCt 0 k_Arrays_fill [.inr (K_NOB, i), .inl v] M (Q_fill M K_NOB i 30 v) := by
  refine oCt.of (ls := [some (.inr (K_NOB, i)), some (.inl v), none, none]) mok_Arrays_fill rfl rfl ?_
  refine oRun_ok 3 rfl ?_
  refine g_alen rfl rfl rfl rfl ?_
  refine oRun_ok 1 rfl ?_
  have loop : ∀ (q j : Nat) (M1 : oM), j + q = 30 → (∀ a, a < j → M1 K_NOB i a = v) → oFr (oKi K_NOB i) M M1 → oG k_Arrays_fill 0 5 [some (.inr (K_NOB, i)), some (.inl v), some (.inl (nI j)), some (.inl (nI 30))] [] M1 (Q_fill M K_NOB i 30 v) := by
    intro q
    induction q with
    | zero =>
      intro j M1 hj ha hf
      have hj : j = 30 := by omega
      subst hj
      refine oRun_ok 2 rfl ?_
      refine g_ic_ge rfl (fun _ => ?_) (fun h => absurd (Int32.le_refl _) h)
      exact g_ret rfl rfl ⟨rfl, ha, hf⟩
    | succ q ih =>
      intro j M1 hj ha hf
      refine oRun_ok 2 rfl ?_
      refine g_ic_ge rfl (fun h7 => ?_) (fun _ => ?_)
      · rw [nIle (by omega) (by omega)] at h7
        omega
      refine oRun_ok 3 rfl ?_
      refine g_iast j rfl rfl rfl (by omega) ?_
      refine oRun_ok 2 rfl ?_
      rw [nI_1]
      refine ih (j + 1) _ (by omega) (fun a ha' => ?_) (hf.up ⟨rfl, rfl⟩)
      by_cases e : a = j
      · subst e
        exact oUp_self
      · rw [oUp_j e]
        exact ha a (by omega)
  exact loop 30 0 M (by omega) (fun a ha => absurd ha (by omega)) oFr.rf
theorem c_fill_RPL (M : oM) (i : Nat) (v : Int32) : oCt 0 k_Arrays_fill [.inr (K_RPL, i), .inl v] M (Q_fill M K_RPL i 24 v) := by
  refine oCt.of (ls := [some (.inr (K_RPL, i)), some (.inl v), none, none]) mok_Arrays_fill rfl rfl ?_
  refine oRun_ok 3 rfl ?_
  refine g_alen rfl rfl rfl rfl ?_
  refine oRun_ok 1 rfl ?_
  have loop : ∀ (q j : Nat) (M1 : oM), j + q = 24 → (∀ a, a < j → M1 K_RPL i a = v) → oFr (oKi K_RPL i) M M1 → oG k_Arrays_fill 0 5 [some (.inr (K_RPL, i)), some (.inl v), some (.inl (nI j)), some (.inl (nI 24))] [] M1 (Q_fill M K_RPL i 24 v) := by
    intro q
    induction q with
    | zero =>
      intro j M1 hj ha hf
      have hj : j = 24 := by omega
      subst hj
      refine oRun_ok 2 rfl ?_
      refine g_ic_ge rfl (fun _ => ?_) (fun h => absurd (Int32.le_refl _) h)
      exact g_ret rfl rfl ⟨rfl, ha, hf⟩
    | succ q ih =>
      intro j M1 hj ha hf
      refine oRun_ok 2 rfl ?_
      refine g_ic_ge rfl (fun h7 => ?_) (fun _ => ?_)
      · rw [nIle (by omega) (by omega)] at h7
        omega
      refine oRun_ok 3 rfl ?_
      refine g_iast j rfl rfl rfl (by omega) ?_
      refine oRun_ok 2 rfl ?_
      rw [nI_1]
      refine ih (j + 1) _ (by omega) (fun a ha' => ?_) (hf.up ⟨rfl, rfl⟩)
      by_cases e : a = j
      · subst e
        exact oUp_self
      · rw [oUp_j e]
        exact ha a (by omega)
  exact loop 24 0 M (by omega) (fun a ha => absurd ha (by omega)) oFr.rf
/-- whether a side changes a cell -/
def sOne (px p2 qx q2 x y : Int) : Bool := if p2 < q2 then sSd px p2 qx q2 x y else sSd qx q2 px p2 x y
/-- whether the first k sides of n corners change a cell an odd number of times -/
def sHx (cx cy : Nat → Int32) (n : Nat) (x y : Int) : Nat → Bool
  | 0 => false
  | k + 1 => Bool.xor (sHx cx cy n x y k) (sOne (cx k).toInt (cy k).toInt (cx (if k + 1 = n then 0 else k + 1)).toInt (cy (if k + 1 = n then 0 else k + 1)).toInt x y)
/-- whether a deed holds a cell -/
def sHeld (N : Nat → Int32) (d : Nat) (x y : Int) : Bool := sHx (fun j => (sC N d (sNd N d) (sCh N d) j).1) (fun j => (sC N d (sNd N d) (sCh N d) j).2) (cC N d + 1) x y (cC N d + 1)
def oCs (w r : Nat) : Nat → Nat → Prop := fun k i => oWs w k i ∨ (k = K_HROW ∧ i = r)
theorem oCs_kp (w r : Nat) : ∀ k ∈ oRLk, ∀ i, ¬ oCs w r k i := by
  intro k hk i h
  rcases h with h | ⟨rfl, -⟩
  · exact oWs_kp w k hk i h
  · revert hk
    decide
def Q_fillDeed (M : oM) (N : Nat → Int32) (w r d : Nat) : Option Int32 → oM → Prop := fun o M' => o = none ∧ (∀ y, y < 30 → ∀ x : Nat, tb (M' K_HROW r y) x = (decide (x < 30) && sHeld N d x y)) ∧ oFr (oCs w r) M M'
theorem tb_0 (x : Nat) : tb 0 x = false := by
  show (BitVec.ofNat 32 0).getLsbD x = false
  simp
theorem c_Cells_fillDeed (M : oM) (N : Nat → Int32) (c w d : Nat) (hN : oNOk N) (hL : oRL M N w) (hd : d < cD N) : oCt 4 k_Cells_fillDeed [.inr (K_CELLS, c), .inr (K_WALK, w), .inl (nI d)] M (Q_fillDeed M N w (4 * c + d) d) := by
  obtain ⟨-, d4⟩ := oND hN
  have hDo := hN.2.2.2.2.1 d hd
  obtain ⟨-, hC10⟩ := oNC hDo
  have hch := sCh_rng hN hd
  refine oCt.of (ls := [some (.inr (K_CELLS, c)), some (.inr (K_WALK, w)), some (.inl (nI d)), none, none, none]) mok_Cells_fillDeed rfl rfl ?_
  refine oRun_ok 3 rfl ?_
  refine g_aald d rfl rfl rfl (by omega) rfl ?_
  refine oRun_ok 3 rfl ?_
  refine g_callS rfl rfl rfl rfl mok_Arrays_fill (by decide) (c_fill_HROW M (4 * c + d) 0) ?_
  rintro r9 M9 ⟨rfl, z9, f9⟩
  have F9 : oFr (oCs w (4 * c + d)) M M9 := f9.mono (fun k i q => Or.inr q)
  have L9 := oRL_kp (F9.kp (oCs_kp _ _)) hL
  refine oRun_ok 2 rfl ?_
  refine g_callV rfl rfl rfl rfl rfl mok_Walk_traceDeed (by decide) (c_Walk_traceDeed M9 N w d hN L9 hd) ?_
  rintro r14 M14 ⟨rfl, e14, p14, f14⟩
  have F14 : oFr (oCs w (4 * c + d)) M M14 := F9.tr (f14.mono (fun k i q => Or.inl q))
  have z14 : ∀ y, y < 30 → M14 K_HROW (4 * c + d) y = 0 := by
    intro y hy
    rw [f14 K_HROW (4 * c + d) (by
      rintro (q | ⟨-, q | q | q⟩) <;> exact absurd q (by decide))]
    exact z9 y hy
  refine oRun_ok 2 rfl ?_
  have loop : ∀ (q k : Nat) (M1 : oM) (x5 : Option oV), k + q = cC N d + 1 → (∀ y, y < 30 → ∀ x : Nat, tb (M1 K_HROW (4 * c + d) y) x = (decide (x < 30) && sHx (fun j => (sC N d (sNd N d) (sCh N d) j).1) (fun j => (sC N d (sNd N d) (sCh N d) j).2) (cC N d + 1) x y k)) → oFr (oKi K_HROW (4 * c + d)) M14 M1 → oG k_Cells_fillDeed 4 20 [some (.inr (K_CELLS, c)), some (.inr (K_WALK, w)), some (.inl (nI d)), some (.inr (K_HROW, 4 * c + d)), some (.inl (nI k)), x5] [] M1 (Q_fillDeed M N w (4 * c + d) d) := by
    intro q
    induction q with
    | zero =>
      intro k M1 x5 hk hb hf
      have hk : k = cC N d + 1 := by omega
      have e1 : M1 9 w 3 = nI (cC N d + 1) := by
        rw [show M1 9 w = M14 9 w from hf K_WALK w (by rintro ⟨q, -⟩; exact absurd q (by decide))]
        exact e14
      refine oRun_ok 3 rfl ?_
      rw [e1]
      refine g_ic_ge rfl (fun _ => ?_) (fun h => absurd (by rw [hk]; exact Int32.le_refl _) h)
      rw [hk] at hb
      exact g_ret rfl rfl ⟨rfl, hb, F14.tr (hf.mono (fun k i q => Or.inr q))⟩
    | succ q ih =>
      intro k M1 x5 hk hb hf
      have ew : ∀ kk, ¬ kk = K_HROW → M1 kk = M14 kk := fun kk h => funext (fun i => hf kk i (fun z => h z.1))
      have e1 : M1 K_WALK w 3 = nI (cC N d + 1) := by
        rw [ew K_WALK (by decide)]
        exact e14
      refine oRun_ok 3 rfl ?_
      rw [show M1 9 w 3 = nI (cC N d + 1) from e1]
      refine g_ic_ge rfl (fun h26 => ?_) (fun _ => ?_)
      · rw [nIle (by omega) (by omega)] at h26
        omega
      refine oRun_ok 2 rfl ?_
      refine g_callV rfl rfl rfl rfl rfl mok_Walk_nextCorner (by decide) (c_Walk_nextCorner M1 w k (cC N d + 1) e1 (by omega) (by omega)) ?_
      rintro r32 M32 ⟨rfl, e⟩; rw [e]
      have ho : (if k + 1 = cC N d + 1 then 0 else k + 1) ≤ cC N d := by split <;> omega
      generalize hoe : (if k + 1 = cC N d + 1 then 0 else k + 1) = o at ho ⊢
      have hxk : M1 10 w k = (sC N d (sNd N d) (sCh N d) k).1 := by
        rw [show M1 10 = M14 10 from ew K_WX (by decide)]
        exact (p14 k (by omega)).1
      have hyk : M1 11 w k = (sC N d (sNd N d) (sCh N d) k).2 := by
        rw [show M1 11 = M14 11 from ew K_WY (by decide)]
        exact (p14 k (by omega)).2
      have hxo : M1 10 w o = (sC N d (sNd N d) (sCh N d) o).1 := by
        rw [show M1 10 = M14 10 from ew K_WX (by decide)]
        exact (p14 o (by omega)).1
      have hyo : M1 11 w o = (sC N d (sNd N d) (sCh N d) o).2 := by
        rw [show M1 11 = M14 11 from ew K_WY (by decide)]
        exact (p14 o (by omega)).2
      have bk := sC_far (k := k) (nd := sNd N d) hN hd hch (by omega)
      have bo := sC_far (k := o) (nd := sNd N d) hN hd hch (by omega)
      have step : ∀ x y : Int, sHx (fun j => (sC N d (sNd N d) (sCh N d) j).1) (fun j => (sC N d (sNd N d) (sCh N d) j).2) (cC N d + 1) x y (k + 1) = Bool.xor (sHx (fun j => (sC N d (sNd N d) (sCh N d) j).1) (fun j => (sC N d (sNd N d) (sCh N d) j).2) (cC N d + 1) x y k) (sOne (sC N d (sNd N d) (sCh N d) k).1.toInt (sC N d (sNd N d) (sCh N d) k).2.toInt (sC N d (sNd N d) (sCh N d) o).1.toInt (sC N d (sNd N d) (sCh N d) o).2.toInt x y) := by
        intro x y
        rw [← hoe]
        rfl
      generalize sC N d (sNd N d) (sCh N d) k = pk at hxk hyk bk step
      generalize sC N d (sNd N d) (sCh N d) o = po at hxo hyo bo step
      have fin : ∀ (M2 : oM), (∀ y, y < 30 → ∀ x : Nat, tb (M2 K_HROW (4 * c + d) y) x = Bool.xor (tb (M1 K_HROW (4 * c + d) y) x) (decide (x < 30) && sOne pk.1.toInt pk.2.toInt po.1.toInt po.2.toInt x y)) → oFr (oKi K_HROW (4 * c + d)) M1 M2 → oG k_Cells_fillDeed 4 123 [some (.inr (K_CELLS, c)), some (.inr (K_WALK, w)), some (.inl (nI d)), some (.inr (K_HROW, 4 * c + d)), some (.inl (nI k)), some (.inl (nI o))] [] M2 (Q_fillDeed M N w (4 * c + d) d) := by
        intro M2 hb2 hf2
        refine oRun_ok 2 rfl ?_
        rw [nI_1]
        refine ih (k + 1) M2 _ (by omega) (fun y hy x => ?_) (hf.tr hf2)
        rw [hb2 y hy x, hb y hy x, step]
        cases decide (x < 30) <;> simp
      refine oRun_ok 4 rfl ?_
      refine g_iald k rfl rfl rfl (by omega) ?_
      refine oRun_ok 3 rfl ?_
      refine g_iald o rfl rfl rfl (by omega) ?_
      rw [hyk, hyo]
      refine g_ic_ge rfl (fun h51 => ?_) (fun h51 => ?_)
      · refine oRun_ok 5 rfl ?_
        refine g_iald o rfl rfl rfl (by omega) ?_
        refine oRun_ok 3 rfl ?_
        refine g_iald o rfl rfl rfl (by omega) ?_
        refine oRun_ok 3 rfl ?_
        refine g_iald k rfl rfl rfl (by omega) ?_
        refine oRun_ok 3 rfl ?_
        refine g_iald k rfl rfl rfl (by omega) ?_
        rw [hxk, hyk, hxo, hyo]
        refine g_callV rfl rfl rfl rfl rfl mok_Cells_addSide (by decide) (c_Cells_addSide M1 c (4 * c + d) _ _ _ _ bo.1 bo.2 bk.1 bk.2) ?_
        rintro r120 M120 ⟨rfl, b120, f120⟩
        refine fin M120 (fun y hy x => ?_) f120
        rw [b120 y hy x, sOne, if_neg (fun q => by have := iLe.mp h51; omega)]
      · refine oRun_ok 5 rfl ?_
        refine g_iald k rfl rfl rfl (by omega) ?_
        refine oRun_ok 3 rfl ?_
        refine g_iald k rfl rfl rfl (by omega) ?_
        refine oRun_ok 3 rfl ?_
        refine g_iald o rfl rfl rfl (by omega) ?_
        refine oRun_ok 3 rfl ?_
        refine g_iald o rfl rfl rfl (by omega) ?_
        rw [hxk, hyk, hxo, hyo]
        refine g_callV rfl rfl rfl rfl rfl mok_Cells_addSide (by decide) (c_Cells_addSide M1 c (4 * c + d) _ _ _ _ bk.1 bk.2 bo.1 bo.2) ?_
        rintro r84 M84 ⟨rfl, b84, f84⟩
        refine oRun_ok 1 rfl ?_
        refine fin M84 (fun y hy x => ?_) f84
        rw [b84 y hy x, sOne, if_pos (iLt.mp (Int32.not_le.mp h51))]
  refine loop (cC N d + 1) 0 M14 _ (by omega) (fun y hy x => ?_) oFr.rf
  rw [z14 y hy, tb_0]
  show false = (decide (x < 30) && false)
  rw [Bool.and_false]
end
section
/-! ===== Cells: owners ===== -/
theorem shr_amt : ∀ x : Fin 32, ((nI x.val &&& 31).toBitVec.smod 32) = BitVec.ofNat 32 x.val := by decide +kernel
theorem tb_shr {x : Nat} (v : Int32) (hx : x < 32) : tb (v >>> (nI x &&& 31)) 0 = tb v x := by
  unfold tb
  rw [Int32.toBitVec_shiftRight, shr_amt ⟨x, hx⟩]
  show (v.toBitVec.sshiftRight (BitVec.ofNat 32 x).toNat).getLsbD 0 = _
  rw [BitVec.toNat_ofNat, Nat.mod_eq_of_lt (by omega), BitVec.getLsbD_sshiftRight]
  simp [hx]
theorem and_1 (a : Int32) : a &&& 1 = bI (tb a 0) := by
  have h : (a &&& 1).toBitVec = (bI (tb a 0)).toBitVec := by
    refine BitVec.eq_of_getLsbD_eq (fun i hi => ?_)
    rw [Int32.toBitVec_and, BitVec.getLsbD_and]
    show (tb a i && (BitVec.ofNat 32 1).getLsbD i) = tb (bI (tb a 0)) i
    by_cases h0 : i = 0
    · subst h0
      cases tb a 0 <;> rfl
    · have e1 : (BitVec.ofNat 32 1).getLsbD i = false := by
        rw [BitVec.getLsbD_ofNat]
        have : Nat.testBit 1 i = false := by
          cases hb : Nat.testBit 1 i with
          | false => rfl
          | true => exact absurd (Nat.testBit_one_eq_true_iff_self_eq_zero.mp hb) h0
        simp [this]
      rw [e1, Bool.and_false]
      cases tb a 0
      · exact (tb_0 i).symm
      · exact e1.symm
  exact Int32.toBitVec_inj.mp h
theorem bit_at {x : Nat} (v : Int32) (hx : x < 32) : (v >>> (nI x &&& 31)) &&& 1 = bI (tb v x) := by rw [and_1, tb_shr v hx]
theorem shl_eq : ∀ f : Fin 31, (1 : Int32) <<< (nI f.val &&& 31) = nI (2 ^ f.val) := by decide +kernel
theorem tb_shl {f : Nat} (hf : f < 31) (x : Nat) : tb ((1 : Int32) <<< (nI f &&& 31)) x = decide (x = f) := by
  rw [shl_eq ⟨f, hf⟩]
  by_cases hx : x < 32
  · rw [tb_nI hx, Nat.testBit_two_pow]
    by_cases e : x = f
    · subst e; simp
    · simp [e, Ne.symm e]
  · rw [tb_hi (by omega)]
    exact (decide_eq_false (by omega)).symm
theorem tb_m1 {x : Nat} (hx : x < 32) : tb (-1) x = true := by
  have : ∀ x : Fin 32, tb (-1) x.val = true := by decide +kernel
  exact this ⟨x, hx⟩
theorem c_Cells_isHeld (M : oM) (c d x y : Nat) (hd : d < 4) (hx : x < 30) (hy : y < 30) : oCt 0 k_Cells_isHeld [.inr (K_CELLS, c), .inl (nI d), .inl (nI x), .inl (nI y)] M (fun r M' => r = some (bI (tb (M K_HROW (4 * c + d) y) x)) ∧ M' = M) := by
  refine oCt.of (ls := [some (.inr (K_CELLS, c)), some (.inl (nI d)), some (.inl (nI x)), some (.inl (nI y))]) mok_Cells_isHeld rfl rfl ?_
  refine oRun_ok 3 rfl ?_
  refine g_aald d rfl rfl rfl hd rfl ?_
  refine oRun_ok 1 rfl ?_
  refine g_iald y rfl rfl rfl hy ?_
  refine oRun_ok 5 rfl ?_
  rw [bit_at _ (by omega)]
  refine g_ic_ne rfl (fun h13 => ?_) (fun h13 => ?_)
  · refine oRun_ok 1 rfl ?_
    refine g_iret rfl rfl rfl ⟨?_, rfl⟩
    cases hb : tb (M K_HROW (4 * c + d) y) x with
    | false => rfl
    | true =>
      exfalso
      have hb : tb (M 14 (4 * c + d) y) x = true := hb
      rw [hb] at h13
      exact h13 rfl
  · refine oRun_ok 2 rfl ?_
    refine g_iret rfl rfl rfl ⟨?_, rfl⟩
    cases hb : tb (M K_HROW (4 * c + d) y) x with
    | true => rfl
    | false =>
      exfalso
      have hb : tb (M 14 (4 * c + d) y) x = false := hb
      rw [hb] at h13
      exact absurd h13 (by decide)
/-- the one of the first n that comes first by rank -/
def sFst (ok : Nat → Bool) (rk : Nat → Int32) : Nat → Option Nat
  | 0 => none
  | n + 1 => if ok n = true then (match sFst ok rk n with
    | none => some n
    | some b => if rk n < rk b then some n else some b) else sFst ok rk n
def oFst (o : Option Nat) : Int32 := match o with
  | none => -1
  | some b => nI b
def oBef (rk : Nat → Int32) (a b : Nat) : Prop := (rk a).toInt < (rk b).toInt ∨ ((rk a).toInt = (rk b).toInt ∧ a < b)
theorem sFst_ok (ok : Nat → Bool) (rk : Nat → Int32) : ∀ n : Nat, (sFst ok rk n = none ∧ ∀ d, d < n → ok d = false) ∨ ∃ b, sFst ok rk n = some b ∧ b < n ∧ ok b = true ∧ ∀ d, d < n → ok d = true → d = b ∨ oBef rk b d
  | 0 => Or.inl ⟨rfl, fun d hd => absurd hd (by omega)⟩
  | n + 1 => by
    rw [sFst]
    by_cases hn : ok n = true
    · rw [if_pos hn]
      rcases sFst_ok ok rk n with ⟨e, h⟩ | ⟨b, e, h1, h2, h3⟩
      · rw [e]
        refine Or.inr ⟨n, rfl, by omega, hn, fun d hd hk => ?_⟩
        by_cases z : d = n
        · exact Or.inl z
        · have := h d (by omega)
          rw [this] at hk
          cases hk
      · rw [e]
        by_cases hl : rk n < rk b
        · refine Or.inr ⟨n, by show (if rk n < rk b then some n else some b) = _; rw [if_pos hl], by omega, hn, fun d hd hk => ?_⟩
          have hl' := iLt.mp hl
          by_cases z : d = n
          · exact Or.inl z
          · refine Or.inr (Or.inl ?_)
            rcases h3 d (by omega) hk with rfl | h | h
            · exact hl'
            · omega
            · omega
        · refine Or.inr ⟨b, by show (if rk n < rk b then some n else some b) = _; rw [if_neg hl], by omega, h2, fun d hd hk => ?_⟩
          have hl' : ¬ (rk n).toInt < (rk b).toInt := fun q => hl (iLt.mpr q)
          by_cases z : d = n
          · subst z
            refine Or.inr ?_
            unfold oBef
            omega
          · exact h3 d (by omega) hk
    · rw [if_neg hn]
      have hn' : ok n = false := by
        cases h : ok n with
        | false => rfl
        | true => exact absurd h hn
      rcases sFst_ok ok rk n with ⟨e, h⟩ | ⟨b, e, h1, h2, h3⟩
      · refine Or.inl ⟨e, fun d hd => ?_⟩
        by_cases z : d = n
        · rw [z]; exact hn'
        · exact h d (by omega)
      · refine Or.inr ⟨b, e, by omega, h2, fun d hd hk => ?_⟩
        by_cases z : d = n
        · rw [z, hn'] at hk
          cases hk
        · exact h3 d (by omega) hk
theorem bI_ne {b : Bool} : ¬ bI b = 0 ↔ b = true := by cases b <;> decide
theorem bI_eq0 {b : Bool} : bI b = 0 ↔ b = false := by cases b <;> decide
theorem sFst_b {ok : Nat → Bool} {rk : Nat → Int32} {n b : Nat} (h : sFst ok rk n = some b) : b < n := by
  rcases sFst_ok ok rk n with ⟨e, -⟩ | ⟨b', e, h1, -⟩
  · rw [e] at h; cases h
  · rw [e] at h; cases h; exact h1
theorem c_Cells_firstUnserved (M : oM) (c n : Nat) (sv : Int32) (hn : n ≤ 4) : oCt 1 k_Cells_firstUnserved [.inr (K_CELLS, c), .inl (nI n), .inl sv] M (fun r M' => r = some (nI ((sFst (fun d => !tb sv d) (M K_RNK c) n).getD 0)) ∧ M' = M) := by
  refine oCt.of (ls := [some (.inr (K_CELLS, c)), some (.inl (nI n)), some (.inl sv), none, none]) mok_Cells_firstUnserved rfl rfl ?_
  refine oRun_ok 4 rfl ?_
  have loop : ∀ (q d : Nat), d + q = n → oG k_Cells_firstUnserved 1 5 [some (.inr (K_CELLS, c)), some (.inl (nI n)), some (.inl sv), some (.inl (oFst (sFst (fun d => !tb sv d) (M K_RNK c) d))), some (.inl (nI d))] [] M (fun r M' => r = some (nI ((sFst (fun d => !tb sv d) (M K_RNK c) n).getD 0)) ∧ M' = M) := by
    intro q
    induction q with
    | zero =>
      intro d hd
      have hd : d = n := by omega
      subst hd
      refine oRun_ok 2 rfl ?_
      refine g_ic_ge rfl (fun _ => ?_) (fun h => absurd (Int32.le_refl _) h)
      refine oRun_ok 2 rfl ?_
      refine g_callS rfl rfl rfl rfl mok_Math_max (by decide) (c_Math_max M _ _) ?_
      rintro r51 M51 ⟨rfl, e⟩; rw [e]
      refine g_iret rfl rfl rfl ⟨?_, rfl⟩
      cases hz : sFst (fun d => !tb sv d) (M K_RNK c) d with
      | none => rfl
      | some b =>
        have hb := sFst_b hz
        show some (f_Math_max (nI b) 0) = some (nI b)
        congr 1
        rw [iEq, max_t, show (0 : Int32).toInt = 0 from rfl, nIt (by omega), if_neg (by omega)]
    | succ q ih =>
      intro d hd
      refine oRun_ok 2 rfl ?_
      refine g_ic_ge rfl (fun h8 => ?_) (fun _ => ?_)
      · rw [nIle (by omega) (by omega)] at h8
        omega
      refine oRun_ok 5 rfl ?_
      rw [bit_at _ (by omega)]
      have fin : ∀ o, oFst (sFst (fun d => !tb sv d) (M K_RNK c) (d + 1)) = o → oG k_Cells_firstUnserved 1 43 [some (.inr (K_CELLS, c)), some (.inl (nI n)), some (.inl sv), some (.inl o), some (.inl (nI d))] [] M (fun r M' => r = some (nI ((sFst (fun d => !tb sv d) (M K_RNK c) n).getD 0)) ∧ M' = M) := by
        rintro o rfl
        refine oRun_ok 2 rfl ?_
        rw [nI_1]
        exact ih (d + 1) (by omega)
      refine g_if_ne rfl (fun h17 => ?_) (fun h17 => ?_)
      · have h17 := bI_ne.mp h17
        refine fin _ ?_
        rw [sFst, if_neg (by rw [h17]; decide)]
      · have h17 : tb sv d = false := by
          cases hz : tb sv d with
          | false => rfl
          | true => rw [hz] at h17; exact absurd h17 (by decide)
        refine oRun_ok 1 rfl ?_
        have take : (sFst (fun d => !tb sv d) (M K_RNK c) (d + 1) = some d) → oG k_Cells_firstUnserved 1 40 [some (.inr (K_CELLS, c)), some (.inl (nI n)), some (.inl sv), some (.inl (oFst (sFst (fun d => !tb sv d) (M K_RNK c) d))), some (.inl (nI d))] [] M (fun r M' => r = some (nI ((sFst (fun d => !tb sv d) (M K_RNK c) n).getD 0)) ∧ M' = M) := by
          intro h
          refine oRun_ok 2 rfl ?_
          refine fin _ ?_
          rw [h]
          rfl
        have hok : (fun d => !tb sv d) d = true := by
          show (!tb sv d) = true
          rw [h17]; rfl
        refine g_if_lt rfl (fun h21 => ?_) (fun h21 => ?_)
        · refine take ?_
          rw [sFst, if_pos hok]
          cases hz : sFst (fun d => !tb sv d) (M K_RNK c) d with
          | none => rfl
          | some b =>
            have hb := sFst_b hz
            exfalso
            rw [hz] at h21
            have h21 := iLt.mp h21
            rw [show (oFst (some b)) = nI b from rfl, nIt (by omega), show (0 : Int32).toInt = 0 from rfl] at h21
            omega
        · cases hz : sFst (fun d => !tb sv d) (M K_RNK c) d with
          | none =>
            exfalso
            rw [hz] at h21
            exact h21 (by decide)
          | some b =>
            have hb := sFst_b hz
            rw [hz] at take
            rw [show oFst (some b) = nI b from rfl] at take ⊢
            refine oRun_ok 3 rfl ?_
            refine g_iald d rfl rfl rfl (by omega) ?_
            refine oRun_ok 3 rfl ?_
            refine g_iald b rfl rfl rfl (by omega) ?_
            refine g_ic_ge rfl (fun h37 => ?_) (fun h37 => ?_)
            · refine fin _ ?_
              rw [sFst, if_pos hok, hz]
              show oFst (if M K_RNK c d < M K_RNK c b then some d else some b) = nI b
              rw [if_neg (fun q => Int32.not_lt.mpr h37 q)]
              rfl
            · refine take ?_
              rw [sFst, if_pos hok, hz]
              show (if M K_RNK c d < M K_RNK c b then some d else some b) = some d
              rw [if_pos (Int32.not_le.mp h37)]
  exact loop n 0 (by omega)
end
section
/-! ===== Cells.fillOwners ===== -/
theorem sFst_congr {ok ok' : Nat → Bool} {rk rk' : Nat → Int32} : ∀ {n : Nat}, (∀ d, d < n → ok d = ok' d) → (∀ d, d < n → rk d = rk' d) → sFst ok rk n = sFst ok' rk' n
  | 0, _, _ => rfl
  | n + 1, h1, h2 => by
    have e := sFst_congr (n := n) (fun d hd => h1 d (by omega)) (fun d hd => h2 d (by omega))
    rw [sFst, sFst, e, h1 n (by omega)]
    cases hz : sFst ok' rk' n with
    | none => rfl
    | some b =>
      have hb := sFst_b hz
      show (if ok' n = true then (if rk n < rk b then some n else some b) else some b) = (if ok' n = true then (if rk' n < rk' b then some n else some b) else some b)
      rw [h2 n (by omega), h2 b (by omega)]
/-- how many of the first n -/
def sCnt (p : Nat → Bool) : Nat → Nat
  | 0 => 0
  | n + 1 => sCnt p n + (if p n = true then 1 else 0)
theorem sCnt_le (p : Nat → Bool) : ∀ n, sCnt p n ≤ n
  | 0 => Nat.le_refl _
  | n + 1 => by
    have := sCnt_le p n
    rw [sCnt]
    split <;> omega
theorem sCnt_all {p : Nat → Bool} : ∀ {n : Nat}, sCnt p n = n → ∀ d, d < n → p d = true
  | 0, _, d, hd => absurd hd (by omega)
  | n + 1, h, d, hd => by
    have hl := sCnt_le p n
    rw [sCnt] at h
    by_cases hp : p n = true
    · rw [if_pos hp] at h
      by_cases z : d = n
      · rw [z]; exact hp
      · exact sCnt_all (n := n) (by omega) d (by omega)
    · rw [if_neg hp] at h
      omega
theorem sCnt_full {p : Nat → Bool} : ∀ {n : Nat}, (∀ d, d < n → p d = true) → sCnt p n = n
  | 0, _ => rfl
  | n + 1, h => by
    rw [sCnt, if_pos (h n (by omega)), sCnt_full (fun d hd => h d (by omega))]
theorem sCnt_congr {p p' : Nat → Bool} : ∀ {n : Nat}, (∀ d, d < n → p d = p' d) → sCnt p n = sCnt p' n
  | 0, _ => rfl
  | n + 1, h => by
    rw [sCnt, sCnt, h n (by omega), sCnt_congr (fun d hd => h d (by omega))]
theorem sCnt_add {p p' : Nat → Bool} {f : Nat} (h : ∀ d, p' d = (p d || decide (d = f))) (hf : p f = false) : ∀ {n : Nat}, f < n → sCnt p' n = sCnt p n + 1
  | 0, hn => absurd hn (by omega)
  | n + 1, hn => by
    rw [sCnt, sCnt]
    by_cases z : f = n
    · subst z
      have e : sCnt p' f = sCnt p f := sCnt_congr (fun d hd => by rw [h d, decide_eq_false (by omega), Bool.or_false])
      rw [e, hf, h f, hf, decide_eq_true rfl]
      rfl
    · have e := sCnt_add h hf (n := n) (by omega)
      rw [e, h n, decide_eq_false (fun q => z q.symm), Bool.or_false]
      omega
/-- the owner of a cell -/
def sOwn (N : Nat → Int32) (x y : Int) : Option Nat := sFst (fun d => sHeld N d x y) (sRk N) (cD N)
def oOs (w c : Nat) : Nat → Nat → Prop := fun k i => oWs w k i ∨ (k = K_HROW ∧ 4 * c ≤ i ∧ i < 4 * c + 4) ∨ (i = c ∧ (k = K_NOB ∨ k = K_RNK))
theorem oOs_kp (w c : Nat) : ∀ k ∈ oRLk, ∀ i, ¬ oOs w c k i := by
  intro k hk i h
  rcases h with h | ⟨rfl, -⟩ | ⟨-, rfl | rfl⟩
  · exact oWs_kp w k hk i h
  · revert hk
    decide
  · revert hk
    decide
  · revert hk
    decide
def Q_owners (M : oM) (N : Nat → Int32) (w c : Nat) : Option Int32 → oM → Prop := fun o M' => o = none ∧ (∀ d, d < cD N → ∀ y, y < 30 → ∀ x : Nat, tb (M' K_HROW (4 * c + d) y) x = true ↔ x < 30 ∧ sOwn N x y = some d) ∧ (∀ y, y < 30 → ∀ x : Nat, tb (M' K_NOB c y) x = true ↔ x < 30 ∧ sOwn N x y = none) ∧ oFr (oOs w c) M M'
/-- after some turns -/
def oTn (N : Nat → Int32) (c : Nat) (sv : Int32) (t : Nat) (M1 : oM) : Prop := (sCnt (tb sv) (cD N) = t) ∧ (∀ s u, s < cD N → u < cD N → tb sv s = true → tb sv u = false → oBef (sRk N) s u) ∧ (∀ d, d < cD N → M1 K_RNK c d = sRk N d) ∧ (∀ y, y < 30 → ∀ x : Nat, tb (M1 K_NOB c y) x = true ↔ x < 30 ∧ ∀ d, d < cD N → tb sv d = true → sHeld N d x y = false) ∧ (∀ d, d < cD N → ∀ y, y < 30 → ∀ x : Nat, tb (M1 K_HROW (4 * c + d) y) x = true ↔ x < 30 ∧ sHeld N d x y = true ∧ (tb sv d = true → ∀ e, e < cD N → tb sv e = true → oBef (sRk N) e d → sHeld N e x y = false))
theorem oTn.cnt {N : Nat → Int32} {c : Nat} {sv : Int32} {t : Nat} {M1 : oM} (h : oTn N c sv t M1) : sCnt (tb sv) (cD N) = t := h.1
theorem oTn.bef {N : Nat → Int32} {c : Nat} {sv : Int32} {t : Nat} {M1 : oM} (h : oTn N c sv t M1) : ∀ s u, s < cD N → u < cD N → tb sv s = true → tb sv u = false → oBef (sRk N) s u := h.2.1
theorem oTn.rk {N : Nat → Int32} {c : Nat} {sv : Int32} {t : Nat} {M1 : oM} (h : oTn N c sv t M1) : ∀ d, d < cD N → M1 K_RNK c d = sRk N d := h.2.2.1
theorem oTn.nob {N : Nat → Int32} {c : Nat} {sv : Int32} {t : Nat} {M1 : oM} (h : oTn N c sv t M1) : ∀ y, y < 30 → ∀ x : Nat, tb (M1 K_NOB c y) x = true ↔ x < 30 ∧ ∀ d, d < cD N → tb sv d = true → sHeld N d x y = false := h.2.2.2.1
theorem oTn.row {N : Nat → Int32} {c : Nat} {sv : Int32} {t : Nat} {M1 : oM} (h : oTn N c sv t M1) : ∀ d, d < cD N → ∀ y, y < 30 → ∀ x : Nat, tb (M1 K_HROW (4 * c + d) y) x = true ↔ x < 30 ∧ sHeld N d x y = true ∧ (tb sv d = true → ∀ e, e < cD N → tb sv e = true → oBef (sRk N) e d → sHeld N e x y = false) := h.2.2.2.2
theorem oBef_irr {rk : Nat → Int32} {a b : Nat} (h : oBef rk a b) (h' : oBef rk b a) : False := by
  unfold oBef at h h'
  omega
theorem oBef_tot {rk : Nat → Int32} {a b : Nat} (h : ¬ a = b) (h' : ¬ oBef rk a b) : oBef rk b a := by
  unfold oBef at h' ⊢
  omega
theorem oBef_rf {rk : Nat → Int32} {a : Nat} (h : oBef rk a a) : False := oBef_irr h h
/-- one turn -/
theorem oTn_next {N : Nat → Int32} {c t f : Nat} {sv : Int32} {M1 M2 : oM} (h : oTn N c sv t M1) (hd4 : cD N ≤ 4) (hf : sFst (fun d => !tb sv d) (sRk N) (cD N) = some f)
    (hr : ∀ y, y < 30 → M2 K_HROW (4 * c + f) y = M1 K_HROW (4 * c + f) y &&& M1 K_NOB c y) (hn : ∀ y, y < 30 → M2 K_NOB c y = M1 K_NOB c y &&& ((M1 K_HROW (4 * c + f) y &&& M1 K_NOB c y) ^^^ (-1))) (ho : ∀ d, ¬ d = f → M2 K_HROW (4 * c + d) = M1 K_HROW (4 * c + d)) (hk : M2 K_RNK c = M1 K_RNK c) : oTn N c (sv ||| ((1 : Int32) <<< (nI f &&& 31))) (t + 1) M2 := by
  obtain ⟨f', e', f1, f2, f3⟩ : ∃ b, sFst (fun d => !tb sv d) (sRk N) (cD N) = some b ∧ b < cD N ∧ (!tb sv b) = true ∧ ∀ d, d < cD N → (!tb sv d) = true → d = b ∨ oBef (sRk N) b d := by
    rcases sFst_ok (fun d => !tb sv d) (sRk N) (cD N) with ⟨e, -⟩ | h
    · rw [e] at hf; cases hf
    · exact h
  rw [hf] at e'
  cases e'
  have f2 : tb sv f = false := by simpa using f2
  have f3 : ∀ d, d < cD N → tb sv d = false → d = f ∨ oBef (sRk N) f d := fun d hd q => f3 d hd (by rw [q]; rfl)
  have hs : ∀ d, tb (sv ||| ((1 : Int32) <<< (nI f &&& 31))) d = (tb sv d || decide (d = f)) := fun d => by rw [tb_or, tb_shl (by omega)]
  generalize sv ||| ((1 : Int32) <<< (nI f &&& 31)) = sv' at hs
  have hsT : ∀ d, tb sv' d = true ↔ tb sv d = true ∨ d = f := fun d => by rw [hs d, Bool.or_eq_true, decide_eq_true_eq]
  have rowf : ∀ y, y < 30 → ∀ x : Nat, tb (M2 K_HROW (4 * c + f) y) x = true ↔ x < 30 ∧ sHeld N f x y = true ∧ ∀ d, d < cD N → tb sv d = true → sHeld N d x y = false := by
    intro y hy x
    rw [hr y hy, tb_and, Bool.and_eq_true, h.row f f1 y hy x, h.nob y hy x]
    constructor
    · rintro ⟨⟨a1, a2, -⟩, -, a3⟩
      exact ⟨a1, a2, a3⟩
    · rintro ⟨a1, a2, a3⟩
      refine ⟨⟨a1, a2, fun q => ?_⟩, a1, a3⟩
      rw [f2] at q
      cases q
  refine ⟨?_, ?_, ?_, ?_, ?_⟩
  · rw [sCnt_add hs f2 f1, h.cnt]
  · intro s u hs' hu a1 a2
    have a2' : tb sv u = false ∧ ¬ u = f := by
      rw [hs u] at a2
      simpa using a2
    rcases (hsT s).mp a1 with q | rfl
    · exact h.bef s u hs' hu q a2'.1
    · rcases f3 u hu a2'.1 with q | q
      · exact absurd q a2'.2
      · exact q
  · intro d hd
    rw [hk]
    exact h.rk d hd
  · intro y hy x
    rw [hn y hy, ← hr y hy, tb_and, tb_xor, Bool.and_eq_true, h.nob y hy x]
    by_cases hx : x < 30
    · rw [tb_m1 (by omega), Bool.xor_true]
      have hR := rowf y hy x
      constructor
      · rintro ⟨⟨-, a1⟩, a2⟩
        refine ⟨hx, fun d hd q => ?_⟩
        rcases (hsT d).mp q with q | rfl
        · exact a1 d hd q
        · cases hh : sHeld N d x y with
          | false => rfl
          | true =>
            rw [hR.mpr ⟨hx, hh, a1⟩] at a2
            cases a2
      · rintro ⟨-, a1⟩
        refine ⟨⟨hx, fun d hd q => a1 d hd ((hsT d).mpr (Or.inl q))⟩, ?_⟩
        cases hh : tb (M2 K_HROW (4 * c + f) y) x with
        | false => rfl
        | true =>
          have := (hR.mp hh).2.1
          rw [a1 f f1 ((hsT f).mpr (Or.inr rfl))] at this
          cases this
    · constructor
      · rintro ⟨⟨a1, -⟩, -⟩
        exact absurd a1 hx
      · rintro ⟨a1, -⟩
        exact absurd a1 hx
  · intro d hd y hy x
    by_cases z : d = f
    · subst z
      rw [rowf y hy x]
      constructor
      · rintro ⟨a1, a2, a3⟩
        refine ⟨a1, a2, fun _ e he q b => ?_⟩
        rcases (hsT e).mp q with q | rfl
        · exact a3 e he q
        · exact absurd b oBef_rf
      · rintro ⟨a1, a2, a3⟩
        refine ⟨a1, a2, fun e he q => ?_⟩
        exact a3 ((hsT d).mpr (Or.inr rfl)) e he ((hsT e).mpr (Or.inl q)) (h.bef e d he hd q f2)
    · rw [ho d z, h.row d hd y hy x]
      constructor
      · rintro ⟨a1, a2, a3⟩
        refine ⟨a1, a2, fun q e he q' b => ?_⟩
        have q := ((hsT d).mp q).resolve_right z
        rcases (hsT e).mp q' with q' | rfl
        · exact a3 q e he q' b
        · exact absurd b (fun b => oBef_irr b (h.bef d e hd he q f2))
      · rintro ⟨a1, a2, a3⟩
        exact ⟨a1, a2, fun q e he q' b => a3 ((hsT d).mpr (Or.inl q)) e he ((hsT e).mpr (Or.inl q')) b⟩
/-- after all turns -/
theorem oTn_end {N : Nat → Int32} {c : Nat} {sv : Int32} {M1 : oM} (h : oTn N c sv (cD N) M1) : (∀ d, d < cD N → ∀ y, y < 30 → ∀ x : Nat, tb (M1 K_HROW (4 * c + d) y) x = true ↔ x < 30 ∧ sOwn N x y = some d) ∧ (∀ y, y < 30 → ∀ x : Nat, tb (M1 K_NOB c y) x = true ↔ x < 30 ∧ sOwn N x y = none) := by
  have hall := sCnt_all h.cnt
  constructor
  · intro d hd y hy x
    rw [h.row d hd y hy x]
    unfold sOwn
    rcases sFst_ok (fun d => sHeld N d x y) (sRk N) (cD N) with ⟨e, q⟩ | ⟨b, e, b1, b2, b3⟩
    · rw [e]
      constructor
      · rintro ⟨-, a2, -⟩
        have := q d hd
        rw [show sHeld N d x y = false from this] at a2
        cases a2
      · rintro ⟨-, q⟩
        cases q
    · rw [e]
      constructor
      · rintro ⟨a1, a2, a3⟩
        refine ⟨a1, ?_⟩
        rcases b3 d hd a2 with rfl | q
        · rfl
        · have := a3 (hall d hd) b b1 (hall b b1) q
          rw [show sHeld N b x y = true from b2] at this
          cases this
      · rintro ⟨a1, q⟩
        cases q
        refine ⟨a1, b2, fun _ e he _ q => ?_⟩
        cases hh : sHeld N e x y with
        | false => rfl
        | true =>
          exfalso
          rcases b3 e he hh with rfl | q'
          · exact oBef_rf q
          · exact oBef_irr q q'
  · intro y hy x
    rw [h.nob y hy x]
    unfold sOwn
    rcases sFst_ok (fun d => sHeld N d x y) (sRk N) (cD N) with ⟨e, q⟩ | ⟨b, e, b1, b2, b3⟩
    · rw [e]
      exact ⟨fun a => ⟨a.1, rfl⟩, fun a => ⟨a.1, fun d hd _ => q d hd⟩⟩
    · rw [e]
      constructor
      · rintro ⟨-, a⟩
        have := a b b1 (hall b b1)
        rw [show sHeld N b x y = true from b2] at this
        cases this
      · rintro ⟨-, q⟩
        cases q
theorem c_Cells_fillOwners (M : oM) (N : Nat → Int32) (c w : Nat) (hN : oNOk N) (hL : oRL M N w) : oCt 5 k_Cells_fillOwners [.inr (K_CELLS, c), .inr (K_WALK, w)] M (Q_owners M N w c) := by
  obtain ⟨hD, d4⟩ := oND hN
  refine oCt.of (ls := [some (.inr (K_CELLS, c)), some (.inr (K_WALK, w)), none, none, none, none, none]) mok_Cells_fillOwners rfl rfl ?_
  refine oRun_ok 6 rfl ?_
  rw [show M 1 w 4 = nI (cD N) from hL.2.1.trans hD]
  -- the inner loop of a turn
  have inner : ∀ (q y : Nat) (M1 M2 : oM) (t f : Nat) (sv : Int32), y + q = 30 → f < 4 →
      (∀ y', y' < y → M2 K_HROW (4 * c + f) y' = M1 K_HROW (4 * c + f) y' &&& M1 K_NOB c y') → (∀ y', y' < y → M2 K_NOB c y' = M1 K_NOB c y' &&& ((M1 K_HROW (4 * c + f) y' &&& M1 K_NOB c y') ^^^ (-1))) →
      (∀ y', y ≤ y' → M2 K_HROW (4 * c + f) y' = M1 K_HROW (4 * c + f) y') → (∀ y', y ≤ y' → M2 K_NOB c y' = M1 K_NOB c y') → oFr (fun k i => (k = K_HROW ∧ i = 4 * c + f) ∨ (k = K_NOB ∧ i = c)) M1 M2 →
      (∀ M3 x6, (∀ y, y < 30 → M3 K_HROW (4 * c + f) y = M1 K_HROW (4 * c + f) y &&& M1 K_NOB c y) → (∀ y, y < 30 → M3 K_NOB c y = M1 K_NOB c y &&& ((M1 K_HROW (4 * c + f) y &&& M1 K_NOB c y) ^^^ (-1))) → oFr (fun k i => (k = K_HROW ∧ i = 4 * c + f) ∨ (k = K_NOB ∧ i = c)) M1 M3 → oG k_Cells_fillOwners 5 55 [some (.inr (K_CELLS, c)), some (.inr (K_WALK, w)), some (.inl (nI (cD N))), some (.inl sv), some (.inl (nI (t + 1))), some (.inl (nI f)), x6] [] M3 (Q_owners M N w c)) →
      oG k_Cells_fillOwners 5 79 [some (.inr (K_CELLS, c)), some (.inr (K_WALK, w)), some (.inl (nI (cD N))), some (.inl sv), some (.inl (nI t)), some (.inl (nI f)), some (.inl (nI y))] [] M2 (Q_owners M N w c) := by
    intro q
    induction q with
    | zero =>
      intro y M1 M2 t f sv hy hf h1 h2 h3 h4 hfr kk
      have hy : y = 30 := by omega
      subst hy
      refine oRun_ok 2 rfl ?_
      refine g_ic_ge rfl (fun _ => ?_) (fun h => absurd (Int32.le_refl _) h)
      refine oRun_ok 2 rfl ?_
      rw [nI_1]
      exact kk M2 _ h1 h2 hfr
    | succ q ih =>
      intro y M1 M2 t f sv hy hf h1 h2 h3 h4 hfr kk
      refine oRun_ok 2 rfl ?_
      refine g_ic_ge rfl (fun h => ?_) (fun _ => ?_)
      · rw [show (30 : Int32) = nI 30 from rfl, nIle (by omega) (by omega)] at h
        omega
      refine oRun_ok 3 rfl ?_
      refine g_aald f rfl rfl rfl hf rfl ?_
      refine oRun_ok 2 rfl ?_
      refine g_iald y rfl rfl rfl (by omega) ?_
      refine oRun_ok 3 rfl ?_
      refine g_iald y rfl rfl rfl (by omega) ?_
      refine oRun_ok 1 rfl ?_
      refine g_iast y rfl rfl rfl (by omega) ?_
      refine oRun_ok 4 rfl ?_
      refine g_iald y rfl rfl rfl (by omega) ?_
      refine oRun_ok 3 rfl ?_
      refine g_aald f rfl rfl rfl hf rfl ?_
      refine oRun_ok 1 rfl ?_
      refine g_iald y rfl rfl rfl (by omega) ?_
      refine oRun_ok 3 rfl ?_
      refine g_iast y rfl rfl rfl (by omega) ?_
      refine oRun_ok 2 rfl ?_
      rw [nI_1]
      have e1 : M2 14 (4 * c + f) y = M1 K_HROW (4 * c + f) y := h3 y (Nat.le_refl _)
      have e2 : M2 15 c y = M1 K_NOB c y := h4 y (Nat.le_refl _)
      have e3 : ∀ v, oUp M2 14 (4 * c + f) y v 15 c y = M1 K_NOB c y := fun v => by
        rw [oUp_k (by decide)]
        exact e2
      have e4 : ∀ v, oUp M2 14 (4 * c + f) y v 14 (4 * c + f) y = v := fun v => oUp_self
      rw [e1, e2, e3, e4]
      refine ih (y + 1) M1 _ t f sv (by omega) hf (fun y' hy' => ?_) (fun y' hy' => ?_) (fun y' hy' => ?_) (fun y' hy' => ?_) ((hfr.up (Or.inl ⟨rfl, rfl⟩)).up (Or.inr ⟨rfl, rfl⟩)) kk
      · rw [oUp_k (by decide)]
        by_cases z : y' = y
        · subst z
          exact oUp_self
        · exact (oUp_j z).trans (h1 y' (by omega))
      · by_cases z : y' = y
        · subst z
          exact oUp_self
        · refine (oUp_j z).trans ?_
          rw [oUp_k (by decide)]
          exact h2 y' (by omega)
      · rw [oUp_k (by decide)]
        exact (oUp_j (by omega)).trans (h3 y' (by omega))
      · refine (oUp_j (by omega)).trans ?_
        rw [oUp_k (by decide)]
        exact h4 y' (by omega)
  -- the turns
  have turns : ∀ (q t : Nat) (M1 : oM) (sv : Int32) (x5 x6 : Option oV), t + q = cD N → oTn N c sv t M1 → oFr (oOs w c) M M1 → oG k_Cells_fillOwners 5 55 [some (.inr (K_CELLS, c)), some (.inr (K_WALK, w)), some (.inl (nI (cD N))), some (.inl sv), some (.inl (nI t)), x5, x6] [] M1 (Q_owners M N w c) := by
    intro q
    induction q with
    | zero =>
      intro t M1 sv x5 x6 ht hT hf
      have ht : t = cD N := by omega
      rw [ht] at hT ⊢
      refine oRun_ok 2 rfl ?_
      refine g_ic_ge rfl (fun _ => ?_) (fun h => absurd (Int32.le_refl _) h)
      exact g_ret rfl rfl ⟨rfl, (oTn_end hT).1, (oTn_end hT).2, hf⟩
    | succ q ih =>
      intro t M1 sv x5 x6 ht hT hf
      refine oRun_ok 2 rfl ?_
      refine g_ic_ge rfl (fun h => ?_) (fun _ => ?_)
      · rw [nIle (by omega) (by omega)] at h
        omega
      refine oRun_ok 3 rfl ?_
      refine g_callV rfl rfl rfl rfl rfl mok_Cells_firstUnserved (by decide) (c_Cells_firstUnserved M1 c (cD N) sv d4) ?_
      rintro r64 M64 ⟨rfl, e⟩; rw [e]
      have ef : sFst (fun d => !tb sv d) (M1 K_RNK c) (cD N) = sFst (fun d => !tb sv d) (sRk N) (cD N) := sFst_congr (fun _ _ => rfl) hT.rk
      rw [ef]
      obtain ⟨f, hfs⟩ : ∃ f, sFst (fun d => !tb sv d) (sRk N) (cD N) = some f := by
        rcases sFst_ok (fun d => !tb sv d) (sRk N) (cD N) with ⟨-, q'⟩ | ⟨b, e', -⟩
        · exfalso
          have := sCnt_full (p := tb sv) (n := cD N) (fun d hd => by simpa using q' d hd)
          rw [hT.cnt] at this
          omega
        · exact ⟨b, e'⟩
      have hf4 := sFst_b hfs
      rw [hfs]
      show oG k_Cells_fillOwners 5 67 [some (.inr (K_CELLS, c)), some (.inr (K_WALK, w)), some (.inl (nI (cD N))), some (.inl sv), some (.inl (nI t)), x5, x6] [.inl (nI f)] M1 (Q_owners M N w c)
      refine oRun_ok 9 rfl ?_
      refine inner 30 0 M1 M1 t f _ (by omega) (by omega) (fun y' h => absurd h (by omega)) (fun y' h => absurd h (by omega)) (fun _ _ => rfl) (fun _ _ => rfl) oFr.rf ?_
      intro M3 x6' g1 g2 g3
      refine ih (t + 1) M3 _ _ _ (by omega) (oTn_next hT d4 hfs g1 g2 (fun d hd => ?_) ?_) (hf.tr (g3.mono (fun k i q => ?_)))
      · refine g3 _ _ ?_
        rintro (⟨-, q⟩ | ⟨q, -⟩)
        · omega
        · exact absurd q (by decide)
      · refine g3 _ _ ?_
        rintro (⟨q, -⟩ | ⟨q, -⟩) <;> exact absurd q (by decide)
      · rcases q with ⟨rfl, rfl⟩ | ⟨rfl, rfl⟩
        · exact Or.inr (Or.inl ⟨rfl, by omega, by omega⟩)
        · exact Or.inr (Or.inr ⟨rfl, Or.inl rfl⟩)
  -- the filling
  have fills : ∀ (q d : Nat) (M1 : oM), d + q = cD N → (∀ e, e < d → M1 K_RNK c e = sRk N e) → (∀ e, e < d → ∀ y, y < 30 → ∀ x : Nat, tb (M1 K_HROW (4 * c + e) y) x = (decide (x < 30) && sHeld N e x y)) → oFr (oOs w c) M M1 → oG k_Cells_fillOwners 5 10 [some (.inr (K_CELLS, c)), some (.inr (K_WALK, w)), some (.inl (nI (cD N))), some (.inl (nI d)), none, none, none] [] M1 (Q_owners M N w c) := by
    intro q
    induction q with
    | zero =>
      intro d M1 hd hr hb hf
      have hd : d = cD N := by omega
      rw [hd] at hr hb ⊢
      refine oRun_ok 2 rfl ?_
      refine g_ic_ge rfl (fun _ => ?_) (fun h => absurd (Int32.le_refl _) h)
      refine oRun_ok 3 rfl ?_
      refine g_callS rfl rfl rfl rfl mok_Arrays_fill (by decide) (c_fill_NOB M1 c 1073741823) ?_
      rintro r47 M47 ⟨rfl, z47, f47⟩
      refine oRun_ok 4 rfl ?_
      refine turns (cD N) 0 M47 0 _ _ (by omega) ⟨?_, ?_, ?_, ?_, ?_⟩ (hf.tr (f47.mono (fun k i q => Or.inr (Or.inr ⟨q.2, Or.inl q.1⟩))))
      · have : ∀ n, sCnt (tb 0) n = 0 := by
          intro n
          induction n with
          | zero => rfl
          | succ n ih =>
            rw [sCnt, ih, tb_0]
            rfl
        exact this _
      · intro s u _ _ a1
        rw [tb_0] at a1
        cases a1
      · intro e he
        rw [f47 K_RNK c (by rintro ⟨q, -⟩; exact absurd q (by decide))]
        exact hr e he
      · intro y hy x
        rw [z47 y hy, show (1073741823 : Int32) = ((1 : Int32) <<< (nI 30 &&& 31)) - 1 from by decide +kernel, tb_mask (by decide), decide_eq_true_eq]
        exact ⟨fun a => ⟨a, fun e _ q => by rw [tb_0] at q; cases q⟩, fun a => a.1⟩
      · intro e he y hy x
        rw [f47 K_HROW (4 * c + e) (by rintro ⟨q, -⟩; exact absurd q (by decide)), hb e he y hy x, Bool.and_eq_true, decide_eq_true_eq]
        exact ⟨fun a => ⟨a.1, a.2, fun q => by rw [tb_0] at q; cases q⟩, fun a => ⟨a.1, a.2.1⟩⟩
    | succ q ih =>
      intro d M1 hd hr hb hf
      have L1 := oRL_kp (hf.kp (oOs_kp w c)) hL
      refine oRun_ok 2 rfl ?_
      refine g_ic_ge rfl (fun h => ?_) (fun _ => ?_)
      · rw [nIle (by omega) (by omega)] at h
        omega
      refine oRun_ok 3 rfl ?_
      refine g_callV rfl rfl rfl rfl rfl mok_Cells_fillDeed (by decide) (c_Cells_fillDeed M1 N c w d hN L1 (by omega)) ?_
      rintro r18 M18 ⟨rfl, b18, f18⟩
      have F18 : oFr (oOs w c) M M18 := hf.tr (f18.mono (fun k i q => by
        rcases q with q | ⟨rfl, rfl⟩
        · exact Or.inl q
        · exact Or.inr (Or.inl ⟨rfl, by omega, by omega⟩)))
      have L18 := oRL_kp (F18.kp (oOs_kp w c)) hL
      refine oRun_ok 6 rfl ?_
      refine g_callV rfl rfl rfl rfl rfl mok_Land_rankOf (by decide) (c_Land_rankOf M18 N w d hN L18 (by omega)) ?_
      rintro r31 M31 ⟨rfl, f31⟩
      refine g_iast d rfl rfl rfl (by omega) ?_
      refine oRun_ok 2 rfl ?_
      rw [nI_1]
      have q31 : ∀ k, ¬ k = K_LSTK → ∀ i, M31 k i = M18 k i := fun k hk i => f31 k i (fun z => hk z)
      have q18 : ∀ i, M18 K_RNK i = M1 K_RNK i := fun i => f18 K_RNK i (by
        rintro ((q | ⟨-, q | q | q⟩) | ⟨q, -⟩) <;> exact absurd q (by decide))
      refine ih (d + 1) _ (by omega) (fun e he => ?_) (fun e he y hy x => ?_) ((F18.tr (f31.mono (fun k i q => Or.inl (Or.inl q)))).up (Or.inr (Or.inr ⟨rfl, Or.inr rfl⟩)))
      · by_cases z : e = d
        · subst z
          exact oUp_self
        · refine (oUp_j z).trans ?_
          rw [q31 K_RNK (by decide), q18]
          exact hr e (by omega)
      · rw [oUp_k (by decide), q31 K_HROW (by decide)]
        by_cases z : e = d
        · subst z
          exact b18 y hy x
        · rw [f18 K_HROW (4 * c + e) (by
            rintro ((q | ⟨-, q | q | q⟩) | ⟨-, q⟩)
            · exact absurd q (by decide)
            · exact absurd q (by decide)
            · exact absurd q (by decide)
            · exact absurd q (by decide)
            · omega)]
          exact hb e (by omega) y hy x
  exact fills (cD N) 0 M (by omega) (fun e h => absurd h (by omega)) (fun e h => absurd h (by omega)) oFr.rf
end
section
/-! ===== how many bits ===== -/
theorem and256 {a b m k : Nat} (hb : b < 256) (hk : k < 256) : (256 * a + b) &&& (256 * m + k) = 256 * (a &&& m) + (b &&& k) := by
  have h256 : (256 : Nat) = 2 ^ 8 := rfl
  have hbk : b &&& k < 2 ^ 8 := Nat.and_lt_two_pow b (by rw [← h256]; exact hk)
  refine Nat.eq_of_testBit_eq (fun j => ?_)
  rw [h256, Nat.testBit_and, Nat.testBit_two_pow_mul_add a (by rw [← h256]; exact hb), Nat.testBit_two_pow_mul_add m (by rw [← h256]; exact hk), Nat.testBit_two_pow_mul_add _ hbk]
  by_cases h : j < 8
  · rw [if_pos h, if_pos h, if_pos h, Nat.testBit_and]
  · rw [if_neg h, if_neg h, if_neg h, Nat.testBit_and]
def p4 (a b c d : Nat) : Nat := 256 * (256 * (256 * d + c) + b) + a
theorem and_p4 {a b c d a' b' c' d' : Nat} (h1 : a < 256) (h2 : b < 256) (h3 : c < 256) (g1 : a' < 256) (g2 : b' < 256) (g3 : c' < 256) : p4 a b c d &&& p4 a' b' c' d' = p4 (a &&& a') (b &&& b') (c &&& c') (d &&& d') := by
  unfold p4
  rw [and256 h1 g1, and256 h2 g2, and256 h3 g3]
theorem by1 : ∀ b : Fin 256, ∀ e : Fin 2, (b.val / 2 + 128 * e.val) &&& 85 = (b.val / 2) &&& 85 := by decide +kernel
theorem by1' : ∀ b : Fin 256, ((b.val / 2) &&& 85) ≤ b.val := by decide +kernel
theorem by2 : ∀ b : Fin 256, ∀ e : Fin 4, (b.val / 4 + 64 * e.val) &&& 51 = (b.val / 4) &&& 51 := by decide +kernel
def y1 (b : Nat) : Nat := b - (b / 2 &&& 85)
def y2 (b : Nat) : Nat := (b &&& 51) + (b / 4 &&& 51)
def y3 (b : Nat) : Nat := b % 16 + b / 16
theorem by3 : ∀ b : Fin 256, y1 b.val < 256 ∧ y2 (y1 b.val) % 16 ≤ 4 ∧ y2 (y1 b.val) / 16 ≤ 4 ∧ y3 (y2 (y1 b.val)) = sCnt (fun j => b.val.testBit j) 8 := by decide +kernel
theorem by4 : ∀ h : Fin 16, ∀ l : Fin 16, (16 * h.val + l.val) &&& 15 = l.val := by decide +kernel
theorem sCnt_split (p : Nat → Bool) (m : Nat) : ∀ n, sCnt p (m + n) = sCnt p m + sCnt (fun k => p (m + k)) n
  | 0 => rfl
  | n + 1 => by
    show sCnt p (m + n) + _ = sCnt p m + (sCnt (fun k => p (m + k)) n + _)
    rw [sCnt_split p m n]
    exact Nat.add_assoc _ _ _
theorem tB256 {a b : Nat} (hb : b < 256) (j : Nat) : (256 * a + b).testBit (8 + j) = a.testBit j := by
  have h256 : (256 : Nat) = 2 ^ 8 := rfl
  rw [h256, Nat.testBit_two_pow_mul_add a (by rw [← h256]; exact hb), if_neg (by omega)]
  congr 1
  omega
theorem tB256l {a b : Nat} (hb : b < 256) {j : Nat} (hj : j < 8) : (256 * a + b).testBit j = b.testBit j := by
  have h256 : (256 : Nat) = 2 ^ 8 := rfl
  rw [h256, Nat.testBit_two_pow_mul_add a (by rw [← h256]; exact hb), if_pos hj]
theorem cnt256 {a b n : Nat} (hb : b < 256) : sCnt (fun j => (256 * a + b).testBit j) (8 + n) = sCnt (fun j => b.testBit j) 8 + sCnt (fun j => a.testBit j) n := by
  rw [sCnt_split]
  congr 1
  · exact sCnt_congr (fun j hj => tB256l hb hj)
  · exact sCnt_congr (fun j hj => tB256 hb j)
theorem cnt_p4 {a b c d : Nat} (h1 : a < 256) (h2 : b < 256) (h3 : c < 256) : sCnt (fun j => (p4 a b c d).testBit j) 32 = sCnt (fun j => a.testBit j) 8 + (sCnt (fun j => b.testBit j) 8 + (sCnt (fun j => c.testBit j) 8 + sCnt (fun j => d.testBit j) 8)) := by
  show sCnt (fun j => (p4 a b c d).testBit j) (8 + 24) = _
  unfold p4
  rw [cnt256 h1]
  congr 1
  show sCnt _ (8 + 16) = _
  rw [cnt256 h2]
  congr 1
  show sCnt _ (8 + 8) = _
  rw [cnt256 h3]
theorem nI_and (a b : Nat) : nI a &&& nI b = nI (a &&& b) := by
  apply Int32.toBitVec_inj.mp
  show BitVec.ofNat 32 a &&& BitVec.ofNat 32 b = BitVec.ofNat 32 (a &&& b)
  rw [BitVec.ofNat_and]
theorem nI_ushr {n k : Nat} (hn : n < 4294967296) (s : Int32) (hs : ((s.toUInt32 &&& Int32.toUInt32 31).toBitVec % 32).toNat = k) : oUshr (nI n) s = nI (n / 2 ^ k) := pk_ushrN hn s k hs
theorem of32 (x : Int32) : ∃ n, n < 4294967296 ∧ x = nI n := ⟨x.toBitVec.toNat, x.toBitVec.isLt, Int32.toBitVec_inj.mp (by show _ = BitVec.ofNat 32 _; simp)⟩
theorem of4 {n : Nat} (h : n < 4294967296) : ∃ a b c d, a < 256 ∧ b < 256 ∧ c < 256 ∧ d < 256 ∧ n = p4 a b c d := by
  refine ⟨n % 256, n / 256 % 256, n / 65536 % 256, n / 16777216, by omega, by omega, by omega, by omega, ?_⟩
  unfold p4
  omega
theorem nI_plus (a b : Nat) : nI a + nI b = nI (a + b) := by
  apply Int32.toBitVec_inj.mp
  show BitVec.ofNat 32 a + BitVec.ofNat 32 b = BitVec.ofNat 32 (a + b)
  rw [BitVec.ofNat_add]
theorem bitCount_ok (v : Int32) : f_Integer_bitCount v = nI (sCnt (tb v) 32) := by
  obtain ⟨n, hn, rfl⟩ := of32 v
  obtain ⟨a, b, c, d, ha, hb, hc, hd, rfl⟩ := of4 hn
  have ecnt : sCnt (tb (nI (p4 a b c d))) 32 = sCnt (fun j => (p4 a b c d).testBit j) 32 := sCnt_congr (fun j hj => tb_nI hj)
  rw [ecnt, cnt_p4 ha hb hc]
  obtain ⟨a1, a2, a3, a4⟩ := by3 ⟨a, ha⟩
  obtain ⟨b1, b2, b3, b4⟩ := by3 ⟨b, hb⟩
  obtain ⟨c1, c2, c3, c4⟩ := by3 ⟨c, hc⟩
  obtain ⟨d1, d2, d3, d4⟩ := by3 ⟨d, hd⟩
  dsimp only at a1 a2 a3 a4 b1 b2 b3 b4 c1 c2 c3 c4 d1 d2 d3 d4
  rw [← a4, ← b4, ← c4, ← d4]
  -- one
  have l1 : p4 a b c d / 2 ^ 1 = p4 (a / 2 + 128 * (b % 2)) (b / 2 + 128 * (c % 2)) (c / 2 + 128 * (d % 2)) (d / 2) := by
    unfold p4
    omega
  have m1 : (p4 a b c d / 2 ^ 1) &&& 1431655765 = p4 (a / 2 &&& 85) (b / 2 &&& 85) (c / 2 &&& 85) (d / 2 &&& 85) := by
    rw [l1, show (1431655765 : Nat) = p4 85 85 85 85 from rfl, and_p4 (by omega) (by omega) (by omega) (by decide) (by decide) (by decide)]
    rw [by1 ⟨a, ha⟩ ⟨b % 2, by omega⟩, by1 ⟨b, hb⟩ ⟨c % 2, by omega⟩, by1 ⟨c, hc⟩ ⟨d % 2, by omega⟩]
  have ga := by1' ⟨a, ha⟩
  have gb := by1' ⟨b, hb⟩
  have gc := by1' ⟨c, hc⟩
  have gd := by1' ⟨d, hd⟩
  dsimp only at ga gb gc gd
  have e1 : nI (p4 a b c d) - (oUshr (nI (p4 a b c d)) 1 &&& 1431655765) = nI (p4 (y1 a) (y1 b) (y1 c) (y1 d)) := by
    rw [nI_ushr hn 1 (k := 1) (by decide), show (1431655765 : Int32) = nI 1431655765 from rfl, nI_and, m1, pk_sub (by unfold p4; omega)]
    congr 1
    unfold p4 y1
    omega
  unfold f_Integer_bitCount
  rw [e1]
  generalize y1 a = a at a1 a2 a3 ⊢
  generalize y1 b = b at b1 b2 b3 ⊢
  generalize y1 c = c at c1 c2 c3 ⊢
  generalize y1 d = d at d1 d2 d3 ⊢
  -- two
  have hn2 : p4 a b c d < 4294967296 := by unfold p4; omega
  have l2 : p4 a b c d / 2 ^ 2 = p4 (a / 4 + 64 * (b % 4)) (b / 4 + 64 * (c % 4)) (c / 4 + 64 * (d % 4)) (d / 4) := by
    unfold p4
    omega
  have e2 : (nI (p4 a b c d) &&& 858993459) + (oUshr (nI (p4 a b c d)) 2 &&& 858993459) = nI (p4 (y2 a) (y2 b) (y2 c) (y2 d)) := by
    rw [nI_ushr hn2 2 (k := 2) (by decide), show (858993459 : Int32) = nI (p4 51 51 51 51) from rfl, nI_and, nI_and, l2, and_p4 a1 b1 c1 (by decide) (by decide) (by decide), and_p4 (by omega) (by omega) (by omega) (by decide) (by decide) (by decide)]
    rw [by2 ⟨a, a1⟩ ⟨b % 4, by omega⟩, by2 ⟨b, b1⟩ ⟨c % 4, by omega⟩, by2 ⟨c, c1⟩ ⟨d % 4, by omega⟩, nI_plus]
    congr 1
    unfold p4 y2
    dsimp only
    omega
  rw [e2]
  generalize y2 a = a at a2 a3 ⊢
  generalize y2 b = b at b2 b3 ⊢
  generalize y2 c = c at c2 c3 ⊢
  generalize y2 d = d at d2 d3 ⊢
  -- three
  have hn3 : p4 a b c d < 4294967296 := by unfold p4; omega
  have e3 : (nI (p4 a b c d) + oUshr (nI (p4 a b c d)) 4) &&& 252645135 = nI (p4 (y3 a) (y3 b) (y3 c) (y3 d)) := by
    have l3 : p4 a b c d + p4 a b c d / 2 ^ 4 = p4 (16 * (a / 16 + b % 16) + (a % 16 + a / 16)) (16 * (b / 16 + c % 16) + (b % 16 + b / 16)) (16 * (c / 16 + d % 16) + (c % 16 + c / 16)) (16 * (d / 16) + (d % 16 + d / 16)) := by
      unfold p4
      omega
    rw [nI_ushr hn3 4 (k := 4) (by decide), nI_plus, l3, show (252645135 : Int32) = nI (p4 15 15 15 15) from rfl, nI_and, and_p4 (by omega) (by omega) (by omega) (by decide) (by decide) (by decide)]
    rw [by4 ⟨a / 16 + b % 16, by omega⟩ ⟨a % 16 + a / 16, by omega⟩, by4 ⟨b / 16 + c % 16, by omega⟩ ⟨b % 16 + b / 16, by omega⟩, by4 ⟨c / 16 + d % 16, by omega⟩ ⟨c % 16 + c / 16, by omega⟩, by4 ⟨d / 16, by omega⟩ ⟨d % 16 + d / 16, by omega⟩]
    rfl
  rw [e3]
  have ka : y3 a ≤ 8 := by unfold y3; omega
  have kb : y3 b ≤ 8 := by unfold y3; omega
  have kc : y3 c ≤ 8 := by unfold y3; omega
  have kd : y3 d ≤ 8 := by unfold y3; omega
  generalize y3 a = a at ka ⊢
  generalize y3 b = b at kb ⊢
  generalize y3 c = c at kc ⊢
  generalize y3 d = d at kd ⊢
  have hn4 : p4 a b c d < 4294967296 := by unfold p4; omega
  have q8 : p4 a b c d / 2 ^ 8 = 256 * (256 * d + c) + b := by unfold p4; omega
  have q16 : (p4 a b c d + (256 * (256 * d + c) + b)) / 2 ^ 16 = 256 * d + (c + d) := by unfold p4; omega
  rw [nI_ushr hn4 8 (k := 8) (by decide), q8, nI_plus, nI_ushr (by unfold p4; omega) 16 (k := 16) (by decide), q16, nI_plus, pk_andN (by unfold p4; omega) (m := 63) 6 rfl]
  congr 1
  have q : p4 a b c d + (256 * (256 * d + c) + b) + (256 * d + (c + d)) = 64 * (262144 * d + 1024 * c + 4 * b + 1024 * d + 4 * c + 4 * d) + (a + (b + (c + d))) := by unfold p4; omega
  rw [q]
  omega
end
section
/-! ===== how many cells ===== -/
def sSum (f : Nat → Nat) : Nat → Nat
  | 0 => 0
  | n + 1 => sSum f n + f n
theorem sSum_congr {f g : Nat → Nat} : ∀ {n : Nat}, (∀ k, k < n → f k = g k) → sSum f n = sSum g n
  | 0, _ => rfl
  | n + 1, h => by rw [sSum, sSum, sSum_congr (fun k hk => h k (by omega)), h n (by omega)]
theorem sSum_add (f g : Nat → Nat) : ∀ n, sSum (fun k => f k + g k) n = sSum f n + sSum g n
  | 0 => rfl
  | n + 1 => by
    rw [sSum, sSum, sSum, sSum_add f g n]
    omega
theorem sSum_cnt (p : Nat → Bool) : ∀ n, sSum (fun k => if p k = true then 1 else 0) n = sCnt p n
  | 0 => rfl
  | n + 1 => by rw [sSum, sCnt, sSum_cnt p n]
theorem sSum_le {f : Nat → Nat} {b : Nat} : ∀ {n : Nat}, (∀ k, k < n → f k ≤ b) → sSum f n ≤ n * b
  | 0, _ => by simp [sSum]
  | n + 1, h => by
    have := sSum_le (n := n) (fun k hk => h k (by omega))
    have := h n (by omega)
    rw [sSum, Nat.succ_mul]
    omega
/-- how many cells -/
def sCells (p : Nat → Nat → Bool) : Nat := sCnt (fun c => p (c / 30) (c % 30)) 900
theorem sCells_cols (p : Nat → Nat → Bool) : ∀ m, sCnt (fun c => p (c / 30) (c % 30)) (30 * m) = sSum (fun x => sCnt (fun y => p x y) 30) m
  | 0 => rfl
  | m + 1 => by
    rw [Nat.mul_succ, sCnt_split, sSum, sCells_cols p m]
    congr 1
    refine sCnt_congr (fun k hk => ?_)
    show p ((30 * m + k) / 30) ((30 * m + k) % 30) = p m k
    rw [show (30 * m + k) / 30 = m by omega, show (30 * m + k) % 30 = k by omega]
theorem sSum_swap (p : Nat → Nat → Bool) (n : Nat) : ∀ m, sSum (fun x => sCnt (fun y => p x y) n) m = sSum (fun y => sCnt (fun x => p x y) m) n
  | 0 => by
    have : ∀ n, sSum (fun _ => 0) n = 0 := by
      intro n
      induction n with
      | zero => rfl
      | succ n ih => rw [sSum, ih]
    exact (this n).symm
  | m + 1 => by
    rw [sSum, sSum_swap p n m]
    have : ∀ y, sCnt (fun x => p x y) (m + 1) = sCnt (fun x => p x y) m + (if p m y = true then 1 else 0) := fun y => rfl
    rw [sSum_congr (fun y _ => this y), sSum_add, sSum_cnt (fun y => p m y)]
theorem sCells_rows (p : Nat → Nat → Bool) : sCells p = sSum (fun y => sCnt (fun x => p x y) 30) 30 := by
  rw [← sSum_swap p 30 30]
  exact sCells_cols p 30
theorem sCells_le (p : Nat → Nat → Bool) : sCells p ≤ 900 := sCnt_le _ _
theorem sCnt_30 {q p : Nat → Bool} (h : ∀ x, q x = true ↔ x < 30 ∧ p x = true) : sCnt q 32 = sCnt p 30 := by
  have e : ∀ x, x < 30 → q x = p x := by
    intro x hx
    have := h x
    cases hq : q x <;> cases hp : p x <;> simp_all
  have e30 : q 30 = false := by
    cases hq : q 30 with
    | false => rfl
    | true => exact absurd ((h 30).mp hq).1 (by omega)
  have e31 : q 31 = false := by
    cases hq : q 31 with
    | false => rfl
    | true => exact absurd ((h 31).mp hq).1 (by omega)
  show sCnt q 30 + (if q 30 = true then 1 else 0) + (if q 31 = true then 1 else 0) = _
  rw [e30, e31, sCnt_congr e]
  rfl
theorem rows_cells {q : Nat → Nat → Bool} {p : Nat → Nat → Bool} (h : ∀ y, y < 30 → ∀ x, q y x = true ↔ x < 30 ∧ p x y = true) : sSum (fun y => sCnt (q y) 32) 30 = sCells p := by
  rw [sCells_rows]
  exact sSum_congr (fun y hy => sCnt_30 (h y hy))
theorem c_bits_HROW (M : oM) (i : Nat) : oCt 1 k_Oak_countBits [.inr (K_HROW, i)] M (fun r M' => r = some (nI (sSum (fun y => sCnt (tb (M K_HROW i y)) 32) 30)) ∧ M' = M) := by
  refine oCt.of (ls := [some (.inr (K_HROW, i)), none, none]) mok_Oak_countBits rfl rfl ?_
  refine oRun_ok 4 rfl ?_
  have loop : ∀ (q y : Nat), y + q = 30 → oG k_Oak_countBits 1 4 [some (.inr (K_HROW, i)), some (.inl (nI (sSum (fun y => sCnt (tb (M K_HROW i y)) 32) y))), some (.inl (nI y))] [] M (fun r M' => r = some (nI (sSum (fun y => sCnt (tb (M K_HROW i y)) 32) 30)) ∧ M' = M) := by
    intro q
    induction q with
    | zero =>
      intro y hy
      have hy : y = 30 := by omega
      subst hy
      refine oRun_ok 2 rfl ?_
      refine g_alen rfl rfl rfl rfl ?_
      refine g_ic_ge rfl (fun _ => ?_) (fun h => absurd (Int32.le_refl _) h)
      refine oRun_ok 1 rfl ?_
      exact g_iret rfl rfl rfl ⟨rfl, rfl⟩
    | succ q ih =>
      intro y hy
      refine oRun_ok 2 rfl ?_
      refine g_alen rfl rfl rfl rfl ?_
      refine g_ic_ge rfl (fun h => ?_) (fun _ => ?_)
      · rw [show Int32.ofNat 30 = nI 30 from rfl, nIle (by omega) (by omega)] at h
        omega
      refine oRun_ok 3 rfl ?_
      refine g_iald y rfl rfl rfl (by omega) ?_
      refine g_callS rfl rfl rfl rfl mok_Integer_bitCount (by decide) (c_Integer_bitCount M _) ?_
      rintro r14 M14 ⟨rfl, e⟩; rw [e, bitCount_ok]
      refine oRun_ok 4 rfl ?_
      rw [nI_1, nI_plus]
      exact ih (y + 1) (by omega)
  exact loop 30 0 (by omega)
theorem c_bits_NOB (M : oM) (i : Nat) : oCt 1 k_Oak_countBits [.inr (K_NOB, i)] M (fun r M' => r = some (nI (sSum (fun y => sCnt (tb (M K_NOB i y)) 32) 30)) ∧ M' = M) := by
  refine oCt.of (ls := [some (.inr (K_NOB, i)), none, none]) mok_Oak_countBits rfl rfl ?_
  refine oRun_ok 4 rfl ?_
  have loop : ∀ (q y : Nat), y + q = 30 → oG k_Oak_countBits 1 4 [some (.inr (K_NOB, i)), some (.inl (nI (sSum (fun y => sCnt (tb (M K_NOB i y)) 32) y))), some (.inl (nI y))] [] M (fun r M' => r = some (nI (sSum (fun y => sCnt (tb (M K_NOB i y)) 32) 30)) ∧ M' = M) := by
    intro q
    induction q with
    | zero =>
      intro y hy
      have hy : y = 30 := by omega
      subst hy
      refine oRun_ok 2 rfl ?_
      refine g_alen rfl rfl rfl rfl ?_
      refine g_ic_ge rfl (fun _ => ?_) (fun h => absurd (Int32.le_refl _) h)
      refine oRun_ok 1 rfl ?_
      exact g_iret rfl rfl rfl ⟨rfl, rfl⟩
    | succ q ih =>
      intro y hy
      refine oRun_ok 2 rfl ?_
      refine g_alen rfl rfl rfl rfl ?_
      refine g_ic_ge rfl (fun h => ?_) (fun _ => ?_)
      · rw [show Int32.ofNat 30 = nI 30 from rfl, nIle (by omega) (by omega)] at h
        omega
      refine oRun_ok 3 rfl ?_
      refine g_iald y rfl rfl rfl (by omega) ?_
      refine g_callS rfl rfl rfl rfl mok_Integer_bitCount (by decide) (c_Integer_bitCount M _) ?_
      rintro r14 M14 ⟨rfl, e⟩; rw [e, bitCount_ok]
      refine oRun_ok 4 rfl ?_
      rw [nI_1, nI_plus]
      exact ih (y + 1) (by omega)
  exact loop 30 0 (by omega)
/-- the cells whose owners are not the same -/
theorem c_Cells_countUnlike (M : oM) (c c' n : Nat) (A B : Nat → Nat → Option Nat) (hn : n ≤ 4) (hA : ∀ d, d < n → ∀ y, y < 30 → ∀ x : Nat, tb (M K_HROW (4 * c + d) y) x = true ↔ x < 30 ∧ A x y = some d) (hA0 : ∀ y, y < 30 → ∀ x : Nat, tb (M K_NOB c y) x = true ↔ x < 30 ∧ A x y = none) (hB : ∀ d, d < n → ∀ y, y < 30 → ∀ x : Nat, tb (M K_HROW (4 * c' + d) y) x = true ↔ x < 30 ∧ B x y = some d) (hB0 : ∀ y, y < 30 → ∀ x : Nat, tb (M K_NOB c' y) x = true ↔ x < 30 ∧ B x y = none) (hAn : ∀ x y d, A x y = some d → d < n) :
    oCt 1 k_Cells_countUnlike [.inr (K_CELLS, c), .inr (K_CELLS, c'), .inl (nI n)] M (fun r M' => r = some (nI (sCells (fun x y => decide (¬ A x y = B x y)))) ∧ M' = M) := by
  refine oCt.of (ls := [some (.inr (K_CELLS, c)), some (.inr (K_CELLS, c')), some (.inl (nI n)), none, none, none, none]) mok_Cells_countUnlike rfl rfl ?_
  refine oRun_ok 4 rfl ?_
  have inner : ∀ (q d y : Nat) (v : Int32) (s : Int32) (P : Int32 → Prop), d + q = n → y < 30 → (∀ x, tb v x = true ↔ (Bool.xor (tb (M K_NOB c y) x) (tb (M K_NOB c' y) x) = true ∨ ∃ e, e < d ∧ Bool.xor (tb (M K_HROW (4 * c + e) y) x) (tb (M K_HROW (4 * c' + e) y) x) = true)) → (∀ (v : Int32) (x6 : Option oV), (∀ x, tb v x = true ↔ (Bool.xor (tb (M K_NOB c y) x) (tb (M K_NOB c' y) x) = true ∨ ∃ e, e < n ∧ Bool.xor (tb (M K_HROW (4 * c + e) y) x) (tb (M K_HROW (4 * c' + e) y) x) = true)) → oG k_Cells_countUnlike 1 5 [some (.inr (K_CELLS, c)), some (.inr (K_CELLS, c')), some (.inl (nI n)), some (.inl (s + f_Integer_bitCount v)), some (.inl (nI (y + 1))), some (.inl v), x6] [] M (fun r M' => r = some (nI (sCells (fun x y => decide (¬ A x y = B x y)))) ∧ M' = M)) →
      oG k_Cells_countUnlike 1 32 [some (.inr (K_CELLS, c)), some (.inr (K_CELLS, c')), some (.inl (nI n)), some (.inl s), some (.inl (nI y)), some (.inl v), some (.inl (nI d))] [] M (fun r M' => r = some (nI (sCells (fun x y => decide (¬ A x y = B x y)))) ∧ M' = M) := by
    intro q
    induction q with
    | zero =>
      intro d y v s P hd hy hv kk
      have hd : d = n := by omega
      subst hd
      refine oRun_ok 2 rfl ?_
      refine g_ic_ge rfl (fun _ => ?_) (fun h => absurd (Int32.le_refl _) h)
      refine oRun_ok 2 rfl ?_
      refine g_callS rfl rfl rfl rfl mok_Integer_bitCount (by decide) (c_Integer_bitCount M _) ?_
      rintro r73 M73 ⟨rfl, e⟩; rw [e]
      refine oRun_ok 4 rfl ?_
      rw [nI_1]
      exact kk v _ hv
    | succ q ih =>
      intro d y v s P hd hy hv kk
      refine oRun_ok 2 rfl ?_
      refine g_ic_ge rfl (fun h => ?_) (fun _ => ?_)
      · rw [nIle (by omega) (by omega)] at h
        omega
      refine oRun_ok 4 rfl ?_
      refine g_aald d rfl rfl rfl (by omega) rfl ?_
      refine oRun_ok 1 rfl ?_
      refine g_iald y rfl rfl rfl hy ?_
      refine oRun_ok 3 rfl ?_
      refine g_aald d rfl rfl rfl (by omega) rfl ?_
      refine oRun_ok 1 rfl ?_
      refine g_iald y rfl rfl rfl hy ?_
      refine oRun_ok 5 rfl ?_
      rw [nI_1]
      refine ih (d + 1) y _ s P (by omega) hy (fun x => ?_) kk
      rw [tb_or, tb_xor, Bool.or_eq_true, hv x]
      constructor
      · rintro ((q | ⟨e, he, q⟩) | q)
        · exact Or.inl q
        · exact Or.inr ⟨e, by omega, q⟩
        · exact Or.inr ⟨d, by omega, q⟩
      · rintro (q | ⟨e, he, q⟩)
        · exact Or.inl (Or.inl q)
        · by_cases z : e = d
          · subst z
            exact Or.inr q
          · exact Or.inl (Or.inr ⟨e, by omega, q⟩)
  have loop : ∀ (q y : Nat) (x5 x6 : Option oV), y + q = 30 → oG k_Cells_countUnlike 1 5 [some (.inr (K_CELLS, c)), some (.inr (K_CELLS, c')), some (.inl (nI n)), some (.inl (nI (sSum (fun y => sCnt (fun x => decide (¬ A x y = B x y)) 30) y))), some (.inl (nI y)), x5, x6] [] M (fun r M' => r = some (nI (sCells (fun x y => decide (¬ A x y = B x y)))) ∧ M' = M) := by
    intro q
    induction q with
    | zero =>
      intro y x5 x6 hy
      have hy : y = 30 := by omega
      subst hy
      refine oRun_ok 2 rfl ?_
      refine g_ic_ge rfl (fun _ => ?_) (fun h => absurd (Int32.le_refl _) h)
      refine oRun_ok 1 rfl ?_
      refine g_iret rfl rfl rfl ⟨?_, rfl⟩
      rw [sCells_rows]
    | succ q ih =>
      intro y x5 x6 hy
      refine oRun_ok 2 rfl ?_
      refine g_ic_ge rfl (fun h => ?_) (fun _ => ?_)
      · rw [show (30 : Int32) = nI 30 from rfl, nIle (by omega) (by omega)] at h
        omega
      refine oRun_ok 3 rfl ?_
      refine g_iald y rfl rfl rfl (by omega) ?_
      refine oRun_ok 3 rfl ?_
      refine g_iald y rfl rfl rfl (by omega) ?_
      refine oRun_ok 4 rfl ?_
      refine inner n 0 y _ _ (fun _ => True) (by omega) (by omega) (fun x => ?_) (fun v x6' hv => ?_)
      · rw [tb_xor]
        exact ⟨Or.inl, fun q => q.elim id (fun ⟨e, he, _⟩ => absurd he (by omega))⟩
      · rw [bitCount_ok, nI_plus]
        have e : sCnt (tb v) 32 = sCnt (fun x => decide (¬ A x y = B x y)) 30 := by
          refine sCnt_30 (fun x => ?_)
          rw [hv x, decide_eq_true_eq]
          have hy30 : y < 30 := by omega
          have xr : ∀ a b : Bool, Bool.xor a b = true ↔ ¬ (a = true ↔ b = true) := by decide
          rw [xr, hA0 y hy30 x, hB0 y hy30 x]
          constructor
          · rintro (q | ⟨e, he, q⟩)
            · by_cases hx : x < 30
              · refine ⟨hx, fun z => q ?_⟩
                rw [z]
              · exact absurd ⟨fun z => absurd z.1 hx, fun z => absurd z.1 hx⟩ q
            · rw [xr, hA e he y hy30 x, hB e he y hy30 x] at q
              by_cases hx : x < 30
              · refine ⟨hx, fun z => q ?_⟩
                rw [z]
              · exact absurd ⟨fun z => absurd z.1 hx, fun z => absurd z.1 hx⟩ q
          · rintro ⟨hx, q⟩
            cases ha : A x y with
            | none =>
              refine Or.inl (fun z => q ?_)
              rw [ha]
              exact ((z.mp ⟨hx, rfl⟩).2).symm
            | some d =>
              refine Or.inr ⟨d, hAn x y d ha, ?_⟩
              rw [xr, hA d (hAn x y d ha) y hy30 x, hB d (hAn x y d ha) y hy30 x]
              intro z
              refine q ?_
              rw [ha]
              exact ((z.mp ⟨hx, ha⟩).2).symm
        rw [e]
        exact ih (y + 1) _ _ (by omega)
  exact loop 30 0 _ _ (by omega)
end
section
/-! ===== Model: reads ===== -/
theorem nI_times (a b : Nat) : nI a * nI b = nI (a * b) := by
  apply Int32.toBitVec_inj.mp
  show BitVec.ofNat 32 a * BitVec.ofNat 32 b = BitVec.ofNat 32 (a * b)
  rw [BitVec.ofNat_mul]
theorem L1 : (1 : Int32) = nI 1 := rfl
theorem L2 : (2 : Int32) = nI 2 := rfl
theorem L3 : (3 : Int32) = nI 3 := rfl
theorem L4 : (4 : Int32) = nI 4 := rfl
theorem L5 : (5 : Int32) = nI 5 := rfl
theorem L20 : (20 : Int32) = nI 20 := rfl
theorem L24 : (24 : Int32) = nI 24 := rfl
theorem L30 : (30 : Int32) = nI 30 := rfl
theorem L35 : (35 : Int32) = nI 35 := rfl
theorem L96 : (96 : Int32) = nI 96 := rfl
theorem L160 : (160 : Int32) = nI 160 := rfl
theorem L188 : (188 : Int32) = nI 188 := rfl
theorem c_Mod_isStone (M : oM) (v : Int32) : oCt 1 k_Mod_isStone [.inr (K_MOD, 0), .inl v] M (fun r M' => r = some (f_Oak_isWithin v 0 (M K_M_now 0 1 - 1)) ∧ M' = M) := by
  refine oCt.of (ls := [some (.inr (K_MOD, 0)), some (.inl v)]) mok_Mod_isStone rfl rfl ?_
  refine oRun_ok 5 rfl ?_
  refine g_iald 1 rfl rfl rfl (by decide) ?_
  refine oRun_ok 2 rfl ?_
  refine g_callS rfl rfl rfl rfl mok_Mod_in (by decide) (c_Mod_in M _ _ _) ?_
  rintro r10 M10 ⟨rfl, e⟩; rw [e]
  exact g_iret rfl rfl (n_Mod_in _ _ _) ⟨rfl, rfl⟩
theorem c_Mod_isDeed (M : oM) (v : Int32) : oCt 1 k_Mod_isDeed [.inr (K_MOD, 0), .inl v] M (fun r M' => r = some (f_Oak_isWithin v 0 (M K_M_now 0 2 - 1)) ∧ M' = M) := by
  refine oCt.of (ls := [some (.inr (K_MOD, 0)), some (.inl v)]) mok_Mod_isDeed rfl rfl ?_
  refine oRun_ok 5 rfl ?_
  refine g_iald 2 rfl rfl rfl (by decide) ?_
  refine oRun_ok 2 rfl ?_
  refine g_callS rfl rfl rfl rfl mok_Mod_in (by decide) (c_Mod_in M _ _ _) ?_
  rintro r10 M10 ⟨rfl, e⟩; rw [e]
  exact g_iret rfl rfl (n_Mod_in _ _ _) ⟨rfl, rfl⟩
theorem c_Mod_of (M : oM) (d w : Nat) (hd : d < 4) (hw : w < 35) : oCt 0 k_Mod_of [.inr (K_MOD, 0), .inl (nI d), .inl (nI w)] M (fun r M' => r = some (M K_M_now 0 (20 + 35 * d + w)) ∧ M' = M) := by
  refine oCt.of (ls := [some (.inr (K_MOD, 0)), some (.inl (nI d)), some (.inl (nI w))]) mok_Mod_of rfl rfl ?_
  refine oRun_ok 9 rfl ?_
  refine g_iald (20 + 35 * d + w) rfl rfl (by simp only [L20, L35, nI_times, nI_plus]) (by omega) ?_
  exact g_iret rfl rfl rfl ⟨rfl, rfl⟩
theorem c_Mod_callOf (M : oM) (d j w : Nat) (hd : d < 4) (hj : j < 10) (hw : w < 3) : oCt 0 k_Mod_callOf [.inr (K_MOD, 0), .inl (nI d), .inl (nI j), .inl (nI w)] M (fun r M' => r = some (M K_M_now 0 (20 + 35 * d + 5 + 3 * j + w)) ∧ M' = M) := by
  refine oCt.of (ls := [some (.inr (K_MOD, 0)), some (.inl (nI d)), some (.inl (nI j)), some (.inl (nI w))]) mok_Mod_callOf rfl rfl ?_
  refine oRun_ok 15 rfl ?_
  refine g_iald (20 + 35 * d + 5 + 3 * j + w) rfl rfl (by simp only [L20, L35, L5, L3, nI_times, nI_plus]) (by omega) ?_
  exact g_iret rfl rfl rfl ⟨rfl, rfl⟩
/-- the one that counts, as the model tells it -/
theorem c_Mod_counts (M : oM) (key : Int32) (hN : oNOk (M K_M_now 0)) : oCt 0 k_Mod_counts [.inr (K_MOD, 0), .inl key] M (fun r M' => r = some (oFst (oLast (M K_M_now 0) key (cT (M K_M_now 0)))) ∧ M' = M) := by
  obtain ⟨hT, t14⟩ := oNT hN
  generalize hn : M K_M_now 0 = N at hN hT t14 ⊢
  refine oCt.of (ls := [some (.inr (K_MOD, 0)), some (.inl key), none]) mok_Mod_counts rfl rfl ?_
  have loop : ∀ (t : Nat), t ≤ 14 → oLast N key (cT N) = oLast N key t → oG k_Mod_counts 0 9 [some (.inr (K_MOD, 0)), some (.inl key), some (.inl (nI t - 1))] [] M (fun r M' => r = some (oFst (oLast N key (cT N))) ∧ M' = M) := by
    intro t
    induction t with
    | zero =>
      intro _ he
      refine oRun_ok 1 rfl ?_
      refine g_if_lt rfl (fun h10 => ?_) (fun h10 => absurd (by decide) h10)
      refine oRun_ok 1 rfl ?_
      exact g_iret rfl rfl rfl ⟨by rw [he]; rfl, rfl⟩
    | succ t ih =>
      intro ht he
      rw [nI_pred]
      refine oRun_ok 1 rfl ?_
      refine g_if_lt rfl (fun h10 => absurd h10 (nI_pos (by omega))) (fun h10 => ?_)
      refine oRun_ok 7 rfl ?_
      refine g_iald (160 + 2 * t) rfl rfl (by simp only [L160, L2, nI_times, nI_plus]) (by omega) ?_
      rw [show M 32 0 = N from hn]
      refine oRun_ok 3 rfl ?_
      rw [show oLast N key (t + 1) = if tK N t = key then some t else oLast N key t from rfl] at he
      refine g_ic_ne rfl (fun h30 => ?_) (fun h30 => ?_)
      · have h30 : ¬ tK N t = key := h30
        refine oRun_ok 2 rfl ?_
        rw [if_neg h30] at he
        rw [← Int32.sub_eq_add_neg]
        exact ih (by omega) he
      · have h30 : tK N t = key := h30
        refine oRun_ok 1 rfl ?_
        rw [if_pos h30] at he
        exact g_iret rfl rfl rfl ⟨by rw [he]; rfl, rfl⟩
  refine oRun_ok 3 rfl ?_
  refine g_iald 3 rfl rfl rfl (by decide) ?_
  rw [show M 32 0 = N from hn, hT]
  refine oRun_ok 3 rfl ?_
  exact loop (cT N) t14 rfl
theorem c_Mod_isCall (M : oM) (d c : Int32) (hN : oNOk (M K_M_now 0)) : oCt 2 k_Mod_isCall [.inr (K_MOD, 0), .inl d, .inl c] M (fun r M' => r = some (if f_Oak_isWithin d 0 (M K_M_now 0 2 - 1) = 0 then 0 else if f_Oak_isWithin c 0 (M K_M_now 0 (20 + 35 * d.toNatClampNeg + 4) - 1) = 0 then 0 else 1) ∧ M' = M) := by
  obtain ⟨hD, d4⟩ := oND hN
  refine oCt.of (ls := [some (.inr (K_MOD, 0)), some (.inl d), some (.inl c)]) mok_Mod_isCall rfl rfl ?_
  refine oRun_ok 2 rfl ?_
  refine g_callV rfl rfl rfl rfl rfl mok_Mod_isDeed (by decide) (c_Mod_isDeed M d) ?_
  rintro r2 M2 ⟨rfl, e⟩; rw [e]
  refine g_if_eq rfl (fun h5 => ?_) (fun h5 => ?_)
  · refine oRun_ok 1 rfl ?_
    exact g_iret rfl rfl rfl ⟨by rw [if_pos h5], rfl⟩
  · have h5' := h5
    rw [hD] at h5
    obtain ⟨j, hj, rfl⟩ := wiI (by omega) h5
    rw [if_neg h5', nIc (by omega)]
    refine oRun_ok 5 rfl ?_
    refine g_callV rfl rfl rfl rfl rfl mok_Mod_of (by decide) (c_Mod_of M j 4 (by omega) (by decide)) ?_
    rintro r13 M13 ⟨rfl, e⟩; rw [e]
    refine oRun_ok 2 rfl ?_
    refine g_callS rfl rfl rfl rfl mok_Mod_in (by decide) (c_Mod_in M _ _ _) ?_
    rintro r18 M18 ⟨rfl, e⟩; rw [e]
    refine g_if_eq rfl (fun h21 => ?_) (fun h21 => ?_)
    · refine oRun_ok 1 rfl ?_
      exact g_iret rfl rfl rfl ⟨by rw [if_pos (show f_Oak_isWithin c 0 (M K_M_now 0 (20 + 35 * j + 4) - 1) = 0 from h21)], rfl⟩
    · refine oRun_ok 2 rfl ?_
      exact g_iret rfl rfl rfl ⟨by rw [if_neg (show ¬ f_Oak_isWithin c 0 (M K_M_now 0 (20 + 35 * j + 4) - 1) = 0 from h21)], rfl⟩
set_option maxRecDepth 4000 in
theorem c_Mod_worksOut (M : oM) (N g : Nat → Int32) (t : Nat) (hn : M K_M_now 0 = N) (hT : oTOk N t) (ht : t < 14) (hg : ∀ j : Nat, (j : Int) ≤ (tK N t).toInt → M K_M_facts 0 j = g j) :
    oCt 1 k_Mod_worksOut [.inr (K_MOD, 0), .inl (nI t)] M (fun r M' => r = some (oVal g N t) ∧ oFr (oKs K_M_stack) M M') := by
  obtain ⟨hT1, hT2, hT3, hT4⟩ := hT
  have hkr : 0 ≤ (tK N t).toInt ∧ (tK N t).toInt ≤ 2 := by
    have e : (tK N t).toInt = (N (160 + 2 * t)).toInt.tdiv 1000 := iDiv (Or.inl (by have := hT1.1; omega))
    rw [e, Int.tdiv_eq_ediv_of_nonneg hT1.1]
    have := hT1.2
    have := hT1.1
    omega
  have hmany : oRem (N (160 + 2 * t)) 1000 = nI (tN N t) := by
    have e := nI_ofInt hT1.1
    unfold tN
    generalize N (160 + 2 * t) = v at e hT1 ⊢
    rw [e, show (1000 : Int32) = nI 1000 from rfl, nIrem (by have := hT1.2; omega) (by decide) (by decide), nIc (by omega)]
  refine oCt.of (ls := [some (.inr (K_MOD, 0)), some (.inl (nI t)), none, none, none, none]) mok_Mod_worksOut rfl rfl ?_
  refine oRun_ok 9 rfl ?_
  refine g_iald (160 + 2 * t) rfl rfl (by simp only [L160, L2, nI_times, nI_plus]) (by omega) ?_
  rw [show M 32 0 = N from hn]
  refine oRun_ok 5 rfl ?_
  rw [hmany]
  have loop : ∀ (q k h : Nat) (M1 : oM) (x5 : Option oV), k + q = tN N t → oDp (tC N t) k = some h → (∀ j, j < h → M1 K_M_stack 0 j = (oEv g (tC N t) k).2 j) → oFr (oKs K_M_stack) M M1 → oG k_Mod_worksOut 1 22 [some (.inr (K_MOD, 0)), some (.inl (nI t)), some (.inl (nI h)), some (.inl (nI (tN N t))), some (.inl (nI k)), x5] [] M1 (fun r M' => r = some (oVal g N t) ∧ oFr (oKs K_M_stack) M M') := by
    intro q
    induction q with
    | zero =>
      intro k h M1 x5 hk hd ha hf
      have hk : k = tN N t := by omega
      subst hk
      have hh : h = 1 := Option.some.inj (hd.symm.trans hT3)
      subst hh
      refine oRun_ok 2 rfl ?_
      refine g_ic_ge rfl (fun _ => ?_) (fun h => absurd (Int32.le_refl _) h)
      refine oRun_ok 3 rfl ?_
      refine g_iald 0 rfl rfl rfl (by decide) ?_
      exact g_iret rfl rfl rfl ⟨by rw [ha 0 (by decide)]; rfl, hf⟩
    | succ q ih =>
      intro k h M1 x5 hk hd ha hf
      obtain ⟨hE, hhk⟩ := oDp_h g k h hd
      obtain ⟨h', hd'⟩ := oDp_back (k := k + 1) hT3 (by omega)
      have hd' : oDp (tC N t) (k + 1) = some h' := hd'
      have eN : M1 32 0 = N := (hf K_M_now 0 (show ¬ K_M_now = K_M_stack by decide)).trans hn
      have eF : M1 50 0 = M K_M_facts 0 := hf K_M_facts 0 (show ¬ K_M_facts = K_M_stack by decide)
      have hck := hT4 k (by omega)
      refine oRun_ok 2 rfl ?_
      refine g_ic_ge rfl (fun h25 => ?_) (fun _ => ?_)
      · rw [nIle (by omega) (by omega)] at h25
        omega
      refine oRun_ok 9 rfl ?_
      refine g_iald (188 + 96 * t + k) rfl rfl (by simp only [L188, L96, nI_times, nI_plus]) (by omega) ?_
      rw [eN]
      refine oRun_ok 2 rfl ?_
      have fin : ∀ (M2 : oM) (v : Int32), oDp (tC N t) (k + 1) = some h' → (∀ j, j < h' → M2 K_M_stack 0 j = (oEv g (tC N t) (k + 1)).2 j) → oFr (oKs K_M_stack) M M2 → oG k_Mod_worksOut 1 151 [some (.inr (K_MOD, 0)), some (.inl (nI t)), some (.inl (nI h')), some (.inl (nI (tN N t))), some (.inl (nI k)), some (.inl v)] [] M2 (fun r M' => r = some (oVal g N t) ∧ oFr (oKs K_M_stack) M M') := by
        intro M2 v q1 q2 q3
        refine oRun_ok 2 rfl ?_
        rw [nI_1]
        exact ih (k + 1) h' M2 _ (by omega) q1 q2 q3
      refine g_if_lt rfl (fun h48 => ?_) (fun h48 => ?_)
      · have hneg : ¬ 0 ≤ tC N t k := fun q => Int32.lt_irrefl (Int32.lt_of_lt_of_le h48 q)
        refine oRun_ok 2 rfl ?_
        refine g_ic_ne rfl (fun h91 => ?_) (fun h91 => ?_)
        · have h91 : ¬ tC N t k = -10 := h91
          obtain ⟨z1, rfl⟩ := oDp_two hd hneg h91 hd'
          have hev := oEv_two (g := g) hneg h91
          obtain ⟨m, rfl⟩ : ∃ m, h = m + 2 := ⟨h - 2, by omega⟩
          have em1 : nI (m + 2) + -1 = nI (m + 1) := by rw [← Int32.sub_eq_add_neg]; exact nIsub (a := m + 2) (b := 1) (by omega)
          have em2 : nI (m + 1) - 1 = nI m := nIsub (a := m + 1) (b := 1) (by omega)
          refine oRun_ok 12 rfl ?_
          rw [em1, em2]
          refine g_iald m rfl rfl rfl (by omega) ?_
          refine oRun_ok 3 rfl ?_
          refine g_iald (m + 1) rfl rfl rfl (by omega) ?_
          refine g_callS rfl rfl rfl rfl mok_Mod_two (by decide) (c_Mod_two M1 _ _ _) ?_
          rintro r147 M147 ⟨rfl, e⟩; rw [e]
          refine g_iast m rfl rfl rfl (by omega) ?_
          refine fin _ _ hd' (fun j hj => ?_) (hf.up rfl)
          rw [hev, hE]
          show oUp M1 49 0 m _ 49 0 j = upd _ m _ j
          by_cases z : j = m
          · subst z
            rw [oUp_self, upd_eq, show M1 49 0 j = _ from ha j (by omega), show M1 49 0 (j + 1) = _ from ha (j + 1) (by omega)]
            rfl
          · rw [oUp_j z, upd_ne z]
            exact ha j (by omega)
        · have h91 : tC N t k = -10 := h91
          obtain ⟨z1, rfl⟩ := oDp_not hd h91 hd'
          have hev := oEv_not (g := g) h91
          obtain ⟨m, rfl⟩ : ∃ m, h' = m + 1 := ⟨h' - 1, by omega⟩
          have em2 : nI (m + 1) - 1 = nI m := nIsub (a := m + 1) (b := 1) (by omega)
          refine oRun_ok 10 rfl ?_
          rw [em2]
          refine g_iald m rfl rfl rfl (by omega) ?_
          have put : ∀ v, v = (if M1 49 0 m = 0 then (1 : Int32) else 0) → oG k_Mod_worksOut 1 117 [some (.inr (K_MOD, 0)), some (.inl (nI t)), some (.inl (nI (m + 1))), some (.inl (nI (tN N t))), some (.inl (nI k)), some (.inl (N (188 + 96 * t + k)))] [.inl v, .inl (nI m), .inr (K_M_stack, 0)] M1 (fun r M' => r = some (oVal g N t) ∧ oFr (oKs K_M_stack) M M') := by
            rintro v rfl
            refine g_iast m rfl rfl rfl (by omega) ?_
            refine oRun_ok 1 rfl ?_
            refine fin _ _ hd' (fun j hj => ?_) (hf.up rfl)
            rw [hev, hE]
            show oUp M1 49 0 m _ 49 0 j = upd _ m _ j
            by_cases z : j = m
            · subst z
              rw [oUp_self, upd_eq, show M1 49 0 j = _ from ha j (by omega)]
              rfl
            · rw [oUp_j z, upd_ne z]
              exact ha j (by omega)
          refine g_if_ne rfl (fun h109 => ?_) (fun h109 => ?_)
          · refine oRun_ok 1 rfl ?_
            exact put 0 (by rw [if_neg h109])
          · refine oRun_ok 2 rfl ?_
            exact put 1 (by
              have h109 : M1 49 0 m = 0 := by simpa using h109
              rw [if_pos h109])
      · have hpos : 0 ≤ tC N t k := Int32.not_lt.mp h48
        have hev := oEv_pos (g := g) hpos
        have ehh := oDp_pos hd hpos
        rw [hd'] at ehh
        cases ehh
        have put : ∀ v, v = (if tC N t k < 10000 then tC N t k else g (tC N t k - 10000).toNatClampNeg) → oG k_Mod_worksOut 1 80 [some (.inr (K_MOD, 0)), some (.inl (nI t)), some (.inl (nI h)), some (.inl (nI (tN N t))), some (.inl (nI k)), some (.inl (N (188 + 96 * t + k)))] [.inl v, .inl (nI h), .inr (K_M_stack, 0)] M1 (fun r M' => r = some (oVal g N t) ∧ oFr (oKs K_M_stack) M M') := by
          rintro v rfl
          refine g_iast h rfl rfl rfl (by omega) ?_
          refine oRun_ok 2 rfl ?_
          rw [nI_1]
          refine fin _ _ hd' (fun j hj => ?_) (hf.up rfl)
          rw [hev, hE]
          show oUp M1 49 0 h _ 49 0 j = upd _ h _ j
          by_cases z : j = h
          · subst z
            rw [oUp_self, upd_eq]
          · rw [oUp_j z, upd_ne z]
            exact ha j (by omega)
        refine oRun_ok 5 rfl ?_
        refine g_ic_ge rfl (fun h61 => ?_) (fun h61 => ?_)
        · have h61' := iLe.mp h61
          have hc2 : (tC N t k).toInt ≤ 10000 + (tK N t).toInt := hck.2
          have t10 : (10000 : Int32).toInt = 10000 := rfl
          rw [t10] at h61'
          have e1 : (tC N t k - 10000).toInt = (tC N t k).toInt - 10000 := by
            have := iRng (tC N t k)
            have h0 : 10000 ≤ (tC N t k).toInt := h61'
            rw [iSub (by rw [t10]; omega), t10]
          have h0 : 10000 ≤ (tC N t k).toInt := h61'
          obtain ⟨j, hj, ej⟩ := nI_ex (v := tC N t k - 10000) (n := 4) (by omega) (by omega)
          refine oRun_ok 5 rfl ?_
          refine g_iald j rfl rfl ej (by omega) ?_
          refine put _ ?_
          have hnl : ¬ tC N t k < 10000 := fun q => Int32.lt_irrefl (Int32.lt_of_lt_of_le q h61)
          rw [if_neg hnl, ej, nIc (by omega), eF]
          have e2 := e1
          rw [ej, nIt (by omega)] at e2
          exact hg j (by omega)
        · have h61 : tC N t k < 10000 := Int32.not_le.mp h61
          refine oRun_ok 2 rfl ?_
          exact put _ (by rw [if_pos h61]; rfl)
  exact loop (tN N t) 0 0 M _ (by omega) rfl (fun j hj => absurd hj (by omega)) oFr.rf
/-- what the model's laws write -/
def oMl : Nat → Nat → Prop := fun k _ => k = K_M_stack ∨ k = K_M_facts
theorem oLast_ok {N : Nat → Int32} {key : Int32} {t : Nat} (hN : oNOk N) (h : oLast N key (cT N) = some t) : oTOk N t ∧ t < 14 ∧ tK N t = key := by
  obtain ⟨-, t14⟩ := oNT hN
  obtain ⟨h1, h2⟩ := oLast_lt h
  exact ⟨hN.2.2.2.2.2 t h1, by omega, h2⟩
theorem c_Mod_needleOf (M : oM) (N : Nat → Int32) (d : Nat) (hn : M K_M_now 0 = N) (hN : oNOk N) (hd : d < cD N) : oCt 2 k_Mod_needleOf [.inr (K_MOD, 0), .inl (nI d)] M (fun r M' => r = some (sNd N d) ∧ oFr oMl M M') := by
  obtain ⟨-, d4⟩ := oND hN
  refine oCt.of (ls := [some (.inr (K_MOD, 0)), some (.inl (nI d)), none]) mok_Mod_needleOf rfl rfl ?_
  refine oRun_ok 2 rfl ?_
  refine g_callV rfl rfl rfl rfl rfl mok_Mod_counts (by decide) (c_Mod_counts M 0 (by rw [hn]; exact hN)) ?_
  rintro r2 M2 ⟨rfl, e⟩; rw [e, hn]
  refine oRun_ok 7 rfl ?_
  refine g_callV rfl rfl rfl rfl rfl mok_Mod_of (by decide) (c_Mod_of M d 2 (by omega) (by decide)) ?_
  rintro r14 M14 ⟨rfl, e⟩; rw [e, hn]
  refine g_iast 0 rfl rfl rfl (by decide) ?_
  refine oRun_ok 1 rfl ?_
  have hf : ∀ v, oFr oMl M (oUp M 50 0 0 v) := fun v => oFr.rf.up (Or.inr rfl)
  cases hz : oLast N 0 (cT N) with
  | none =>
    have hs : sNd N d = 0 := by unfold sNd; rw [hz]
    refine g_if_ge rfl (fun h => absurd h (by decide)) (fun _ => ?_)
    refine oRun_ok 2 rfl ?_
    exact g_iret rfl rfl rfl ⟨by rw [hs], hf _⟩
  | some t =>
    obtain ⟨hT, t14, hk⟩ := oLast_ok hN hz
    have hs : sNd N d = oRem (oRem (oVal (gN N d) N t) 8 + 8) 8 := by unfold sNd; rw [hz]
    refine g_if_ge rfl (fun _ => ?_) (fun h => absurd (Int32.not_lt.mp (nI_pos (by omega))) h)
    refine oRun_ok 2 rfl ?_
    refine g_callV rfl rfl rfl rfl rfl mok_Mod_worksOut (by decide) (c_Mod_worksOut _ N (gN N d) t (by rw [oUp_k (by decide)]; exact hn) hT t14 (fun j hj => ?_)) ?_
    · rw [hk, show (0 : Int32).toInt = 0 from rfl] at hj
      have hj : j = 0 := by omega
      subst hj
      exact oUp_self
    rintro r28 M28 ⟨rfl, f28⟩
    refine oRun_ok 6 rfl ?_
    exact g_iret rfl rfl rfl ⟨by rw [hs], (hf _).tr (f28.mono (fun k i q => Or.inl q))⟩
theorem c_Mod_chainOf (M : oM) (N : Nat → Int32) (d : Nat) (hn : M K_M_now 0 = N) (hN : oNOk N) (hd : d < cD N) : oCt 2 k_Mod_chainOf [.inr (K_MOD, 0), .inl (nI d)] M (fun r M' => r = some (sCh N d) ∧ oFr oMl M M') := by
  obtain ⟨-, d4⟩ := oND hN
  refine oCt.of (ls := [some (.inr (K_MOD, 0)), some (.inl (nI d)), none]) mok_Mod_chainOf rfl rfl ?_
  refine oRun_ok 2 rfl ?_
  refine g_callV rfl rfl rfl rfl rfl mok_Mod_counts (by decide) (c_Mod_counts M 1 (by rw [hn]; exact hN)) ?_
  rintro r2 M2 ⟨rfl, e⟩; rw [e, hn]
  refine oRun_ok 7 rfl ?_
  refine g_callV rfl rfl rfl rfl rfl mok_Mod_of (by decide) (c_Mod_of M d 2 (by omega) (by decide)) ?_
  rintro r14 M14 ⟨rfl, e⟩; rw [e, hn]
  refine g_iast 0 rfl rfl rfl (by decide) ?_
  refine oRun_ok 6 rfl ?_
  refine g_callV rfl rfl rfl rfl rfl mok_Mod_of (by decide) (c_Mod_of _ d 3 (by omega) (by decide)) ?_
  rintro r26 M26 ⟨rfl, e⟩; rw [e, oUp_k (by decide), hn]
  refine g_iast 1 rfl rfl rfl (by decide) ?_
  have en : (oUp (oUp M 50 0 0 (N (20 + 35 * d + 2))) 50 0 1 (N (20 + 35 * d + 3))) K_M_now 0 = N := by
    rw [oUp_k (by decide), oUp_k (by decide)]
    exact hn
  have hf : oFr oMl M (oUp (oUp M 50 0 0 (N (20 + 35 * d + 2))) 50 0 1 (N (20 + 35 * d + 3))) := (oFr.rf.up (Or.inr rfl)).up (Or.inr rfl)
  have hg : ∀ j : Nat, j ≤ 1 → (oUp (oUp M 50 0 0 (N (20 + 35 * d + 2))) 50 0 1 (N (20 + 35 * d + 3))) K_M_facts 0 j = gC N d j := by
    intro j hj
    by_cases z : j = 0
    · subst z
      exact (oUp_j (by decide)).trans oUp_self
    · have hj : j = 1 := by omega
      subst hj
      exact oUp_self
  refine oRun_ok 1 rfl ?_
  generalize oUp (oUp M 50 0 0 (N (20 + 35 * d + 2))) 50 0 1 (N (20 + 35 * d + 3)) = M1 at en hf hg ⊢
  cases hz : oLast N 1 (cT N) with
  | none =>
    have hs : sCh N d = N (20 + 35 * d + 3) := by unfold sCh; rw [hz]
    refine g_if_ge rfl (fun h => absurd h (by decide)) (fun _ => ?_)
    refine oRun_ok 3 rfl ?_
    refine g_callV rfl rfl rfl rfl rfl mok_Mod_of (by decide) (c_Mod_of M1 d 3 (by omega) (by decide)) ?_
    rintro r37 M37 ⟨rfl, e⟩; rw [e, en]
    refine oRun_ok 1 rfl ?_
    exact g_iret rfl rfl rfl ⟨by rw [hs], hf⟩
  | some t =>
    obtain ⟨hT, t14, hk⟩ := oLast_ok hN hz
    have hs : sCh N d = f_Mod_within (oVal (gC N d) N t) (-9) 9 := by unfold sCh; rw [hz]
    refine g_if_ge rfl (fun _ => ?_) (fun h => absurd (Int32.not_lt.mp (nI_pos (by omega))) h)
    refine oRun_ok 2 rfl ?_
    refine g_callV rfl rfl rfl rfl rfl mok_Mod_worksOut (by decide) (c_Mod_worksOut M1 N (gC N d) t en hT t14 (fun j hj => ?_)) ?_
    · rw [hk, show (1 : Int32).toInt = 1 from rfl] at hj
      exact hg j (by omega)
    rintro r45 M45 ⟨rfl, f45⟩
    refine oRun_ok 2 rfl ?_
    refine g_callS rfl rfl rfl rfl mok_Mod_within (by decide) (c_Mod_within M45 _ _ _) ?_
    rintro r52 M52 ⟨rfl, e⟩; rw [e]
    exact g_iret rfl rfl rfl ⟨by rw [hs], hf.tr (f45.mono (fun k i q => Or.inl q))⟩
theorem c_Mod_rankOf (M : oM) (N : Nat → Int32) (d : Nat) (hn : M K_M_now 0 = N) (hN : oNOk N) (hd : d < cD N) : oCt 2 k_Mod_rankOf [.inr (K_MOD, 0), .inl (nI d)] M (fun r M' => r = some (sRk N d) ∧ oFr oMl M M') := by
  obtain ⟨-, d4⟩ := oND hN
  refine oCt.of (ls := [some (.inr (K_MOD, 0)), some (.inl (nI d)), none]) mok_Mod_rankOf rfl rfl ?_
  refine oRun_ok 2 rfl ?_
  refine g_callV rfl rfl rfl rfl rfl mok_Mod_counts (by decide) (c_Mod_counts M 2 (by rw [hn]; exact hN)) ?_
  rintro r2 M2 ⟨rfl, e⟩; rw [e, hn]
  refine oRun_ok 7 rfl ?_
  refine g_callV rfl rfl rfl rfl rfl mok_Mod_of (by decide) (c_Mod_of M d 2 (by omega) (by decide)) ?_
  rintro r14 M14 ⟨rfl, e⟩; rw [e, hn]
  refine g_iast 0 rfl rfl rfl (by decide) ?_
  refine oRun_ok 4 rfl ?_
  refine g_iast 1 rfl rfl rfl (by decide) ?_
  refine oRun_ok 6 rfl ?_
  refine g_callV rfl rfl rfl rfl rfl mok_Mod_of (by decide) (c_Mod_of _ d 4 (by omega) (by decide)) ?_
  rintro r33 M33 ⟨rfl, e⟩; rw [e, oUp_k (by decide), oUp_k (by decide), hn]
  refine g_iast 2 rfl rfl rfl (by decide) ?_
  have en : (oUp (oUp (oUp M 50 0 0 (N (20 + 35 * d + 2))) 50 0 1 (nI d)) 50 0 2 (N (20 + 35 * d + 4))) K_M_now 0 = N := by
    rw [oUp_k (by decide), oUp_k (by decide), oUp_k (by decide)]
    exact hn
  have hf : oFr oMl M (oUp (oUp (oUp M 50 0 0 (N (20 + 35 * d + 2))) 50 0 1 (nI d)) 50 0 2 (N (20 + 35 * d + 4))) := ((oFr.rf.up (Or.inr rfl)).up (Or.inr rfl)).up (Or.inr rfl)
  have hg : ∀ j : Nat, j ≤ 2 → (oUp (oUp (oUp M 50 0 0 (N (20 + 35 * d + 2))) 50 0 1 (nI d)) 50 0 2 (N (20 + 35 * d + 4))) K_M_facts 0 j = gF N d j := by
    intro j hj
    by_cases z : j = 0
    · subst z
      exact (oUp_j (by decide)).trans ((oUp_j (by decide)).trans oUp_self)
    · by_cases z1 : j = 1
      · subst z1
        exact (oUp_j (by decide)).trans oUp_self
      · have hj : j = 2 := by omega
        subst hj
        exact oUp_self
  refine oRun_ok 1 rfl ?_
  generalize oUp (oUp (oUp M 50 0 0 (N (20 + 35 * d + 2))) 50 0 1 (nI d)) 50 0 2 (N (20 + 35 * d + 4)) = M1 at en hf hg ⊢
  cases hz : oLast N 2 (cT N) with
  | none =>
    have hs : sRk N d = N (20 + 35 * d + 2) := by unfold sRk; rw [hz]
    refine g_if_ge rfl (fun h => absurd h (by decide)) (fun _ => ?_)
    refine oRun_ok 3 rfl ?_
    refine g_callV rfl rfl rfl rfl rfl mok_Mod_of (by decide) (c_Mod_of M1 d 2 (by omega) (by decide)) ?_
    rintro r44 M44 ⟨rfl, e⟩; rw [e, en]
    refine oRun_ok 1 rfl ?_
    exact g_iret rfl rfl rfl ⟨by rw [hs], hf⟩
  | some t =>
    obtain ⟨hT, t14, hk⟩ := oLast_ok hN hz
    have hs : sRk N d = oVal (gF N d) N t := by unfold sRk; rw [hz]
    refine g_if_ge rfl (fun _ => ?_) (fun h => absurd (Int32.not_lt.mp (nI_pos (by omega))) h)
    refine oRun_ok 2 rfl ?_
    refine g_callV rfl rfl rfl rfl rfl mok_Mod_worksOut (by decide) (c_Mod_worksOut M1 N (gF N d) t en hT t14 (fun j hj => ?_)) ?_
    · rw [hk, show (2 : Int32).toInt = 2 from rfl] at hj
      exact hg j (by omega)
    rintro r52 M52 ⟨rfl, f52⟩
    exact g_iret rfl rfl rfl ⟨by rw [hs], hf.tr (f52.mono (fun k i q => Or.inl q))⟩
end
section
/-! ===== Model: the walk ===== -/
/-- what the model's walk writes -/
def oMw : Nat → Nat → Prop := fun k _ => k = K_M_cornerX ∨ k = K_M_cornerY
/-- a corner is set -/
def oWr (M M1 : oM) (k : Nat) (X Y : Int32) : Prop := (∀ j, M1 K_M_cornerX 0 j = if j = k then X else M K_M_cornerX 0 j) ∧ (∀ j, M1 K_M_cornerY 0 j = if j = k then Y else M K_M_cornerY 0 j) ∧ oFr oMw M M1
theorem oWr_x {M M1 : oM} {k : Nat} {X Y X' : Int32} (h : oWr M M1 k X Y) : oWr M (oUp M1 38 0 k X') k X' Y := by
  obtain ⟨h1, h2, h3⟩ := h
  refine ⟨fun j => ?_, fun j => ?_, h3.up (Or.inl rfl)⟩
  · by_cases z : j = k
    · subst z
      rw [if_pos rfl]
      exact oUp_self
    · rw [if_neg z]
      refine (oUp_j z).trans ?_
      rw [show M1 38 0 j = _ from h1 j, if_neg z]
  · rw [oUp_k (by decide)]
    exact h2 j
theorem oWr_y {M M1 : oM} {k : Nat} {X Y Y' : Int32} (h : oWr M M1 k X Y) : oWr M (oUp M1 39 0 k Y') k X Y' := by
  obtain ⟨h1, h2, h3⟩ := h
  refine ⟨fun j => ?_, fun j => ?_, h3.up (Or.inr rfl)⟩
  · rw [oUp_k (by decide)]
    exact h1 j
  · by_cases z : j = k
    · subst z
      rw [if_pos rfl]
      exact oUp_self
    · rw [if_neg z]
      refine (oUp_j z).trans ?_
      rw [show M1 39 0 j = _ from h2 j, if_neg z]
theorem oWr_rf (M : oM) (k : Nat) : oWr M M k (M K_M_cornerX 0 k) (M K_M_cornerY 0 k) := by
  refine ⟨fun j => ?_, fun j => ?_, oFr.rf⟩
  · by_cases z : j = k
    · rw [if_pos z, z]
    · rw [if_neg z]
  · by_cases z : j = k
    · rw [if_pos z, z]
    · rw [if_neg z]
def sMst (M : oM) (N : Nat → Int32) (k : Nat) (nd ch : Int32) : Int32 × Int32 := sStep N (M K_M_cornerX 0 0) (M K_M_cornerY 0 0) nd ch (M K_M_kinds 0 k) (M K_M_ways 0 k) (M K_M_lengths 0 k) (M K_M_cornerX 0 k) (M K_M_cornerY 0 k)
theorem sStep_no {N : Nat → Int32} {bx b2 nd ch kind way len x y : Int32} (h : ¬ (kind = 3 ∧ ¬ f_Oak_isWithin (len - 1) 0 (N 1 - 1) = 0)) : (if kind = 2 then (bx, b2) else if kind = 4 then ((x + bx) / 2, (y + b2) / 2) else (x + f_Mod_trueBy len ch * f_Mod_acrossBy (sW nd kind way), y + f_Mod_trueBy len ch * f_Mod_upBy (sW nd kind way))) = sStep N bx b2 nd ch kind way len x y := by
  unfold sStep
  rw [in_eq, if_neg h]
theorem sStep_st {N : Nat → Int32} {bx b2 nd ch kind way len x y : Int32} {s : Nat} (h : kind = 3) (h2 : ¬ f_Oak_isWithin (len - 1) 0 (N 1 - 1) = 0) (hs : s < 8) (es : len - 1 = nI s) : (if kind = 2 then (bx, b2) else if kind = 4 then ((x + bx) / 2, (y + b2) / 2) else (N (4 + 2 * s), N (4 + 2 * s + 1))) = sStep N bx b2 nd ch kind way len x y := by
  unfold sStep
  rw [in_eq, if_pos (show kind = 3 ∧ ¬ f_Oak_isWithin (len - 1) 0 (N 1 - 1) = 0 from ⟨h, h2⟩), es, nIc (by omega), h, if_neg (by decide), if_neg (by decide)]
set_option maxRecDepth 4000 in
theorem c_Mod_walk (M : oM) (N : Nat → Int32) (k : Nat) (nd ch : Int32) (hn : M K_M_now 0 = N) (hN : oNOk N) (hk : k < 10) : oCt 2 k_Mod_walk [.inr (K_MOD, 0), .inl (nI k), .inl nd, .inl ch] M (fun r M' => r = none ∧ oWr M M' (k + 1) (sMst M N k nd ch).1 (sMst M N k nd ch).2) := by
  obtain ⟨hS, hS8⟩ := oNS hN
  refine oCt.of (ls := [some (.inr (K_MOD, 0)), some (.inl (nI k)), some (.inl nd), some (.inl ch), none, none, none, none, none, none]) mok_Mod_walk rfl rfl ?_
  generalize hQ : (fun (r : Option Int32) (M' : oM) => r = none ∧ oWr M M' (k + 1) (sMst M N k nd ch).1 (sMst M N k nd ch).2) = Q
  have fin : ∀ M1 X Y, oWr M M1 (k + 1) X Y → sMst M N k nd ch = (X, Y) → Q none M1 := by
    intro M1 X Y h1 h2
    rw [← hQ]
    refine ⟨rfl, ?_⟩
    rw [h2]
    exact h1
  refine oRun_ok 3 rfl ?_
  refine g_iald k rfl rfl rfl (by omega) ?_
  refine oRun_ok 4 rfl ?_
  refine g_iald k rfl rfl rfl (by omega) ?_
  refine oRun_ok 4 rfl ?_
  refine g_iald k rfl rfl rfl (by omega) ?_
  refine oRun_ok 3 rfl ?_
  unfold sMst at fin
  generalize hkd : M K_M_kinds 0 k = kd at fin
  generalize hwy : M K_M_ways 0 k = wy at fin
  generalize hln : M K_M_lengths 0 k = ln at fin
  generalize hx : M K_M_cornerX 0 k = x at fin
  generalize hy : M K_M_cornerY 0 k = y at fin
  generalize hbx : M K_M_cornerX 0 0 = bx at fin
  generalize hby : M K_M_cornerY 0 0 = b2 at fin
  -- at the end
  have tail : ∀ (M1 : oM) (X Y : Int32) (x7 x8 x9 : Option oV), oWr M M1 (k + 1) X Y → (if kd = 2 then (bx, b2) else if kd = 4 then ((x + bx) / 2, (y + b2) / 2) else (X, Y)) = sStep N bx b2 nd ch kd wy ln x y → oG k_Mod_walk 2 203 [some (.inr (K_MOD, 0)), some (.inl (nI k)), some (.inl nd), some (.inl ch), some (.inl x), some (.inl y), some (.inl kd), x7, x8, x9] [] M1 Q := by
    intro M1 X Y x7 x8 x9 hw he
    have z1 : ∀ {M2 : oM} {X Y : Int32}, oWr M M2 (k + 1) X Y → M2 38 0 0 = bx := fun {M2 X Y} h => by
      rw [show M2 38 0 0 = _ from h.1 0, if_neg (by omega)]
      exact hbx
    have z2 : ∀ {M2 : oM} {X Y : Int32}, oWr M M2 (k + 1) X Y → M2 39 0 0 = b2 := fun {M2 X Y} h => by
      rw [show M2 39 0 0 = _ from h.2.1 0, if_neg (by omega)]
      exact hby
    have two : (kd = 2 ∨ kd = 4) → oG k_Mod_walk 2 215 [some (.inr (K_MOD, 0)), some (.inl (nI k)), some (.inl nd), some (.inl ch), some (.inl x), some (.inl y), some (.inl kd), x7, x8, x9] [] M1 Q := by
      intro _
      have put2 : ∀ (M2 : oM) (X' Y' Y0 : Int32), oWr M M2 (k + 1) X' Y0 → sStep N bx b2 nd ch kd wy ln x y = (X', Y') → oG k_Mod_walk 2 282 [some (.inr (K_MOD, 0)), some (.inl (nI k)), some (.inl nd), some (.inl ch), some (.inl x), some (.inl y), some (.inl kd), x7, x8, x9] [.inl Y', .inl (nI k + 1), .inr (K_M_cornerY, 0)] M2 Q := by
        intro M2 X' Y' Y0 hw2 he2
        refine g_iast (k + 1) rfl rfl (nI_1 k) (by omega) ?_
        exact g_ret rfl rfl (fin _ X' Y' (oWr_y hw2) he2)
      have put1 : ∀ (X' Y' : Int32), sStep N bx b2 nd ch kd wy ln x y = (X', Y') → Y' = (if kd = 2 then b2 else (y + b2) / 2) → oG k_Mod_walk 2 248 [some (.inr (K_MOD, 0)), some (.inl (nI k)), some (.inl nd), some (.inl ch), some (.inl x), some (.inl y), some (.inl kd), x7, x8, x9] [.inl X', .inl (nI k + 1), .inr (K_M_cornerX, 0)] M1 Q := by
        intro X' Y' he2 hY
        refine g_iast (k + 1) rfl rfl (nI_1 k) (by omega) ?_
        have hw2 := oWr_x (X' := X') hw
        generalize oUp M1 38 0 (k + 1) X' = M2 at hw2 ⊢
        refine oRun_ok 7 rfl ?_
        refine g_ic_ne rfl (fun h => ?_) (fun h => ?_)
        · refine oRun_ok 4 rfl ?_
          refine g_iald 0 rfl rfl rfl (by decide) ?_
          rw [z2 hw2]
          refine oRun_ok 3 rfl ?_
          rw [if_neg h] at hY
          rw [← hY]
          exact put2 M2 X' Y' Y hw2 he2
        · refine oRun_ok 3 rfl ?_
          refine g_iald 0 rfl rfl rfl (by decide) ?_
          rw [z2 hw2]
          refine oRun_ok 1 rfl ?_
          rw [if_pos (by simpa using h)] at hY
          rw [← hY]
          exact put2 M2 X' Y' Y hw2 he2
      rename_i hk24
      refine oRun_ok 7 rfl ?_
      refine g_ic_ne rfl (fun h => ?_) (fun h => ?_)
      · refine oRun_ok 4 rfl ?_
        refine g_iald 0 rfl rfl rfl (by decide) ?_
        rw [z1 hw]
        refine oRun_ok 3 rfl ?_
        rw [if_neg h, if_pos (hk24.resolve_left h)] at he
        exact put1 _ _ he.symm (by rw [if_neg h])
      · have h : kd = 2 := by simpa using h
        refine oRun_ok 3 rfl ?_
        refine g_iald 0 rfl rfl rfl (by decide) ?_
        rw [z1 hw]
        refine oRun_ok 1 rfl ?_
        rw [if_pos h] at he
        exact put1 _ _ he.symm (by rw [if_pos h])
    refine oRun_ok 2 rfl ?_
    refine g_ic_eq rfl (fun h => two (Or.inl h)) (fun h => ?_)
    refine oRun_ok 2 rfl ?_
    refine g_ic_ne rfl (fun h' => ?_) (fun h' => two (Or.inr (by simpa using h')))
    rw [if_neg h, if_neg h'] at he
    exact g_ret rfl rfl (fin M1 X Y hw he.symm)
  -- from the way on
  have mid : ∀ (x7 x9 : Option oV), oG k_Mod_walk 2 80 [some (.inr (K_MOD, 0)), some (.inl (nI k)), some (.inl nd), some (.inl ch), some (.inl x), some (.inl y), some (.inl kd), x7, none, x9] [.inl (sW nd kd wy)] M Q := by
    intro x7 x9
    refine oRun_ok 4 rfl ?_
    refine g_iald k rfl rfl rfl (by omega) ?_
    rw [show M 37 0 k = ln from hln]
    refine oRun_ok 1 rfl ?_
    refine g_callS rfl rfl rfl rfl mok_Mod_trueBy (by decide) (c_Mod_trueBy M _ _) ?_
    rintro r89 M89 ⟨rfl, e⟩; rw [e]
    refine oRun_ok 9 rfl ?_
    refine g_callS rfl rfl rfl rfl mok_Mod_acrossBy (by decide) (c_Mod_acrossBy M _) ?_
    rintro r107 M107 ⟨rfl, e⟩; rw [e]
    refine oRun_ok 2 rfl ?_
    refine g_iast (k + 1) rfl rfl (nI_1 k) (by omega) ?_
    have w1 := oWr_x (X' := x + f_Mod_trueBy ln ch * f_Mod_acrossBy (sW nd kd wy)) (oWr_rf M (k + 1))
    generalize oUp M 38 0 (k + 1) (x + f_Mod_trueBy ln ch * f_Mod_acrossBy (sW nd kd wy)) = M1 at w1 ⊢
    refine oRun_ok 8 rfl ?_
    refine g_callS rfl rfl rfl rfl mok_Mod_upBy (by decide) (c_Mod_upBy M1 _) ?_
    rintro r126 M126 ⟨rfl, e⟩; rw [e]
    refine oRun_ok 2 rfl ?_
    refine g_iast (k + 1) rfl rfl (nI_1 k) (by omega) ?_
    have w2 := oWr_y (Y' := y + f_Mod_trueBy ln ch * f_Mod_upBy (sW nd kd wy)) w1
    generalize oUp M1 39 0 (k + 1) (y + f_Mod_trueBy ln ch * f_Mod_upBy (sW nd kd wy)) = M2 at w2 ⊢
    have en : M2 32 0 = N := (w2.2.2 K_M_now 0 (by rintro (q | q) <;> exact absurd q (by decide))).trans hn
    have el : M2 37 0 = M K_M_lengths 0 := w2.2.2 K_M_lengths 0 (by rintro (q | q) <;> exact absurd q (by decide))
    refine oRun_ok 2 rfl ?_
    refine g_ic_ne rfl (fun h => ?_) (fun h => ?_)
    · exact tail M2 _ _ _ _ _ w2 (sStep_no (fun q => h q.1))
    · have h : kd = 3 := by simpa using h
      refine oRun_ok 4 rfl ?_
      refine g_iald k rfl rfl rfl (by omega) ?_
      rw [el, hln]
      refine oRun_ok 2 rfl ?_
      refine g_callV rfl rfl rfl rfl rfl mok_Mod_isStone (by decide) (c_Mod_isStone M2 _) ?_
      rintro r147 M147 ⟨rfl, e⟩; rw [e]
      rw [show M2 K_M_now 0 = N from en]
      refine g_if_eq rfl (fun h150 => ?_) (fun h150 => ?_)
      · exact tail M2 _ _ _ _ _ w2 (sStep_no (fun q => q.2 h150))
      · have h150' := h150
        rw [hS] at h150
        obtain ⟨s, hs, es⟩ := wiI (by omega) h150
        have el2 : ln = nI (s + 1) := by rw [← nI_1, ← es, Int32.sub_add_cancel]
        have i1 : 4 + 2 * ln - 2 = nI (4 + 2 * s) := by
          rw [el2, L4, L2, nI_times, nI_plus, nIsub (by omega)]
          congr 1
        have i2 : 4 + 2 * ln - 1 = nI (4 + 2 * s + 1) := by
          rw [el2, L4, L2, L1, nI_times, nI_plus, nIsub (by omega)]
          congr 1
        refine oRun_ok 12 rfl ?_
        refine g_iald k rfl rfl rfl (by omega) ?_
        rw [el, hln]
        refine oRun_ok 4 rfl ?_
        refine g_iald (4 + 2 * s) rfl rfl i1 (by omega) ?_
        rw [en]
        refine g_iast (k + 1) rfl rfl (nI_1 k) (by omega) ?_
        have w3 := oWr_x (X' := N (4 + 2 * s)) w2
        generalize oUp M2 38 0 (k + 1) (N (4 + 2 * s)) = M3 at w3 ⊢
        have en3 : M3 32 0 = N := (w3.2.2 K_M_now 0 (by rintro (q | q) <;> exact absurd q (by decide))).trans hn
        have el3 : M3 37 0 = M K_M_lengths 0 := w3.2.2 K_M_lengths 0 (by rintro (q | q) <;> exact absurd q (by decide))
        refine oRun_ok 12 rfl ?_
        refine g_iald k rfl rfl rfl (by omega) ?_
        rw [el3, hln]
        refine oRun_ok 4 rfl ?_
        refine g_iald (4 + 2 * s + 1) rfl rfl i2 (by omega) ?_
        rw [en3]
        refine g_iast (k + 1) rfl rfl (nI_1 k) (by omega) ?_
        exact tail _ _ _ _ _ _ (oWr_y w3) (sStep_st h h150' (by omega) es)
  have free : ∀ (b : Int32), (b = 0 → ¬ (kd = 1 ∨ kd = 3)) → (¬ b = 0 → (kd = 1 ∨ kd = 3)) → oG k_Mod_walk 2 41 [some (.inr (K_MOD, 0)), some (.inl (nI k)), some (.inl nd), some (.inl ch), some (.inl x), some (.inl y), some (.inl kd), none, none, none] [.inl b] M Q := by
    intro b hb0 hb1
    refine oRun_ok 2 rfl ?_
    refine g_if_eq rfl (fun h => ?_) (fun h => ?_)
    · have hno := hb0 h
      refine oRun_ok 3 rfl ?_
      refine g_iald k rfl rfl rfl (by omega) ?_
      rw [show M 36 0 k = wy from hwy]
      refine oRun_ok 4 rfl ?_
      refine g_ic_ne rfl (fun h5 => ?_) (fun h5 => ?_)
      · refine oRun_ok 1 rfl ?_
        refine oRun_ok 3 rfl ?_
        have := mid (some (.inl b)) none
        unfold sW at this
        rw [if_neg hno, if_neg h5] at this
        exact this
      · refine oRun_ok 2 rfl ?_
        refine oRun_ok 3 rfl ?_
        have := mid (some (.inl b)) none
        unfold sW at this
        rw [if_neg hno, if_pos (by simpa using h5)] at this
        exact this
    · have hyes := hb1 h
      refine oRun_ok 3 rfl ?_
      refine g_iald k rfl rfl rfl (by omega) ?_
      rw [show M 36 0 k = wy from hwy]
      refine oRun_ok 1 rfl ?_
      have := mid (some (.inl b)) none
      unfold sW at this
      rw [if_pos hyes] at this
      exact this
  refine g_ic_eq rfl (fun h => ?_) (fun h => ?_)
  · refine oRun_ok 2 rfl ?_
    exact free 1 (fun q => absurd q (by decide)) (fun _ => Or.inl h)
  · refine oRun_ok 2 rfl ?_
    refine g_ic_ne rfl (fun h' => ?_) (fun h' => ?_)
    · refine oRun_ok 1 rfl ?_
      exact free 0 (fun _ q => q.elim h h') (fun q => absurd rfl q)
    · refine oRun_ok 2 rfl ?_
      exact free 1 (fun q => absurd q (by decide)) (fun _ => Or.inr (by simpa using h'))
end
section
/-! ===== Model: corners ===== -/
theorem sCor_congr {N : Nat → Int32} {bx b2 nd ch : Int32} {ka wa la ka' wa' la' : Nat → Int32} : ∀ {k : Nat}, (∀ j, j < k → ka j = ka' j ∧ wa j = wa' j ∧ la j = la' j) → sCor N bx b2 nd ch ka wa la k = sCor N bx b2 nd ch ka' wa' la' k
  | 0, _ => rfl
  | k + 1, h => by
    rw [sCor, sCor, sCor_congr (fun j hj => h j (by omega)), (h k (by omega)).1, (h k (by omega)).2.1, (h k (by omega)).2.2]
/-- what the model writes when it takes calls -/
def oMt : Nat → Nat → Prop := fun k _ => k = K_MOD ∨ k = K_M_kinds ∨ k = K_M_ways ∨ k = K_M_lengths
def Q_takeCalls (M : oM) (N : Nat → Int32) (d : Nat) : Option Int32 → oM → Prop := fun r M' => r = none ∧ M' K_MOD 0 7 = nI (cC N d) ∧ (∀ j, ¬ j = 7 → M' K_MOD 0 j = M K_MOD 0 j) ∧ (∀ j, j < cC N d → M' K_M_kinds 0 j = kA N d j ∧ M' K_M_ways 0 j = wA N d j ∧ M' K_M_lengths 0 j = lA N d j) ∧ oFr oMt M M'
theorem c_Mod_takeCalls (M : oM) (N : Nat → Int32) (d : Nat) (hn : M K_M_now 0 = N) (hN : oNOk N) (hd : d < cD N) : oCt 1 k_Mod_takeCalls [.inr (K_MOD, 0), .inl (nI d)] M (Q_takeCalls M N d) := by
  obtain ⟨-, d4⟩ := oND hN
  have hDo := hN.2.2.2.2.1 d hd
  obtain ⟨hC, hC10⟩ := oNC hDo
  refine oCt.of (ls := [some (.inr (K_MOD, 0)), some (.inl (nI d)), none]) mok_Mod_takeCalls rfl rfl ?_
  refine oRun_ok 4 rfl ?_
  refine g_callV rfl rfl rfl rfl rfl mok_Mod_of (by decide) (c_Mod_of M d 4 (by omega) (by decide)) ?_
  rintro r4 M4 ⟨rfl, e⟩; rw [e, hn, hC]
  refine oRun_ok 3 rfl ?_
  have loop : ∀ (q k : Nat) (M1 : oM), k + q = cC N d → M1 K_MOD 0 7 = nI (cC N d) → (∀ j, ¬ j = 7 → M1 K_MOD 0 j = M K_MOD 0 j) → (∀ j, j < k → M1 K_M_kinds 0 j = kA N d j ∧ M1 K_M_ways 0 j = wA N d j ∧ M1 K_M_lengths 0 j = lA N d j) → oFr oMt M M1 → oG k_Mod_takeCalls 1 12 [some (.inr (K_MOD, 0)), some (.inl (nI d)), some (.inl (nI k))] [] M1 (Q_takeCalls M N d) := by
    intro q
    induction q with
    | zero =>
      intro k M1 hk h7 ho ha hf
      have hk : k = cC N d := by omega
      subst hk
      refine oRun_ok 3 rfl ?_
      rw [show M1 31 0 7 = nI (cC N d) from h7]
      refine g_ic_ge rfl (fun _ => ?_) (fun h => absurd (Int32.le_refl _) h)
      exact g_ret rfl rfl ⟨rfl, h7, ho, ha, hf⟩
    | succ q ih =>
      intro k M1 hk h7 ho ha hf
      have en : ∀ {M2 : oM}, oFr oMt M M2 → M2 K_M_now 0 = N := fun {M2} h => (h K_M_now 0 (by rintro (q | q | q | q) <;> exact absurd q (by decide))).trans hn
      refine oRun_ok 3 rfl ?_
      rw [show M1 31 0 7 = nI (cC N d) from h7]
      refine g_ic_ge rfl (fun h => ?_) (fun _ => ?_)
      · rw [nIle (by omega) (by omega)] at h
        omega
      refine oRun_ok 7 rfl ?_
      refine g_callV rfl rfl rfl rfl rfl mok_Mod_callOf (by decide) (c_Mod_callOf M1 d k 0 (by omega) (by omega) (by decide)) ?_
      rintro r29 M29 ⟨rfl, e⟩; rw [e, en hf]
      refine g_iast k rfl rfl rfl (by omega) ?_
      have f1 : oFr oMt M (oUp M1 35 0 k (N (20 + 35 * d + 5 + 3 * k + 0))) := hf.up (Or.inr (Or.inl rfl))
      refine oRun_ok 7 rfl ?_
      refine g_callV rfl rfl rfl rfl rfl mok_Mod_callOf (by decide) (c_Mod_callOf _ d k 1 (by omega) (by omega) (by decide)) ?_
      rintro r42 M42 ⟨rfl, e⟩; rw [e, en f1]
      refine g_iast k rfl rfl rfl (by omega) ?_
      have f2 : oFr oMt M (oUp (oUp M1 35 0 k (N (20 + 35 * d + 5 + 3 * k + 0))) 36 0 k (N (20 + 35 * d + 5 + 3 * k + 1))) := f1.up (Or.inr (Or.inr (Or.inl rfl)))
      refine oRun_ok 7 rfl ?_
      refine g_callV rfl rfl rfl rfl rfl mok_Mod_callOf (by decide) (c_Mod_callOf _ d k 2 (by omega) (by omega) (by decide)) ?_
      rintro r55 M55 ⟨rfl, e⟩; rw [e, en f2]
      refine g_iast k rfl rfl rfl (by omega) ?_
      refine oRun_ok 2 rfl ?_
      rw [nI_1]
      refine ih (k + 1) _ (by omega) ?_ (fun j hj => ?_) (fun j hj => ?_) (f2.up (Or.inr (Or.inr (Or.inr rfl))))
      · rw [oUp_k (by decide), oUp_k (by decide), oUp_k (by decide)]
        exact h7
      · rw [oUp_k (by decide), oUp_k (by decide), oUp_k (by decide)]
        exact ho j hj
      · by_cases z : j = k
        · subst z
          refine ⟨?_, ?_, ?_⟩
          · rw [oUp_k (by decide), oUp_k (by decide)]
            exact oUp_self
          · rw [oUp_k (by decide)]
            exact oUp_self
          · exact oUp_self
        · obtain ⟨a1, a2, a3⟩ := ha j (by omega)
          refine ⟨?_, ?_, ?_⟩
          · rw [oUp_k (by decide), oUp_k (by decide)]
            exact (oUp_j z).trans a1
          · rw [oUp_k (by decide)]
            refine (oUp_j z).trans ?_
            rw [oUp_k (by decide)]
            exact a2
          · refine (oUp_j z).trans ?_
            rw [oUp_k (by decide), oUp_k (by decide)]
            exact a3
  refine loop (cC N d) 0 _ (by omega) oUp_self (fun j hj => oUp_j hj) (fun j hj => absurd hj (by omega)) (oFr.rf.up (Or.inl rfl))
/-- the corners by the calls at hand -/
def sMc (M : oM) (N : Nat → Int32) (d : Nat) (nd ch : Int32) : Nat → Int32 × Int32 := sCor N (N (20 + 35 * d)) (N (20 + 35 * d + 1)) nd ch (M K_M_kinds 0) (M K_M_ways 0) (M K_M_lengths 0)
def Q_walks (M : oM) (N : Nat → Int32) (d n : Nat) (nd ch : Int32) : Option Int32 → oM → Prop := fun r M' => r = some (sGapP (N (20 + 35 * d)) (N (20 + 35 * d + 1)) (sMc M N d nd ch n)) ∧ (∀ j, j ≤ n → M' K_M_cornerX 0 j = (sMc M N d nd ch j).1 ∧ M' K_M_cornerY 0 j = (sMc M N d nd ch j).2) ∧ oFr oMw M M'
theorem c_Mod_walks (M : oM) (N : Nat → Int32) (d n : Nat) (nd ch : Int32) (hn : M K_M_now 0 = N) (hN : oNOk N) (hd : d < cD N) (h7 : M K_MOD 0 7 = nI n) (hn10 : n ≤ 10) : oCt 3 k_Mod_walks [.inr (K_MOD, 0), .inl (nI d), .inl nd, .inl ch] M (Q_walks M N d n nd ch) := by
  obtain ⟨-, d4⟩ := oND hN
  have enF : ∀ {M2 : oM}, oFr oMw M M2 → ∀ k, ¬ k = K_M_cornerX → ¬ k = K_M_cornerY → M2 k 0 = M k 0 := fun {M2} h k q1 q2 => h k 0 (fun q => q.elim q1 q2)
  refine oCt.of (ls := [some (.inr (K_MOD, 0)), some (.inl (nI d)), some (.inl nd), some (.inl ch), none]) mok_Mod_walks rfl rfl ?_
  refine oRun_ok 6 rfl ?_
  refine g_callV rfl rfl rfl rfl rfl mok_Mod_of (by decide) (c_Mod_of M d 0 (by omega) (by decide)) ?_
  rintro r8 M8 ⟨rfl, e⟩; rw [e, hn]
  refine g_iast 0 rfl rfl rfl (by decide) ?_
  refine oRun_ok 6 rfl ?_
  refine g_callV rfl rfl rfl rfl rfl mok_Mod_of (by decide) (c_Mod_of _ d 1 (by omega) (by decide)) ?_
  rintro r20 M20 ⟨rfl, e⟩; rw [e, oUp_k (by decide), hn]
  refine g_iast 0 rfl rfl rfl (by decide) ?_
  refine oRun_ok 2 rfl ?_
  have loop : ∀ (q k : Nat) (M1 : oM), k + q = n → (∀ j, j ≤ k → M1 K_M_cornerX 0 j = (sMc M N d nd ch j).1 ∧ M1 K_M_cornerY 0 j = (sMc M N d nd ch j).2) → oFr oMw M M1 → oG k_Mod_walks 3 27 [some (.inr (K_MOD, 0)), some (.inl (nI d)), some (.inl nd), some (.inl ch), some (.inl (nI k))] [] M1 (Q_walks M N d n nd ch) := by
    intro q
    induction q with
    | zero =>
      intro k M1 hk ha hf
      have hk : k = n := by omega
      subst hk
      have e7 : M1 31 0 7 = nI k := by rw [show M1 31 0 = M 31 0 from enF hf K_MOD (by decide) (by decide)]; exact h7
      refine oRun_ok 3 rfl ?_
      rw [e7]
      refine g_ic_ge rfl (fun _ => ?_) (fun h => absurd (Int32.le_refl _) h)
      refine oRun_ok 4 rfl ?_
      rw [e7]
      refine g_iald k rfl rfl rfl (by omega) ?_
      refine oRun_ok 3 rfl ?_
      refine g_iald 0 rfl rfl rfl (by decide) ?_
      refine oRun_ok 1 rfl ?_
      refine g_callS rfl rfl rfl rfl mok_Mod_size (by decide) (c_Mod_size M1 _) ?_
      rintro r66 M66 ⟨rfl, e⟩; rw [e]
      refine oRun_ok 4 rfl ?_
      rw [e7]
      refine g_iald k rfl rfl rfl (by omega) ?_
      refine oRun_ok 3 rfl ?_
      refine g_iald 0 rfl rfl rfl (by decide) ?_
      refine oRun_ok 1 rfl ?_
      refine g_callS rfl rfl rfl rfl mok_Mod_size (by decide) (c_Mod_size M1 _) ?_
      rintro r85 M85 ⟨rfl, e⟩; rw [e]
      refine oRun_ok 1 rfl ?_
      rw [show M1 38 0 k = _ from (ha k (by omega)).1, show M1 39 0 k = _ from (ha k (by omega)).2, show M1 38 0 0 = _ from (ha 0 (by omega)).1, show M1 39 0 0 = _ from (ha 0 (by omega)).2]
      exact g_iret rfl rfl rfl ⟨rfl, ha, hf⟩
    | succ q ih =>
      intro k M1 hk ha hf
      have e7 : M1 31 0 7 = nI n := by rw [show M1 31 0 = M 31 0 from enF hf K_MOD (by decide) (by decide)]; exact h7
      refine oRun_ok 3 rfl ?_
      rw [e7]
      refine g_ic_ge rfl (fun h => ?_) (fun _ => ?_)
      · rw [nIle (by omega) (by omega)] at h
        omega
      refine oRun_ok 4 rfl ?_
      refine g_callV rfl rfl rfl rfl rfl mok_Mod_walk (by decide) (c_Mod_walk M1 N k nd ch ((enF hf K_M_now (by decide) (by decide)).trans hn) hN (by omega)) ?_
      rintro r41 M41 ⟨rfl, w1, w2, w3⟩
      have es : sMst M1 N k nd ch = sMc M N d nd ch (k + 1) := by
        unfold sMst
        rw [(ha 0 (by omega)).1, (ha 0 (by omega)).2, (ha k (by omega)).1, (ha k (by omega)).2, enF hf K_M_kinds (by decide) (by decide), enF hf K_M_ways (by decide) (by decide), enF hf K_M_lengths (by decide) (by decide)]
        rfl
      rw [es] at w1 w2
      refine oRun_ok 2 rfl ?_
      rw [nI_1]
      refine ih (k + 1) M41 (by omega) (fun j hj => ?_) (hf.tr w3)
      rw [w1 j, w2 j]
      by_cases z : j = k + 1
      · rw [if_pos z, if_pos z, z]
        exact ⟨rfl, rfl⟩
      · rw [if_neg z, if_neg z]
        exact ha j (by omega)
  refine loop n 0 _ (by omega) (fun j hj => ?_) ((oFr.rf.up (Or.inl rfl)).up (Or.inr rfl))
  have hj : j = 0 := by omega
  subst hj
  refine ⟨?_, ?_⟩
  · rw [oUp_k (by decide)]
    exact oUp_self
  · exact oUp_self
end
section
/-! ===== Model: findCorners, isHeld ===== -/
/-- what the model writes when it finds corners -/
def oMf : Nat → Nat → Prop := fun k i => oMt k i ∨ oMw k i ∨ oMl k i
theorem oMf_now : ¬ oMf K_M_now 0 := by
  rintro ((q | q | q | q) | (q | q) | (q | q)) <;> exact absurd q (by decide)
/-- only the number of calls at hand changed in the object -/
def oM7 (M M' : oM) : Prop := ∀ j, ¬ j = 7 → M' K_MOD 0 j = M K_MOD 0 j
def Q_find (M : oM) (N : Nat → Int32) (d : Nat) : Option Int32 → oM → Prop := fun r M' => r = some (sGap N d (sNd N d) (sCh N d)) ∧ M' K_MOD 0 7 = nI (cC N d) ∧ oM7 M M' ∧ (∀ j, j ≤ cC N d → M' K_M_cornerX 0 j = (sC N d (sNd N d) (sCh N d) j).1 ∧ M' K_M_cornerY 0 j = (sC N d (sNd N d) (sCh N d) j).2) ∧ (∀ j, j < cC N d → M' K_M_kinds 0 j = kA N d j ∧ M' K_M_ways 0 j = wA N d j ∧ M' K_M_lengths 0 j = lA N d j) ∧ oFr oMf M M'
theorem c_Mod_findCorners (M : oM) (N : Nat → Int32) (d : Nat) (hn : M K_M_now 0 = N) (hN : oNOk N) (hd : d < cD N) : oCt 4 k_Mod_findCorners [.inr (K_MOD, 0), .inl (nI d)] M (Q_find M N d) := by
  have hDo := hN.2.2.2.2.1 d hd
  obtain ⟨hC, hC10⟩ := oNC hDo
  have en : ∀ {M2 : oM}, oFr oMf M M2 → M2 K_M_now 0 = N := fun {M2} h => (h K_M_now 0 oMf_now).trans hn
  refine oCt.of (ls := [some (.inr (K_MOD, 0)), some (.inl (nI d))]) mok_Mod_findCorners rfl rfl ?_
  refine oRun_ok 2 rfl ?_
  refine g_callV rfl rfl rfl rfl rfl mok_Mod_takeCalls (by decide) (c_Mod_takeCalls M N d hn hN hd) ?_
  rintro r2 M2 ⟨rfl, a7, ao, aa, af⟩
  have F2 : oFr oMf M M2 := af.mono (fun k i q => Or.inl q)
  refine oRun_ok 4 rfl ?_
  refine g_callV rfl rfl rfl rfl rfl mok_Mod_needleOf (by decide) (c_Mod_needleOf M2 N d (en F2) hN hd) ?_
  rintro r9 M9 ⟨rfl, f9⟩
  have F9 : oFr oMf M M9 := F2.tr (f9.mono (fun k i q => Or.inr (Or.inr q)))
  refine oRun_ok 2 rfl ?_
  refine g_callV rfl rfl rfl rfl rfl mok_Mod_chainOf (by decide) (c_Mod_chainOf M9 N d (en F9) hN hd) ?_
  rintro r14 M14 ⟨rfl, f14⟩
  have F14 : oFr oMf M M14 := F9.tr (f14.mono (fun k i q => Or.inr (Or.inr q)))
  have g14 : ∀ k, ¬ k = K_M_stack → ¬ k = K_M_facts → M14 k 0 = M2 k 0 := fun k q1 q2 => ((f9.tr f14) k 0 (fun q => q.elim q1 q2))
  refine g_callV rfl rfl rfl rfl rfl mok_Mod_walks (by decide) (c_Mod_walks M14 N d (cC N d) _ _ (en F14) hN hd (by rw [g14 K_MOD (by decide) (by decide)]; exact a7) hC10) ?_
  rintro r17 M17 ⟨rfl, w1, w2⟩
  have g17 : ∀ k, ¬ k = K_M_cornerX → ¬ k = K_M_cornerY → M17 k 0 = M14 k 0 := fun k q1 q2 => (w2 k 0 (fun q => q.elim q1 q2))
  have ec : ∀ j, j ≤ cC N d → sMc M14 N d (sNd N d) (sCh N d) j = sC N d (sNd N d) (sCh N d) j := by
    intro j hj
    unfold sMc sC
    refine sCor_congr (fun i hi => ?_)
    rw [g14 K_M_kinds (by decide) (by decide), g14 K_M_ways (by decide) (by decide), g14 K_M_lengths (by decide) (by decide)]
    exact aa i (by omega)
  refine g_iret rfl rfl rfl ⟨?_, ?_, fun j hj => ?_, fun j hj => ?_, fun j hj => ?_, F14.tr (w2.mono (fun k i q => Or.inr (Or.inl q)))⟩
  · rw [ec _ (Nat.le_refl _)]
    rfl
  · rw [g17 K_MOD (by decide) (by decide), g14 K_MOD (by decide) (by decide)]
    exact a7
  · rw [g17 K_MOD (by decide) (by decide), g14 K_MOD (by decide) (by decide)]
    exact ao j hj
  · rw [← ec j hj]
    exact w1 j hj
  · rw [g17 K_M_kinds (by decide) (by decide), g17 K_M_ways (by decide) (by decide), g17 K_M_lengths (by decide) (by decide), g14 K_M_kinds (by decide) (by decide), g14 K_M_ways (by decide) (by decide), g14 K_M_lengths (by decide) (by decide)]
    exact aa j hj
end
section
/-! ===== a side, as the model looks at it ===== -/
def sAtM (px p2 qx q2 x y : Int) : Int := (2 * y + 1 - 2 * p2) * (qx - px) + (2 * px - 2 * x - 1) * (q2 - p2)
theorem sAt_up (px p2 qx q2 x y : Int) : sAtM px p2 qx q2 x y = sA px p2 qx q2 y - (2 * x + 1) * (q2 - p2) := by
  unfold sAtM sA
  generalize hr : q2 - p2 = r
  generalize hs : qx - px = s
  have e1 : (2 * px - 2 * x - 1) * r = 2 * px * r - (2 * x + 1) * r := by rw [← Int.sub_mul]; congr 1; omega
  have e2 : (2 * y + 1 - 2 * p2) * s = s * (2 * (y - p2) + 1) := by rw [Int.mul_comm]; congr 1; omega
  rw [e1, e2]
  omega
theorem sAt_down (px p2 qx q2 x y : Int) : sAtM px p2 qx q2 x y = (2 * x + 1) * (p2 - q2) - sA qx q2 px p2 y := by
  unfold sAtM sA
  have h1 : q2 - p2 = -(p2 - q2) := by omega
  have h2 : qx - px = -(px - qx) := by omega
  have h3 : 2 * y + 1 - 2 * p2 = (2 * (y - q2) + 1) - 2 * (p2 - q2) := by omega
  have h4 : 2 * px - 2 * x - 1 = 2 * (px - qx) + 2 * qx - (2 * x + 1) := by omega
  rw [h1, h2, h3, h4]
  generalize p2 - q2 = r
  generalize px - qx = s
  generalize 2 * (y - q2) + 1 = w
  generalize 2 * x + 1 = v
  have e1 : (w - 2 * r) * -s = -(s * w) + 2 * (r * s) := by
    rw [Int.mul_neg, Int.sub_mul, Int.mul_comm w s, Int.mul_assoc]
    omega
  have e2 : (2 * s + 2 * qx - v) * -r = -(2 * (r * s)) - 2 * qx * r + v * r := by
    rw [Int.mul_neg, Int.sub_mul, Int.add_mul, Int.mul_assoc 2 s r, Int.mul_comm s r]
    omega
  rw [e1, e2]
  omega
theorem sOne_eq (px p2 qx q2 x y : Int) : sOne px p2 qx q2 x y = true ↔ ¬ (p2 ≤ y ↔ q2 ≤ y) ∧ ((0 < q2 - p2 ∧ 0 < sAtM px p2 qx q2 x y) ∨ (¬ 0 < q2 - p2 ∧ sAtM px p2 qx q2 x y < 0)) := by
  unfold sOne sSd
  by_cases h : p2 < q2
  · rw [if_pos h, sAt_up, decide_eq_true_eq]
    constructor
    · rintro ⟨a1, a2, a3⟩
      exact ⟨by omega, Or.inl ⟨by omega, by omega⟩⟩
    · rintro ⟨a1, ⟨a2, a3⟩ | ⟨a2, a3⟩⟩
      · exact ⟨by omega, by omega, by omega⟩
      · omega
  · rw [if_neg h, sAt_down, decide_eq_true_eq]
    constructor
    · rintro ⟨a1, a2, a3⟩
      exact ⟨by omega, Or.inr ⟨by omega, by omega⟩⟩
    · rintro ⟨a1, ⟨a2, a3⟩ | ⟨a2, a3⟩⟩
      · omega
      · exact ⟨by omega, by omega, by omega⟩
end
section
/-! ===== Model: isHeld ===== -/
def oAtM (px p2 qx q2 x y : Int32) : Int32 := (2 * y + 1 - 2 * p2) * (qx - px) + (2 * px - 2 * x - 1) * (q2 - p2)
theorem oAtM_t {px p2 qx q2 x y : Int32} (h1 : inR px (-309) 309) (h2 : inR p2 (-309) 309) (h3 : inR qx (-309) 309) (h4 : inR q2 (-309) 309) (hx : inR x 0 29) (hy : inR y 0 29) : (oAtM px p2 qx q2 x y).toInt = sAtM px.toInt p2.toInt qx.toInt q2.toInt x.toInt y.toInt ∧ (q2 - p2).toInt = q2.toInt - p2.toInt := by
  obtain ⟨a1, a2⟩ := h1
  obtain ⟨b1, b2⟩ := h2
  obtain ⟨c1, c2⟩ := h3
  obtain ⟨d1, d2⟩ := h4
  obtain ⟨e1, e2⟩ := hx
  obtain ⟨f1, f2⟩ := hy
  have t2 : (2 : Int32).toInt = 2 := rfl
  have t1 : (1 : Int32).toInt = 1 := rfl
  have q1 : (2 * y).toInt = 2 * y.toInt := by rw [iMul (by rw [t2]; omega), t2]
  have q2' : (2 * y + 1).toInt = 2 * y.toInt + 1 := by rw [iAdd (by rw [q1, t1]; omega), q1, t1]
  have q3 : (2 * p2).toInt = 2 * p2.toInt := by rw [iMul (by rw [t2]; omega), t2]
  have q4 : (2 * y + 1 - 2 * p2).toInt = 2 * y.toInt + 1 - 2 * p2.toInt := by rw [iSub (by rw [q2', q3]; omega), q2', q3]
  have q5 : (qx - px).toInt = qx.toInt - px.toInt := iSub (by omega)
  have q6 : (q2 - p2).toInt = q2.toInt - p2.toInt := iSub (by omega)
  have q7 : (2 * px).toInt = 2 * px.toInt := by rw [iMul (by rw [t2]; omega), t2]
  have q8 : (2 * x).toInt = 2 * x.toInt := by rw [iMul (by rw [t2]; omega), t2]
  have q9 : (2 * px - 2 * x).toInt = 2 * px.toInt - 2 * x.toInt := by rw [iSub (by rw [q7, q8]; omega), q7, q8]
  have q10 : (2 * px - 2 * x - 1).toInt = 2 * px.toInt - 2 * x.toInt - 1 := by rw [iSub (by rw [q9, t1]; omega), q9, t1]
  have m1 := mul_bd (a := 2 * y.toInt + 1 - 2 * p2.toInt) (b := qx.toInt - px.toInt) (A := 700) (B := 618) (by omega) (by omega) (by decide) (by decide)
  have m2 := mul_bd (a := 2 * px.toInt - 2 * x.toInt - 1) (b := q2.toInt - p2.toInt) (A := 700) (B := 618) (by omega) (by omega) (by decide) (by decide)
  have q11 : ((2 * y + 1 - 2 * p2) * (qx - px)).toInt = (2 * y.toInt + 1 - 2 * p2.toInt) * (qx.toInt - px.toInt) := by rw [iMul (by rw [q4, q5]; omega), q4, q5]
  have q12 : ((2 * px - 2 * x - 1) * (q2 - p2)).toInt = (2 * px.toInt - 2 * x.toInt - 1) * (q2.toInt - p2.toInt) := by rw [iMul (by rw [q10, q6]; omega), q10, q6]
  refine ⟨?_, q6⟩
  unfold oAtM sAtM
  rw [iAdd (by rw [q11, q12]; omega), q11, q12]
end
section
/-! ===== Model: isHeld, the walk ===== -/
theorem par_add {c : Nat} {b h : Bool} (hp : c % 2 = 1 ↔ h = true) : (c + (if b = true then 1 else 0)) % 2 = 1 ↔ Bool.xor h b = true := by
  cases b <;> cases h <;> simp at hp ⊢ <;> omega
set_option maxRecDepth 4000 in
theorem c_Mod_isHeld (M : oM) (n : Nat) (x y : Int32) (h7 : M K_MOD 0 7 = nI n) (hn10 : n ≤ 10) (hx : inR x 0 29) (hy : inR y 0 29) (hc : ∀ j, j ≤ n → inR (M K_M_cornerX 0 j) (-309) 309 ∧ inR (M K_M_cornerY 0 j) (-309) 309) :
    oCt 0 k_Mod_isHeld [.inr (K_MOD, 0), .inl x, .inl y] M (fun r M' => r = some (bI (sHx (M K_M_cornerX 0) (M K_M_cornerY 0) (n + 1) x.toInt y.toInt (n + 1))) ∧ M' = M) := by
  refine oCt.of (ls := [some (.inr (K_MOD, 0)), some (.inl x), some (.inl y), none, none, none, none, none]) mok_Mod_isHeld rfl rfl ?_
  refine oRun_ok 4 rfl ?_
  generalize hQ : (fun (r : Option Int32) (M' : oM) => r = some (bI (sHx (M K_M_cornerX 0) (M K_M_cornerY 0) (n + 1) x.toInt y.toInt (n + 1))) ∧ M' = M) = Q
  have loop : ∀ (q k c : Nat) (x5 x6 x7 : Option oV), k + q = n + 1 → c ≤ k → (c % 2 = 1 ↔ sHx (M K_M_cornerX 0) (M K_M_cornerY 0) (n + 1) x.toInt y.toInt k = true) → oG k_Mod_isHeld 0 5 [some (.inr (K_MOD, 0)), some (.inl x), some (.inl y), some (.inl (nI c)), some (.inl (nI k)), x5, x6, x7] [] M Q := by
    intro q
    induction q with
    | zero =>
      intro k c x5 x6 x7 hk hck hp
      have hk : k = n + 1 := by omega
      subst hk
      refine oRun_ok 3 rfl ?_
      rw [show M 31 0 7 = nI n from h7]
      refine g_ic_gt rfl (fun _ => ?_) (fun h => absurd ((nIlt (by omega) (by omega)).mpr (by omega)) h)
      refine oRun_ok 4 rfl ?_
      rw [L2, nIrem (by omega) (by decide) (by decide)]
      refine g_ic_ne rfl (fun h => ?_) (fun h => ?_)
      · refine oRun_ok 1 rfl ?_
        refine g_iret rfl rfl rfl ?_
        rw [← hQ]
        refine ⟨?_, rfl⟩
        have : ¬ c % 2 = 1 := fun z => h (by rw [z]; rfl)
        cases hz : sHx (M K_M_cornerX 0) (M K_M_cornerY 0) (n + 1) x.toInt y.toInt (n + 1) with
        | false => rfl
        | true => exact absurd (hp.mpr hz) this
      · refine oRun_ok 2 rfl ?_
        refine g_iret rfl rfl rfl ?_
        rw [← hQ]
        refine ⟨?_, rfl⟩
        have h : nI (c % 2) = nI 1 := h
        have : c % 2 = 1 := (nIe (by omega) (by omega)).mp h
        rw [hp.mp this]
        rfl
    | succ q ih =>
      intro k c x5 x6 x7 hk hck hp
      refine oRun_ok 3 rfl ?_
      rw [show M 31 0 7 = nI n from h7]
      refine g_ic_gt rfl (fun h => ?_) (fun _ => ?_)
      · rw [nIlt (by omega) (by omega)] at h
        omega
      have from31 : ∀ (o : Nat), o ≤ n → (if k + 1 = n + 1 then 0 else k + 1) = o → oG k_Mod_isHeld 0 31 [some (.inr (K_MOD, 0)), some (.inl x), some (.inl y), some (.inl (nI c)), some (.inl (nI k)), x5, x6, x7] [.inl (nI o)] M Q := by
        intro o ho heo
        obtain ⟨k1, k2⟩ := hc k (by omega)
        obtain ⟨o1, o2⟩ := hc o ho
        have step : sHx (M K_M_cornerX 0) (M K_M_cornerY 0) (n + 1) x.toInt y.toInt (k + 1) = Bool.xor (sHx (M K_M_cornerX 0) (M K_M_cornerY 0) (n + 1) x.toInt y.toInt k) (sOne (M K_M_cornerX 0 k).toInt (M K_M_cornerY 0 k).toInt (M K_M_cornerX 0 o).toInt (M K_M_cornerY 0 o).toInt x.toInt y.toInt) := by
          rw [← heo]
          rfl
        have so := sOne_eq (M K_M_cornerX 0 k).toInt (M K_M_cornerY 0 k).toInt (M K_M_cornerX 0 o).toInt (M K_M_cornerY 0 o).toInt x.toInt y.toInt
        obtain ⟨tA, tR⟩ := oAtM_t k1 k2 o1 o2 hx hy
        rw [← tA, ← tR] at so
        have fin : ∀ (b : Bool) (v6 v7 : Option oV), sOne (M K_M_cornerX 0 k).toInt (M K_M_cornerY 0 k).toInt (M K_M_cornerX 0 o).toInt (M K_M_cornerY 0 o).toInt x.toInt y.toInt = b → oG k_Mod_isHeld 0 168 [some (.inr (K_MOD, 0)), some (.inl x), some (.inl y), some (.inl (nI (c + (if b = true then 1 else 0)))), some (.inl (nI k)), some (.inl (nI o)), v6, v7] [] M Q := by
          intro b v6 v7 hb
          refine oRun_ok 2 rfl ?_
          rw [nI_1]
          refine ih (k + 1) _ _ _ _ (by omega) (by split <;> omega) ?_
          rw [step, hb]
          exact par_add hp
        generalize hck' : M K_M_cornerX 0 k = px at *
        generalize hdk' : M K_M_cornerY 0 k = p2 at *
        generalize hco' : M K_M_cornerX 0 o = qx at *
        generalize hdo' : M K_M_cornerY 0 o = q2 at *
        refine oRun_ok 4 rfl ?_
        refine g_iald o rfl rfl rfl (by omega) ?_
        refine oRun_ok 3 rfl ?_
        refine g_iald k rfl rfl rfl (by omega) ?_
        rw [show M 39 0 k = p2 from hdk', show M 39 0 o = q2 from hdo']
        refine oRun_ok 5 rfl ?_
        refine g_iald k rfl rfl rfl (by omega) ?_
        rw [show M 39 0 k = p2 from hdk']
        refine oRun_ok 1 rfl ?_
        have t0 : (0 : Int32).toInt = 0 := rfl
        have at85 : ¬ (p2.toInt ≤ y.toInt ↔ q2.toInt ≤ y.toInt) → oG k_Mod_isHeld 0 85 [some (.inr (K_MOD, 0)), some (.inl x), some (.inl y), some (.inl (nI c)), some (.inl (nI k)), some (.inl (nI o)), some (.inl (q2 - p2)), x7] [] M Q := by
          intro hne
          refine oRun_ok 9 rfl ?_
          refine g_iald k rfl rfl rfl (by omega) ?_
          refine oRun_ok 5 rfl ?_
          refine g_iald o rfl rfl rfl (by omega) ?_
          refine oRun_ok 3 rfl ?_
          refine g_iald k rfl rfl rfl (by omega) ?_
          refine oRun_ok 6 rfl ?_
          refine g_iald k rfl rfl rfl (by omega) ?_
          rw [show M 39 0 k = p2 from hdk', show M 38 0 k = px from hck', show M 38 0 o = qx from hco']
          refine oRun_ok 13 rfl ?_
          show oG k_Mod_isHeld 0 140 [some (.inr (K_MOD, 0)), some (.inl x), some (.inl y), some (.inl (nI c)), some (.inl (nI k)), some (.inl (nI o)), some (.inl (q2 - p2)), some (.inl (oAtM px p2 qx q2 x y))] [.inl (q2 - p2), .inl (nI c)] M Q
          generalize oAtM px p2 qx q2 x y = av at so ⊢
          generalize q2 - p2 = rv at so ⊢
          have join : ∀ b : Bool, sOne px.toInt p2.toInt qx.toInt q2.toInt x.toInt y.toInt = b → oG k_Mod_isHeld 0 166 [some (.inr (K_MOD, 0)), some (.inl x), some (.inl y), some (.inl (nI c)), some (.inl (nI k)), some (.inl (nI o)), some (.inl rv), some (.inl av)] [.inl (nI (if b = true then 1 else 0)), .inl (nI c)] M Q := by
            intro b hb
            refine oRun_ok 2 rfl ?_
            rw [nI_plus]
            exact fin b _ _ hb
          refine g_if_le rfl (fun h140 => ?_) (fun h140 => ?_)
          · have r0 := iLe.mp h140
            rw [t0] at r0
            refine oRun_ok 1 rfl ?_
            refine g_if_ge rfl (fun h158 => ?_) (fun h158 => ?_)
            · have a0 := iLe.mp h158
              rw [t0] at a0
              refine oRun_ok 1 rfl ?_
              refine join false ?_
              rw [Bool.eq_false_iff, ne_eq, so]
              rintro ⟨-, ⟨z1, -⟩ | ⟨-, z2⟩⟩ <;> omega
            · have a0 := iLt.mp (Int32.not_le.mp h158)
              rw [t0] at a0
              refine oRun_ok 2 rfl ?_
              exact join true (so.mpr ⟨hne, Or.inr ⟨by omega, a0⟩⟩)
          · have r0 := iLt.mp (Int32.not_le.mp h140)
            rw [t0] at r0
            refine oRun_ok 1 rfl ?_
            refine g_if_le rfl (fun h145 => ?_) (fun h145 => ?_)
            · have a0 := iLe.mp h145
              rw [t0] at a0
              refine oRun_ok 2 rfl ?_
              refine join false ?_
              rw [Bool.eq_false_iff, ne_eq, so]
              rintro ⟨-, ⟨-, z1⟩ | ⟨z2, -⟩⟩ <;> omega
            · have a0 := iLt.mp (Int32.not_le.mp h145)
              rw [t0] at a0
              refine oRun_ok 2 rfl ?_
              exact join true (so.mpr ⟨hne, Or.inl ⟨r0, a0⟩⟩)
        have skip : (p2.toInt ≤ y.toInt ↔ q2.toInt ≤ y.toInt) → oG k_Mod_isHeld 0 168 [some (.inr (K_MOD, 0)), some (.inl x), some (.inl y), some (.inl (nI c)), some (.inl (nI k)), some (.inl (nI o)), some (.inl (q2 - p2)), x7] [] M Q := by
          intro he
          exact fin false _ _ (by
            rw [Bool.eq_false_iff, ne_eq, so]
            rintro ⟨z, -⟩
            exact z he)
        have from66 : ∀ b : Bool, (b = true ↔ p2.toInt ≤ y.toInt) → oG k_Mod_isHeld 0 66 [some (.inr (K_MOD, 0)), some (.inl x), some (.inl y), some (.inl (nI c)), some (.inl (nI k)), some (.inl (nI o)), some (.inl (q2 - p2)), x7] [.inl (bI b)] M Q := by
          intro b hb
          refine oRun_ok 3 rfl ?_
          refine g_iald o rfl rfl rfl (by omega) ?_
          rw [show M 39 0 o = q2 from hdo']
          refine oRun_ok 1 rfl ?_
          have from82 : ∀ b' : Bool, (b' = true ↔ q2.toInt ≤ y.toInt) → oG k_Mod_isHeld 0 82 [some (.inr (K_MOD, 0)), some (.inl x), some (.inl y), some (.inl (nI c)), some (.inl (nI k)), some (.inl (nI o)), some (.inl (q2 - p2)), x7] [.inl (bI b'), .inl (bI b)] M Q := by
            intro b' hb'
            refine g_ic_eq rfl (fun h => ?_) (fun h => ?_)
            · refine skip ?_
              rw [← hb, ← hb']
              cases b <;> cases b' <;> first | exact Iff.rfl | exact absurd h (by decide)
            · refine at85 ?_
              rw [← hb, ← hb']
              cases b <;> cases b' <;> first | exact absurd rfl h | decide
          refine g_ic_gt rfl (fun h => ?_) (fun h => ?_)
          · refine oRun_ok 1 rfl ?_
            exact from82 false (by have := iLt.mp h; constructor <;> intro z <;> first | cases z | omega)
          · refine oRun_ok 2 rfl ?_
            exact from82 true ⟨fun _ => iLe.mp (Int32.not_lt.mp h), fun _ => rfl⟩
        refine g_ic_gt rfl (fun h => ?_) (fun h => ?_)
        · refine oRun_ok 1 rfl ?_
          exact from66 false (by have := iLt.mp h; constructor <;> intro z <;> first | cases z | omega)
        · refine oRun_ok 2 rfl ?_
          exact from66 true ⟨fun _ => iLe.mp (Int32.not_lt.mp h), fun _ => rfl⟩
      refine oRun_ok 3 rfl ?_
      rw [show M 31 0 7 = nI n from h7]
      refine g_ic_ne rfl (fun h => ?_) (fun h => ?_)
      · have hkn : ¬ k = n := fun z => h (by rw [z])
        refine oRun_ok 3 rfl ?_
        rw [nI_1]
        exact from31 (k + 1) (by omega) (if_neg (by omega))
      · have hkn : k = n := (nIe (by omega) (by omega)).mp h
        refine oRun_ok 2 rfl ?_
        exact from31 0 (by omega) (if_pos (by omega))
  exact loop (n + 1) 0 0 _ _ _ (by omega) (by omega) (by
    constructor
    · intro z
      exact absurd z (by decide)
    · intro z
      cases z)
end
section
/-! ===== Model: ownerOf ===== -/
theorem c_Mod_ownerOf (M : oM) (c n : Nat) (h2 : M K_M_now 0 2 = nI n) (hn : n ≤ 4) (hc : c < 900) : oCt 0 k_Mod_ownerOf [.inr (K_MOD, 0), .inl (nI c)] M (fun r M' => r = some (oFst (sFst (fun d => tb (M K_M_heldBy 0 c) d) (M K_M_ranks 0) n)) ∧ M' = M) := by
  refine oCt.of (ls := [some (.inr (K_MOD, 0)), some (.inl (nI c)), none, none]) mok_Mod_ownerOf rfl rfl ?_
  refine oRun_ok 4 rfl ?_
  generalize hok : (fun d => tb (M K_M_heldBy 0 c) d) = ok
  generalize hrk : M K_M_ranks 0 = rk
  have loop : ∀ (q d : Nat), d + q = n → oG k_Mod_ownerOf 0 4 [some (.inr (K_MOD, 0)), some (.inl (nI c)), some (.inl (oFst (sFst ok rk d))), some (.inl (nI d))] [] M (fun r M' => r = some (oFst (sFst ok rk n)) ∧ M' = M) := by
    intro q
    induction q with
    | zero =>
      intro d hd
      have hd : d = n := by omega
      subst hd
      refine oRun_ok 4 rfl ?_
      refine g_iald 2 rfl rfl rfl (by decide) ?_
      rw [show M 32 0 2 = nI d from h2]
      refine g_ic_ge rfl (fun _ => ?_) (fun h => absurd (Int32.le_refl _) h)
      refine oRun_ok 1 rfl ?_
      exact g_iret rfl rfl rfl ⟨rfl, rfl⟩
    | succ q ih =>
      intro d hd
      refine oRun_ok 4 rfl ?_
      refine g_iald 2 rfl rfl rfl (by decide) ?_
      rw [show M 32 0 2 = nI n from h2]
      refine g_ic_ge rfl (fun h => ?_) (fun _ => ?_)
      · rw [nIle (by omega) (by omega)] at h
        omega
      refine oRun_ok 3 rfl ?_
      refine g_iald c rfl rfl rfl hc ?_
      refine oRun_ok 5 rfl ?_
      rw [bit_at _ (by omega), show tb (M 40 0 c) d = ok d from by rw [← hok]]
      have fin : ∀ o, oFst (sFst ok rk (d + 1)) = o → oG k_Mod_ownerOf 0 52 [some (.inr (K_MOD, 0)), some (.inl (nI c)), some (.inl (oFst (sFst ok rk d))), some (.inl (nI d))] [.inl o] M (fun r M' => r = some (oFst (sFst ok rk n)) ∧ M' = M) := by
        rintro o rfl
        refine oRun_ok 3 rfl ?_
        rw [nI_1]
        exact ih (d + 1) (by omega)
      have keep : sFst ok rk (d + 1) = sFst ok rk d → oG k_Mod_ownerOf 0 51 [some (.inr (K_MOD, 0)), some (.inl (nI c)), some (.inl (oFst (sFst ok rk d))), some (.inl (nI d))] [] M (fun r M' => r = some (oFst (sFst ok rk n)) ∧ M' = M) := by
        intro h
        refine oRun_ok 1 rfl ?_
        exact fin _ (by rw [h])
      have take : sFst ok rk (d + 1) = some d → oG k_Mod_ownerOf 0 47 [some (.inr (K_MOD, 0)), some (.inl (nI c)), some (.inl (oFst (sFst ok rk d))), some (.inl (nI d))] [] M (fun r M' => r = some (oFst (sFst ok rk n)) ∧ M' = M) := by
        intro h
        refine oRun_ok 2 rfl ?_
        exact fin _ (by rw [h]; rfl)
      refine g_ic_ne rfl (fun h25 => ?_) (fun h25 => ?_)
      · refine keep ?_
        rw [sFst, if_neg (fun z => h25 (by rw [z]; rfl))]
      · have hok' : ok d = true := by
          cases hz : ok d with
          | true => rfl
          | false =>
            rw [hz] at h25
            exact absurd h25 (by decide)
        refine oRun_ok 1 rfl ?_
        refine g_if_lt rfl (fun h29 => ?_) (fun h29 => ?_)
        · refine take ?_
          rw [sFst, if_pos hok']
          cases hz : sFst ok rk d with
          | none => rfl
          | some b =>
            have hb := sFst_b hz
            exfalso
            rw [hz] at h29
            exact nI_pos (by omega) h29
        · cases hz : sFst ok rk d with
          | none =>
            exfalso
            rw [hz] at h29
            exact h29 (by decide)
          | some b =>
            have hb := sFst_b hz
            rw [hz] at take keep
            rw [show oFst (some b) = nI b from rfl] at take keep ⊢
            refine oRun_ok 3 rfl ?_
            refine g_iald d rfl rfl rfl (by omega) ?_
            refine oRun_ok 3 rfl ?_
            refine g_iald b rfl rfl rfl (by omega) ?_
            rw [show M 41 0 = rk from hrk]
            refine g_ic_ge rfl (fun h44 => ?_) (fun h44 => ?_)
            · refine keep ?_
              rw [sFst, if_pos hok', hz]
              show (if rk d < rk b then some d else some b) = some b
              rw [if_neg (fun z => Int32.not_lt.mpr h44 z)]
            · refine take ?_
              rw [sFst, if_pos hok', hz]
              show (if rk d < rk b then some d else some b) = some d
              rw [if_pos (Int32.not_le.mp h44)]
  exact loop n 0 (by omega)
end
section
/-! ===== the whole state: the class's cells in C, the model's in D ===== -/
def oMk : List Nat := [K_M_now, K_M_image, K_M_tape, K_M_keys, K_M_keyAt, K_M_sorts, K_M_sizes, K_M_cells, K_M_holdsWhat, K_M_holdsA, K_M_holdsB, K_M_heldCells, K_M_tells]
/-- what lasts of the model is the same -/
def oPs (D D' : oM) : Prop := (∀ k ∈ oMk, D' k 0 = D k 0) ∧ D' K_MOD 0 3 = D K_MOD 0 3 ∧ D' K_MOD 0 14 = D K_MOD 0 14 ∧ D' K_MOD 0 40 = D K_MOD 0 40
theorem oPs.rf {D : oM} : oPs D D := ⟨fun _ _ => rfl, rfl, rfl, rfl⟩
theorem oPs.tr {D D1 D2 : oM} (h1 : oPs D D1) (h2 : oPs D1 D2) : oPs D D2 := ⟨fun k hk => (h2.1 k hk).trans (h1.1 k hk), h2.2.1.trans h1.2.1, h2.2.2.1.trans h1.2.2.1, h2.2.2.2.trans h1.2.2.2⟩
theorem oPs.symm {D D1 : oM} (h1 : oPs D D1) : oPs D1 D := ⟨fun k hk => (h1.1 k hk).symm, h1.2.1.symm, h1.2.2.1.symm, h1.2.2.2.symm⟩
def oCls : Nat → Nat → Prop := fun k _ => k < 31
def oMdl : Nat → Nat → Prop := fun k _ => 31 ≤ k ∧ k < 60
def oCk : List Nat := [K_LAND, K_STX, K_STY, K_DEED, K_DK, K_DW, K_DL, K_TEXT, K_TCOD, K_RBYT, K_ROW, K_RPL, K_SLOT, K_WAIT]
/-- what lasts of the class is the same -/
def oSm (C C' : oM) : Prop := (∀ k ∈ oCk, ∀ i, C' k i = C k i) ∧ C' K_OAK 0 2 = C K_OAK 0 2 ∧ C' K_OAK 0 12 = C K_OAK 0 12 ∧ C' K_READER 0 1 = C K_READER 0 1
theorem oSm.rf {D : oM} : oSm D D := ⟨fun _ _ _ => rfl, rfl, rfl, rfl⟩
theorem oCk_rl : ∀ k ∈ oRLk, k ∈ oCk := by decide
theorem oSm.kp {C C' : oM} (h : oSm C C') : oKp C C' := fun k hk i => h.1 k (oCk_rl k hk) i
def I_land (C D : oM) : Prop := oNOk (D K_M_now 0) ∧ oRL C (D K_M_now 0) 0
def I_img (C D : oM) : Prop := D K_MOD 0 3 = C K_OAK 0 2 ∧ (C K_OAK 0 2 = 0 ∨ C K_OAK 0 2 = 1 ∧ oNOk (D K_M_image 0) ∧ oRL C (D K_M_image 0) 1 ∧ cT (D K_M_image 0) ≤ cT (D K_M_now 0))
def I_tape (C D : oM) : Prop := ∃ n, n ≤ 96 ∧ C K_READER 0 1 = nI n ∧ D K_MOD 0 14 = nI n ∧ ∀ j, j < n → C K_RBYT 0 j = D K_M_tape 0 j ∧ inR (D K_M_tape 0 j) 0 255
def I_sheet (C D : oM) : Prop := ∀ s, s < 4 → C K_ROW s 0 = D K_M_sorts 0 s ∧ C K_ROW s 1 = D K_M_sizes 0 s ∧ inR (D K_M_sorts 0 s) (-1) 1 ∧ inR (D K_M_sizes 0 s) 0 24 ∧ ∀ k, k < 24 → C K_RPL s k = D K_M_cells 0 (24 * s + k)
def I_slot (C D : oM) : Prop := ∀ i, i < 5 → C K_SLOT i 0 = D K_M_holdsWhat 0 i ∧ inR (D K_M_holdsWhat 0 i) 0 3 ∧ (D K_M_holdsWhat 0 i = 1 → C K_SLOT i 1 = D K_M_holdsA 0 i ∧ inR (D K_M_holdsA 0 i) 0 5 ∧ D K_M_holdsB 0 i = f_Oak_worthOf (C K_SLOT i 1) (C K_SLOT i 2) (C K_SLOT i 3)) ∧ (D K_M_holdsWhat 0 i = 2 → C K_ROW (i + 4) 1 = D K_M_holdsA 0 i ∧ inR (D K_M_holdsA 0 i) 0 24 ∧ ∀ k, k < 24 → C K_RPL (i + 4) k = D K_M_heldCells 0 (24 * i + k)) ∧ (D K_M_holdsWhat 0 i = 3 → C K_SLOT i 4 = D K_M_holdsA 0 i)
def I_wait (C D : oM) : Prop := ∃ n, n ≤ 60 ∧ C K_OAK 0 12 = nI n ∧ D K_MOD 0 40 = nI n ∧ ∀ j, j < n → C K_WAIT 0 j = D K_M_tells 0 j
def oKeys : List Int32 := [110, 101, 101, 100, 108, 101, 99, 104, 97, 105, 110, 102, 105, 114, 115, 116]
def I_con (D : oM) : Prop := (∀ j, j < 16 → D K_M_keys 0 j = oKeys.getD j 0) ∧ D K_M_keyAt 0 0 = 0 ∧ D K_M_keyAt 0 1 = 6 ∧ D K_M_keyAt 0 2 = 11 ∧ D K_M_keyAt 0 3 = 16
def oI (C D : oM) : Prop := I_land C D ∧ I_img C D ∧ I_tape C D ∧ I_sheet C D ∧ I_slot C D ∧ I_wait C D ∧ I_con D
theorem oI.ok {C D : oM} (h : oI C D) : oNOk (D K_M_now 0) := h.1.1
theorem oI.rl {C D : oM} (h : oI C D) : oRL C (D K_M_now 0) 0 := h.1.2
theorem oI.img {C D : oM} (h : oI C D) : I_img C D := h.2.1
theorem oI.tape {C D : oM} (h : oI C D) : I_tape C D := h.2.2.1
theorem oI.sheet {C D : oM} (h : oI C D) : I_sheet C D := h.2.2.2.1
theorem oI.slot {C D : oM} (h : oI C D) : I_slot C D := h.2.2.2.2.1
theorem oI.wait {C D : oM} (h : oI C D) : I_wait C D := h.2.2.2.2.2.1
theorem oI.con {C D : oM} (h : oI C D) : I_con D := h.2.2.2.2.2.2
theorem oI.cls {C C' D : oM} (hI : oI C D) (h : oSm C C') : oI C' D := by
  obtain ⟨h1, h2, h3, h4, h5, h6, h7⟩ := hI
  have e := h.1
  refine ⟨⟨h1.1, oRL_kp h.kp h1.2⟩, ?_, ?_, ?_, ?_, ?_, h7⟩
  · unfold I_img at h2 ⊢
    rw [h.2.1]
    exact ⟨h2.1, h2.2.imp id (fun q => ⟨q.1, q.2.1, oRL_kp h.kp q.2.2.1, q.2.2.2⟩)⟩
  · unfold I_tape at h3 ⊢
    rw [h.2.2.2, e K_RBYT (by decide)]
    exact h3
  · unfold I_sheet at h4 ⊢
    simp only [e K_ROW (by decide), e K_RPL (by decide)]
    exact h4
  · unfold I_slot at h5 ⊢
    simp only [e K_ROW (by decide), e K_RPL (by decide), e K_SLOT (by decide)]
    exact h5
  · unfold I_wait at h6 ⊢
    rw [h.2.2.1, e K_WAIT (by decide)]
    exact h6
theorem oI.ps {C D D' : oM} (hI : oI C D) (h : oPs D D') : oI C D' := by
  obtain ⟨h1, h2, h3, h4, h5, h6, h7⟩ := hI
  have e := h.1
  refine ⟨?_, ?_, ?_, ?_, ?_, ?_, ?_⟩
  · unfold I_land at h1 ⊢
    rw [e K_M_now (by decide)]
    exact h1
  · unfold I_img at h2 ⊢
    rw [h.2.1, e K_M_now (by decide), e K_M_image (by decide)]
    exact h2
  · unfold I_tape at h3 ⊢
    rw [h.2.2.1, e K_M_tape (by decide)]
    exact h3
  · unfold I_sheet at h4 ⊢
    rw [e K_M_sorts (by decide), e K_M_sizes (by decide), e K_M_cells (by decide)]
    exact h4
  · unfold I_slot at h5 ⊢
    rw [e K_M_holdsWhat (by decide), e K_M_holdsA (by decide), e K_M_holdsB (by decide), e K_M_heldCells (by decide)]
    exact h5
  · unfold I_wait at h6 ⊢
    rw [h.2.2.2, e K_M_tells (by decide)]
    exact h6
  · unfold I_con at h7 ⊢
    rw [e K_M_keys (by decide), e K_M_keyAt (by decide)]
    exact h7
theorem oFr.ps {M M1 : oM} (h : oFr oCls M M1) : oPs M M1 := by
  have e : ∀ k, 31 ≤ k → ∀ i, M1 k i = M k i := fun k hk i => h k i (fun q => by have q : k < 31 := q; omega)
  exact ⟨fun k hk => e k ((by decide : ∀ k ∈ oMk, 31 ≤ k) k hk) 0, by rw [e K_MOD (by decide)], by rw [e K_MOD (by decide)], by rw [e K_MOD (by decide)]⟩
theorem oFr.sm {M M1 : oM} (h : oFr oMdl M M1) : oSm M M1 := by
  have e : ∀ k, k < 31 → ∀ i, M1 k i = M k i := fun k hk i => h k i (fun q => by have q : 31 ≤ k ∧ k < 60 := q; omega)
  exact ⟨fun k hk i => e k ((by decide : ∀ k ∈ oCk, k < 31) k hk) i, by rw [e K_OAK (by decide)], by rw [e K_OAK (by decide)], by rw [e K_READER (by decide)]⟩
/-- what the class only works with -/
def oCsc : Nat → Nat → Prop := fun k _ => k = K_WALK ∨ k = K_WX ∨ k = K_WY ∨ k = K_HROW ∨ k = K_NOB ∨ k = K_RNK ∨ k = K_LSTK ∨ k = K_RCOD
theorem oCsc_lt {k i : Nat} (h : oCsc k i) : k < 31 := by
  rcases h with h | h | h | h | h | h | h | h <;> rw [h] <;> decide
theorem oFr.sc {M M1 : oM} (h : oFr oCsc M M1) : oSm M M1 := by
  have e : ∀ k, ¬ (k = K_WALK ∨ k = K_WX ∨ k = K_WY ∨ k = K_HROW ∨ k = K_NOB ∨ k = K_RNK ∨ k = K_LSTK ∨ k = K_RCOD) → ∀ i, M1 k i = M k i := fun k hk i => h k i hk
  exact ⟨fun k hk i => e k ((by decide : ∀ k ∈ oCk, ¬ (k = K_WALK ∨ k = K_WX ∨ k = K_WY ∨ k = K_HROW ∨ k = K_NOB ∨ k = K_RNK ∨ k = K_LSTK ∨ k = K_RCOD)) k hk) i, by rw [e K_OAK (by decide)], by rw [e K_OAK (by decide)], by rw [e K_READER (by decide)]⟩
theorem oFr.scl {M M1 : oM} (h : oFr oCsc M M1) : oFr oCls M M1 := h.mono (fun k i q => oCsc_lt q)
theorem oFr.lk {M M1 : oM} (h : oFr (oKs K_LSTK) M M1) : oFr oCsc M M1 := h.mono (fun k i q => Or.inr (Or.inr (Or.inr (Or.inr (Or.inr (Or.inr (Or.inl q)))))))
theorem oFr.ws {M M1 : oM} {w : Nat} (h : oFr (oWs w) M M1) : oFr oCsc M M1 := h.mono (fun k i q => by
  rcases q with q | ⟨-, q | q | q⟩
  · exact Or.inr (Or.inr (Or.inr (Or.inr (Or.inr (Or.inr (Or.inl q))))))
  · exact Or.inl q
  · exact Or.inr (Or.inl q)
  · exact Or.inr (Or.inr (Or.inl q)))
theorem oFr.wk {M M1 : oM} {w : Nat} (h : oFr (oKi K_WALK w) M M1) : oFr oCsc M M1 := h.mono (fun k i q => Or.inl q.1)
theorem oFr.cs {M M1 : oM} {w r : Nat} (h : oFr (oCs w r) M M1) : oFr oCsc M M1 := h.mono (fun k i q => by
  rcases q with (q | ⟨-, q | q | q⟩) | ⟨q, -⟩
  · exact Or.inr (Or.inr (Or.inr (Or.inr (Or.inr (Or.inr (Or.inl q))))))
  · exact Or.inl q
  · exact Or.inr (Or.inl q)
  · exact Or.inr (Or.inr (Or.inl q))
  · exact Or.inr (Or.inr (Or.inr (Or.inl q))))
theorem oFr.os {M M1 : oM} {w r : Nat} (h : oFr (oOs w r) M M1) : oFr oCsc M M1 := h.mono (fun k i q => by
  rcases q with (q | ⟨-, q | q | q⟩) | ⟨q, -⟩ | ⟨-, q | q⟩
  · exact Or.inr (Or.inr (Or.inr (Or.inr (Or.inr (Or.inr (Or.inl q))))))
  · exact Or.inl q
  · exact Or.inr (Or.inl q)
  · exact Or.inr (Or.inr (Or.inl q))
  · exact Or.inr (Or.inr (Or.inr (Or.inl q)))
  · exact Or.inr (Or.inr (Or.inr (Or.inr (Or.inl q))))
  · exact Or.inr (Or.inr (Or.inr (Or.inr (Or.inr (Or.inl q))))))
/-- what a call of the class does: its answer, and the state that it stands for -/
def oQC (p : Int32 × oM) (M : oM) : Option Int32 → oM → Prop := fun r M' => r = some p.1 ∧ oI M' p.2 ∧ oFr oCls M M'
/-- the same call of the model -/
def oQM (p : Int32 × oM) (M : oM) : Option Int32 → oM → Prop := fun r M' => r = some p.1 ∧ oPs p.2 M' ∧ oFr oMdl M M'
theorem oQC.of {p : Int32 × oM} {M M' D' : oM} {v : Int32} (h : p = (v, D')) (hI : oI M' D') (hF : oFr oCls M M') : oQC p M (some v) M' := by
  subst h
  exact ⟨rfl, hI, hF⟩
/-- the class only looked -/
theorem oQC.look {p : Int32 × oM} {M M' D : oM} {v : Int32} (hI : oI M D) (h : p = (v, D)) (hF : oFr oCsc M M') : oQC p M (some v) M' := oQC.of h (hI.cls hF.sc) hF.scl
theorem oQC.same {p : Int32 × oM} {M D : oM} {v : Int32} (hI : oI M D) (h : p = (v, D)) : oQC p M (some v) M := oQC.of h hI oFr.rf
theorem oQM.of {p : Int32 × oM} {M M' D' : oM} {v : Int32} (h : p = (v, D')) (hI : oPs D' M') (hF : oFr oMdl M M') : oQM p M (some v) M' := by
  subst h
  exact ⟨rfl, hI, hF⟩
theorem oQM.same {p : Int32 × oM} {M D : oM} {v : Int32} (hI : oPs D M) (h : p = (v, D)) : oQM p M (some v) M := oQM.of h hI oFr.rf
/-- a step of the model over what it only works with -/
def oMsk : Nat → Nat → Prop := fun k _ => k = K_MOD ∨ k = K_M_aside ∨ k = K_M_kinds ∨ k = K_M_ways ∨ k = K_M_lengths ∨ k = K_M_cornerX ∨ k = K_M_cornerY ∨ k = K_M_heldBy ∨ k = K_M_ranks ∨ k = K_M_owners ∨ k = K_M_code ∨ k = K_M_waits ∨ k = K_M_tested ∨ k = K_M_stack ∨ k = K_M_facts ∨ k = K_M_moved
def oMs (M M' : oM) : Prop := oFr oMsk M M' ∧ M' K_MOD 0 3 = M K_MOD 0 3 ∧ M' K_MOD 0 14 = M K_MOD 0 14 ∧ M' K_MOD 0 40 = M K_MOD 0 40
theorem oMs.rf {M : oM} : oMs M M := ⟨oFr.rf, rfl, rfl, rfl⟩
theorem oMs.tr {M M1 M2 : oM} (h1 : oMs M M1) (h2 : oMs M1 M2) : oMs M M2 := ⟨h1.1.tr h2.1, h2.2.1.trans h1.2.1, h2.2.2.1.trans h1.2.2.1, h2.2.2.2.trans h1.2.2.2⟩
theorem oMs.at {M M' : oM} (h : oMs M M') {k : Nat} (hk : ¬ (k = K_MOD ∨ k = K_M_aside ∨ k = K_M_kinds ∨ k = K_M_ways ∨ k = K_M_lengths ∨ k = K_M_cornerX ∨ k = K_M_cornerY ∨ k = K_M_heldBy ∨ k = K_M_ranks ∨ k = K_M_owners ∨ k = K_M_code ∨ k = K_M_waits ∨ k = K_M_tested ∨ k = K_M_stack ∨ k = K_M_facts ∨ k = K_M_moved)) (i : Nat) : M' k i = M k i := h.1 k i hk
theorem oMs.ps {M M' : oM} (h : oMs M M') : oPs M M' := ⟨fun k hk => h.at ((by decide : ∀ k ∈ oMk, ¬ (k = K_MOD ∨ k = K_M_aside ∨ k = K_M_kinds ∨ k = K_M_ways ∨ k = K_M_lengths ∨ k = K_M_cornerX ∨ k = K_M_cornerY ∨ k = K_M_heldBy ∨ k = K_M_ranks ∨ k = K_M_owners ∨ k = K_M_code ∨ k = K_M_waits ∨ k = K_M_tested ∨ k = K_M_stack ∨ k = K_M_facts ∨ k = K_M_moved)) k hk) 0, h.2⟩
theorem oMs.md {M M' : oM} (h : oMs M M') : oFr oMdl M M' := h.1.mono (fun k i q => by
  rcases q with q | q | q | q | q | q | q | q | q | q | q | q | q | q | q | q <;> rw [q] <;> exact ⟨by decide, by decide⟩)
theorem oQM.look {p : Int32 × oM} {M M' D : oM} {v : Int32} (hD : oPs D M) (h : p = (v, D)) (hF : oMs M M') : oQM p M (some v) M' := oQM.of h (hD.tr hF.ps) hF.md
theorem oMs_k {M M' : oM} {k : Nat} (hk : ¬ k = K_MOD) (hF : oFr (oKs k) M M') (h : oMsk k 0) : oMs M M' := by
  have e : M' K_MOD 0 = M K_MOD 0 := hF K_MOD 0 (fun q => hk q.symm)
  exact ⟨hF.mono (fun k' i q => by have q : k' = k := q; rw [q]; exact h), by rw [e], by rw [e], by rw [e]⟩
theorem oMs_ml {M M' : oM} (hF : oFr oMl M M') : oMs M M' := by
  have e : M' K_MOD 0 = M K_MOD 0 := hF K_MOD 0 (by rintro (q | q) <;> exact absurd q (by decide))
  exact ⟨hF.mono (fun k i q => by rcases q with q | q <;> rw [q] <;> (show _ ∨ _; simp)), by rw [e], by rw [e], by rw [e]⟩
theorem oMs_mw {M M' : oM} (hF : oFr oMw M M') : oMs M M' := by
  have e : M' K_MOD 0 = M K_MOD 0 := hF K_MOD 0 (by rintro (q | q) <;> exact absurd q (by decide))
  exact ⟨hF.mono (fun k i q => by rcases q with q | q <;> rw [q] <;> (show _ ∨ _; simp)), by rw [e], by rw [e], by rw [e]⟩
theorem oMs_mf {M M' : oM} (hF : oFr oMf M M') (h7 : oM7 M M') : oMs M M' :=
  ⟨hF.mono (fun k i q => by rcases q with (q | q | q | q) | (q | q) | (q | q) <;> rw [q] <;> (show _ ∨ _; simp)), h7 3 (by decide), h7 14 (by decide), h7 40 (by decide)⟩
theorem oMs_mt {M M' : oM} (hF : oFr oMt M M') (h7 : oM7 M M') : oMs M M' := oMs_mf (hF.mono (fun k i q => Or.inl q)) h7
theorem oMs_up {M M1 : oM} {k j : Nat} {v : Int32} (h : oMs M M1) (hk : ¬ k = K_MOD) (hm : oMsk k 0) : oMs M (oUp M1 k 0 j v) := by
  have e : (oUp M1 k 0 j v) K_MOD = M1 K_MOD := oUp_k (fun q => hk q.symm)
  exact ⟨h.1.up hm, by rw [e]; exact h.2.1, by rw [e]; exact h.2.2.1, by rw [e]; exact h.2.2.2⟩
theorem oMs_mod {M M1 : oM} {j : Nat} {v : Int32} (h : oMs M M1) (hj : ¬ (j = 3 ∨ j = 14 ∨ j = 40)) : oMs M (oUp M1 K_MOD 0 j v) :=
  ⟨h.1.up (Or.inl rfl), (oUp_j (fun q => hj (Or.inl q.symm))).trans h.2.1, (oUp_j (fun q => hj (Or.inr (Or.inl q.symm)))).trans h.2.2.1, (oUp_j (fun q => hj (Or.inr (Or.inr q.symm)))).trans h.2.2.2⟩
-- a row set anew
def oSR (D : oM) (k : Nat) (f : Nat → Int32) : oM := fun k' => if k' = k then (fun i => if i = 0 then f else D k' i) else D k'
theorem oSR_at {D : oM} {k : Nat} {f : Nat → Int32} : oSR D k f k 0 = f := by
  unfold oSR
  rw [if_pos rfl, if_pos rfl]
theorem oSR_ne {D : oM} {k k' : Nat} {f : Nat → Int32} (h : ¬ k' = k) : oSR D k f k' = D k' := by
  unfold oSR
  rw [if_neg h]
theorem oUp_upd {M : oM} {k i j : Nat} {v : Int32} : oUp M k i j v k i = upd (M k i) j v := oUp_at
/-- a step of the model over one lasting row, besides what it only works with -/
theorem oPs_row {D M M' : oM} {k : Nat} {f : Nat → Int32} (hk : k ∈ oMk) (hD : oPs D M) (hF : oFr (fun k' i => oMsk k' i ∨ k' = k) M M') (h3 : M' K_MOD 0 3 = M K_MOD 0 3) (h14 : M' K_MOD 0 14 = M K_MOD 0 14) (h40 : M' K_MOD 0 40 = M K_MOD 0 40) (hf : M' k 0 = f) : oPs (oSR D k f) M' := by
  have hm : ¬ K_MOD = k := fun q => by rw [← q] at hk; revert hk; decide
  refine ⟨fun k' hk' => ?_, ?_, ?_, ?_⟩
  · by_cases e : k' = k
    · subst e
      rw [oSR_at]
      exact hf
    · rw [oSR_ne e, ← hD.1 k' hk']
      refine hF k' 0 (fun q => q.elim (fun q => ?_) e)
      exact (by decide : ∀ k ∈ oMk, ¬ (k = K_MOD ∨ k = K_M_aside ∨ k = K_M_kinds ∨ k = K_M_ways ∨ k = K_M_lengths ∨ k = K_M_cornerX ∨ k = K_M_cornerY ∨ k = K_M_heldBy ∨ k = K_M_ranks ∨ k = K_M_owners ∨ k = K_M_code ∨ k = K_M_waits ∨ k = K_M_tested ∨ k = K_M_stack ∨ k = K_M_facts ∨ k = K_M_moved)) k' hk' q
  · rw [oSR_ne hm, h3]; exact hD.2.1
  · rw [oSR_ne hm, h14]; exact hD.2.2.1
  · rw [oSR_ne hm, h40]; exact hD.2.2.2
/-- only one lasting row changed -/
theorem oQM.row {p : Int32 × oM} {D M M' : oM} {k : Nat} {v : Int32} {f : Nat → Int32} (hk : k ∈ oMk) (hD : oPs D M) (h : p = (v, oSR D k f)) (hF : oFr (oKi k 0) M M') (hf : M' k 0 = f) : oQM p M (some v) M' := by
  have hm : ¬ K_MOD = k := fun q => by rw [← q] at hk; revert hk; decide
  have e : M' K_MOD 0 = M K_MOD 0 := hF K_MOD 0 (fun q => hm q.1)
  refine oQM.of h (oPs_row hk hD (hF.mono (fun k i q => Or.inr q.1)) (by rw [e]) (by rw [e]) (by rw [e]) hf) (hF.mono (fun k' i q => ?_))
  rw [q.1]
  exact (by decide : ∀ k ∈ oMk, 31 ≤ k ∧ k < 60) k hk
end
section
/-! ===== what changes in the land ===== -/
def oLd0 : Nat → Nat → Prop := fun k i => oLS 0 k i ∨ oCsc k i
theorem oCsc_no {k i : Nat} (h : k ∈ oCk) : ¬ oCsc k i := (by decide : ∀ k ∈ oCk, ¬ (k = K_WALK ∨ k = K_WX ∨ k = K_WY ∨ k = K_HROW ∨ k = K_NOB ∨ k = K_RNK ∨ k = K_LSTK ∨ k = K_RCOD)) k h
theorem oLd0_hi {k i : Nat} (hk : k ∈ oCk) (h : 4 ≤ i) : ¬ oLd0 k i := by
  rintro ((⟨q, -⟩ | ⟨-, q, -⟩) | q)
  · omega
  · omega
  · exact oCsc_no hk q
theorem oLd0_k {k i : Nat} (hk : k ∈ [K_TEXT, K_TCOD, K_RBYT, K_ROW, K_RPL, K_SLOT, K_WAIT, K_OAK, K_READER]) : ¬ oLd0 k i := by
  have key : ∀ k ∈ [K_TEXT, K_TCOD, K_RBYT, K_ROW, K_RPL, K_SLOT, K_WAIT, K_OAK, K_READER], ¬ ((k = K_LAND ∨ k = K_STX ∨ k = K_STY) ∨ (k = K_DEED ∨ k = K_DK ∨ k = K_DW ∨ k = K_DL) ∨ (k = K_WALK ∨ k = K_WX ∨ k = K_WY ∨ k = K_HROW ∨ k = K_NOB ∨ k = K_RNK ∨ k = K_LSTK ∨ k = K_RCOD)) := by decide
  intro q
  refine key k hk ?_
  rcases q with (⟨-, q⟩ | ⟨-, -, q⟩) | q
  · exact Or.inl q
  · exact Or.inr (Or.inl q)
  · exact Or.inr (Or.inr q)
theorem oLd0_1 {k : Nat} (hk : k ∈ [K_LAND, K_STX, K_STY]) : ¬ oLd0 k 1 := by
  rintro ((⟨q, -⟩ | ⟨-, -, q⟩) | q)
  · omega
  · exact (by decide : ∀ k ∈ [K_LAND, K_STX, K_STY], ¬ (k = K_DEED ∨ k = K_DK ∨ k = K_DW ∨ k = K_DL)) k hk q
  · exact (by decide : ∀ k ∈ [K_LAND, K_STX, K_STY], ¬ (k = K_WALK ∨ k = K_WX ∨ k = K_WY ∨ k = K_HROW ∨ k = K_NOB ∨ k = K_RNK ∨ k = K_LSTK ∨ k = K_RCOD)) k hk q
theorem oRL_img {C C' : oM} {N : Nat → Int32} (hF : oFr oLd0 C C') (h : oRL C N 1) : oRL C' N 1 := by
  have e1 := hF K_LAND 1 (oLd0_1 (by decide))
  have e2 := hF K_STX 1 (oLd0_1 (by decide))
  have e3 := hF K_STY 1 (oLd0_1 (by decide))
  have e4 : ∀ k ∈ [K_DEED, K_DK, K_DW, K_DL], ∀ d, C' k (4 * 1 + d) = C k (4 * 1 + d) := fun k hk d => hF k _ (oLd0_hi ((by decide : ∀ k ∈ [K_DEED, K_DK, K_DW, K_DL], k ∈ oCk) k hk) (by omega))
  have e5 : ∀ t, C' K_TEXT t = C K_TEXT t := fun t => hF _ _ (oLd0_k (by decide))
  have e6 : ∀ t, C' K_TCOD t = C K_TCOD t := fun t => hF _ _ (oLd0_k (by decide))
  unfold oRL oRD oRT at h ⊢
  simp only [e1, e2, e3, e4 K_DEED (by decide), e4 K_DK (by decide), e4 K_DW (by decide), e4 K_DL (by decide), e5, e6]
  exact h
theorem oI.land {C C' D : oM} {N' : Nat → Int32} (hI : oI C D) (hF : oFr oLd0 C C') (hN : oNOk N') (hL : oRL C' N' 0) (hT : cT (D K_M_now 0) ≤ cT N') : oI C' (oSR D K_M_now N') := by
  obtain ⟨h1, h2, h3, h4, h5, h6, h7⟩ := hI
  have eo : C' K_OAK 0 = C K_OAK 0 := hF _ _ (oLd0_k (by decide))
  have er : C' K_READER 0 = C K_READER 0 := hF _ _ (oLd0_k (by decide))
  have e : ∀ k ∈ [K_TEXT, K_TCOD, K_RBYT, K_ROW, K_RPL, K_SLOT, K_WAIT, K_OAK, K_READER], ∀ i, C' k i = C k i := fun k hk i => hF _ _ (oLd0_k hk)
  refine ⟨?_, ?_, ?_, ?_, ?_, ?_, ?_⟩
  · unfold I_land
    rw [oSR_at]
    exact ⟨hN, hL⟩
  · unfold I_img at h2 ⊢
    rw [oSR_ne (by decide), oSR_ne (by decide), oSR_at, eo]
    exact ⟨h2.1, h2.2.imp id (fun q => ⟨q.1, q.2.1, oRL_img hF q.2.2.1, Nat.le_trans q.2.2.2 hT⟩)⟩
  · unfold I_tape at h3 ⊢
    rw [oSR_ne (by decide), oSR_ne (by decide), er, e K_RBYT (by decide)]
    exact h3
  · unfold I_sheet at h4 ⊢
    simp only [e K_ROW (by decide), e K_RPL (by decide)]
    rw [oSR_ne (by decide), oSR_ne (by decide), oSR_ne (by decide)]
    exact h4
  · unfold I_slot at h5 ⊢
    simp only [e K_ROW (by decide), e K_RPL (by decide), e K_SLOT (by decide)]
    rw [oSR_ne (by decide), oSR_ne (by decide), oSR_ne (by decide), oSR_ne (by decide)]
    exact h5
  · unfold I_wait at h6 ⊢
    rw [oSR_ne (by decide), oSR_ne (by decide), eo, e K_WAIT (by decide)]
    exact h6
  · unfold I_con at h7 ⊢
    rw [oSR_ne (by decide), oSR_ne (by decide)]
    exact h7
theorem oLd0_cls {k i : Nat} (h : oLd0 k i) : oCls k i := by
  show k < 31
  rcases h with (⟨-, q | q | q⟩ | ⟨-, -, q | q | q | q⟩) | q
  · rw [q]; decide
  · rw [q]; decide
  · rw [q]; decide
  · rw [q]; decide
  · rw [q]; decide
  · rw [q]; decide
  · rw [q]; decide
  · exact oCsc_lt q
theorem oQC.land {p : Int32 × oM} {M M' D : oM} {v : Int32} {N' : Nat → Int32} (hI : oI M D) (h : p = (v, oSR D K_M_now N')) (hF : oFr oLd0 M M') (hN : oNOk N') (hL : oRL M' N' 0) (hT : cT (D K_M_now 0) ≤ cT N') : oQC p M (some v) M' := oQC.of h (hI.land hF hN hL hT) (hF.mono (fun k i q => oLd0_cls q))
-- one deed alone
theorem oDeed_ok {N N' : Nat → Int32} {d : Nat} (hN : oNOk N) (hd : d < cD N) (hs : ∀ j, ¬ (20 + 35 * d ≤ j ∧ j < 55 + 35 * d) → N' j = N j) (hO : oDOk N' d) : oNOk N' := by
  obtain ⟨-, d4⟩ := oND hN
  obtain ⟨h1, h2, h3, h4, h5, h6⟩ := hN
  have e1 : cS N' = cS N := by unfold cS; rw [hs 1 (by omega)]
  have e2 : cD N' = cD N := by unfold cD; rw [hs 2 (by omega)]
  have e3 : cT N' = cT N := by unfold cT; rw [hs 3 (by omega)]
  refine ⟨by rw [hs 1 (by omega)]; exact h1, by rw [hs 2 (by omega)]; exact h2, by rw [hs 3 (by omega)]; exact h3, fun i hi => ?_, fun e he => ?_, fun t ht => ?_⟩
  · rw [e1] at hi
    have : cS N ≤ 8 := (inR_nI (n := 8) h1 (by decide)).2
    rw [hs _ (by omega), hs _ (by omega)]
    exact h4 i hi
  · rw [e2] at he
    by_cases z : e = d
    · rw [z]; exact hO
    · have hc : N' (20 + 35 * e + 4) = N (20 + 35 * e + 4) := hs _ (by omega)
      have ec : cC N' e = cC N e := by unfold cC; rw [hc]
      have h5e := h5 e he
      have c10 := (oNC h5e).2
      unfold oDOk at h5e ⊢
      rw [ec, hc, hs (20 + 35 * e) (by omega), hs (20 + 35 * e + 1) (by omega), hs (20 + 35 * e + 2) (by omega), hs (20 + 35 * e + 3) (by omega)]
      refine ⟨h5e.1, h5e.2.1, h5e.2.2.1, h5e.2.2.2.1, h5e.2.2.2.2.1, fun j hj => ?_⟩
      rw [hs (20 + 35 * e + 5 + 3 * j) (by omega), hs (20 + 35 * e + 5 + 3 * j + 1) (by omega), hs (20 + 35 * e + 5 + 3 * j + 2) (by omega)]
      exact h5e.2.2.2.2.2 j hj
  · rw [e3] at ht
    have h6t := h6 t ht
    have ef : (fun k => N' (188 + 96 * t + k)) = (fun k => N (188 + 96 * t + k)) := by
      funext k
      exact hs _ (by omega)
    unfold oTOk tN tK at h6t ⊢
    rw [hs (160 + 2 * t) (by omega), ef]
    exact h6t
theorem oDeed_rl {C C' : oM} {N N' : Nat → Int32} {d : Nat} (hN : oNOk N) (hL : oRL C N 0) (hd : d < cD N) (hs : ∀ j, ¬ (20 + 35 * d ≤ j ∧ j < 55 + 35 * d) → N' j = N j) (hF : oFr (oDS (4 * 0 + d)) C C') (hR : oRD C' N' (4 * 0 + d) d) : oRL C' N' 0 := by
  obtain ⟨-, d4⟩ := oND hN
  obtain ⟨-, s8⟩ := oNS hN
  have e1 : cS N' = cS N := by unfold cS; rw [hs 1 (by omega)]
  have e2 : cD N' = cD N := by unfold cD; rw [hs 2 (by omega)]
  have e3 : cT N' = cT N := by unfold cT; rw [hs 3 (by omega)]
  have ek : ∀ k ∈ [K_LAND, K_STX, K_STY, K_TEXT, K_TCOD], ∀ i, C' k i = C k i := fun k hk i => hF k i (fun q => (by decide : ∀ k ∈ [K_LAND, K_STX, K_STY, K_TEXT, K_TCOD], ¬ (k = K_DEED ∨ k = K_DK ∨ k = K_DW ∨ k = K_DL)) k hk q.2)
  obtain ⟨l1, l2, l3, l4, l5, l6, l7⟩ := hL
  unfold oRL
  rw [e1, e2, e3, ek K_LAND (by decide), ek K_STX (by decide), ek K_STY (by decide), hs 0 (by omega), hs 1 (by omega), hs 2 (by omega), hs 3 (by omega)]
  refine ⟨l1, l2, l3, l4, fun i hi => ?_, fun e he => ?_, fun t ht => ?_⟩
  · rw [hs _ (by omega), hs _ (by omega)]
    exact l5 i hi
  · by_cases z : e = d
    · rw [z]; exact hR
    · have ei : ∀ k, C' k (4 * 0 + e) = C k (4 * 0 + e) := fun k => hF _ _ (fun q => z (by have := q.1; omega))
      have hle := l6 e he
      have c10 := (oNC (hN.2.2.2.2.1 e he)).2
      have ec : cC N' e = cC N e := by unfold cC; rw [hs _ (by omega)]
      unfold oRD at hle ⊢
      rw [ec, ei, ei, ei, ei]
      refine ⟨fun w hw => ?_, fun j hj => ?_⟩
      · rw [hs _ (by omega)]
        exact hle.1 w hw
      · rw [hs _ (by omega), hs _ (by omega), hs _ (by omega)]
        exact hle.2 j hj
  · have h7t := l7 t ht
    have t96 := (hN.2.2.2.2.2 t ht).2.1
    have et : tN N' t = tN N t := by unfold tN; rw [hs _ (by omega)]
    have ekk : tK N' t = tK N t := by unfold tK; rw [hs _ (by omega)]
    unfold oRT at h7t ⊢
    rw [et, ekk, ek K_TEXT (by decide), ek K_TCOD (by decide), hs _ (by omega)]
    refine ⟨h7t.1, h7t.2.1, h7t.2.2.1, fun k hk => ?_⟩
    rw [hs _ (by omega)]
    exact h7t.2.2.2 k hk
theorem oDS_ld {d : Nat} (hd : d < 4) {k i : Nat} (h : oDS (4 * 0 + d) k i) : oLd0 k i := Or.inl (Or.inr ⟨by have := h.1; omega, by have := h.1; omega, h.2⟩)
/-- one deed of the land changed -/
theorem oQC.deed {p : Int32 × oM} {M M' D : oM} {v : Int32} {N' : Nat → Int32} {d : Nat} (hI : oI M D) (h : p = (v, oSR D K_M_now N')) (hd : d < cD (D K_M_now 0)) (hs : ∀ j, ¬ (20 + 35 * d ≤ j ∧ j < 55 + 35 * d) → N' j = D K_M_now 0 j) (hF : oFr (oDS (4 * 0 + d)) M M') (hO : oDOk N' d) (hR : oRD M' N' (4 * 0 + d) d) : oQC p M (some v) M' := by
  obtain ⟨-, d4⟩ := oND hI.ok
  refine oQC.land hI h (hF.mono (fun k i q => oDS_ld (by omega) q)) (oDeed_ok hI.ok hd hs hO) (oDeed_rl hI.ok hI.rl hd hs hF hR) ?_
  have : cT N' = cT (D K_M_now 0) := by unfold cT; rw [hs 3 (by omega)]
  omega
end
section
/-! ===== stones, deeds: both sides ===== -/
abbrev vBAD : Int32 := -1000000001
abbrev vNO : Int32 := -1000000002
abbrev vFULL : Int32 := -1000000003
abbrev vNONE : Int32 := -1000000005
abbrev vNOTHING : Int32 := -1000000011
abbrev vKIND : Int32 := -1000000012
abbrev vINDEX : Int32 := -1000000013
abbrev vSIZE : Int32 := -1000000014
theorem oI.st {C D : oM} (h : oI C D) : C K_LAND 0 1 = D K_M_now 0 1 := h.rl.1
theorem oI.dd {C D : oM} (h : oI C D) : C K_LAND 0 4 = D K_M_now 0 2 := h.rl.2.1
theorem oI.tx {C D : oM} (h : oI C D) : C K_LAND 0 6 = D K_M_now 0 3 := h.rl.2.2.1
theorem oI.zz {C D : oM} (h : oI C D) : C K_LAND 0 7 = D K_M_now 0 0 := h.rl.2.2.2.1
theorem oI.sxy {C D : oM} (h : oI C D) {i : Nat} (hi : i < cS (D K_M_now 0)) : C K_STX 0 i = D K_M_now 0 (4 + 2 * i) ∧ C K_STY 0 i = D K_M_now 0 (4 + 2 * i + 1) := h.rl.2.2.2.2.1 i hi
theorem oI.rd {C D : oM} (h : oI C D) {d : Nat} (hd : d < cD (D K_M_now 0)) : oRD C (D K_M_now 0) (4 * 0 + d) d := h.rl.2.2.2.2.2.1 d hd
theorem oI.dok {C D : oM} (h : oI C D) {d : Nat} (hd : d < cD (D K_M_now 0)) : oDOk (D K_M_now 0) d := h.ok.2.2.2.2.1 d hd
theorem oPs.now {D M : oM} (h : oPs D M) : M K_M_now 0 = D K_M_now 0 := h.1 K_M_now (by decide)
theorem oHasD {C D : oM} {d : Int32} (hI : oI C D) (h : ¬ f_Oak_isWithin d 0 (D K_M_now 0 2 - 1) = 0) : ∃ j, j < cD (D K_M_now 0) ∧ j < 4 ∧ d = nI j ∧ (nI j).toNatClampNeg = j := by
  obtain ⟨hD, d4⟩ := oND hI.ok
  rw [hD] at h
  obtain ⟨j, hj, e⟩ := wiI (by omega) h
  exact ⟨j, hj, by omega, e, nIc (by omega)⟩
theorem oHasS {C D : oM} {d : Int32} (hI : oI C D) (h : ¬ f_Oak_isWithin d 0 (D K_M_now 0 1 - 1) = 0) : ∃ j, j < cS (D K_M_now 0) ∧ j < 8 ∧ d = nI j ∧ (nI j).toNatClampNeg = j := by
  obtain ⟨hD, d4⟩ := oNS hI.ok
  rw [hD] at h
  obtain ⟨j, hj, e⟩ := wiI (by omega) h
  exact ⟨j, hj, by omega, e, nIc (by omega)⟩
theorem upd_s {f : Nat → Int32} {k j : Nat} {x : Int32} : upd f k x j = if j = k then x else f j := rfl
/-- stones of the land -/
theorem oSt_ok {N N' : Nat → Int32} (hN : oNOk N) (hs : ∀ j, j = 0 ∨ j = 2 ∨ j = 3 ∨ 20 ≤ j → N' j = N j) (h1 : inR (N' 1) 0 8) (h2 : ∀ i, i < cS N' → inR (N' (4 + 2 * i)) (-99) 99 ∧ inR (N' (4 + 2 * i + 1)) (-99) 99) : oNOk N' := by
  obtain ⟨g1, g2, g3, g4, g5, g6⟩ := hN
  have e2 : cD N' = cD N := by unfold cD; rw [hs 2 (by omega)]
  have e3 : cT N' = cT N := by unfold cT; rw [hs 3 (by omega)]
  refine ⟨h1, by rw [hs 2 (by omega)]; exact g2, by rw [hs 3 (by omega)]; exact g3, h2, fun d hd => ?_, fun t ht => ?_⟩
  · rw [e2] at hd
    have h := g5 d hd
    have ec : cC N' d = cC N d := by unfold cC; rw [hs _ (by omega)]
    unfold oDOk at h ⊢
    rw [ec, hs (20 + 35 * d) (by omega), hs (20 + 35 * d + 1) (by omega), hs (20 + 35 * d + 2) (by omega), hs (20 + 35 * d + 3) (by omega), hs (20 + 35 * d + 4) (by omega)]
    refine ⟨h.1, h.2.1, h.2.2.1, h.2.2.2.1, h.2.2.2.2.1, fun j hj => ?_⟩
    rw [hs _ (by omega), hs _ (by omega), hs _ (by omega)]
    exact h.2.2.2.2.2 j hj
  · rw [e3] at ht
    have h := g6 t ht
    have ef : (fun k => N' (188 + 96 * t + k)) = (fun k => N (188 + 96 * t + k)) := by
      funext k
      exact hs _ (by omega)
    unfold oTOk tN tK at h ⊢
    rw [hs (160 + 2 * t) (by omega), ef]
    exact h
theorem oSt_rl {C C' : oM} {N N' : Nat → Int32} (hN : oNOk N) (hL : oRL C N 0) (hs : ∀ j, j = 2 ∨ j = 3 ∨ 20 ≤ j → N' j = N j) (hF : oFr (fun k i => i = 0 ∧ (k = K_LAND ∨ k = K_STX ∨ k = K_STY)) C C') (h1 : C' K_LAND 0 1 = N' 1) (h4 : C' K_LAND 0 4 = C K_LAND 0 4) (h6 : C' K_LAND 0 6 = C K_LAND 0 6) (h7 : C' K_LAND 0 7 = N' 0)
    (h2 : ∀ i, i < cS N' → C' K_STX 0 i = N' (4 + 2 * i) ∧ C' K_STY 0 i = N' (4 + 2 * i + 1)) : oRL C' N' 0 := by
  obtain ⟨l1, l2, l3, l4, l5, l6, l7⟩ := hL
  have e2 : cD N' = cD N := by unfold cD; rw [hs 2 (by omega)]
  have e3 : cT N' = cT N := by unfold cT; rw [hs 3 (by omega)]
  have ek : ∀ k ∈ [K_DEED, K_DK, K_DW, K_DL, K_TEXT, K_TCOD], ∀ i, C' k i = C k i := fun k hk i => hF k i (fun q => (by decide : ∀ k ∈ [K_DEED, K_DK, K_DW, K_DL, K_TEXT, K_TCOD], ¬ (k = K_LAND ∨ k = K_STX ∨ k = K_STY)) k hk q.2)
  refine ⟨h1, by rw [h4, hs 2 (by omega)]; exact l2, by rw [h6, hs 3 (by omega)]; exact l3, h7, h2, fun d hd => ?_, fun t ht => ?_⟩
  · rw [e2] at hd
    have h := l6 d hd
    have ec : cC N' d = cC N d := by unfold cC; rw [hs _ (by omega)]
    unfold oRD at h ⊢
    rw [ec, ek K_DEED (by decide), ek K_DK (by decide), ek K_DW (by decide), ek K_DL (by decide)]
    refine ⟨fun w hw => ?_, fun j hj => ?_⟩
    · rw [hs _ (by omega)]
      exact h.1 w hw
    · rw [hs _ (by omega), hs _ (by omega), hs _ (by omega)]
      exact h.2 j hj
  · rw [e3] at ht
    have h := l7 t ht
    have et : tN N' t = tN N t := by unfold tN; rw [hs _ (by omega)]
    have ekk : tK N' t = tK N t := by unfold tK; rw [hs _ (by omega)]
    unfold oRT at h ⊢
    rw [et, ekk, ek K_TEXT (by decide), ek K_TCOD (by decide), hs _ (by omega)]
    refine ⟨h.1, h.2.1, h.2.2.1, fun k hk => ?_⟩
    rw [hs _ (by omega)]
    exact h.2.2.2 k hk
theorem oSt_ld {k i : Nat} (h : i = 0 ∧ (k = K_LAND ∨ k = K_STX ∨ k = K_STY)) : oLd0 k i := Or.inl (Or.inl h)
theorem spot_in {x y : Int32} (h : ¬ f_Oak_isStonePlace x y = 0) : inR x (-99) 99 ∧ inR y (-99) 99 := by
  unfold f_Oak_isStonePlace at h
  by_cases a : f_Oak_isWithin x (-99) 99 = 0
  · exact absurd (if_pos a) h
  · rw [if_neg a] at h
    by_cases b : f_Oak_isWithin y (-99) 99 = 0
    · exact absurd (if_pos b) h
    · exact ⟨wiR a, wiR b⟩
-- stone
def s_stone (D : oM) (x y : Int32) : Int32 × oM := if f_Oak_isStonePlace x y = 0 then (vBAD, D) else if D K_M_now 0 1 = 8 then (vFULL, D) else (D K_M_now 0 1, oSR D K_M_now (upd (upd (upd (D K_M_now 0) (4 + 2 * cS (D K_M_now 0)) x) (4 + 2 * cS (D K_M_now 0) + 1) y) 1 (nI (cS (D K_M_now 0) + 1))))
theorem p_stone (M D : oM) (x y : Int32) (hI : oI M D) : oCt 3 k_Oak_stone [.inr (K_OAK, 0), .inl x, .inl y] M (oQC (s_stone D x y) M) := by
  obtain ⟨hS, s8⟩ := oNS hI.ok
  have hM : M K_LAND 0 1 = nI (cS (D K_M_now 0)) := hI.st.trans hS
  generalize hn : cS (D K_M_now 0) = n at hS s8 hM
  refine oCt.of (ls := [some (.inr (K_OAK, 0)), some (.inl x), some (.inl y)]) mok_Oak_stone rfl rfl ?_
  refine oRun_ok 2 rfl ?_
  refine g_callS rfl rfl rfl rfl mok_Oak_isStonePlace (by decide) (c_Oak_isStonePlace _ _ _) ?_
  rintro r2 M2 ⟨rfl, e⟩; rw [e]
  refine g_if_ne rfl (fun h5 => ?_) (fun h5 => ?_)
  · refine oRun_ok 4 rfl ?_
    rw [show M 1 0 1 = nI n from hM]
    refine g_ic_lt rfl (fun h20 => ?_) (fun h20 => ?_)
    · have hn8 : n < 8 := (nIlt (a := n) (b := 8) (by omega) (by omega)).mp h20
      refine oRun_ok 16 rfl ?_
      rw [show oUp M 1 0 1 (M 1 0 1 + 1) 1 0 1 - 1 = nI n by rw [oUp_self, show M 1 0 1 = nI n from hM, nI_1, nI_pred], show M 1 0 1 + 1 = nI (n + 1) by rw [show M 1 0 1 = nI n from hM, nI_1]]
      refine g_callV rfl rfl rfl rfl rfl mok_Land_putStone (by decide) (c_Land_putStone _ 0 n (n + 1) x y oUp_self (by omega) (by omega)) ?_
      rintro r54 M54 ⟨rfl, e⟩; rw [e]
      refine oRun_ok 5 rfl ?_
      refine g_iret rfl rfl rfl ?_
      rw [show oUp (oUp (oUp M 1 0 1 (nI (n + 1))) K_STX 0 n x) K_STY 0 n y 1 0 1 - 1 = nI n by rw [oUp_k (by decide), oUp_k (by decide), oUp_self, nI_pred]]
      have hx := spot_in h5
      have ne8 : ¬ D K_M_now 0 1 = 8 := by
        rw [hS, show (8 : Int32) = nI 8 from rfl, nIe (by omega) (by omega)]
        omega
      have c1 : cS (upd (upd (upd (D K_M_now 0) (4 + 2 * n) x) (4 + 2 * n + 1) y) 1 (nI (n + 1))) = n + 1 := by
        unfold cS
        rw [upd_eq, nIc (by omega)]
      refine oQC.land hI (N' := upd (upd (upd (D K_M_now 0) (4 + 2 * n) x) (4 + 2 * n + 1) y) 1 (nI (n + 1))) ?_ ?_ (oSt_ok hI.ok (fun j hj => ?_) ?_ (fun i hi => ?_)) (oSt_rl hI.ok hI.rl (fun j hj => ?_) ?_ ?_ ?_ ?_ ?_ (fun i hi => ?_)) ?_
      · unfold s_stone
        rw [if_neg h5, if_neg ne8, hn, hS]
      · exact ((oFr.rf.up (oSt_ld ⟨rfl, Or.inl rfl⟩)).up (oSt_ld ⟨rfl, Or.inr (Or.inl rfl)⟩)).up (oSt_ld ⟨rfl, Or.inr (Or.inr rfl)⟩)
      · rw [upd_ne (by omega), upd_ne (by omega), upd_ne (by omega)]
      · rw [upd_eq]
        exact ⟨by rw [nIt (by omega)]; omega, by rw [nIt (by omega)]; omega⟩
      · rw [c1] at hi
        by_cases z : i = n
        · subst z
          repeat (first | rw [upd_ne (by omega)] | rw [upd_eq])
          exact hx
        · repeat (first | rw [upd_ne (by omega)] | rw [upd_eq])
          exact hI.ok.2.2.2.1 i (by rw [hn]; omega)
      · rw [upd_ne (by omega), upd_ne (by omega), upd_ne (by omega)]
      · exact ((oFr.rf.up ⟨rfl, Or.inl rfl⟩).up ⟨rfl, Or.inr (Or.inl rfl)⟩).up ⟨rfl, Or.inr (Or.inr rfl)⟩
      · rw [oUp_k (by decide), oUp_k (by decide), upd_eq]
        exact oUp_self
      · rw [oUp_k (by decide), oUp_k (by decide)]
        exact oUp_j (by decide)
      · rw [oUp_k (by decide), oUp_k (by decide)]
        exact oUp_j (by decide)
      · rw [oUp_k (by decide), oUp_k (by decide), upd_ne (by omega), upd_ne (by omega), upd_ne (by omega)]
        exact (oUp_j (by decide)).trans hI.zz
      · rw [c1] at hi
        rw [oUp_k (k := K_STY) (k' := K_STX) (by decide), oUp_at, oUp_at]
        by_cases z : i = n
        · subst z
          repeat (first | rw [upd_ne (by omega)] | rw [upd_eq])
          exact ⟨if_pos rfl, if_pos rfl⟩
        · repeat (first | rw [upd_ne (by omega)] | rw [upd_eq])
          obtain ⟨a, b⟩ := hI.sxy (i := i) (by rw [hn]; omega)
          exact ⟨(if_neg z).trans a, (if_neg z).trans (by rw [oUp_k (by decide), oUp_k (by decide)]; exact b)⟩
      · unfold cT
        rw [upd_ne (by omega), upd_ne (by omega), upd_ne (by omega)]
        exact Nat.le_refl _
    · refine oRun_ok 1 rfl ?_
      refine g_iret rfl rfl rfl (oQC.same hI ((if_neg h5).trans (if_pos ?_)))
      rw [hS]
      rw [show (8 : Int32) = nI 8 from rfl, nIlt (by omega) (by omega)] at h20
      rw [show n = 8 by omega]
      rfl
  · refine oRun_ok 1 rfl ?_
    exact g_iret rfl rfl rfl (oQC.same hI (if_pos h5))
theorem q_stone (C M D : oM) (x y : Int32) (hI : oI C D) (hD : oPs D M) : oCt 3 k_Mod_stone [.inr (K_MOD, 0), .inl x, .inl y] M (oQM (s_stone D x y) M) := by
  obtain ⟨hS, s8⟩ := oNS hI.ok
  have hN := hD.now
  have hM : M K_M_now 0 1 = nI (cS (D K_M_now 0)) := by rw [hN]; exact hS
  generalize hn : cS (D K_M_now 0) = n at hS s8 hM
  refine oCt.of (ls := [some (.inr (K_MOD, 0)), some (.inl x), some (.inl y)]) mok_Mod_stone rfl rfl ?_
  refine oRun_ok 2 rfl ?_
  refine g_callS rfl rfl rfl rfl mok_Mod_isSpot (by decide) (c_Mod_isSpot _ _ _) ?_
  rintro r2 M2 ⟨rfl, e⟩; rw [e]
  refine g_if_ne rfl (fun h5 => ?_) (fun h5 => ?_)
  · refine oRun_ok 3 rfl ?_
    refine g_iald 1 rfl rfl rfl (by decide) ?_
    refine oRun_ok 1 rfl ?_
    refine g_ic_ne rfl (fun h19 => ?_) (fun h19 => ?_)
    · have hn8 : n < 8 := by
        have : ¬ n = 8 := fun z => h19 (by rw [show M 32 0 1 = nI n from hM, z]; rfl)
        omega
      refine oRun_ok 7 rfl ?_
      refine g_iald 1 rfl rfl rfl (by decide) ?_
      rw [show M 32 0 1 = nI n from hM]
      refine oRun_ok 3 rfl ?_
      refine g_iast (4 + 2 * n) rfl rfl (by simp only [L4, L2, nI_times, nI_plus]) (by omega) ?_
      refine oRun_ok 7 rfl ?_
      refine g_iald 1 rfl rfl rfl (by decide) ?_
      rw [show oUp M 32 0 (4 + 2 * n) x 32 0 1 = nI n by rw [oUp_j (by omega)]; exact hM]
      refine oRun_ok 5 rfl ?_
      refine g_iast (4 + 2 * n + 1) rfl rfl (by simp only [L4, L2, L1, nI_times, nI_plus]) (by omega) ?_
      refine oRun_ok 4 rfl ?_
      refine g_iald 1 rfl rfl rfl (by decide) ?_
      refine oRun_ok 2 rfl ?_
      refine g_iast 1 rfl rfl rfl (by decide) ?_
      refine oRun_ok 3 rfl ?_
      refine g_iald 1 rfl rfl rfl (by decide) ?_
      refine oRun_ok 2 rfl ?_
      refine g_iret rfl rfl rfl ?_
      rw [show oUp (oUp M 32 0 (4 + 2 * n) x) 32 0 (4 + 2 * n + 1) y 32 0 1 + 1 = nI (n + 1) by rw [oUp_j (by omega), oUp_j (by omega), show M 32 0 1 = nI n from hM, nI_1], oUp_self, nI_pred]
      have ne8 : ¬ D K_M_now 0 1 = 8 := by
        rw [← hN]
        exact h19
      refine oQM.row (k := K_M_now) (f := upd (upd (upd (D K_M_now 0) (4 + 2 * n) x) (4 + 2 * n + 1) y) 1 (nI (n + 1))) (by decide) hD ?_ (((oFr.rf.up ⟨rfl, rfl⟩).up ⟨rfl, rfl⟩).up ⟨rfl, rfl⟩) ?_
      · unfold s_stone
        rw [show f_Oak_isStonePlace x y = f_Mod_isSpot x y from rfl, if_neg h5, if_neg ne8, hn, hS]
      · rw [oUp_upd, oUp_upd, oUp_upd, ← hN]
    · refine oRun_ok 1 rfl ?_
      exact g_iret rfl rfl rfl (oQM.same hD ((if_neg h5).trans (if_pos (by rw [← hN]; exact h19))))
  · refine oRun_ok 1 rfl ?_
    exact g_iret rfl rfl rfl (oQM.same hD (if_pos h5))
-- stoneTold
def s_stoneTold (D : oM) (s w : Int32) : Int32 × oM := if f_Oak_isWithin s 0 (D K_M_now 0 1 - 1) = 0 then (vBAD, D) else if f_Oak_isWithin w 0 1 = 0 then (vBAD, D) else (D K_M_now 0 (4 + 2 * s.toNatClampNeg + w.toNatClampNeg), D)
theorem p_stoneTold (M D : oM) (s w : Int32) (hI : oI M D) : oCt 3 k_Oak_stoneTold [.inr (K_OAK, 0), .inl s, .inl w] M (oQC (s_stoneTold D s w) M) := by
  refine oCt.of (ls := [some (.inr (K_OAK, 0)), some (.inl s), some (.inl w)]) mok_Oak_stoneTold rfl rfl ?_
  refine oRun_ok 3 rfl ?_
  refine g_callV rfl rfl rfl rfl rfl mok_Land_hasStone (by decide) (c_Land_hasStone _ 0 _) ?_
  rintro r5 M5 ⟨rfl, e⟩; rw [e]
  rw [hI.st]
  refine g_if_eq rfl (fun h8 => ?_) (fun h8 => ?_)
  · refine oRun_ok 1 rfl ?_
    exact g_iret rfl rfl rfl (oQC.same hI (if_pos h8))
  · refine oRun_ok 3 rfl ?_
    refine g_callS rfl rfl rfl rfl mok_Oak_isWithin (by decide) (c_Oak_isWithin _ _ _ _) ?_
    rintro r14 M14 ⟨rfl, e⟩; rw [e]
    refine g_if_ne rfl (fun h17 => ?_) (fun h17 => ?_)
    · obtain ⟨i, hi, hi8, rfl, ei⟩ := oHasS hI h8
      obtain ⟨v, hv, rfl⟩ := wiI (m := 2) (v := w) (by decide) h17
      have hv2 : v = 0 ∨ v = 1 := by omega
      obtain ⟨a, b⟩ := hI.sxy hi
      have fin : s_stoneTold D (nI i) (nI v) = (D K_M_now 0 (4 + 2 * i + v), D) := by
        unfold s_stoneTold
        rw [if_neg h8, if_neg h17, ei, nIc (by omega)]
      refine oRun_ok 1 rfl ?_
      refine g_if_ne rfl (fun h24 => ?_) (fun h24 => ?_)
      · obtain rfl : v = 1 := hv2.resolve_left (fun z => h24 (by rw [z]; rfl))
        refine oRun_ok 4 rfl ?_
        refine g_iald i rfl rfl rfl hi8 ?_
        exact g_iret rfl rfl rfl (oQC.same hI (by rw [fin]; exact congrArg (fun z => (z, D)) b.symm))
      · obtain rfl : v = 0 := hv2.resolve_right (fun z => by rw [z] at h24; exact absurd h24 (by decide))
        refine oRun_ok 4 rfl ?_
        refine g_iald i rfl rfl rfl hi8 ?_
        refine oRun_ok 1 rfl ?_
        exact g_iret rfl rfl rfl (oQC.same hI (by rw [fin]; exact congrArg (fun z => (z, D)) a.symm))
    · refine oRun_ok 1 rfl ?_
      exact g_iret rfl rfl rfl (oQC.same hI ((if_neg h8).trans (if_pos h17)))
theorem q_stoneTold (C M D : oM) (s w : Int32) (hI : oI C D) (hD : oPs D M) : oCt 3 k_Mod_stoneTold [.inr (K_MOD, 0), .inl s, .inl w] M (oQM (s_stoneTold D s w) M) := by
  have hN := hD.now
  refine oCt.of (ls := [some (.inr (K_MOD, 0)), some (.inl s), some (.inl w)]) mok_Mod_stoneTold rfl rfl ?_
  refine oRun_ok 2 rfl ?_
  refine g_callV rfl rfl rfl rfl rfl mok_Mod_isStone (by decide) (c_Mod_isStone _ _) ?_
  rintro r2 M2 ⟨rfl, e⟩; rw [e]
  rw [hN]
  refine g_if_eq rfl (fun h5 => ?_) (fun h5 => ?_)
  · refine oRun_ok 1 rfl ?_
    exact g_iret rfl rfl rfl (oQM.same hD (if_pos h5))
  · refine oRun_ok 3 rfl ?_
    refine g_callS rfl rfl rfl rfl mok_Mod_in (by decide) (c_Mod_in _ _ _ _) ?_
    rintro r11 M11 ⟨rfl, e⟩; rw [e]
    refine g_if_eq rfl (fun h14 => ?_) (fun h14 => ?_)
    · refine oRun_ok 1 rfl ?_
      exact g_iret rfl rfl rfl (oQM.same hD ((if_neg h5).trans (if_pos h14)))
    · have h14 : ¬ f_Oak_isWithin w 0 1 = 0 := h14
      obtain ⟨i, hi, hi8, rfl, ei⟩ := oHasS hI h5
      obtain ⟨v, hv, rfl⟩ := wiI (m := 2) (v := w) (by decide) h14
      refine oRun_ok 9 rfl ?_
      refine g_iald (4 + 2 * i + v) rfl rfl (by simp only [L4, L2, nI_times, nI_plus]) (by omega) ?_
      refine oRun_ok 1 rfl ?_
      exact g_iret rfl rfl rfl (oQM.same hD (by unfold s_stoneTold; rw [if_neg h5, if_neg h14, ei, nIc (by omega), ← hN]))
end
section
/-! ===== move, seed, deedTold, set, deed ===== -/
theorem abs_far {a b : Int32} (h : a.toInt - b.toInt ≠ -2147483648 ∧ -2147483648 ≤ a.toInt - b.toInt ∧ a.toInt - b.toInt < 2147483648) : f_Math_abs (a - b) = f_Mod_size (b - a) := by
  have e : b - a = -(a - b) := by rw [Int32.neg_sub]
  have hs := iSub (a := a) (b := b) h.2
  rw [e]
  unfold f_Math_abs f_Mod_size
  have t0 : (0 : Int32).toInt = 0 := rfl
  have hn : (-(a - b)).toInt = -(a - b).toInt := iNeg (by rw [hs]; omega)
  by_cases z : 0 ≤ a - b
  · have z' := iLe.mp z
    rw [if_pos z]
    by_cases y : 0 ≤ -(a - b)
    · have y' := iLe.mp y
      rw [if_pos y]
      rw [iEq]
      omega
    · rw [if_neg y, Int32.neg_neg]
  · have z' := iLt.mp (Int32.not_le.mp z)
    rw [if_neg z, if_pos (iLe.mpr (by omega))]
theorem far_eq {a b x y : Int32} (ha : inR a (-99) 99) (hb : inR b (-99) 99) (hx : inR x (-99) 99) (hy : inR y (-99) 99) : f_Oak_farApart a b x y = f_Mod_size (x - a) + f_Mod_size (y - b) := by
  have h1 := ha.1
  have h2 := ha.2
  have h3 := hb.1
  have h4 := hb.2
  have h5 := hx.1
  have h6 := hx.2
  have h7 := hy.1
  have h8 := hy.2
  unfold f_Oak_farApart
  rw [abs_far (by omega), abs_far (by omega)]
def n_move (N : Nat → Int32) (s : Nat) (x y : Int32) : Nat → Int32 := upd (upd N (4 + 2 * s) x) (4 + 2 * s + 1) y
def s_move (D : oM) (s x y : Int32) : Int32 × oM := if f_Oak_isWithin s 0 (D K_M_now 0 1 - 1) = 0 then (vBAD, D) else if f_Oak_isStonePlace x y = 0 then (vBAD, D) else (f_Mod_size (x - D K_M_now 0 (4 + 2 * s.toNatClampNeg)) + f_Mod_size (y - D K_M_now 0 (4 + 2 * s.toNatClampNeg + 1)), oSR D K_M_now (n_move (D K_M_now 0) s.toNatClampNeg x y))
theorem n_move_s {N : Nat → Int32} {s : Nat} {x y : Int32} (hs : s < 8) : ∀ j, j < 4 ∨ 20 ≤ j → n_move N s x y j = N j := by
  intro j hj
  unfold n_move
  repeat (first | rw [upd_ne (by omega)] | rw [upd_eq])
theorem oI.move {M D : oM} {s : Nat} {x y : Int32} (hI : oI M D) (hs : s < cS (D K_M_now 0)) (hx : inR x (-99) 99 ∧ inR y (-99) 99) : oNOk (n_move (D K_M_now 0) s x y) ∧ oRL (oUp (oUp M K_STX 0 s x) K_STY 0 s y) (n_move (D K_M_now 0) s x y) 0 := by
  obtain ⟨hS, s8⟩ := oNS hI.ok
  have hm := n_move_s (N := D K_M_now 0) (x := x) (y := y) (s := s) (by omega)
  have c1 : cS (n_move (D K_M_now 0) s x y) = cS (D K_M_now 0) := by unfold cS; rw [hm 1 (by omega)]
  refine ⟨oSt_ok hI.ok (fun j hj => hm j (by omega)) (by rw [hm 1 (by omega)]; exact hI.ok.1) (fun i hi => ?_), oSt_rl hI.ok hI.rl (fun j hj => hm j (by omega)) ((oFr.rf.up ⟨rfl, Or.inr (Or.inl rfl)⟩).up ⟨rfl, Or.inr (Or.inr rfl)⟩) (by rw [hm 1 (by omega)]; exact hI.st) rfl rfl (by rw [hm 0 (by omega)]; exact hI.zz) (fun i hi => ?_)⟩
  · rw [c1] at hi
    unfold n_move
    by_cases z : i = s
    · subst z
      repeat (first | rw [upd_ne (by omega)] | rw [upd_eq])
      exact hx
    · repeat (first | rw [upd_ne (by omega)] | rw [upd_eq])
      exact hI.ok.2.2.2.1 i hi
  · rw [c1] at hi
    obtain ⟨a, b⟩ := hI.sxy hi
    unfold n_move
    rw [oUp_k (k := K_STY) (k' := K_STX) (by decide), oUp_at, oUp_at]
    by_cases z : i = s
    · subst z
      repeat (first | rw [upd_ne (by omega)] | rw [upd_eq])
      exact ⟨if_pos rfl, if_pos rfl⟩
    · repeat (first | rw [upd_ne (by omega)] | rw [upd_eq])
      exact ⟨(if_neg z).trans a, (if_neg z).trans b⟩
theorem p_move (M D : oM) (s x y : Int32) (hI : oI M D) : oCt 3 k_Oak_move [.inr (K_OAK, 0), .inl s, .inl x, .inl y] M (oQC (s_move D s x y) M) := by
  obtain ⟨hS, s8⟩ := oNS hI.ok
  refine oCt.of (ls := [some (.inr (K_OAK, 0)), some (.inl s), some (.inl x), some (.inl y), none]) mok_Oak_move rfl rfl ?_
  refine oRun_ok 3 rfl ?_
  refine g_callV rfl rfl rfl rfl rfl mok_Land_hasStone (by decide) (c_Land_hasStone _ 0 _) ?_
  rintro r5 M5 ⟨rfl, e⟩; rw [e]
  rw [hI.st]
  refine g_if_eq rfl (fun h8 => ?_) (fun h8 => ?_)
  · refine oRun_ok 1 rfl ?_
    exact g_iret rfl rfl rfl (oQC.same hI (if_pos h8))
  · refine oRun_ok 2 rfl ?_
    refine g_callS rfl rfl rfl rfl mok_Oak_isStonePlace (by decide) (c_Oak_isStonePlace _ _ _) ?_
    rintro r13 M13 ⟨rfl, e⟩; rw [e]
    refine g_if_ne rfl (fun h16 => ?_) (fun h16 => ?_)
    · obtain ⟨i, hi, hi8, rfl, ei⟩ := oHasS hI h8
      obtain ⟨a, b⟩ := hI.sxy hi
      obtain ⟨r1, r2⟩ := hI.ok.2.2.2.1 i hi
      have hx := spot_in h16
      refine oRun_ok 4 rfl ?_
      refine g_iald i rfl rfl rfl hi8 ?_
      refine oRun_ok 4 rfl ?_
      refine g_iald i rfl rfl rfl hi8 ?_
      refine oRun_ok 2 rfl ?_
      refine g_callS rfl rfl rfl rfl mok_Oak_farApart (by decide) (c_Oak_farApart _ _ _ _ _) ?_
      rintro r42 M42 ⟨rfl, e⟩; rw [e]
      refine oRun_ok 6 rfl ?_
      refine g_callV rfl rfl rfl rfl rfl mok_Land_putStone (by decide) (c_Land_putStone _ 0 i (cS (D K_M_now 0)) x y (hI.st.trans hS) hi s8) ?_
      rintro r54 M54 ⟨rfl, e⟩; rw [e]
      refine oRun_ok 1 rfl ?_
      refine g_iret rfl rfl rfl ?_
      rw [show M 2 0 i = _ from a, show M 3 0 i = _ from b, far_eq r1 r2 hx.1 hx.2]
      obtain ⟨k1, k2⟩ := hI.move hi hx
      refine oQC.land hI ?_ ((oFr.rf.up (oSt_ld ⟨rfl, Or.inr (Or.inl rfl)⟩)).up (oSt_ld ⟨rfl, Or.inr (Or.inr rfl)⟩)) k1 k2 ?_
      · unfold s_move
        rw [if_neg h8, if_neg h16, ei]
      · unfold cT
        rw [n_move_s hi8 3 (by omega)]
        exact Nat.le_refl _
    · refine oRun_ok 1 rfl ?_
      exact g_iret rfl rfl rfl (oQC.same hI ((if_neg h8).trans (if_pos h16)))
theorem q_move (C M D : oM) (s x y : Int32) (hI : oI C D) (hD : oPs D M) : oCt 3 k_Mod_move [.inr (K_MOD, 0), .inl s, .inl x, .inl y] M (oQM (s_move D s x y) M) := by
  have hN := hD.now
  refine oCt.of (ls := [some (.inr (K_MOD, 0)), some (.inl s), some (.inl x), some (.inl y), none]) mok_Mod_move rfl rfl ?_
  refine oRun_ok 2 rfl ?_
  refine g_callV rfl rfl rfl rfl rfl mok_Mod_isStone (by decide) (c_Mod_isStone _ _) ?_
  rintro r2 M2 ⟨rfl, e⟩; rw [e]
  rw [hN]
  refine g_if_eq rfl (fun h5 => ?_) (fun h5 => ?_)
  · refine oRun_ok 1 rfl ?_
    exact g_iret rfl rfl rfl (oQM.same hD (if_pos h5))
  · refine oRun_ok 2 rfl ?_
    refine g_callS rfl rfl rfl rfl mok_Mod_isSpot (by decide) (c_Mod_isSpot _ _ _) ?_
    rintro r10 M10 ⟨rfl, e⟩; rw [e]
    refine g_if_ne rfl (fun h13 => ?_) (fun h13 => ?_)
    · obtain ⟨i, hi, hi8, rfl, ei⟩ := oHasS hI h5
      have h13 : ¬ f_Oak_isStonePlace x y = 0 := h13
      refine oRun_ok 8 rfl ?_
      refine g_iald (4 + 2 * i) rfl rfl (by simp only [L4, L2, nI_times, nI_plus]) (by omega) ?_
      refine oRun_ok 1 rfl ?_
      refine g_callS rfl rfl rfl rfl mok_Mod_size (by decide) (c_Mod_size _ _) ?_
      rintro r31 M31 ⟨rfl, e⟩; rw [e]
      refine oRun_ok 10 rfl ?_
      refine g_iald (4 + 2 * i + 1) rfl rfl (by simp only [L4, L2, L1, nI_times, nI_plus]) (by omega) ?_
      refine oRun_ok 1 rfl ?_
      refine g_callS rfl rfl rfl rfl mok_Mod_size (by decide) (c_Mod_size _ _) ?_
      rintro r48 M48 ⟨rfl, e⟩; rw [e]
      refine oRun_ok 10 rfl ?_
      refine g_iast (4 + 2 * i) rfl rfl (by simp only [L4, L2, nI_times, nI_plus]) (by omega) ?_
      refine oRun_ok 10 rfl ?_
      refine g_iast (4 + 2 * i + 1) rfl rfl (by simp only [L4, L2, L1, nI_times, nI_plus]) (by omega) ?_
      refine oRun_ok 1 rfl ?_
      refine g_iret rfl rfl rfl ?_
      refine oQM.row (k := K_M_now) (f := n_move (D K_M_now 0) i x y) (by decide) hD ?_ ((oFr.rf.up ⟨rfl, rfl⟩).up ⟨rfl, rfl⟩) ?_
      · unfold s_move
        rw [if_neg h5, if_neg h13, ei, ← hN]
      · rw [oUp_upd, oUp_upd, ← hN]
        rfl
    · refine oRun_ok 1 rfl ?_
      exact g_iret rfl rfl rfl (oQM.same hD ((if_neg h5).trans (if_pos h13)))
-- seed
def s_seed (D : oM) (v : Int32) : Int32 × oM := (D K_M_now 0 0, oSR D K_M_now (upd (D K_M_now 0) 0 v))
theorem p_seed (M D : oM) (v : Int32) (hI : oI M D) : oCt 3 k_Oak_seed [.inr (K_OAK, 0), .inl v] M (oQC (s_seed D v) M) := by
  refine oCt.of (ls := [some (.inr (K_OAK, 0)), some (.inl v), none]) mok_Oak_seed rfl rfl ?_
  refine oRun_ok 9 rfl ?_
  refine g_iret rfl rfl rfl ?_
  rw [show M 1 0 7 = _ from hI.zz]
  have hm : ∀ j, ¬ j = 0 → upd (D K_M_now 0) 0 v j = D K_M_now 0 j := fun j hj => upd_ne hj
  have c1 : cS (upd (D K_M_now 0) 0 v) = cS (D K_M_now 0) := by unfold cS; rw [hm 1 (by omega)]
  have hok := hI.ok
  have e2 : cD (upd (D K_M_now 0) 0 v) = cD (D K_M_now 0) := by unfold cD; rw [hm 2 (by omega)]
  have e3 : cT (upd (D K_M_now 0) 0 v) = cT (D K_M_now 0) := by unfold cT; rw [hm 3 (by omega)]
  refine oQC.land hI (N' := upd (D K_M_now 0) 0 v) rfl (oFr.rf.up (oSt_ld ⟨rfl, Or.inl rfl⟩)) ?_ (oSt_rl hI.ok hI.rl (fun j hj => hm j (by omega)) (oFr.rf.up ⟨rfl, Or.inl rfl⟩) ?_ (oUp_j (by decide)) (oUp_j (by decide)) ?_ (fun i hi => ?_)) (by omega)
  · refine ⟨by rw [hm 1 (by omega)]; exact hok.1, by rw [hm 2 (by omega)]; exact hok.2.1, by rw [hm 3 (by omega)]; exact hok.2.2.1, fun i hi => ?_, fun d hd => ?_, fun t ht => ?_⟩
    · rw [c1] at hi
      rw [hm _ (by omega), hm _ (by omega)]
      exact hok.2.2.2.1 i hi
    · rw [e2] at hd
      have h := hok.2.2.2.2.1 d hd
      have ec : cC (upd (D K_M_now 0) 0 v) d = cC (D K_M_now 0) d := by unfold cC; rw [hm _ (by omega)]
      unfold oDOk at h ⊢
      rw [ec, hm (20 + 35 * d) (by omega), hm (20 + 35 * d + 1) (by omega), hm (20 + 35 * d + 2) (by omega), hm (20 + 35 * d + 3) (by omega), hm (20 + 35 * d + 4) (by omega)]
      refine ⟨h.1, h.2.1, h.2.2.1, h.2.2.2.1, h.2.2.2.2.1, fun j hj => ?_⟩
      rw [hm _ (by omega), hm _ (by omega), hm _ (by omega)]
      exact h.2.2.2.2.2 j hj
    · rw [e3] at ht
      have h := hok.2.2.2.2.2 t ht
      have ef : (fun k => upd (D K_M_now 0) 0 v (188 + 96 * t + k)) = (fun k => D K_M_now 0 (188 + 96 * t + k)) := by
        funext k
        exact hm _ (by omega)
      unfold oTOk tN tK at h ⊢
      rw [hm (160 + 2 * t) (by omega), ef]
      exact h
  · rw [hm 1 (by omega)]
    exact (oUp_j (by decide)).trans hI.st
  · rw [upd_eq]
    exact oUp_self
  · rw [c1] at hi
    rw [hm _ (by omega), hm _ (by omega), oUp_k (by decide), oUp_k (by decide)]
    exact hI.sxy hi
theorem q_seed (C M D : oM) (v : Int32) (hI : oI C D) (hD : oPs D M) : oCt 3 k_Mod_seed [.inr (K_MOD, 0), .inl v] M (oQM (s_seed D v) M) := by
  have hN := hD.now
  refine oCt.of (ls := [some (.inr (K_MOD, 0)), some (.inl v), none]) mok_Mod_seed rfl rfl ?_
  refine oRun_ok 3 rfl ?_
  refine g_iald 0 rfl rfl rfl (by decide) ?_
  refine oRun_ok 5 rfl ?_
  refine g_iast 0 rfl rfl rfl (by decide) ?_
  refine oRun_ok 1 rfl ?_
  refine g_iret rfl rfl rfl ?_
  rw [show M 32 0 = _ from hN]
  exact oQM.row (k := K_M_now) (f := upd (D K_M_now 0) 0 v) (by decide) hD rfl (oFr.rf.up ⟨rfl, rfl⟩) (by rw [oUp_upd, ← hN])
end
