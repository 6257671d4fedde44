/-! PRINTED by wip/whole/gen7.py (lists) and written by hand (the rest): every method: its code, its words -/
abbrev kAT : Type := MethodName × ByteArray × Nat × Option FieldType × Nat
abbrev kMT : Type := List Instr × Nat × Nat × Nat × Nat
def kP (q : kAT × kMT) : Prop := kgood q.1.2.2.2.2 q.1.2.1 q.2.1 = true ∧ kWd q.1.1 q.1.2.1 q.1.2.2.1 q.1.2.2.2.1 q.2.2.2.1 q.2.2.2.2.1 q.2.2.2.2.2 ∧ q.1.2.2.1 = q.2.2.1 ∧ kon q.1.2.2.2.2 = q.1.1.cls
def kAM_0 : List (kAT × kMT) := [((⟨"KnotTown", "<init>", "()V"⟩, prog_1_method_1_code, 2, (Option.none : Option Jvm.ClassFile.FieldType), 10), (kc_KT_init, 2, 1, 0, 10)),
  ((⟨"KnotTown$Tape", "<init>", "()V"⟩, prog_10_method_1_code, 1, (Option.none : Option Jvm.ClassFile.FieldType), 8), (kc_Tape_init, 1, 1, 0, 8)),
  ((⟨"KnotTown$Stand", "<init>", "()V"⟩, prog_9_method_1_code, 1, (Option.none : Option Jvm.ClassFile.FieldType), 7), (kc_Stand_init, 1, 1, 0, 7)),
  ((⟨"KnotTown$Town", "<init>", "()V"⟩, prog_11_method_1_code, 1, (Option.none : Option Jvm.ClassFile.FieldType), 9), (kc_Town_init, 1, 1, 0, 9)),
  ((⟨"java/util/Arrays", "fill", "([II)V"⟩, prog_23_method_103_code, 4, (Option.none : Option Jvm.ClassFile.FieldType), 14), (kc_Arrays_fill_II, 4, 2, 0, 1000)),
  ((⟨"KnotTown$Land", "<init>", "()V"⟩, prog_5_method_1_code, 1, (Option.none : Option Jvm.ClassFile.FieldType), 3), (kc_Land_init, 1, 1, 0, 3)),
  ((⟨"KnotTown$Search", "<init>", "()V"⟩, prog_8_method_1_code, 1, (Option.none : Option Jvm.ClassFile.FieldType), 6), (kc_Search_init, 1, 1, 0, 6)),
  ((⟨"KnotTown$Bracket", "<init>", "()V"⟩, prog_3_method_1_code, 1, (Option.none : Option Jvm.ClassFile.FieldType), 1), (kc_Bracket_init, 1, 1, 0, 1)),
  ((⟨"KnotTown$Bows", "<init>", "()V"⟩, prog_2_method_1_code, 1, (Option.none : Option Jvm.ClassFile.FieldType), 0), (kc_Bows_init, 1, 1, 0, 0)),
  ((⟨"KnotTown$Gossip", "<init>", "()V"⟩, prog_4_method_1_code, 1, (Option.none : Option Jvm.ClassFile.FieldType), 2), (kc_Gossip_init, 1, 1, 0, 2)),
  ((⟨"KnotTown$RuleText", "<init>", "()V"⟩, prog_7_method_1_code, 1, (Option.none : Option Jvm.ClassFile.FieldType), 5), (kc_RuleText_init, 1, 1, 0, 5)),
  ((⟨"KnotTown", "feed", "(IIIII)I"⟩, prog_1_method_2_code, 6, (Option.some Jvm.ClassFile.FieldType.int), 10), (kc_KT_feed, 6, 6, 1, 10)),
  ((⟨"KnotTown$Tape", "put", "(I)V"⟩, prog_10_method_2_code, 3, (Option.none : Option Jvm.ClassFile.FieldType), 8), (kc_Tape_put, 3, 2, 0, 8)),
  ((⟨"KnotTown", "end", "(I)I"⟩, prog_1_method_3_code, 2, (Option.some Jvm.ClassFile.FieldType.int), 10), (kc_KT_end, 2, 2, 1, 10)),
  ((⟨"KnotTown", "town", "()I"⟩, prog_1_method_4_code, 1, (Option.some Jvm.ClassFile.FieldType.int), 10), (kc_KT_town, 1, 1, 1, 10)),
  ((⟨"KnotTown$TownText", "read", "(LKnotTown$Tape;LKnotTown$Town;LKnotTown$Land;)V"⟩, prog_12_method_2_code, 5, (Option.none : Option Jvm.ClassFile.FieldType), 12), (kc_TownText_read, 5, 3, 0, 1000)),
  ((⟨"KnotTown$Town", "clear", "()V"⟩, prog_11_method_2_code, 1, (Option.none : Option Jvm.ClassFile.FieldType), 9), (kc_Town_clear, 1, 1, 0, 9)),
  ((⟨"KnotTown$Town", "settle", "()V"⟩, prog_11_method_4_code, 2, (Option.none : Option Jvm.ClassFile.FieldType), 9), (kc_Town_settle, 2, 1, 0, 9)),
  ((⟨"KnotTown$Town", "comeHome", "(II)V"⟩, prog_11_method_5_code, 3, (Option.none : Option Jvm.ClassFile.FieldType), 9), (kc_Town_comeHome, 3, 3, 0, 9)),
  ((⟨"KnotTown$Tape", "rewind", "()V"⟩, prog_10_method_3_code, 1, (Option.none : Option Jvm.ClassFile.FieldType), 8), (kc_Tape_rewind, 1, 1, 0, 8)),
  ((⟨"KnotTown$TownText", "readRoad", "(LKnotTown$Tape;LKnotTown$Town;)V"⟩, prog_12_method_3_code, 4, (Option.none : Option Jvm.ClassFile.FieldType), 12), (kc_TownText_readRoad, 4, 2, 0, 1000)),
  ((⟨"KnotTown$Tape", "seesWord", "(Ljava/lang/String;)Z"⟩, prog_10_method_8_code, 4, (Option.some Jvm.ClassFile.FieldType.boolean), 8), (kc_Tape_seesWord, 4, 2, 2, 8)),
  ((⟨"KnotTown$Tape", "look", "()I"⟩, prog_10_method_6_code, 1, (Option.some Jvm.ClassFile.FieldType.int), 8), (kc_Tape_look, 1, 1, 1, 8)),
  ((⟨"KnotTown$Tape", "fail", "(I)V"⟩, prog_10_method_5_code, 2, (Option.none : Option Jvm.ClassFile.FieldType), 8), (kc_Tape_fail, 2, 2, 0, 8)),
  ((⟨"KnotTown$Tape", "takeWord", "(Ljava/lang/String;)Z"⟩, prog_10_method_9_code, 2, (Option.some Jvm.ClassFile.FieldType.boolean), 8), (kc_Tape_takeWord, 2, 2, 2, 8)),
  ((⟨"KnotTown$TownText", "readPass", "(LKnotTown$Tape;LKnotTown$Town;)Z"⟩, prog_12_method_4_code, 5, (Option.some Jvm.ClassFile.FieldType.boolean), 12), (kc_TownText_readPass, 5, 2, 2, 1000)),
  ((⟨"KnotTown$Tape", "seenNumber", "(I)I"⟩, prog_10_method_11_code, 5, (Option.some Jvm.ClassFile.FieldType.int), 8), (kc_Tape_seenNumber, 5, 2, 1, 8)),
  ((⟨"KnotTown$Tape", "seesNumber", "()Z"⟩, prog_10_method_10_code, 2, (Option.some Jvm.ClassFile.FieldType.boolean), 8), (kc_Tape_seesNumber, 2, 1, 2, 8)),
  ((⟨"KnotTown$Tape", "digitsHere", "()I"⟩, prog_10_method_13_code, 2, (Option.some Jvm.ClassFile.FieldType.int), 8), (kc_Tape_digitsHere, 2, 1, 1, 8)),
  ((⟨"KnotTown$TownText", "isTold", "(LKnotTown$Town;I)Z"⟩, prog_12_method_5_code, 3, (Option.some Jvm.ClassFile.FieldType.boolean), 12), (kc_TownText_isTold, 3, 2, 2, 1000))]
set_option maxRecDepth 20000 in
theorem kAMp_0 : ∀ q ∈ kAM_0, kP q := List.forall_mem_cons.mpr ⟨⟨kg_1, kw_1, rfl, rfl⟩, List.forall_mem_cons.mpr ⟨⟨kg_2, kw_2, rfl, rfl⟩, List.forall_mem_cons.mpr ⟨⟨kg_3, kw_3, rfl, rfl⟩, List.forall_mem_cons.mpr ⟨⟨kg_4, kw_4, rfl, rfl⟩, List.forall_mem_cons.mpr ⟨⟨kg_5, kw_5, rfl, rfl⟩, List.forall_mem_cons.mpr ⟨⟨kg_6, kw_6, rfl, rfl⟩, List.forall_mem_cons.mpr ⟨⟨kg_7, kw_7, rfl, rfl⟩, List.forall_mem_cons.mpr ⟨⟨kg_8, kw_8, rfl, rfl⟩, List.forall_mem_cons.mpr ⟨⟨kg_9, kw_9, rfl, rfl⟩, List.forall_mem_cons.mpr ⟨⟨kg_10, kw_10, rfl, rfl⟩, List.forall_mem_cons.mpr ⟨⟨kg_11, kw_11, rfl, rfl⟩, List.forall_mem_cons.mpr ⟨⟨kg_12, kw_12, rfl, rfl⟩, List.forall_mem_cons.mpr ⟨⟨kg_13, kw_13, rfl, rfl⟩, List.forall_mem_cons.mpr ⟨⟨kg_14, kw_14, rfl, rfl⟩, List.forall_mem_cons.mpr ⟨⟨kg_15, kw_15, rfl, rfl⟩, List.forall_mem_cons.mpr ⟨⟨kg_16, kw_16, rfl, rfl⟩, List.forall_mem_cons.mpr ⟨⟨kg_17, kw_17, rfl, rfl⟩, List.forall_mem_cons.mpr ⟨⟨kg_18, kw_18, rfl, rfl⟩, List.forall_mem_cons.mpr ⟨⟨kg_19, kw_19, rfl, rfl⟩, List.forall_mem_cons.mpr ⟨⟨kg_20, kw_20, rfl, rfl⟩, List.forall_mem_cons.mpr ⟨⟨kg_21, kw_21, rfl, rfl⟩, List.forall_mem_cons.mpr ⟨⟨kg_22, kw_22, rfl, rfl⟩, List.forall_mem_cons.mpr ⟨⟨kg_23, kw_23, rfl, rfl⟩, List.forall_mem_cons.mpr ⟨⟨kg_24, kw_24, rfl, rfl⟩, List.forall_mem_cons.mpr ⟨⟨kg_25, kw_25, rfl, rfl⟩, List.forall_mem_cons.mpr ⟨⟨kg_26, kw_26, rfl, rfl⟩, List.forall_mem_cons.mpr ⟨⟨kg_27, kw_27, rfl, rfl⟩, List.forall_mem_cons.mpr ⟨⟨kg_28, kw_28, rfl, rfl⟩, List.forall_mem_cons.mpr ⟨⟨kg_29, kw_29, rfl, rfl⟩, List.forall_mem_cons.mpr ⟨⟨kg_30, kw_30, rfl, rfl⟩, fun _ h => absurd h List.not_mem_nil⟩⟩⟩⟩⟩⟩⟩⟩⟩⟩⟩⟩⟩⟩⟩⟩⟩⟩⟩⟩⟩⟩⟩⟩⟩⟩⟩⟩⟩⟩
def kAM_1 : List (kAT × kMT) := [((⟨"KnotTown$Tape", "skipNumber", "()V"⟩, prog_10_method_12_code, 1, (Option.none : Option Jvm.ClassFile.FieldType), 8), (kc_Tape_skipNumber, 1, 1, 0, 8)),
  ((⟨"KnotTown$Town", "append", "(I)V"⟩, prog_11_method_21_code, 2, (Option.none : Option Jvm.ClassFile.FieldType), 9), (kc_Town_append, 2, 2, 0, 9)),
  ((⟨"KnotTown$TownText", "readHand", "(LKnotTown$Tape;LKnotTown$Town;I)V"⟩, prog_12_method_6_code, 3, (Option.none : Option Jvm.ClassFile.FieldType), 12), (kc_TownText_readHand, 3, 3, 0, 1000)),
  ((⟨"KnotTown$Tape", "takeSign", "(C)Z"⟩, prog_10_method_7_code, 2, (Option.some Jvm.ClassFile.FieldType.boolean), 8), (kc_Tape_takeSign, 2, 2, 2, 8)),
  ((⟨"KnotTown$Tape", "atEnd", "()Z"⟩, prog_10_method_4_code, 1, (Option.some Jvm.ClassFile.FieldType.boolean), 8), (kc_Tape_atEnd, 1, 1, 2, 8)),
  ((⟨"KnotTown$Town", "bridges", "()I"⟩, prog_11_method_8_code, 1, (Option.some Jvm.ClassFile.FieldType.int), 9), (kc_Town_bridges, 1, 1, 1, 9)),
  ((⟨"java/lang/Integer", "bitCount", "(I)I"⟩, prog_16_method_49_code, 1, (Option.some Jvm.ClassFile.FieldType.int), 15), (kc_Integer_bitCount, 1, 1, 1, 1000)),
  ((⟨"KnotTown$Land", "survey", "(LKnotTown$Town;)V"⟩, prog_5_method_6_code, 8, (Option.none : Option Jvm.ClassFile.FieldType), 3), (kc_Land_survey, 8, 2, 0, 3)),
  ((⟨"KnotTown$Town", "has", "(I)Z"⟩, prog_11_method_7_code, 2, (Option.some Jvm.ClassFile.FieldType.boolean), 9), (kc_Town_has, 2, 2, 2, 9)),
  ((⟨"KnotTown$Land", "lookRound", "(LKnotTown$Town;I)V"⟩, prog_5_method_7_code, 10, (Option.none : Option Jvm.ClassFile.FieldType), 3), (kc_Land_lookRound, 10, 3, 0, 3)),
  ((⟨"KnotTown$Town", "overAt", "(I)I"⟩, prog_11_method_9_code, 2, (Option.some Jvm.ClassFile.FieldType.int), 9), (kc_Town_overAt, 2, 2, 1, 9)),
  ((⟨"KnotTown$Town", "underAt", "(I)I"⟩, prog_11_method_10_code, 2, (Option.some Jvm.ClassFile.FieldType.int), 9), (kc_Town_underAt, 2, 2, 1, 9)),
  ((⟨"KnotTown$Land", "offKey", "(I)I"⟩, prog_5_method_2_code, 1, (Option.some Jvm.ClassFile.FieldType.int), 3), (kc_Land_offKey, 1, 1, 1, 1000)),
  ((⟨"KnotTown$Land", "list", "(II)V"⟩, prog_5_method_14_code, 4, (Option.none : Option Jvm.ClassFile.FieldType), 3), (kc_Land_list, 4, 3, 0, 3)),
  ((⟨"KnotTown$Land", "indexOfMove", "(I)I"⟩, prog_5_method_15_code, 3, (Option.some Jvm.ClassFile.FieldType.int), 3), (kc_Land_indexOfMove, 3, 2, 1, 3)),
  ((⟨"KnotTown$Land", "roundFrom", "(I)J"⟩, prog_5_method_9_code, 6, (Option.some Jvm.ClassFile.FieldType.long), 3), (kc_Land_roundFrom, 6, 2, 3, 3)),
  ((⟨"java/lang/Long", "bitCount", "(J)I"⟩, prog_17_method_50_code, 2, (Option.some Jvm.ClassFile.FieldType.int), 16), (kc_Long_bitCount, 2, 1, 1, 1000)),
  ((⟨"java/lang/Math", "max", "(II)I"⟩, prog_18_method_65_code, 2, (Option.some Jvm.ClassFile.FieldType.int), 17), (kc_Math_max, 2, 2, 1, 1000)),
  ((⟨"KnotTown$Land", "listApart", "(LKnotTown$Town;I)V"⟩, prog_5_method_12_code, 6, (Option.none : Option Jvm.ClassFile.FieldType), 3), (kc_Land_listApart, 6, 3, 0, 3)),
  ((⟨"KnotTown$Land", "bridgeAtEnd", "(LKnotTown$Town;I)I"⟩, prog_5_method_10_code, 4, (Option.some Jvm.ClassFile.FieldType.int), 3), (kc_Land_bridgeAtEnd, 4, 2, 1, 1000)),
  ((⟨"KnotTown$Land", "timesOver", "(LKnotTown$Town;I)I"⟩, prog_5_method_11_code, 3, (Option.some Jvm.ClassFile.FieldType.int), 3), (kc_Land_timesOver, 3, 2, 1, 1000)),
  ((⟨"KnotTown$Land", "stepFrom", "(I)I"⟩, prog_5_method_8_code, 2, (Option.some Jvm.ClassFile.FieldType.int), 3), (kc_Land_stepFrom, 2, 2, 1, 3)),
  ((⟨"KnotTown$Land", "apartKey", "(II)I"⟩, prog_5_method_3_code, 2, (Option.some Jvm.ClassFile.FieldType.int), 3), (kc_Land_apartKey, 2, 2, 1, 1000)),
  ((⟨"java/lang/Math", "min", "(II)I"⟩, prog_18_method_69_code, 2, (Option.some Jvm.ClassFile.FieldType.int), 17), (kc_Math_min, 2, 2, 1, 1000)),
  ((⟨"KnotTown$Land", "listSlide", "(LKnotTown$Town;I)V"⟩, prog_5_method_13_code, 9, (Option.none : Option Jvm.ClassFile.FieldType), 3), (kc_Land_listSlide, 9, 3, 0, 3)),
  ((⟨"KnotTown$Land", "slideKey", "(III)I"⟩, prog_5_method_4_code, 6, (Option.some Jvm.ClassFile.FieldType.int), 3), (kc_Land_slideKey, 6, 3, 1, 1000)),
  ((⟨"KnotTown$Town", "groups", "()I"⟩, prog_11_method_15_code, 3, (Option.some Jvm.ClassFile.FieldType.int), 9), (kc_Town_groups, 3, 1, 1, 9)),
  ((⟨"KnotTown$Town", "met", "(I)I"⟩, prog_11_method_14_code, 4, (Option.some Jvm.ClassFile.FieldType.int), 9), (kc_Town_met, 4, 2, 1, 9)),
  ((⟨"KnotTown$Town", "roadStart", "(I)I"⟩, prog_11_method_12_code, 2, (Option.some Jvm.ClassFile.FieldType.int), 9), (kc_Town_roadStart, 2, 2, 1, 9)),
  ((⟨"KnotTown$Town", "roadEnd", "(I)I"⟩, prog_11_method_13_code, 2, (Option.some Jvm.ClassFile.FieldType.int), 9), (kc_Town_roadEnd, 2, 2, 1, 9))]
set_option maxRecDepth 20000 in
theorem kAMp_1 : ∀ q ∈ kAM_1, kP q := List.forall_mem_cons.mpr ⟨⟨kg_31, kw_31, rfl, rfl⟩, List.forall_mem_cons.mpr ⟨⟨kg_32, kw_32, rfl, rfl⟩, List.forall_mem_cons.mpr ⟨⟨kg_33, kw_33, rfl, rfl⟩, List.forall_mem_cons.mpr ⟨⟨kg_34, kw_34, rfl, rfl⟩, List.forall_mem_cons.mpr ⟨⟨kg_35, kw_35, rfl, rfl⟩, List.forall_mem_cons.mpr ⟨⟨kg_36, kw_36, rfl, rfl⟩, List.forall_mem_cons.mpr ⟨⟨kg_37, kw_37, rfl, rfl⟩, List.forall_mem_cons.mpr ⟨⟨kg_38, kw_38, rfl, rfl⟩, List.forall_mem_cons.mpr ⟨⟨kg_39, kw_39, rfl, rfl⟩, List.forall_mem_cons.mpr ⟨⟨kg_40, kw_40, rfl, rfl⟩, List.forall_mem_cons.mpr ⟨⟨kg_41, kw_41, rfl, rfl⟩, List.forall_mem_cons.mpr ⟨⟨kg_42, kw_42, rfl, rfl⟩, List.forall_mem_cons.mpr ⟨⟨kg_43, kw_43, rfl, rfl⟩, List.forall_mem_cons.mpr ⟨⟨kg_44, kw_44, rfl, rfl⟩, List.forall_mem_cons.mpr ⟨⟨kg_45, kw_45, rfl, rfl⟩, List.forall_mem_cons.mpr ⟨⟨kg_46, kw_46, rfl, rfl⟩, List.forall_mem_cons.mpr ⟨⟨kg_47, kw_47, rfl, rfl⟩, List.forall_mem_cons.mpr ⟨⟨kg_48, kw_48, rfl, rfl⟩, List.forall_mem_cons.mpr ⟨⟨kg_49, kw_49, rfl, rfl⟩, List.forall_mem_cons.mpr ⟨⟨kg_50, kw_50, rfl, rfl⟩, List.forall_mem_cons.mpr ⟨⟨kg_51, kw_51, rfl, rfl⟩, List.forall_mem_cons.mpr ⟨⟨kg_52, kw_52, rfl, rfl⟩, List.forall_mem_cons.mpr ⟨⟨kg_53, kw_53, rfl, rfl⟩, List.forall_mem_cons.mpr ⟨⟨kg_54, kw_54, rfl, rfl⟩, List.forall_mem_cons.mpr ⟨⟨kg_55, kw_55, rfl, rfl⟩, List.forall_mem_cons.mpr ⟨⟨kg_56, kw_56, rfl, rfl⟩, List.forall_mem_cons.mpr ⟨⟨kg_57, kw_57, rfl, rfl⟩, List.forall_mem_cons.mpr ⟨⟨kg_58, kw_58, rfl, rfl⟩, List.forall_mem_cons.mpr ⟨⟨kg_59, kw_59, rfl, rfl⟩, List.forall_mem_cons.mpr ⟨⟨kg_60, kw_60, rfl, rfl⟩, fun _ h => absurd h List.not_mem_nil⟩⟩⟩⟩⟩⟩⟩⟩⟩⟩⟩⟩⟩⟩⟩⟩⟩⟩⟩⟩⟩⟩⟩⟩⟩⟩⟩⟩⟩⟩
def kAM_2 : List (kAT × kMT) := [((⟨"KnotTown$Town", "copyFrom", "(LKnotTown$Town;)V"⟩, prog_11_method_3_code, 2, (Option.none : Option Jvm.ClassFile.FieldType), 9), (kc_Town_copyFrom, 2, 2, 0, 9)),
  ((⟨"KnotTown", "forget", "()V"⟩, prog_1_method_34_code, 1, (Option.none : Option Jvm.ClassFile.FieldType), 10), (kc_KT_forget, 1, 1, 0, 10)),
  ((⟨"KnotTown$Search", "forget", "()V"⟩, prog_8_method_2_code, 1, (Option.none : Option Jvm.ClassFile.FieldType), 6), (kc_Search_forget, 1, 1, 0, 6)),
  ((⟨"KnotTown", "rule", "()I"⟩, prog_1_method_5_code, 2, (Option.some Jvm.ClassFile.FieldType.int), 10), (kc_KT_rule, 2, 1, 1, 10)),
  ((⟨"KnotTown$RuleText", "read", "(LKnotTown$Tape;)LKnotTown$Rule;"⟩, prog_7_method_2_code, 4, (Option.some (Jvm.ClassFile.FieldType.object "KnotTown$Rule")), 5), (kc_RuleText_read, 4, 2, 4, 5)),
  ((⟨"KnotTown$RuleText", "readClause", "(LKnotTown$Tape;I)V"⟩, prog_7_method_4_code, 3, (Option.none : Option Jvm.ClassFile.FieldType), 5), (kc_RuleText_readClause, 3, 3, 0, 5)),
  ((⟨"KnotTown$RuleText", "readLevel", "(LKnotTown$Tape;II)V"⟩, prog_7_method_5_code, 6, (Option.none : Option Jvm.ClassFile.FieldType), 5), (kc_RuleText_readLevel, 6, 4, 0, 5)),
  ((⟨"KnotTown$RuleText", "readFact", "(LKnotTown$Tape;I)V"⟩, prog_7_method_7_code, 4, (Option.none : Option Jvm.ClassFile.FieldType), 5), (kc_RuleText_readFact, 4, 3, 0, 5)),
  ((⟨"KnotTown$RuleText", "readComparison", "(LKnotTown$Tape;I)V"⟩, prog_7_method_8_code, 4, (Option.none : Option Jvm.ClassFile.FieldType), 5), (kc_RuleText_readComparison, 4, 3, 0, 5)),
  ((⟨"KnotTown$RuleText", "seenSign", "(LKnotTown$Tape;)I"⟩, prog_7_method_9_code, 3, (Option.some Jvm.ClassFile.FieldType.int), 5), (kc_RuleText_seenSign, 3, 1, 1, 1000)),
  ((⟨"KnotTown$RuleText", "emit", "(I)V"⟩, prog_7_method_3_code, 2, (Option.none : Option Jvm.ClassFile.FieldType), 5), (kc_RuleText_emit, 2, 2, 0, 5)),
  ((⟨"KnotTown$RuleText", "readValue", "(LKnotTown$Tape;)V"⟩, prog_7_method_10_code, 5, (Option.none : Option Jvm.ClassFile.FieldType), 5), (kc_RuleText_readValue, 5, 2, 0, 5)),
  ((⟨"KnotTown$RuleText", "seenWord", "(LKnotTown$Tape;)I"⟩, prog_7_method_11_code, 2, (Option.some Jvm.ClassFile.FieldType.int), 5), (kc_RuleText_seenWord, 2, 1, 1, 1000)),
  ((⟨"KnotTown$RuleText", "wordNamed", "(I)Ljava/lang/String;"⟩, prog_7_method_12_code, 1, (Option.some (Jvm.ClassFile.FieldType.object "java/lang/String")), 5), (kc_RuleText_wordNamed, 1, 1, 4, 1000)),
  ((⟨"KnotTown$RuleText", "takenJoint", "(LKnotTown$Tape;I)I"⟩, prog_7_method_6_code, 2, (Option.some Jvm.ClassFile.FieldType.int), 5), (kc_RuleText_takenJoint, 2, 2, 1, 1000)),
  ((⟨"java/util/Arrays", "copyOf", "([II)[I"⟩, prog_23_method_123_code, 3, (Option.some (Jvm.ClassFile.FieldType.array Jvm.ClassFile.FieldType.int)), 14), (kc_Arrays_copyOf, 3, 2, 4, 1000)),
  ((⟨"KnotTown$Rule", "<init>", "([IZ)V"⟩, prog_6_method_1_code, 3, (Option.none : Option Jvm.ClassFile.FieldType), 4), (kc_Rule_init, 3, 3, 0, 4)),
  ((⟨"KnotTown", "force", "(I)I"⟩, prog_1_method_6_code, 3, (Option.some Jvm.ClassFile.FieldType.int), 10), (kc_KT_force, 3, 2, 1, 10)),
  ((⟨"KnotTown", "place", "(II)I"⟩, prog_1_method_7_code, 4, (Option.some Jvm.ClassFile.FieldType.int), 10), (kc_KT_place, 4, 3, 1, 10)),
  ((⟨"KnotTown$Town", "hasPlace", "(I)Z"⟩, prog_11_method_6_code, 2, (Option.some Jvm.ClassFile.FieldType.boolean), 9), (kc_Town_hasPlace, 2, 2, 2, 9)),
  ((⟨"KnotTown$Town", "roadOf", "(I)I"⟩, prog_11_method_11_code, 2, (Option.some Jvm.ClassFile.FieldType.int), 9), (kc_Town_roadOf, 2, 2, 1, 9)),
  ((⟨"KnotTown$Bows", "find", "(LKnotTown$Town;)V"⟩, prog_2_method_2_code, 4, (Option.none : Option Jvm.ClassFile.FieldType), 0), (kc_Bows_find, 4, 2, 0, 0)),
  ((⟨"KnotTown$Bows", "findOnRoad", "(LKnotTown$Town;II)V"⟩, prog_2_method_3_code, 6, (Option.none : Option Jvm.ClassFile.FieldType), 0), (kc_Bows_findOnRoad, 6, 4, 0, 0)),
  ((⟨"KnotTown", "bridge", "(II)I"⟩, prog_1_method_8_code, 4, (Option.some Jvm.ClassFile.FieldType.int), 10), (kc_KT_bridge, 4, 3, 1, 10)),
  ((⟨"KnotTown", "land", "(I)I"⟩, prog_1_method_9_code, 2, (Option.some Jvm.ClassFile.FieldType.int), 10), (kc_KT_land, 2, 2, 1, 10)),
  ((⟨"KnotTown", "off", "(I)Z"⟩, prog_1_method_10_code, 2, (Option.some Jvm.ClassFile.FieldType.boolean), 10), (kc_KT_off, 2, 2, 2, 10)),
  ((⟨"KnotTown", "moveBy", "(I)Z"⟩, prog_1_method_33_code, 3, (Option.some Jvm.ClassFile.FieldType.boolean), 10), (kc_KT_moveBy, 3, 2, 2, 10)),
  ((⟨"KnotTown$Land", "perform", "(LKnotTown$Town;I)V"⟩, prog_5_method_18_code, 4, (Option.none : Option Jvm.ClassFile.FieldType), 3), (kc_Land_perform, 4, 3, 0, 3)),
  ((⟨"KnotTown$Land", "partOfMove", "(II)I"⟩, prog_5_method_5_code, 3, (Option.some Jvm.ClassFile.FieldType.int), 3), (kc_Land_partOfMove, 3, 2, 1, 1000)),
  ((⟨"KnotTown$Land", "gone", "(I)I"⟩, prog_5_method_17_code, 5, (Option.some Jvm.ClassFile.FieldType.int), 3), (kc_Land_gone, 5, 2, 1, 3))]
set_option maxRecDepth 20000 in
theorem kAMp_2 : ∀ q ∈ kAM_2, kP q := List.forall_mem_cons.mpr ⟨⟨kg_61, kw_61, rfl, rfl⟩, List.forall_mem_cons.mpr ⟨⟨kg_62, kw_62, rfl, rfl⟩, List.forall_mem_cons.mpr ⟨⟨kg_63, kw_63, rfl, rfl⟩, List.forall_mem_cons.mpr ⟨⟨kg_64, kw_64, rfl, rfl⟩, List.forall_mem_cons.mpr ⟨⟨kg_65, kw_65, rfl, rfl⟩, List.forall_mem_cons.mpr ⟨⟨kg_66, kw_66, rfl, rfl⟩, List.forall_mem_cons.mpr ⟨⟨kg_67, kw_67, rfl, rfl⟩, List.forall_mem_cons.mpr ⟨⟨kg_68, kw_68, rfl, rfl⟩, List.forall_mem_cons.mpr ⟨⟨kg_69, kw_69, rfl, rfl⟩, List.forall_mem_cons.mpr ⟨⟨kg_70, kw_70, rfl, rfl⟩, List.forall_mem_cons.mpr ⟨⟨kg_71, kw_71, rfl, rfl⟩, List.forall_mem_cons.mpr ⟨⟨kg_72, kw_72, rfl, rfl⟩, List.forall_mem_cons.mpr ⟨⟨kg_73, kw_73, rfl, rfl⟩, List.forall_mem_cons.mpr ⟨⟨kg_74, kw_74, rfl, rfl⟩, List.forall_mem_cons.mpr ⟨⟨kg_75, kw_75, rfl, rfl⟩, List.forall_mem_cons.mpr ⟨⟨kg_76, kw_76, rfl, rfl⟩, List.forall_mem_cons.mpr ⟨⟨kg_77, kw_77, rfl, rfl⟩, List.forall_mem_cons.mpr ⟨⟨kg_78, kw_78, rfl, rfl⟩, List.forall_mem_cons.mpr ⟨⟨kg_79, kw_79, rfl, rfl⟩, List.forall_mem_cons.mpr ⟨⟨kg_80, kw_80, rfl, rfl⟩, List.forall_mem_cons.mpr ⟨⟨kg_81, kw_81, rfl, rfl⟩, List.forall_mem_cons.mpr ⟨⟨kg_82, kw_82, rfl, rfl⟩, List.forall_mem_cons.mpr ⟨⟨kg_83, kw_83, rfl, rfl⟩, List.forall_mem_cons.mpr ⟨⟨kg_84, kw_84, rfl, rfl⟩, List.forall_mem_cons.mpr ⟨⟨kg_85, kw_85, rfl, rfl⟩, List.forall_mem_cons.mpr ⟨⟨kg_86, kw_86, rfl, rfl⟩, List.forall_mem_cons.mpr ⟨⟨kg_87, kw_87, rfl, rfl⟩, List.forall_mem_cons.mpr ⟨⟨kg_88, kw_88, rfl, rfl⟩, List.forall_mem_cons.mpr ⟨⟨kg_89, kw_89, rfl, rfl⟩, List.forall_mem_cons.mpr ⟨⟨kg_90, kw_90, rfl, rfl⟩, fun _ h => absurd h List.not_mem_nil⟩⟩⟩⟩⟩⟩⟩⟩⟩⟩⟩⟩⟩⟩⟩⟩⟩⟩⟩⟩⟩⟩⟩⟩⟩⟩⟩⟩⟩⟩
def kAM_3 : List (kAT × kMT) := [((⟨"KnotTown$Town", "drop", "(I)V"⟩, prog_11_method_25_code, 5, (Option.none : Option Jvm.ClassFile.FieldType), 9), (kc_Town_drop, 5, 2, 0, 9)),
  ((⟨"KnotTown$Town", "swapAlong", "(I)V"⟩, prog_11_method_26_code, 4, (Option.none : Option Jvm.ClassFile.FieldType), 9), (kc_Town_swapAlong, 4, 2, 0, 9)),
  ((⟨"KnotTown", "apart", "(II)Z"⟩, prog_1_method_11_code, 3, (Option.some Jvm.ClassFile.FieldType.boolean), 10), (kc_KT_apart, 3, 3, 2, 10)),
  ((⟨"KnotTown", "slide", "(III)Z"⟩, prog_1_method_12_code, 4, (Option.some Jvm.ClassFile.FieldType.boolean), 10), (kc_KT_slide, 4, 4, 2, 10)),
  ((⟨"KnotTown", "change", "(I)I"⟩, prog_1_method_13_code, 3, (Option.some Jvm.ClassFile.FieldType.int), 10), (kc_KT_change, 3, 2, 1, 10)),
  ((⟨"KnotTown$Town", "flip", "(I)V"⟩, prog_11_method_22_code, 4, (Option.none : Option Jvm.ClassFile.FieldType), 9), (kc_Town_flip, 4, 2, 0, 9)),
  ((⟨"KnotTown", "twist", "(IZZ)I"⟩, prog_1_method_14_code, 6, (Option.some Jvm.ClassFile.FieldType.int), 10), (kc_KT_twist, 6, 4, 1, 10)),
  ((⟨"KnotTown$Town", "leastFree", "()I"⟩, prog_11_method_20_code, 1, (Option.some Jvm.ClassFile.FieldType.int), 9), (kc_Town_leastFree, 1, 1, 1, 9)),
  ((⟨"java/lang/Integer", "numberOfTrailingZeros", "(I)I"⟩, prog_16_method_48_code, 2, (Option.some Jvm.ClassFile.FieldType.int), 15), (kc_Integer_numberOfTrailingZeros, 2, 1, 1, 1000)),
  ((⟨"KnotTown$Town", "insert", "(II)V"⟩, prog_11_method_23_code, 4, (Option.none : Option Jvm.ClassFile.FieldType), 9), (kc_Town_insert, 4, 3, 0, 9)),
  ((⟨"KnotTown", "mirror", "()I"⟩, prog_1_method_15_code, 3, (Option.some Jvm.ClassFile.FieldType.int), 10), (kc_KT_mirror, 3, 1, 1, 10)),
  ((⟨"KnotTown", "backToFront", "(I)I"⟩, prog_1_method_16_code, 3, (Option.some Jvm.ClassFile.FieldType.int), 10), (kc_KT_backToFront, 3, 2, 1, 10)),
  ((⟨"KnotTown$Town", "reverse", "(I)V"⟩, prog_11_method_24_code, 6, (Option.none : Option Jvm.ClassFile.FieldType), 9), (kc_Town_reverse, 6, 2, 0, 9)),
  ((⟨"KnotTown", "can", "(I)I"⟩, prog_1_method_17_code, 2, (Option.some Jvm.ClassFile.FieldType.int), 10), (kc_KT_can, 2, 2, 1, 10)),
  ((⟨"KnotTown$Land", "movesOfKind", "(I)I"⟩, prog_5_method_16_code, 4, (Option.some Jvm.ClassFile.FieldType.int), 3), (kc_Land_movesOfKind, 4, 2, 1, 3)),
  ((⟨"KnotTown", "writhe", "()I"⟩, prog_1_method_18_code, 1, (Option.some Jvm.ClassFile.FieldType.int), 10), (kc_KT_writhe, 1, 1, 1, 10)),
  ((⟨"KnotTown$Town", "handsTogether", "()I"⟩, prog_11_method_17_code, 1, (Option.some Jvm.ClassFile.FieldType.int), 9), (kc_Town_handsTogether, 1, 1, 1, 9)),
  ((⟨"KnotTown$Town", "plusHands", "()I"⟩, prog_11_method_16_code, 1, (Option.some Jvm.ClassFile.FieldType.int), 9), (kc_Town_plusHands, 1, 1, 1, 9)),
  ((⟨"KnotTown$Town", "handsOf", "(I)I"⟩, prog_11_method_19_code, 4, (Option.some Jvm.ClassFile.FieldType.int), 9), (kc_Town_handsOf, 4, 2, 1, 9)),
  ((⟨"KnotTown", "linked", "()I"⟩, prog_1_method_19_code, 1, (Option.some Jvm.ClassFile.FieldType.int), 10), (kc_KT_linked, 1, 1, 1, 10)),
  ((⟨"KnotTown$Town", "sharedHands", "()I"⟩, prog_11_method_18_code, 2, (Option.some Jvm.ClassFile.FieldType.int), 9), (kc_Town_sharedHands, 2, 1, 1, 9)),
  ((⟨"KnotTown", "colours", "(I)J"⟩, prog_1_method_20_code, 3, (Option.some Jvm.ClassFile.FieldType.long), 10), (kc_KT_colours, 3, 2, 3, 10)),
  ((⟨"KnotTown$Bows", "ways", "(LKnotTown$Town;I)J"⟩, prog_2_method_8_code, 8, (Option.some Jvm.ClassFile.FieldType.long), 0), (kc_Bows_ways, 8, 3, 3, 0)),
  ((⟨"KnotTown$Bows", "fill", "(LKnotTown$Town;)V"⟩, prog_2_method_4_code, 4, (Option.none : Option Jvm.ClassFile.FieldType), 0), (kc_Bows_fill, 4, 2, 0, 0)),
  ((⟨"java/util/Arrays", "fill", "([JJ)V"⟩, prog_23_method_101_code, 5, (Option.none : Option Jvm.ClassFile.FieldType), 14), (kc_Arrays_fill_JJ, 5, 2, 0, 1000)),
  ((⟨"KnotTown$Bows", "addTo", "(IJ)V"⟩, prog_2_method_5_code, 4, (Option.none : Option Jvm.ClassFile.FieldType), 0), (kc_Bows_addTo, 4, 3, 0, 0)),
  ((⟨"java/lang/Math", "floorMod", "(JJ)J"⟩, prog_18_method_52_code, 6, (Option.some Jvm.ClassFile.FieldType.long), 17), (kc_Math_floorMod, 6, 2, 3, 1000)),
  ((⟨"KnotTown$Bows", "pivot", "(III)I"⟩, prog_2_method_7_code, 5, (Option.some Jvm.ClassFile.FieldType.int), 0), (kc_Bows_pivot, 5, 4, 1, 0)),
  ((⟨"KnotTown$Bows", "swapRows", "(II)V"⟩, prog_2_method_6_code, 6, (Option.none : Option Jvm.ClassFile.FieldType), 0), (kc_Bows_swapRows, 6, 3, 0, 0)),
  ((⟨"KnotTown$Bows", "clearBelow", "(III)V"⟩, prog_2_method_9_code, 12, (Option.none : Option Jvm.ClassFile.FieldType), 0), (kc_Bows_clearBelow, 12, 4, 0, 0))]
set_option maxRecDepth 20000 in
theorem kAMp_3 : ∀ q ∈ kAM_3, kP q := List.forall_mem_cons.mpr ⟨⟨kg_91, kw_91, rfl, rfl⟩, List.forall_mem_cons.mpr ⟨⟨kg_92, kw_92, rfl, rfl⟩, List.forall_mem_cons.mpr ⟨⟨kg_93, kw_93, rfl, rfl⟩, List.forall_mem_cons.mpr ⟨⟨kg_94, kw_94, rfl, rfl⟩, List.forall_mem_cons.mpr ⟨⟨kg_95, kw_95, rfl, rfl⟩, List.forall_mem_cons.mpr ⟨⟨kg_96, kw_96, rfl, rfl⟩, List.forall_mem_cons.mpr ⟨⟨kg_97, kw_97, rfl, rfl⟩, List.forall_mem_cons.mpr ⟨⟨kg_98, kw_98, rfl, rfl⟩, List.forall_mem_cons.mpr ⟨⟨kg_99, kw_99, rfl, rfl⟩, List.forall_mem_cons.mpr ⟨⟨kg_100, kw_100, rfl, rfl⟩, List.forall_mem_cons.mpr ⟨⟨kg_101, kw_101, rfl, rfl⟩, List.forall_mem_cons.mpr ⟨⟨kg_102, kw_102, rfl, rfl⟩, List.forall_mem_cons.mpr ⟨⟨kg_103, kw_103, rfl, rfl⟩, List.forall_mem_cons.mpr ⟨⟨kg_104, kw_104, rfl, rfl⟩, List.forall_mem_cons.mpr ⟨⟨kg_105, kw_105, rfl, rfl⟩, List.forall_mem_cons.mpr ⟨⟨kg_106, kw_106, rfl, rfl⟩, List.forall_mem_cons.mpr ⟨⟨kg_107, kw_107, rfl, rfl⟩, List.forall_mem_cons.mpr ⟨⟨kg_108, kw_108, rfl, rfl⟩, List.forall_mem_cons.mpr ⟨⟨kg_109, kw_109, rfl, rfl⟩, List.forall_mem_cons.mpr ⟨⟨kg_110, kw_110, rfl, rfl⟩, List.forall_mem_cons.mpr ⟨⟨kg_111, kw_111, rfl, rfl⟩, List.forall_mem_cons.mpr ⟨⟨kg_112, kw_112, rfl, rfl⟩, List.forall_mem_cons.mpr ⟨⟨kg_113, kw_113, rfl, rfl⟩, List.forall_mem_cons.mpr ⟨⟨kg_114, kw_114, rfl, rfl⟩, List.forall_mem_cons.mpr ⟨⟨kg_115, kw_115, rfl, rfl⟩, List.forall_mem_cons.mpr ⟨⟨kg_116, kw_116, rfl, rfl⟩, List.forall_mem_cons.mpr ⟨⟨kg_117, kw_117, rfl, rfl⟩, List.forall_mem_cons.mpr ⟨⟨kg_118, kw_118, rfl, rfl⟩, List.forall_mem_cons.mpr ⟨⟨kg_119, kw_119, rfl, rfl⟩, List.forall_mem_cons.mpr ⟨⟨kg_120, kw_120, rfl, rfl⟩, fun _ h => absurd h List.not_mem_nil⟩⟩⟩⟩⟩⟩⟩⟩⟩⟩⟩⟩⟩⟩⟩⟩⟩⟩⟩⟩⟩⟩⟩⟩⟩⟩⟩⟩⟩⟩
def kAM_4 : List (kAT × kMT) := [((⟨"KnotTown", "determinant", "()J"⟩, prog_1_method_21_code, 1, (Option.some Jvm.ClassFile.FieldType.long), 10), (kc_KT_determinant, 1, 1, 3, 10)),
  ((⟨"KnotTown$Bows", "minor", "(LKnotTown$Town;)J"⟩, prog_2_method_10_code, 7, (Option.some Jvm.ClassFile.FieldType.long), 0), (kc_Bows_minor, 7, 2, 3, 0)),
  ((⟨"KnotTown$Bows", "reduceBelow", "(IIJ)V"⟩, prog_2_method_11_code, 9, (Option.none : Option Jvm.ClassFile.FieldType), 0), (kc_Bows_reduceBelow, 9, 4, 0, 0)),
  ((⟨"java/lang/Math", "abs", "(J)J"⟩, prog_18_method_61_code, 2, (Option.some Jvm.ClassFile.FieldType.long), 17), (kc_Math_abs, 2, 1, 3, 1000)),
  ((⟨"KnotTown", "polynomial", "(II)I"⟩, prog_1_method_22_code, 3, (Option.some Jvm.ClassFile.FieldType.int), 10), (kc_KT_polynomial, 3, 3, 1, 10)),
  ((⟨"KnotTown$Bracket", "prepare", "(LKnotTown$Town;)V"⟩, prog_3_method_2_code, 4, (Option.none : Option Jvm.ClassFile.FieldType), 1), (kc_Bracket_prepare, 4, 2, 0, 1)),
  ((⟨"KnotTown$Bracket", "alone", "(LKnotTown$Town;I)I"⟩, prog_3_method_5_code, 2, (Option.some Jvm.ClassFile.FieldType.int), 1), (kc_Bracket_alone, 2, 2, 1, 1000)),
  ((⟨"KnotTown$Bracket", "cut", "(LKnotTown$Bracket;LKnotTown$Town;III)V"⟩, prog_3_method_6_code, 11, (Option.none : Option Jvm.ClassFile.FieldType), 1), (kc_Bracket_cut, 11, 5, 0, 1000)),
  ((⟨"KnotTown$Bracket", "tie", "(II)I"⟩, prog_3_method_7_code, 5, (Option.some Jvm.ClassFile.FieldType.int), 1), (kc_Bracket_tie, 5, 3, 1, 1)),
  ((⟨"KnotTown$Bracket", "untie", "(II)V"⟩, prog_3_method_8_code, 5, (Option.none : Option Jvm.ClassFile.FieldType), 1), (kc_Bracket_untie, 5, 3, 0, 1)),
  ((⟨"KnotTown$Bracket", "addUp", "(III)V"⟩, prog_3_method_9_code, 7, (Option.none : Option Jvm.ClassFile.FieldType), 1), (kc_Bracket_addUp, 7, 4, 0, 1)),
  ((⟨"KnotTown$Bracket", "numberAt", "(I)I"⟩, prog_3_method_3_code, 2, (Option.some Jvm.ClassFile.FieldType.int), 1), (kc_Bracket_numberAt, 2, 2, 1, 1)),
  ((⟨"KnotTown$Bracket", "jonesAt", "(II)I"⟩, prog_3_method_4_code, 4, (Option.some Jvm.ClassFile.FieldType.int), 1), (kc_Bracket_jonesAt, 4, 3, 1, 1)),
  ((⟨"KnotTown", "shaken", "()I"⟩, prog_1_method_23_code, 1, (Option.some Jvm.ClassFile.FieldType.int), 10), (kc_KT_shaken, 1, 1, 1, 10)),
  ((⟨"KnotTown$Search", "fewestMoves", "(LKnotTown$Town;)I"⟩, prog_8_method_3_code, 2, (Option.some Jvm.ClassFile.FieldType.int), 6), (kc_Search_fewestMoves, 2, 2, 1, 6)),
  ((⟨"KnotTown$Search", "shake", "(LKnotTown$Town;)I"⟩, prog_8_method_7_code, 4, (Option.some Jvm.ClassFile.FieldType.int), 6), (kc_Search_shake, 4, 2, 1, 6)),
  ((⟨"java/util/Arrays", "fill", "([SS)V"⟩, prog_23_method_105_code, 4, (Option.none : Option Jvm.ClassFile.FieldType), 14), (kc_Arrays_fill_SS, 4, 2, 0, 1000)),
  ((⟨"KnotTown$Search", "pack", "(I)V"⟩, prog_8_method_10_code, 5, (Option.none : Option Jvm.ClassFile.FieldType), 6), (kc_Search_pack, 5, 2, 0, 6)),
  ((⟨"KnotTown$Search", "freeSlot", "()I"⟩, prog_8_method_12_code, 6, (Option.some Jvm.ClassFile.FieldType.int), 6), (kc_Search_freeSlot, 6, 1, 1, 6)),
  ((⟨"KnotTown$Search", "add", "(III)V"⟩, prog_8_method_13_code, 4, (Option.none : Option Jvm.ClassFile.FieldType), 6), (kc_Search_add, 4, 4, 0, 6)),
  ((⟨"KnotTown$Search", "goOnFrom", "(I)I"⟩, prog_8_method_8_code, 4, (Option.some Jvm.ClassFile.FieldType.int), 6), (kc_Search_goOnFrom, 4, 2, 1, 6)),
  ((⟨"KnotTown$Search", "unpack", "(I)V"⟩, prog_8_method_11_code, 6, (Option.none : Option Jvm.ClassFile.FieldType), 6), (kc_Search_unpack, 6, 2, 0, 6)),
  ((⟨"KnotTown$Search", "packBehind", "(I)V"⟩, prog_8_method_9_code, 3, (Option.none : Option Jvm.ClassFile.FieldType), 6), (kc_Search_packBehind, 3, 2, 0, 6)),
  ((⟨"KnotTown$Search", "depthOf", "(I)I"⟩, prog_8_method_14_code, 5, (Option.some Jvm.ClassFile.FieldType.int), 6), (kc_Search_depthOf, 5, 2, 1, 6)),
  ((⟨"KnotTown", "row", "(II)I"⟩, prog_1_method_24_code, 4, (Option.some Jvm.ClassFile.FieldType.int), 10), (kc_KT_row, 4, 3, 1, 10)),
  ((⟨"KnotTown$Search", "moveOfRow", "(I)I"⟩, prog_8_method_4_code, 5, (Option.some Jvm.ClassFile.FieldType.int), 6), (kc_Search_moveOfRow, 5, 2, 1, 6)),
  ((⟨"KnotTown", "changes", "(I)I"⟩, prog_1_method_25_code, 4, (Option.some Jvm.ClassFile.FieldType.int), 10), (kc_KT_changes, 4, 2, 1, 10)),
  ((⟨"KnotTown$Search", "fewestChanges", "(LKnotTown$Town;)I"⟩, prog_8_method_5_code, 6, (Option.some Jvm.ClassFile.FieldType.int), 6), (kc_Search_fewestChanges, 6, 2, 1, 6)),
  ((⟨"KnotTown$Search", "tryOut", "(LKnotTown$Town;I)Z"⟩, prog_8_method_6_code, 4, (Option.some Jvm.ClassFile.FieldType.boolean), 6), (kc_Search_tryOut, 4, 3, 2, 6)),
  ((⟨"KnotTown", "gossip", "(II)I"⟩, prog_1_method_26_code, 3, (Option.some Jvm.ClassFile.FieldType.int), 10), (kc_KT_gossip, 3, 3, 1, 10))]
set_option maxRecDepth 20000 in
theorem kAMp_4 : ∀ q ∈ kAM_4, kP q := List.forall_mem_cons.mpr ⟨⟨kg_121, kw_121, rfl, rfl⟩, List.forall_mem_cons.mpr ⟨⟨kg_122, kw_122, rfl, rfl⟩, List.forall_mem_cons.mpr ⟨⟨kg_123, kw_123, rfl, rfl⟩, List.forall_mem_cons.mpr ⟨⟨kg_124, kw_124, rfl, rfl⟩, List.forall_mem_cons.mpr ⟨⟨kg_125, kw_125, rfl, rfl⟩, List.forall_mem_cons.mpr ⟨⟨kg_126, kw_126, rfl, rfl⟩, List.forall_mem_cons.mpr ⟨⟨kg_127, kw_127, rfl, rfl⟩, List.forall_mem_cons.mpr ⟨⟨kg_128, kw_128, rfl, rfl⟩, List.forall_mem_cons.mpr ⟨⟨kg_129, kw_129, rfl, rfl⟩, List.forall_mem_cons.mpr ⟨⟨kg_130, kw_130, rfl, rfl⟩, List.forall_mem_cons.mpr ⟨⟨kg_131, kw_131, rfl, rfl⟩, List.forall_mem_cons.mpr ⟨⟨kg_132, kw_132, rfl, rfl⟩, List.forall_mem_cons.mpr ⟨⟨kg_133, kw_133, rfl, rfl⟩, List.forall_mem_cons.mpr ⟨⟨kg_134, kw_134, rfl, rfl⟩, List.forall_mem_cons.mpr ⟨⟨kg_135, kw_135, rfl, rfl⟩, List.forall_mem_cons.mpr ⟨⟨kg_136, kw_136, rfl, rfl⟩, List.forall_mem_cons.mpr ⟨⟨kg_137, kw_137, rfl, rfl⟩, List.forall_mem_cons.mpr ⟨⟨kg_138, kw_138, rfl, rfl⟩, List.forall_mem_cons.mpr ⟨⟨kg_139, kw_139, rfl, rfl⟩, List.forall_mem_cons.mpr ⟨⟨kg_140, kw_140, rfl, rfl⟩, List.forall_mem_cons.mpr ⟨⟨kg_141, kw_141, rfl, rfl⟩, List.forall_mem_cons.mpr ⟨⟨kg_142, kw_142, rfl, rfl⟩, List.forall_mem_cons.mpr ⟨⟨kg_143, kw_143, rfl, rfl⟩, List.forall_mem_cons.mpr ⟨⟨kg_144, kw_144, rfl, rfl⟩, List.forall_mem_cons.mpr ⟨⟨kg_145, kw_145, rfl, rfl⟩, List.forall_mem_cons.mpr ⟨⟨kg_146, kw_146, rfl, rfl⟩, List.forall_mem_cons.mpr ⟨⟨kg_147, kw_147, rfl, rfl⟩, List.forall_mem_cons.mpr ⟨⟨kg_148, kw_148, rfl, rfl⟩, List.forall_mem_cons.mpr ⟨⟨kg_149, kw_149, rfl, rfl⟩, List.forall_mem_cons.mpr ⟨⟨kg_150, kw_150, rfl, rfl⟩, fun _ h => absurd h List.not_mem_nil⟩⟩⟩⟩⟩⟩⟩⟩⟩⟩⟩⟩⟩⟩⟩⟩⟩⟩⟩⟩⟩⟩⟩⟩⟩⟩⟩⟩⟩⟩
def kAM_5 : List (kAT × kMT) := [((⟨"KnotTown", "ruleInForce", "()LKnotTown$Rule;"⟩, prog_1_method_35_code, 2, (Option.some (Jvm.ClassFile.FieldType.object "KnotTown$Rule")), 10), (kc_KT_ruleInForce, 2, 1, 4, 10)),
  ((⟨"KnotTown$Gossip", "spread", "(LKnotTown$Town;LKnotTown$Rule;II)I"⟩, prog_4_method_2_code, 6, (Option.some Jvm.ClassFile.FieldType.int), 2), (kc_Gossip_spread, 6, 5, 1, 2)),
  ((⟨"KnotTown$Gossip", "begin", "(LKnotTown$Town;I)V"⟩, prog_4_method_4_code, 3, (Option.none : Option Jvm.ClassFile.FieldType), 2), (kc_Gossip_begin, 3, 3, 0, 2)),
  ((⟨"KnotTown$Gossip", "passOn", "(LKnotTown$Town;LKnotTown$Rule;I)Z"⟩, prog_4_method_5_code, 6, (Option.some Jvm.ClassFile.FieldType.boolean), 2), (kc_Gossip_passOn, 6, 4, 2, 2)),
  ((⟨"KnotTown$Gossip", "meet", "(LKnotTown$Town;LKnotTown$Rule;II)V"⟩, prog_4_method_6_code, 7, (Option.none : Option Jvm.ClassFile.FieldType), 2), (kc_Gossip_meet, 7, 5, 0, 2)),
  ((⟨"KnotTown$Gossip", "tell", "(LKnotTown$Rule;I)V"⟩, prog_4_method_7_code, 3, (Option.none : Option Jvm.ClassFile.FieldType), 2), (kc_Gossip_tell, 3, 3, 0, 2)),
  ((⟨"KnotTown$Rule", "bars", "([J[J)Z"⟩, prog_6_method_2_code, 6, (Option.some Jvm.ClassFile.FieldType.boolean), 4), (kc_Rule_bars, 6, 3, 2, 4)),
  ((⟨"KnotTown$Rule", "wordOf", "([JI)J"⟩, prog_6_method_3_code, 3, (Option.some Jvm.ClassFile.FieldType.long), 4), (kc_Rule_wordOf, 3, 2, 3, 1000)),
  ((⟨"KnotTown$Rule", "reckon", "(IJJ)J"⟩, prog_6_method_4_code, 5, (Option.some Jvm.ClassFile.FieldType.long), 4), (kc_Rule_reckon, 5, 3, 3, 1000)),
  ((⟨"KnotTown$Rule", "compare", "(IJJ)Z"⟩, prog_6_method_5_code, 5, (Option.some Jvm.ClassFile.FieldType.boolean), 4), (kc_Rule_compare, 5, 3, 2, 1000)),
  ((⟨"KnotTown", "heard", "(II)I"⟩, prog_1_method_27_code, 3, (Option.some Jvm.ClassFile.FieldType.int), 10), (kc_KT_heard, 3, 3, 1, 10)),
  ((⟨"KnotTown$Gossip", "minuteOf", "(LKnotTown$Town;LKnotTown$Rule;II)I"⟩, prog_4_method_3_code, 8, (Option.some Jvm.ClassFile.FieldType.int), 2), (kc_Gossip_minuteOf, 8, 5, 1, 2)),
  ((⟨"KnotTown", "seed", "(I)I"⟩, prog_1_method_28_code, 3, (Option.some Jvm.ClassFile.FieldType.int), 10), (kc_KT_seed, 3, 2, 1, 10)),
  ((⟨"KnotTown", "floods", "(IIII)I"⟩, prog_1_method_29_code, 11, (Option.some Jvm.ClassFile.FieldType.int), 10), (kc_KT_floods, 11, 5, 1, 10)),
  ((⟨"KnotTown", "drawnAfter", "(I)I"⟩, prog_1_method_36_code, 1, (Option.some Jvm.ClassFile.FieldType.int), 10), (kc_KT_drawnAfter, 1, 1, 1, 1000)),
  ((⟨"KnotTown$Town", "getsAlong", "(III)Z"⟩, prog_11_method_27_code, 7, (Option.some Jvm.ClassFile.FieldType.boolean), 9), (kc_Town_getsAlong, 7, 4, 2, 9)),
  ((⟨"KnotTown", "count", "(I)I"⟩, prog_1_method_30_code, 3, (Option.some Jvm.ClassFile.FieldType.int), 10), (kc_KT_count, 3, 2, 1, 10)),
  ((⟨"KnotTown", "image", "(I)I"⟩, prog_1_method_31_code, 2, (Option.some Jvm.ClassFile.FieldType.int), 10), (kc_KT_image, 2, 2, 1, 10)),
  ((⟨"KnotTown$Stand", "copyFrom", "(LKnotTown$Stand;)V"⟩, prog_9_method_2_code, 2, (Option.none : Option Jvm.ClassFile.FieldType), 7), (kc_Stand_copyFrom, 2, 2, 0, 7)),
  ((⟨"KnotTown", "back", "(I)I"⟩, prog_1_method_32_code, 2, (Option.some Jvm.ClassFile.FieldType.int), 10), (kc_KT_back, 2, 2, 1, 10)),
  ((⟨"KnotTownModel", "<init>", "()V"⟩, prog_14_method_1_code, 1, (Option.none : Option Jvm.ClassFile.FieldType), 11), (kc_M_init, 1, 1, 0, 11)),
  ((⟨"KnotTownModel", "refresh", "()V"⟩, prog_14_method_14_code, 2, (Option.none : Option Jvm.ClassFile.FieldType), 11), (kc_M_refresh, 2, 1, 0, 11)),
  ((⟨"KnotTownModel", "places", "()I"⟩, prog_14_method_6_code, 1, (Option.some Jvm.ClassFile.FieldType.int), 11), (kc_M_places, 1, 1, 1, 11)),
  ((⟨"KnotTownModel", "feed", "(IIIII)I"⟩, prog_14_method_23_code, 6, (Option.some Jvm.ClassFile.FieldType.int), 11), (kc_M_feed, 6, 6, 1, 11)),
  ((⟨"KnotTownModel", "put", "(I)V"⟩, prog_14_method_24_code, 3, (Option.none : Option Jvm.ClassFile.FieldType), 11), (kc_M_put, 3, 2, 0, 11)),
  ((⟨"KnotTownModel", "end", "(I)I"⟩, prog_14_method_25_code, 2, (Option.some Jvm.ClassFile.FieldType.int), 11), (kc_M_end, 2, 2, 1, 11)),
  ((⟨"KnotTownModel", "town", "()I"⟩, prog_14_method_51_code, 4, (Option.some Jvm.ClassFile.FieldType.int), 11), (kc_M_town, 4, 1, 1, 11)),
  ((⟨"KnotTownModel", "starts", "()V"⟩, prog_14_method_50_code, 1, (Option.none : Option Jvm.ClassFile.FieldType), 11), (kc_M_starts, 1, 1, 0, 11)),
  ((⟨"KnotTownModel", "road", "()V"⟩, prog_14_method_48_code, 3, (Option.none : Option Jvm.ClassFile.FieldType), 11), (kc_M_road, 3, 1, 0, 11)),
  ((⟨"KnotTownModel", "blanks", "()V"⟩, prog_14_method_29_code, 1, (Option.none : Option Jvm.ClassFile.FieldType), 11), (kc_M_blanks, 1, 1, 0, 11))]
set_option maxRecDepth 20000 in
theorem kAMp_5 : ∀ q ∈ kAM_5, kP q := List.forall_mem_cons.mpr ⟨⟨kg_151, kw_151, rfl, rfl⟩, List.forall_mem_cons.mpr ⟨⟨kg_152, kw_152, rfl, rfl⟩, List.forall_mem_cons.mpr ⟨⟨kg_153, kw_153, rfl, rfl⟩, List.forall_mem_cons.mpr ⟨⟨kg_154, kw_154, rfl, rfl⟩, List.forall_mem_cons.mpr ⟨⟨kg_155, kw_155, rfl, rfl⟩, List.forall_mem_cons.mpr ⟨⟨kg_156, kw_156, rfl, rfl⟩, List.forall_mem_cons.mpr ⟨⟨kg_157, kw_157, rfl, rfl⟩, List.forall_mem_cons.mpr ⟨⟨kg_158, kw_158, rfl, rfl⟩, List.forall_mem_cons.mpr ⟨⟨kg_159, kw_159, rfl, rfl⟩, List.forall_mem_cons.mpr ⟨⟨kg_160, kw_160, rfl, rfl⟩, List.forall_mem_cons.mpr ⟨⟨kg_161, kw_161, rfl, rfl⟩, List.forall_mem_cons.mpr ⟨⟨kg_162, kw_162, rfl, rfl⟩, List.forall_mem_cons.mpr ⟨⟨kg_163, kw_163, rfl, rfl⟩, List.forall_mem_cons.mpr ⟨⟨kg_164, kw_164, rfl, rfl⟩, List.forall_mem_cons.mpr ⟨⟨kg_165, kw_165, rfl, rfl⟩, List.forall_mem_cons.mpr ⟨⟨kg_166, kw_166, rfl, rfl⟩, List.forall_mem_cons.mpr ⟨⟨kg_167, kw_167, rfl, rfl⟩, List.forall_mem_cons.mpr ⟨⟨kg_168, kw_168, rfl, rfl⟩, List.forall_mem_cons.mpr ⟨⟨kg_169, kw_169, rfl, rfl⟩, List.forall_mem_cons.mpr ⟨⟨kg_170, kw_170, rfl, rfl⟩, List.forall_mem_cons.mpr ⟨⟨kg_171, kw_171, rfl, rfl⟩, List.forall_mem_cons.mpr ⟨⟨kg_172, kw_172, rfl, rfl⟩, List.forall_mem_cons.mpr ⟨⟨kg_173, kw_173, rfl, rfl⟩, List.forall_mem_cons.mpr ⟨⟨kg_174, kw_174, rfl, rfl⟩, List.forall_mem_cons.mpr ⟨⟨kg_175, kw_175, rfl, rfl⟩, List.forall_mem_cons.mpr ⟨⟨kg_176, kw_176, rfl, rfl⟩, List.forall_mem_cons.mpr ⟨⟨kg_177, kw_177, rfl, rfl⟩, List.forall_mem_cons.mpr ⟨⟨kg_178, kw_178, rfl, rfl⟩, List.forall_mem_cons.mpr ⟨⟨kg_179, kw_179, rfl, rfl⟩, List.forall_mem_cons.mpr ⟨⟨kg_180, kw_180, rfl, rfl⟩, fun _ h => absurd h List.not_mem_nil⟩⟩⟩⟩⟩⟩⟩⟩⟩⟩⟩⟩⟩⟩⟩⟩⟩⟩⟩⟩⟩⟩⟩⟩⟩⟩⟩⟩⟩⟩
def kAM_6 : List (kAT × kMT) := [((⟨"KnotTownModel", "sign", "()I"⟩, prog_14_method_28_code, 1, (Option.some Jvm.ClassFile.FieldType.int), 11), (kc_M_sign, 1, 1, 1, 11)),
  ((⟨"KnotTownModel", "stood", "(Ljava/lang/String;)Z"⟩, prog_14_method_31_code, 5, (Option.some Jvm.ClassFile.FieldType.boolean), 11), (kc_M_stood, 5, 2, 2, 11)),
  ((⟨"KnotTownModel", "fails", "(II)V"⟩, prog_14_method_27_code, 3, (Option.none : Option Jvm.ClassFile.FieldType), 11), (kc_M_fails, 3, 3, 0, 11)),
  ((⟨"KnotTownModel", "pass", "(Z)V"⟩, prog_14_method_47_code, 5, (Option.none : Option Jvm.ClassFile.FieldType), 11), (kc_M_pass, 5, 2, 0, 11)),
  ((⟨"KnotTownModel", "amount", "(II)I"⟩, prog_14_method_45_code, 5, (Option.some Jvm.ClassFile.FieldType.int), 11), (kc_M_amount, 5, 3, 1, 11)),
  ((⟨"KnotTownModel", "digits", "(I)I"⟩, prog_14_method_35_code, 4, (Option.some Jvm.ClassFile.FieldType.int), 11), (kc_M_digits, 4, 2, 1, 11)),
  ((⟨"KnotTownModel", "isDigit", "()Z"⟩, prog_14_method_30_code, 1, (Option.some Jvm.ClassFile.FieldType.boolean), 11), (kc_M_isDigit, 1, 1, 2, 11)),
  ((⟨"KnotTownModel", "in", "(JJJ)Z"⟩, prog_14_method_3_code, 6, (Option.some Jvm.ClassFile.FieldType.boolean), 11), (kc_M_in, 6, 3, 2, 1000)),
  ((⟨"KnotTownModel", "signOf", "(I)V"⟩, prog_14_method_46_code, 2, (Option.none : Option Jvm.ClassFile.FieldType), 11), (kc_M_signOf, 2, 2, 0, 11)),
  ((⟨"KnotTownModel", "goesOn", "()Z"⟩, prog_14_method_49_code, 2, (Option.some Jvm.ClassFile.FieldType.boolean), 11), (kc_M_goesOn, 2, 1, 2, 11)),
  ((⟨"KnotTownModel", "keeps", "()V"⟩, prog_14_method_16_code, 1, (Option.none : Option Jvm.ClassFile.FieldType), 11), (kc_M_keeps, 1, 1, 0, 11)),
  ((⟨"KnotTownModel", "lay", "([I[I)V"⟩, prog_14_method_15_code, 3, (Option.none : Option Jvm.ClassFile.FieldType), 11), (kc_M_lay, 3, 2, 0, 1000)),
  ((⟨"KnotTownModel", "areWhole", "()Z"⟩, prog_14_method_22_code, 3, (Option.some Jvm.ClassFile.FieldType.boolean), 11), (kc_M_areWhole, 3, 1, 2, 11)),
  ((⟨"KnotTownModel", "canBeDrawn", "()Z"⟩, prog_14_method_21_code, 1, (Option.some Jvm.ClassFile.FieldType.boolean), 11), (kc_M_canBeDrawn, 1, 1, 2, 11)),
  ((⟨"KnotTownModel", "fillsLand", "()V"⟩, prog_14_method_19_code, 6, (Option.none : Option Jvm.ClassFile.FieldType), 11), (kc_M_fillsLand, 6, 1, 0, 11)),
  ((⟨"KnotTownModel", "isBridge", "(I)Z"⟩, prog_14_method_8_code, 2, (Option.some Jvm.ClassFile.FieldType.boolean), 11), (kc_M_isBridge, 2, 2, 2, 11)),
  ((⟨"KnotTownModel", "ahead", "(I)I"⟩, prog_14_method_13_code, 3, (Option.some Jvm.ClassFile.FieldType.int), 11), (kc_M_ahead, 3, 2, 1, 11)),
  ((⟨"KnotTownModel", "roadOf", "(I)I"⟩, prog_14_method_10_code, 2, (Option.some Jvm.ClassFile.FieldType.int), 11), (kc_M_roadOf, 2, 2, 1, 11)),
  ((⟨"KnotTownModel", "beginOf", "(I)I"⟩, prog_14_method_11_code, 2, (Option.some Jvm.ClassFile.FieldType.int), 11), (kc_M_beginOf, 2, 2, 1, 11)),
  ((⟨"KnotTownModel", "turns", "(IIII)V"⟩, prog_14_method_18_code, 5, (Option.none : Option Jvm.ClassFile.FieldType), 11), (kc_M_turns, 5, 5, 0, 11)),
  ((⟨"KnotTownModel", "many", "()I"⟩, prog_14_method_9_code, 1, (Option.some Jvm.ClassFile.FieldType.int), 11), (kc_M_many, 1, 1, 1, 11)),
  ((⟨"KnotTownModel", "groups", "()I"⟩, prog_14_method_20_code, 6, (Option.some Jvm.ClassFile.FieldType.int), 11), (kc_M_groups, 6, 1, 1, 11)),
  ((⟨"KnotTownModel", "next", "(I)I"⟩, prog_14_method_12_code, 3, (Option.some Jvm.ClassFile.FieldType.int), 11), (kc_M_next, 3, 2, 1, 11)),
  ((⟨"KnotTownModel", "laysBack", "()V"⟩, prog_14_method_17_code, 1, (Option.none : Option Jvm.ClassFile.FieldType), 11), (kc_M_laysBack, 1, 1, 0, 11)),
  ((⟨"KnotTownModel", "rule", "()I"⟩, prog_14_method_53_code, 3, (Option.some Jvm.ClassFile.FieldType.int), 11), (kc_M_rule, 3, 1, 1, 11)),
  ((⟨"KnotTownModel", "ruleClause", "(I)V"⟩, prog_14_method_52_code, 4, (Option.none : Option Jvm.ClassFile.FieldType), 11), (kc_M_ruleClause, 4, 2, 0, 11)),
  ((⟨"KnotTownModel", "test", "()V"⟩, prog_14_method_44_code, 5, (Option.none : Option Jvm.ClassFile.FieldType), 11), (kc_M_test, 5, 1, 0, 11)),
  ((⟨"KnotTownModel", "fact", "()Z"⟩, prog_14_method_43_code, 1, (Option.some Jvm.ClassFile.FieldType.boolean), 11), (kc_M_fact, 1, 1, 2, 11)),
  ((⟨"KnotTownModel", "opens", "(I)V"⟩, prog_14_method_41_code, 2, (Option.none : Option Jvm.ClassFile.FieldType), 11), (kc_M_opens, 2, 2, 0, 11)),
  ((⟨"KnotTownModel", "compared", "()V"⟩, prog_14_method_39_code, 3, (Option.none : Option Jvm.ClassFile.FieldType), 11), (kc_M_compared, 3, 1, 0, 11))]
set_option maxRecDepth 20000 in
theorem kAMp_6 : ∀ q ∈ kAM_6, kP q := List.forall_mem_cons.mpr ⟨⟨kg_181, kw_181, rfl, rfl⟩, List.forall_mem_cons.mpr ⟨⟨kg_182, kw_182, rfl, rfl⟩, List.forall_mem_cons.mpr ⟨⟨kg_183, kw_183, rfl, rfl⟩, List.forall_mem_cons.mpr ⟨⟨kg_184, kw_184, rfl, rfl⟩, List.forall_mem_cons.mpr ⟨⟨kg_185, kw_185, rfl, rfl⟩, List.forall_mem_cons.mpr ⟨⟨kg_186, kw_186, rfl, rfl⟩, List.forall_mem_cons.mpr ⟨⟨kg_187, kw_187, rfl, rfl⟩, List.forall_mem_cons.mpr ⟨⟨kg_188, kw_188, rfl, rfl⟩, List.forall_mem_cons.mpr ⟨⟨kg_189, kw_189, rfl, rfl⟩, List.forall_mem_cons.mpr ⟨⟨kg_190, kw_190, rfl, rfl⟩, List.forall_mem_cons.mpr ⟨⟨kg_191, kw_191, rfl, rfl⟩, List.forall_mem_cons.mpr ⟨⟨kg_192, kw_192, rfl, rfl⟩, List.forall_mem_cons.mpr ⟨⟨kg_193, kw_193, rfl, rfl⟩, List.forall_mem_cons.mpr ⟨⟨kg_194, kw_194, rfl, rfl⟩, List.forall_mem_cons.mpr ⟨⟨kg_195, kw_195, rfl, rfl⟩, List.forall_mem_cons.mpr ⟨⟨kg_196, kw_196, rfl, rfl⟩, List.forall_mem_cons.mpr ⟨⟨kg_197, kw_197, rfl, rfl⟩, List.forall_mem_cons.mpr ⟨⟨kg_198, kw_198, rfl, rfl⟩, List.forall_mem_cons.mpr ⟨⟨kg_199, kw_199, rfl, rfl⟩, List.forall_mem_cons.mpr ⟨⟨kg_200, kw_200, rfl, rfl⟩, List.forall_mem_cons.mpr ⟨⟨kg_201, kw_201, rfl, rfl⟩, List.forall_mem_cons.mpr ⟨⟨kg_202, kw_202, rfl, rfl⟩, List.forall_mem_cons.mpr ⟨⟨kg_203, kw_203, rfl, rfl⟩, List.forall_mem_cons.mpr ⟨⟨kg_204, kw_204, rfl, rfl⟩, List.forall_mem_cons.mpr ⟨⟨kg_205, kw_205, rfl, rfl⟩, List.forall_mem_cons.mpr ⟨⟨kg_206, kw_206, rfl, rfl⟩, List.forall_mem_cons.mpr ⟨⟨kg_207, kw_207, rfl, rfl⟩, List.forall_mem_cons.mpr ⟨⟨kg_208, kw_208, rfl, rfl⟩, List.forall_mem_cons.mpr ⟨⟨kg_209, kw_209, rfl, rfl⟩, List.forall_mem_cons.mpr ⟨⟨kg_210, kw_210, rfl, rfl⟩, fun _ h => absurd h List.not_mem_nil⟩⟩⟩⟩⟩⟩⟩⟩⟩⟩⟩⟩⟩⟩⟩⟩⟩⟩⟩⟩⟩⟩⟩⟩⟩⟩⟩⟩⟩⟩
def kAM_7 : List (kAT × kMT) := [((⟨"KnotTownModel", "sum", "()V"⟩, prog_14_method_38_code, 2, (Option.none : Option Jvm.ClassFile.FieldType), 11), (kc_M_sum, 2, 1, 0, 11)),
  ((⟨"KnotTownModel", "term", "()V"⟩, prog_14_method_37_code, 2, (Option.none : Option Jvm.ClassFile.FieldType), 11), (kc_M_term, 2, 1, 0, 11)),
  ((⟨"KnotTownModel", "value", "()V"⟩, prog_14_method_36_code, 3, (Option.none : Option Jvm.ClassFile.FieldType), 11), (kc_M_value, 3, 1, 0, 11)),
  ((⟨"KnotTownModel", "isCounted", "(I)V"⟩, prog_14_method_34_code, 2, (Option.none : Option Jvm.ClassFile.FieldType), 11), (kc_M_isCounted, 2, 2, 0, 11)),
  ((⟨"KnotTownModel", "entry", "(II)V"⟩, prog_14_method_33_code, 3, (Option.none : Option Jvm.ClassFile.FieldType), 11), (kc_M_entry, 3, 3, 0, 11)),
  ((⟨"KnotTownModel", "wordOf", "(I)Ljava/lang/String;"⟩, prog_14_method_26_code, 1, (Option.some (Jvm.ClassFile.FieldType.object "java/lang/String")), 11), (kc_M_wordOf, 1, 1, 4, 1000)),
  ((⟨"KnotTownModel", "answers", "(I)V"⟩, prog_14_method_42_code, 2, (Option.none : Option Jvm.ClassFile.FieldType), 11), (kc_M_answers, 2, 2, 0, 11)),
  ((⟨"KnotTownModel", "top", "()I"⟩, prog_14_method_40_code, 1, (Option.some Jvm.ClassFile.FieldType.int), 11), (kc_M_top, 1, 1, 1, 11)),
  ((⟨"KnotTownModel", "force", "(I)I"⟩, prog_14_method_54_code, 3, (Option.some Jvm.ClassFile.FieldType.int), 11), (kc_M_force, 3, 2, 1, 11)),
  ((⟨"KnotTownModel", "place", "(II)I"⟩, prog_14_method_60_code, 3, (Option.some Jvm.ClassFile.FieldType.int), 11), (kc_M_place, 3, 3, 1, 11)),
  ((⟨"KnotTownModel", "isPlace", "(I)Z"⟩, prog_14_method_7_code, 2, (Option.some Jvm.ClassFile.FieldType.boolean), 11), (kc_M_isPlace, 2, 2, 2, 11)),
  ((⟨"KnotTownModel", "fillsBows", "()V"⟩, prog_14_method_58_code, 3, (Option.none : Option Jvm.ClassFile.FieldType), 11), (kc_M_fillsBows, 3, 1, 0, 11)),
  ((⟨"KnotTownModel", "goesUnder", "(I)Z"⟩, prog_14_method_59_code, 4, (Option.some Jvm.ClassFile.FieldType.boolean), 11), (kc_M_goesUnder, 4, 2, 2, 11)),
  ((⟨"KnotTownModel", "bridge", "(II)I"⟩, prog_14_method_61_code, 3, (Option.some Jvm.ClassFile.FieldType.int), 11), (kc_M_bridge, 3, 3, 1, 11)),
  ((⟨"KnotTownModel", "land", "(I)I"⟩, prog_14_method_62_code, 5, (Option.some Jvm.ClassFile.FieldType.int), 11), (kc_M_land, 5, 2, 1, 11)),
  ((⟨"KnotTownModel", "isTown", "()Z"⟩, prog_14_method_5_code, 1, (Option.some Jvm.ClassFile.FieldType.boolean), 11), (kc_M_isTown, 1, 1, 2, 11)),
  ((⟨"KnotTownModel", "off", "(I)Z"⟩, prog_14_method_72_code, 3, (Option.some Jvm.ClassFile.FieldType.boolean), 11), (kc_M_off, 3, 2, 2, 11)),
  ((⟨"KnotTownModel", "isOff", "(I)Z"⟩, prog_14_method_63_code, 2, (Option.some Jvm.ClassFile.FieldType.boolean), 11), (kc_M_isOff, 2, 2, 2, 11)),
  ((⟨"KnotTownModel", "removes", "(I)V"⟩, prog_14_method_69_code, 6, (Option.none : Option Jvm.ClassFile.FieldType), 11), (kc_M_removes, 6, 2, 0, 11)),
  ((⟨"KnotTownModel", "apart", "(II)Z"⟩, prog_14_method_73_code, 4, (Option.some Jvm.ClassFile.FieldType.boolean), 11), (kc_M_apart, 4, 3, 2, 11)),
  ((⟨"KnotTownModel", "isApart", "(II)Z"⟩, prog_14_method_66_code, 6, (Option.some Jvm.ClassFile.FieldType.boolean), 11), (kc_M_isApart, 6, 3, 2, 11)),
  ((⟨"KnotTownModel", "isBetween", "(III)Z"⟩, prog_14_method_65_code, 6, (Option.some Jvm.ClassFile.FieldType.boolean), 11), (kc_M_isBetween, 6, 4, 2, 11)),
  ((⟨"KnotTownModel", "heightOf", "(I)I"⟩, prog_14_method_64_code, 2, (Option.some Jvm.ClassFile.FieldType.int), 11), (kc_M_heightOf, 2, 2, 1, 11)),
  ((⟨"KnotTownModel", "slide", "(III)Z"⟩, prog_14_method_74_code, 5, (Option.some Jvm.ClassFile.FieldType.boolean), 11), (kc_M_slide, 5, 4, 2, 11)),
  ((⟨"KnotTownModel", "isSlide", "(III)Z"⟩, prog_14_method_68_code, 5, (Option.some Jvm.ClassFile.FieldType.boolean), 11), (kc_M_isSlide, 5, 4, 2, 11)),
  ((⟨"KnotTownModel", "isSlideLand", "(II)Z"⟩, prog_14_method_67_code, 10, (Option.some Jvm.ClassFile.FieldType.boolean), 11), (kc_M_isSlideLand, 10, 3, 2, 11)),
  ((⟨"KnotTownModel", "slides", "()V"⟩, prog_14_method_71_code, 2, (Option.none : Option Jvm.ClassFile.FieldType), 11), (kc_M_slides, 2, 1, 0, 11)),
  ((⟨"KnotTownModel", "swapsPasses", "(I)V"⟩, prog_14_method_70_code, 5, (Option.none : Option Jvm.ClassFile.FieldType), 11), (kc_M_swapsPasses, 5, 2, 0, 11)),
  ((⟨"KnotTownModel", "change", "(I)I"⟩, prog_14_method_76_code, 2, (Option.some Jvm.ClassFile.FieldType.int), 11), (kc_M_change, 2, 2, 1, 11)),
  ((⟨"KnotTownModel", "changes1", "(I)V"⟩, prog_14_method_75_code, 2, (Option.none : Option Jvm.ClassFile.FieldType), 11), (kc_M_changes1, 2, 2, 0, 11))]
set_option maxRecDepth 20000 in
theorem kAMp_7 : ∀ q ∈ kAM_7, kP q := List.forall_mem_cons.mpr ⟨⟨kg_211, kw_211, rfl, rfl⟩, List.forall_mem_cons.mpr ⟨⟨kg_212, kw_212, rfl, rfl⟩, List.forall_mem_cons.mpr ⟨⟨kg_213, kw_213, rfl, rfl⟩, List.forall_mem_cons.mpr ⟨⟨kg_214, kw_214, rfl, rfl⟩, List.forall_mem_cons.mpr ⟨⟨kg_215, kw_215, rfl, rfl⟩, List.forall_mem_cons.mpr ⟨⟨kg_216, kw_216, rfl, rfl⟩, List.forall_mem_cons.mpr ⟨⟨kg_217, kw_217, rfl, rfl⟩, List.forall_mem_cons.mpr ⟨⟨kg_218, kw_218, rfl, rfl⟩, List.forall_mem_cons.mpr ⟨⟨kg_219, kw_219, rfl, rfl⟩, List.forall_mem_cons.mpr ⟨⟨kg_220, kw_220, rfl, rfl⟩, List.forall_mem_cons.mpr ⟨⟨kg_221, kw_221, rfl, rfl⟩, List.forall_mem_cons.mpr ⟨⟨kg_222, kw_222, rfl, rfl⟩, List.forall_mem_cons.mpr ⟨⟨kg_223, kw_223, rfl, rfl⟩, List.forall_mem_cons.mpr ⟨⟨kg_224, kw_224, rfl, rfl⟩, List.forall_mem_cons.mpr ⟨⟨kg_225, kw_225, rfl, rfl⟩, List.forall_mem_cons.mpr ⟨⟨kg_226, kw_226, rfl, rfl⟩, List.forall_mem_cons.mpr ⟨⟨kg_227, kw_227, rfl, rfl⟩, List.forall_mem_cons.mpr ⟨⟨kg_228, kw_228, rfl, rfl⟩, List.forall_mem_cons.mpr ⟨⟨kg_229, kw_229, rfl, rfl⟩, List.forall_mem_cons.mpr ⟨⟨kg_230, kw_230, rfl, rfl⟩, List.forall_mem_cons.mpr ⟨⟨kg_231, kw_231, rfl, rfl⟩, List.forall_mem_cons.mpr ⟨⟨kg_232, kw_232, rfl, rfl⟩, List.forall_mem_cons.mpr ⟨⟨kg_233, kw_233, rfl, rfl⟩, List.forall_mem_cons.mpr ⟨⟨kg_234, kw_234, rfl, rfl⟩, List.forall_mem_cons.mpr ⟨⟨kg_235, kw_235, rfl, rfl⟩, List.forall_mem_cons.mpr ⟨⟨kg_236, kw_236, rfl, rfl⟩, List.forall_mem_cons.mpr ⟨⟨kg_237, kw_237, rfl, rfl⟩, List.forall_mem_cons.mpr ⟨⟨kg_238, kw_238, rfl, rfl⟩, List.forall_mem_cons.mpr ⟨⟨kg_239, kw_239, rfl, rfl⟩, List.forall_mem_cons.mpr ⟨⟨kg_240, kw_240, rfl, rfl⟩, fun _ h => absurd h List.not_mem_nil⟩⟩⟩⟩⟩⟩⟩⟩⟩⟩⟩⟩⟩⟩⟩⟩⟩⟩⟩⟩⟩⟩⟩⟩⟩⟩⟩⟩⟩⟩
def kAM_8 : List (kAT × kMT) := [((⟨"KnotTownModel", "twist", "(IZZ)I"⟩, prog_14_method_77_code, 7, (Option.some Jvm.ClassFile.FieldType.int), 11), (kc_M_twist, 7, 4, 1, 11)),
  ((⟨"KnotTownModel", "mirror", "()I"⟩, prog_14_method_78_code, 2, (Option.some Jvm.ClassFile.FieldType.int), 11), (kc_M_mirror, 2, 1, 1, 11)),
  ((⟨"KnotTownModel", "backToFront", "(I)I"⟩, prog_14_method_80_code, 9, (Option.some Jvm.ClassFile.FieldType.int), 11), (kc_M_backToFront, 9, 2, 1, 11)),
  ((⟨"KnotTownModel", "isOfBoth", "(I)Z"⟩, prog_14_method_79_code, 2, (Option.some Jvm.ClassFile.FieldType.boolean), 11), (kc_M_isOfBoth, 2, 2, 2, 11)),
  ((⟨"KnotTownModel", "can", "(I)I"⟩, prog_14_method_85_code, 4, (Option.some Jvm.ClassFile.FieldType.int), 11), (kc_M_can, 4, 2, 1, 11)),
  ((⟨"KnotTownModel", "kindOf", "(I)I"⟩, prog_14_method_81_code, 1, (Option.some Jvm.ClassFile.FieldType.int), 11), (kc_M_kindOf, 1, 1, 1, 1000)),
  ((⟨"KnotTownModel", "canMove", "(I)Z"⟩, prog_14_method_83_code, 5, (Option.some Jvm.ClassFile.FieldType.boolean), 11), (kc_M_canMove, 5, 2, 2, 11)),
  ((⟨"KnotTownModel", "bridgeOf", "(II)I"⟩, prog_14_method_82_code, 5, (Option.some Jvm.ClassFile.FieldType.int), 11), (kc_M_bridgeOf, 5, 2, 1, 1000)),
  ((⟨"KnotTownModel", "writhe", "()I"⟩, prog_14_method_87_code, 1, (Option.some Jvm.ClassFile.FieldType.int), 11), (kc_M_writhe, 1, 1, 1, 11)),
  ((⟨"KnotTownModel", "sumOfHands", "(Z)I"⟩, prog_14_method_86_code, 4, (Option.some Jvm.ClassFile.FieldType.int), 11), (kc_M_sumOfHands, 4, 2, 1, 11)),
  ((⟨"KnotTownModel", "linked", "()I"⟩, prog_14_method_88_code, 1, (Option.some Jvm.ClassFile.FieldType.int), 11), (kc_M_linked, 1, 1, 1, 11)),
  ((⟨"KnotTownModel", "colours", "(I)J"⟩, prog_14_method_92_code, 12, (Option.some Jvm.ClassFile.FieldType.long), 11), (kc_M_colours, 12, 2, 3, 11)),
  ((⟨"KnotTownModel", "fillsMatrix", "()I"⟩, prog_14_method_89_code, 4, (Option.some Jvm.ClassFile.FieldType.int), 11), (kc_M_fillsMatrix, 4, 1, 1, 11)),
  ((⟨"KnotTownModel", "modulo", "(JI)J"⟩, prog_14_method_93_code, 3, (Option.some Jvm.ClassFile.FieldType.long), 11), (kc_M_modulo, 3, 2, 3, 1000)),
  ((⟨"KnotTownModel", "swapsRows", "(II)V"⟩, prog_14_method_90_code, 6, (Option.none : Option Jvm.ClassFile.FieldType), 11), (kc_M_swapsRows, 6, 3, 0, 11)),
  ((⟨"KnotTownModel", "inverse", "(JI)J"⟩, prog_14_method_91_code, 5, (Option.some Jvm.ClassFile.FieldType.long), 11), (kc_M_inverse, 5, 2, 3, 1000)),
  ((⟨"KnotTownModel", "determinant", "()J"⟩, prog_14_method_94_code, 9, (Option.some Jvm.ClassFile.FieldType.long), 11), (kc_M_determinant, 9, 1, 3, 11)),
  ((⟨"KnotTownModel", "polynomial", "(II)I"⟩, prog_14_method_101_code, 6, (Option.some Jvm.ClassFile.FieldType.int), 11), (kc_M_polynomial, 6, 3, 1, 11)),
  ((⟨"KnotTownModel", "fillsBracket", "()V"⟩, prog_14_method_100_code, 3, (Option.none : Option Jvm.ClassFile.FieldType), 11), (kc_M_fillsBracket, 3, 1, 0, 11)),
  ((⟨"KnotTownModel", "presentSet", "()I"⟩, prog_14_method_98_code, 3, (Option.some Jvm.ClassFile.FieldType.int), 11), (kc_M_presentSet, 3, 1, 1, 11)),
  ((⟨"KnotTownModel", "ones", "(I)I"⟩, prog_14_method_99_code, 3, (Option.some Jvm.ClassFile.FieldType.int), 11), (kc_M_ones, 3, 1, 1, 1000)),
  ((⟨"KnotTownModel", "rings", "(I)I"⟩, prog_14_method_96_code, 4, (Option.some Jvm.ClassFile.FieldType.int), 11), (kc_M_rings, 4, 2, 1, 11)),
  ((⟨"KnotTownModel", "joins", "(II)V"⟩, prog_14_method_95_code, 6, (Option.none : Option Jvm.ClassFile.FieldType), 11), (kc_M_joins, 6, 3, 0, 11)),
  ((⟨"KnotTownModel", "adds", "(II)V"⟩, prog_14_method_97_code, 5, (Option.none : Option Jvm.ClassFile.FieldType), 11), (kc_M_adds, 5, 3, 0, 11)),
  ((⟨"KnotTownModel", "shaken", "()I"⟩, prog_14_method_107_code, 1, (Option.some Jvm.ClassFile.FieldType.int), 11), (kc_M_shaken, 1, 1, 1, 11)),
  ((⟨"KnotTownModel", "finds", "()I"⟩, prog_14_method_106_code, 4, (Option.some Jvm.ClassFile.FieldType.int), 11), (kc_M_finds, 4, 1, 1, 11)),
  ((⟨"KnotTownModel", "comes", "(II)Z"⟩, prog_14_method_105_code, 4, (Option.some Jvm.ClassFile.FieldType.boolean), 11), (kc_M_comes, 4, 3, 2, 11)),
  ((⟨"KnotTownModel", "isOld", "()Z"⟩, prog_14_method_104_code, 4, (Option.some Jvm.ClassFile.FieldType.boolean), 11), (kc_M_isOld, 4, 1, 2, 11)),
  ((⟨"KnotTownModel", "fillsRow", "(I)V"⟩, prog_14_method_103_code, 3, (Option.none : Option Jvm.ClassFile.FieldType), 11), (kc_M_fillsRow, 3, 2, 0, 11)),
  ((⟨"KnotTownModel", "laysRow", "(I)V"⟩, prog_14_method_102_code, 3, (Option.none : Option Jvm.ClassFile.FieldType), 11), (kc_M_laysRow, 3, 2, 0, 11))]
set_option maxRecDepth 20000 in
theorem kAMp_8 : ∀ q ∈ kAM_8, kP q := List.forall_mem_cons.mpr ⟨⟨kg_241, kw_241, rfl, rfl⟩, List.forall_mem_cons.mpr ⟨⟨kg_242, kw_242, rfl, rfl⟩, List.forall_mem_cons.mpr ⟨⟨kg_243, kw_243, rfl, rfl⟩, List.forall_mem_cons.mpr ⟨⟨kg_244, kw_244, rfl, rfl⟩, List.forall_mem_cons.mpr ⟨⟨kg_245, kw_245, rfl, rfl⟩, List.forall_mem_cons.mpr ⟨⟨kg_246, kw_246, rfl, rfl⟩, List.forall_mem_cons.mpr ⟨⟨kg_247, kw_247, rfl, rfl⟩, List.forall_mem_cons.mpr ⟨⟨kg_248, kw_248, rfl, rfl⟩, List.forall_mem_cons.mpr ⟨⟨kg_249, kw_249, rfl, rfl⟩, List.forall_mem_cons.mpr ⟨⟨kg_250, kw_250, rfl, rfl⟩, List.forall_mem_cons.mpr ⟨⟨kg_251, kw_251, rfl, rfl⟩, List.forall_mem_cons.mpr ⟨⟨kg_252, kw_252, rfl, rfl⟩, List.forall_mem_cons.mpr ⟨⟨kg_253, kw_253, rfl, rfl⟩, List.forall_mem_cons.mpr ⟨⟨kg_254, kw_254, rfl, rfl⟩, List.forall_mem_cons.mpr ⟨⟨kg_255, kw_255, rfl, rfl⟩, List.forall_mem_cons.mpr ⟨⟨kg_256, kw_256, rfl, rfl⟩, List.forall_mem_cons.mpr ⟨⟨kg_257, kw_257, rfl, rfl⟩, List.forall_mem_cons.mpr ⟨⟨kg_258, kw_258, rfl, rfl⟩, List.forall_mem_cons.mpr ⟨⟨kg_259, kw_259, rfl, rfl⟩, List.forall_mem_cons.mpr ⟨⟨kg_260, kw_260, rfl, rfl⟩, List.forall_mem_cons.mpr ⟨⟨kg_261, kw_261, rfl, rfl⟩, List.forall_mem_cons.mpr ⟨⟨kg_262, kw_262, rfl, rfl⟩, List.forall_mem_cons.mpr ⟨⟨kg_263, kw_263, rfl, rfl⟩, List.forall_mem_cons.mpr ⟨⟨kg_264, kw_264, rfl, rfl⟩, List.forall_mem_cons.mpr ⟨⟨kg_265, kw_265, rfl, rfl⟩, List.forall_mem_cons.mpr ⟨⟨kg_266, kw_266, rfl, rfl⟩, List.forall_mem_cons.mpr ⟨⟨kg_267, kw_267, rfl, rfl⟩, List.forall_mem_cons.mpr ⟨⟨kg_268, kw_268, rfl, rfl⟩, List.forall_mem_cons.mpr ⟨⟨kg_269, kw_269, rfl, rfl⟩, List.forall_mem_cons.mpr ⟨⟨kg_270, kw_270, rfl, rfl⟩, fun _ h => absurd h List.not_mem_nil⟩⟩⟩⟩⟩⟩⟩⟩⟩⟩⟩⟩⟩⟩⟩⟩⟩⟩⟩⟩⟩⟩⟩⟩⟩⟩⟩⟩⟩⟩
def kAM_9 : List (kAT × kMT) := [((⟨"KnotTownModel", "does", "(I)V"⟩, prog_14_method_84_code, 3, (Option.none : Option Jvm.ClassFile.FieldType), 11), (kc_M_does, 3, 2, 0, 11)),
  ((⟨"KnotTownModel", "row", "(II)I"⟩, prog_14_method_108_code, 6, (Option.some Jvm.ClassFile.FieldType.int), 11), (kc_M_row, 6, 3, 1, 11)),
  ((⟨"KnotTownModel", "changes", "(I)I"⟩, prog_14_method_111_code, 3, (Option.some Jvm.ClassFile.FieldType.int), 11), (kc_M_changes, 3, 2, 1, 11)),
  ((⟨"KnotTownModel", "findsChanges", "()I"⟩, prog_14_method_109_code, 5, (Option.some Jvm.ClassFile.FieldType.int), 11), (kc_M_findsChanges, 5, 1, 1, 11)),
  ((⟨"KnotTownModel", "changesAll", "(I)V"⟩, prog_14_method_110_code, 3, (Option.none : Option Jvm.ClassFile.FieldType), 11), (kc_M_changesAll, 3, 2, 0, 11)),
  ((⟨"KnotTownModel", "gossip", "(II)I"⟩, prog_14_method_116_code, 5, (Option.some Jvm.ClassFile.FieldType.int), 11), (kc_M_gossip, 5, 3, 1, 11)),
  ((⟨"KnotTownModel", "minuteOf", "(II)I"⟩, prog_14_method_115_code, 5, (Option.some Jvm.ClassFile.FieldType.int), 11), (kc_M_minuteOf, 5, 3, 1, 11)),
  ((⟨"KnotTownModel", "tells", "(IIII)I"⟩, prog_14_method_114_code, 8, (Option.some Jvm.ClassFile.FieldType.int), 11), (kc_M_tells, 8, 5, 1, 11)),
  ((⟨"KnotTownModel", "passesTo", "(IIIII)I"⟩, prog_14_method_113_code, 6, (Option.some Jvm.ClassFile.FieldType.int), 11), (kc_M_passesTo, 6, 6, 1, 11)),
  ((⟨"KnotTownModel", "isBarred", "(IIIII)Z"⟩, prog_14_method_112_code, 8, (Option.some Jvm.ClassFile.FieldType.boolean), 11), (kc_M_isBarred, 8, 6, 2, 11)),
  ((⟨"KnotTownModel", "answer", "(III)J"⟩, prog_14_method_57_code, 8, (Option.some Jvm.ClassFile.FieldType.long), 11), (kc_M_answer, 8, 4, 3, 11)),
  ((⟨"KnotTownModel", "both", "(IJJ)J"⟩, prog_14_method_56_code, 5, (Option.some Jvm.ClassFile.FieldType.long), 11), (kc_M_both, 5, 3, 3, 1000)),
  ((⟨"KnotTownModel", "truth", "(Z)J"⟩, prog_14_method_55_code, 1, (Option.some Jvm.ClassFile.FieldType.long), 11), (kc_M_truth, 1, 1, 3, 1000)),
  ((⟨"KnotTownModel", "heard", "(II)I"⟩, prog_14_method_117_code, 5, (Option.some Jvm.ClassFile.FieldType.int), 11), (kc_M_heard, 5, 3, 1, 11)),
  ((⟨"KnotTownModel", "seed", "(I)I"⟩, prog_14_method_118_code, 3, (Option.some Jvm.ClassFile.FieldType.int), 11), (kc_M_seed, 3, 2, 1, 11)),
  ((⟨"KnotTownModel", "floods", "(IIII)I"⟩, prog_14_method_122_code, 9, (Option.some Jvm.ClassFile.FieldType.int), 11), (kc_M_floods, 9, 5, 1, 11)),
  ((⟨"KnotTownModel", "drawnFlood", "(I)I"⟩, prog_14_method_120_code, 4, (Option.some Jvm.ClassFile.FieldType.int), 11), (kc_M_drawnFlood, 4, 2, 1, 11)),
  ((⟨"KnotTownModel", "draws", "(I)I"⟩, prog_14_method_119_code, 2, (Option.some Jvm.ClassFile.FieldType.int), 11), (kc_M_draws, 2, 2, 1, 11)),
  ((⟨"KnotTownModel", "gets", "(III)Z"⟩, prog_14_method_121_code, 5, (Option.some Jvm.ClassFile.FieldType.boolean), 11), (kc_M_gets, 5, 4, 2, 11)),
  ((⟨"KnotTownModel", "count", "(I)I"⟩, prog_14_method_123_code, 4, (Option.some Jvm.ClassFile.FieldType.int), 11), (kc_M_count, 4, 2, 1, 11)),
  ((⟨"KnotTownModel", "image", "(I)I"⟩, prog_14_method_126_code, 2, (Option.some Jvm.ClassFile.FieldType.int), 11), (kc_M_image, 2, 2, 1, 11)),
  ((⟨"KnotTownModel", "carriesAll", "(IZ)V"⟩, prog_14_method_125_code, 3, (Option.none : Option Jvm.ClassFile.FieldType), 11), (kc_M_carriesAll, 3, 3, 0, 11)),
  ((⟨"KnotTownModel", "carry", "([I)V"⟩, prog_14_method_124_code, 3, (Option.none : Option Jvm.ClassFile.FieldType), 11), (kc_M_carry, 3, 2, 0, 11)),
  ((⟨"KnotTownModel", "back", "(I)I"⟩, prog_14_method_127_code, 2, (Option.some Jvm.ClassFile.FieldType.int), 11), (kc_M_back, 2, 2, 1, 11))]
set_option maxRecDepth 20000 in
theorem kAMp_9 : ∀ q ∈ kAM_9, kP q := List.forall_mem_cons.mpr ⟨⟨kg_271, kw_271, rfl, rfl⟩, List.forall_mem_cons.mpr ⟨⟨kg_272, kw_272, rfl, rfl⟩, List.forall_mem_cons.mpr ⟨⟨kg_273, kw_273, rfl, rfl⟩, List.forall_mem_cons.mpr ⟨⟨kg_274, kw_274, rfl, rfl⟩, List.forall_mem_cons.mpr ⟨⟨kg_275, kw_275, rfl, rfl⟩, List.forall_mem_cons.mpr ⟨⟨kg_276, kw_276, rfl, rfl⟩, List.forall_mem_cons.mpr ⟨⟨kg_277, kw_277, rfl, rfl⟩, List.forall_mem_cons.mpr ⟨⟨kg_278, kw_278, rfl, rfl⟩, List.forall_mem_cons.mpr ⟨⟨kg_279, kw_279, rfl, rfl⟩, List.forall_mem_cons.mpr ⟨⟨kg_280, kw_280, rfl, rfl⟩, List.forall_mem_cons.mpr ⟨⟨kg_281, kw_281, rfl, rfl⟩, List.forall_mem_cons.mpr ⟨⟨kg_282, kw_282, rfl, rfl⟩, List.forall_mem_cons.mpr ⟨⟨kg_283, kw_283, rfl, rfl⟩, List.forall_mem_cons.mpr ⟨⟨kg_284, kw_284, rfl, rfl⟩, List.forall_mem_cons.mpr ⟨⟨kg_285, kw_285, rfl, rfl⟩, List.forall_mem_cons.mpr ⟨⟨kg_286, kw_286, rfl, rfl⟩, List.forall_mem_cons.mpr ⟨⟨kg_287, kw_287, rfl, rfl⟩, List.forall_mem_cons.mpr ⟨⟨kg_288, kw_288, rfl, rfl⟩, List.forall_mem_cons.mpr ⟨⟨kg_289, kw_289, rfl, rfl⟩, List.forall_mem_cons.mpr ⟨⟨kg_290, kw_290, rfl, rfl⟩, List.forall_mem_cons.mpr ⟨⟨kg_291, kw_291, rfl, rfl⟩, List.forall_mem_cons.mpr ⟨⟨kg_292, kw_292, rfl, rfl⟩, List.forall_mem_cons.mpr ⟨⟨kg_293, kw_293, rfl, rfl⟩, List.forall_mem_cons.mpr ⟨⟨kg_294, kw_294, rfl, rfl⟩, fun _ h => absurd h List.not_mem_nil⟩⟩⟩⟩⟩⟩⟩⟩⟩⟩⟩⟩⟩⟩⟩⟩⟩⟩⟩⟩⟩⟩⟩⟩
def kAM : List (kAT × kMT) := kAM_0 ++ (kAM_1 ++ (kAM_2 ++ (kAM_3 ++ (kAM_4 ++ (kAM_5 ++ (kAM_6 ++ (kAM_7 ++ (kAM_8 ++ (kAM_9)))))))))
set_option maxRecDepth 100000 in
theorem kAMz : kAll.zip kMl = ((⟨"KnotTownLaw", "law", "([I)Z"⟩, code, 4, (Option.some Jvm.ClassFile.FieldType.boolean), 13), (kc_Law_law, 4, 1, 2, 1000)) :: kAM := rfl
theorem kAMp : ∀ q ∈ kAM, kP q := by
  unfold kAM
  exact List.forall_mem_append.mpr ⟨kAMp_0, List.forall_mem_append.mpr ⟨kAMp_1, List.forall_mem_append.mpr ⟨kAMp_2, List.forall_mem_append.mpr ⟨kAMp_3, List.forall_mem_append.mpr ⟨kAMp_4, List.forall_mem_append.mpr ⟨kAMp_5, List.forall_mem_append.mpr ⟨kAMp_6, List.forall_mem_append.mpr ⟨kAMp_7, List.forall_mem_append.mpr ⟨kAMp_8, kAMp_9⟩⟩⟩⟩⟩⟩⟩⟩⟩
set_option maxRecDepth 100000 in
theorem kAll_len : kAll.length = 295 ∧ kMl.length = 295 := ⟨rfl, rfl⟩
theorem kmeth (c : Nat) (h : c < 295) (h0 : c ≠ 0) : kP (kaq c, kmq c) := by
  obtain ⟨l1, l2⟩ := kAll_len
  have e1 : kAll[c]? = some (kaq c) := by
    unfold kaq
    rw [List.getD_eq_getElem?_getD, List.getElem?_eq_getElem (by rw [l1]; exact h)]
    rfl
  have e2 : kMl[c]? = some (kmq c) := by
    unfold kmq
    rw [List.getD_eq_getElem?_getD, List.getElem?_eq_getElem (by rw [l2]; exact h)]
    rfl
  have e3 : (kAll.zip kMl)[c]? = some (kaq c, kmq c) := by
    rw [List.getElem?_zip_eq_some]
    exact ⟨e1, e2⟩
  obtain ⟨k, rfl⟩ : ∃ k, c = k + 1 := ⟨c - 1, by omega⟩
  rw [kAMz, List.getElem?_cons_succ] at e3
  exact kAMp _ (List.mem_of_getElem? e3)
theorem kgd (c : Nat) (h : c < 295) : kgood (kaq c).2.2.2.2 (kaq c).2.1 (kmq c).1 = true := by
  by_cases h0 : c = 0
  · subst h0; exact kg_0
  · exact (kmeth c h h0).1
theorem kmsq (c : Nat) (x : kMT) (h : kms c = some x) : c < 295 ∧ x = kmq c := by
  unfold kms at h
  have hl := (List.getElem?_eq_some_iff.mp h).1
  rw [kAll_len.2] at hl
  refine ⟨hl, ?_⟩
  unfold kmq
  rw [List.getD_eq_getElem?_getD, h]
  rfl
theorem kdecl_0' (f : Nat) (b : ByteArray) (pc : Nat) (q : Nat × Instr × Nat) (h : (kdecl f b pc)[0]? = some q) : q.1 = pc := by
  cases f with
  | zero => simp [kdecl] at h
  | succ f =>
    rw [kdecl] at h
    split at h
    · split at h
      · rw [List.getElem?_cons_zero] at h
        cases h
        rfl
      · simp at h
    · simp at h
theorem kdecl_get : ∀ (f : Nat) (b : ByteArray) (pc i q : Nat) (raw : Instr) (len : Nat), (kdecl f b pc)[i]? = some (q, raw, len) → decode b q = .ok (raw, len) ∧ ∀ r, (kdecl f b pc)[i + 1]? = some r → r.1 = q + len := by
  intro f
  induction f with
  | zero => intro b pc i q raw len h; simp [kdecl] at h
  | succ f ih =>
    intro b pc i q raw len h
    rw [kdecl] at h ⊢
    split at h
    · rename_i hp
      rw [if_pos hp]
      split at h
      · rename_i i2 len2 hd
        cases i with
        | zero =>
          rw [List.getElem?_cons_zero] at h
          cases h
          refine ⟨hd, fun r hr => ?_⟩
          rw [List.getElem?_cons_succ] at hr
          exact kdecl_0' _ _ _ _ hr
        | succ i =>
          rw [List.getElem?_cons_succ] at h
          obtain ⟨h1, h2⟩ := ih b (pc + len2) i q raw len h
          refine ⟨h1, fun r hr => ?_⟩
          rw [List.getElem?_cons_succ] at hr
          exact h2 r hr
      · simp at h
    · simp at h
theorem kofs_get {c i : Nat} {q : Nat × Instr × Nat} (h : (kds c)[i]? = some q) : kofs c i = q.1 := by
  unfold kofs
  rw [h]
theorem kcode {c i : Nat} {ins : Instr} (hc : c < 295) (hi : (kmq c).1[i]? = some ins) : ∃ (raw : Instr) (len : Nat), decode (kaq c).2.1 (kofs c i) = .ok (raw, len) ∧ kres (kaq c).2.2.2.2 ((kds c).map (fun q => q.1)) (kofs c i) raw = some ins ∧ kofs c (i + 1) = kofs c i + len ∧ (klen raw = 0 ∨ klen raw = len) := by
  have hg := kgd c hc
  unfold kgood at hg
  simp only [Bool.and_eq_true, decide_eq_true_eq] at hg
  obtain ⟨hl, ha⟩ := hg
  have hi2 : i < (kds c).length := by
    unfold kds
    rw [hl]
    exact (List.getElem?_eq_some_iff.mp hi).1
  obtain ⟨x, hx⟩ : ∃ q, (kds c)[i]? = some q := ⟨_, List.getElem?_eq_getElem hi2⟩
  obtain ⟨q, raw, len⟩ := x
  obtain ⟨h1, h2⟩ := kdecl_get _ _ _ _ _ _ _ hx
  have hz : ((q, raw, len), ins) ∈ (kdecl (kaq c).2.1.size (kaq c).2.1 0).zip (kmq c).1 := by
    apply List.mem_of_getElem? (i := i)
    rw [List.getElem?_zip_eq_some]
    exact ⟨hx, hi⟩
  have h3 := List.all_eq_true.mp ha _ hz
  simp only [Bool.and_eq_true, decide_eq_true_eq] at h3
  have e0 : kofs c i = q := kofs_get hx
  refine ⟨raw, len, by rw [e0]; exact h1, by rw [e0]; exact h3.1, ?_, h3.2⟩
  rw [e0]
  cases hn : (kds c)[i + 1]? with
  | some r => rw [kofs_get hn]; exact h2 r hn
  | none =>
    unfold kofs
    rw [hn]
    simp only [Nat.add_sub_cancel, hx]
theorem ktg_ok {c pc : Nat} {off t : Int} (h : ktg ((kds c).map (fun q => q.1)) pc off = some t) : (pc : Int) + off = (kofs c t.toNat : Int) := by
  unfold ktg at h
  cases hf : ((kds c).map (fun q => q.1)).findIdx? (fun (q : Nat) => decide ((q : Int) = (pc : Int) + off)) with
  | none => rw [hf] at h; cases h
  | some i =>
    rw [hf] at h
    obtain rfl : Int.ofNat i = t := Option.some.inj h
    obtain ⟨hlt, hp, -⟩ := List.findIdx?_eq_some_iff_getElem.mp hf
    have hp2 := of_decide_eq_true hp
    rw [List.length_map] at hlt
    rw [List.getElem_map] at hp2
    show _ = (kofs c i : Int)
    rw [kofs_get (List.getElem?_eq_getElem hlt)]
    exact hp2.symm

