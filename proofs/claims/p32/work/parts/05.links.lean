def zch_1_0 : List Jvm.Cond := [(Jvm.Cond.initialized "RingPursesLaw"), (Jvm.Cond.initialized "RingPurses"), (Jvm.Cond.initialized "RingPurses$Tape"), (Jvm.Cond.initialized "RingPurses$Reader"), (Jvm.Cond.initialized "RingPurses$Tokens"), (Jvm.Cond.initialized "java/lang/String"), (Jvm.Cond.initialized "java/lang/StringLatin1"), (Jvm.Cond.initialized "jdk/internal/util/Preconditions"), (Jvm.Cond.initialized "java/lang/StringUTF16"), (Jvm.Cond.initialized "RingPurses$Ring"), (Jvm.Cond.initialized "RingPurses$Kept"), (Jvm.Cond.initialized "RingPurses$Foresight"), (Jvm.Cond.initialized "RingPurses$Deals"), (Jvm.Cond.initialized "RingPurses$Plans"), (Jvm.Cond.initialized "RingPurses$Told"), (Jvm.Cond.initialized "RingPurses$Rules")]
set_option maxRecDepth 20000 in
theorem zche_1_0 : (tables_1_1.drop 0).take 16 = zch_1_0 := rfl
def zch_1_1 : List Jvm.Cond := [(Jvm.Cond.initialized "RingPurses$Law"), (Jvm.Cond.initialized "RingPursesModel"), (Jvm.Cond.initialized "java/lang/Math"), (Jvm.Cond.classLink "RingPursesLaw" (7 : Nat) "RingPurses"), (Jvm.Cond.instantiable "RingPurses" (11 : Nat)), (Jvm.Cond.methodLink "RingPursesLaw" (9 : Nat) ({ cls := "RingPurses", name := "<init>", desc := "()V" } : Jvm.MethodName)), (Jvm.Cond.instanceMethod ({ cls := "RingPurses", name := "<init>", desc := "()V" } : Jvm.MethodName)), (Jvm.Cond.code ({ cls := "RingPurses", name := "<init>", desc := "()V" } : Jvm.MethodName) prog_1_method_1_code (1 : Nat) (Option.none : Option Jvm.ClassFile.FieldType)), (Jvm.Cond.methodLink "RingPurses" (1 : Nat) ({ cls := "java/lang/Object", name := "<init>", desc := "()V" } : Jvm.MethodName)), (Jvm.Cond.instanceMethod ({ cls := "java/lang/Object", name := "<init>", desc := "()V" } : Jvm.MethodName)), (Jvm.Cond.code ({ cls := "java/lang/Object", name := "<init>", desc := "()V" } : Jvm.MethodName) object_method_1_code (1 : Nat) (Option.none : Option Jvm.ClassFile.FieldType)), (Jvm.Cond.classLink "RingPurses" (7 : Nat) "RingPurses$Tape"), (Jvm.Cond.instantiable "RingPurses$Tape" (2 : Nat)), (Jvm.Cond.methodLinkNest "RingPurses" (9 : Nat) ({ cls := "RingPurses$Tape", name := "<init>", desc := "()V" } : Jvm.MethodName) "RingPurses"), (Jvm.Cond.instanceMethod ({ cls := "RingPurses$Tape", name := "<init>", desc := "()V" } : Jvm.MethodName)), (Jvm.Cond.code ({ cls := "RingPurses$Tape", name := "<init>", desc := "()V" } : Jvm.MethodName) prog_10_method_1_code (1 : Nat) (Option.none : Option Jvm.ClassFile.FieldType))]
set_option maxRecDepth 20000 in
theorem zche_1_1 : (tables_1_1.drop 16).take 16 = zch_1_1 := rfl
def zch_1_2 : List Jvm.Cond := [(Jvm.Cond.methodLink "RingPurses$Tape" (3 : Nat) ({ cls := "java/lang/Object", name := "<init>", desc := "()V" } : Jvm.MethodName)), (Jvm.Cond.fieldLink "RingPurses$Tape" (9 : Nat) "RingPurses$Tape" "bytes" "[B"), (Jvm.Cond.fieldLinkNest "RingPurses" (83 : Nat) "RingPurses$Tape" "length" "I" "RingPurses"), (Jvm.Cond.fieldLink "RingPurses$Tape" (15 : Nat) "RingPurses$Tape" "length" "I"), (Jvm.Cond.fieldLinkNest "RingPurses$Tokens" (45 : Nat) "RingPurses$Tape" "length" "I" "RingPurses"), (Jvm.Cond.laysFinal "RingPurses$Tape" "RingPurses$Tape" "bytes" "[B"), (Jvm.Cond.soleField "RingPurses$Tape" "bytes"), (Jvm.Cond.lays "RingPurses$Tape" "RingPurses$Tape" "length" "I"), (Jvm.Cond.soleField "RingPurses$Tape" "length"), (Jvm.Cond.superclass "RingPurses$Tape" "java/lang/Object"), (Jvm.Cond.arrayClass Jvm.ClassFile.FieldType.byte), (Jvm.Cond.classLink "RingPurses" (16 : Nat) "RingPurses$Reader"), (Jvm.Cond.instantiable "RingPurses$Reader" (10 : Nat)), (Jvm.Cond.methodLinkNest "RingPurses" (18 : Nat) ({ cls := "RingPurses$Reader", name := "<init>", desc := "()V" } : Jvm.MethodName) "RingPurses"), (Jvm.Cond.instanceMethod ({ cls := "RingPurses$Reader", name := "<init>", desc := "()V" } : Jvm.MethodName)), (Jvm.Cond.code ({ cls := "RingPurses$Reader", name := "<init>", desc := "()V" } : Jvm.MethodName) prog_7_method_1_code (1 : Nat) (Option.none : Option Jvm.ClassFile.FieldType))]
set_option maxRecDepth 20000 in
theorem zche_1_2 : (tables_1_1.drop 32).take 16 = zch_1_2 := rfl
def zch_1_3 : List Jvm.Cond := [(Jvm.Cond.methodLink "RingPurses$Reader" (3 : Nat) ({ cls := "java/lang/Object", name := "<init>", desc := "()V" } : Jvm.MethodName)), (Jvm.Cond.classLink "RingPurses$Reader" (9 : Nat) "RingPurses$Tokens"), (Jvm.Cond.instantiable "RingPurses$Tokens" (6 : Nat)), (Jvm.Cond.methodLink "RingPurses$Reader" (11 : Nat) ({ cls := "RingPurses$Tokens", name := "<init>", desc := "()V" } : Jvm.MethodName)), (Jvm.Cond.instanceMethod ({ cls := "RingPurses$Tokens", name := "<init>", desc := "()V" } : Jvm.MethodName)), (Jvm.Cond.code ({ cls := "RingPurses$Tokens", name := "<init>", desc := "()V" } : Jvm.MethodName) prog_11_method_1_code (3 : Nat) (Option.none : Option Jvm.ClassFile.FieldType)), (Jvm.Cond.methodLink "RingPurses$Tokens" (3 : Nat) ({ cls := "java/lang/Object", name := "<init>", desc := "()V" } : Jvm.MethodName)), (Jvm.Cond.stringRef "RingPurses$Tokens" (25 : Nat) "house street turns pays earns shared seed if then else alike most round left right own gap day lot pot "), (Jvm.Cond.methodLink "RingPurses$Tokens" (27 : Nat) ({ cls := "java/lang/String", name := "length", desc := "()I" } : Jvm.MethodName)), (Jvm.Cond.instanceMethod ({ cls := "java/lang/String", name := "length", desc := "()I" } : Jvm.MethodName)), (Jvm.Cond.selects "java/lang/String" ({ cls := "java/lang/String", name := "length", desc := "()I" } : Jvm.MethodName) ({ cls := "java/lang/String", name := "length", desc := "()I" } : Jvm.MethodName)), (Jvm.Cond.code ({ cls := "java/lang/String", name := "length", desc := "()I" } : Jvm.MethodName) prog_16_method_54_code (1 : Nat) (Option.some Jvm.ClassFile.FieldType.int)), (Jvm.Cond.methodLink "java/lang/String" (335 : Nat) ({ cls := "java/lang/String", name := "coder", desc := "()B" } : Jvm.MethodName)), (Jvm.Cond.instanceMethod ({ cls := "java/lang/String", name := "coder", desc := "()B" } : Jvm.MethodName)), (Jvm.Cond.selects "java/lang/String" ({ cls := "java/lang/String", name := "coder", desc := "()B" } : Jvm.MethodName) ({ cls := "java/lang/String", name := "coder", desc := "()B" } : Jvm.MethodName)), (Jvm.Cond.code ({ cls := "java/lang/String", name := "coder", desc := "()B" } : Jvm.MethodName) prog_16_method_152_code (1 : Nat) (Option.some Jvm.ClassFile.FieldType.byte))]
set_option maxRecDepth 20000 in
theorem zche_1_3 : (tables_1_1.drop 48).take 16 = zch_1_3 := rfl
def zch_1_4 : List Jvm.Cond := [(Jvm.Cond.fieldLink "java/lang/String" (38 : Nat) "java/lang/String" "COMPACT_STRINGS" "Z"), (Jvm.Cond.laysStatic "java/lang/String" "COMPACT_STRINGS" "Z"), (Jvm.Cond.methodLink "RingPurses$Tokens" (33 : Nat) ({ cls := "java/lang/String", name := "charAt", desc := "(I)C" } : Jvm.MethodName)), (Jvm.Cond.instanceMethod ({ cls := "java/lang/String", name := "charAt", desc := "(I)C" } : Jvm.MethodName)), (Jvm.Cond.selects "java/lang/String" ({ cls := "java/lang/String", name := "charAt", desc := "(I)C" } : Jvm.MethodName) ({ cls := "java/lang/String", name := "charAt", desc := "(I)C" } : Jvm.MethodName)), (Jvm.Cond.code ({ cls := "java/lang/String", name := "charAt", desc := "(I)C" } : Jvm.MethodName) prog_16_method_56_code (2 : Nat) (Option.some Jvm.ClassFile.FieldType.char)), (Jvm.Cond.methodLink "java/lang/String" (492 : Nat) ({ cls := "java/lang/String", name := "isLatin1", desc := "()Z" } : Jvm.MethodName)), (Jvm.Cond.instanceMethod ({ cls := "java/lang/String", name := "isLatin1", desc := "()Z" } : Jvm.MethodName)), (Jvm.Cond.selects "java/lang/String" ({ cls := "java/lang/String", name := "isLatin1", desc := "()Z" } : Jvm.MethodName) ({ cls := "java/lang/String", name := "isLatin1", desc := "()Z" } : Jvm.MethodName)), (Jvm.Cond.code ({ cls := "java/lang/String", name := "isLatin1", desc := "()Z" } : Jvm.MethodName) prog_16_method_154_code (1 : Nat) (Option.some Jvm.ClassFile.FieldType.boolean)), (Jvm.Cond.methodLink "java/lang/String" (495 : Nat) ({ cls := "java/lang/StringLatin1", name := "charAt", desc := "([BI)C" } : Jvm.MethodName)), (Jvm.Cond.static ({ cls := "java/lang/StringLatin1", name := "charAt", desc := "([BI)C" } : Jvm.MethodName)), (Jvm.Cond.code ({ cls := "java/lang/StringLatin1", name := "charAt", desc := "([BI)C" } : Jvm.MethodName) prog_17_method_2_code (2 : Nat) (Option.some Jvm.ClassFile.FieldType.char)), (Jvm.Cond.methodLink "java/lang/StringLatin1" (9 : Nat) ({ cls := "java/lang/String", name := "checkIndex", desc := "(II)V" } : Jvm.MethodName)), (Jvm.Cond.static ({ cls := "java/lang/String", name := "checkIndex", desc := "(II)V" } : Jvm.MethodName)), (Jvm.Cond.code ({ cls := "java/lang/String", name := "checkIndex", desc := "(II)V" } : Jvm.MethodName) prog_16_method_155_code (2 : Nat) (Option.none : Option Jvm.ClassFile.FieldType))]
set_option maxRecDepth 20000 in
theorem zche_1_4 : (tables_1_1.drop 64).take 16 = zch_1_4 := rfl
def zch_1_5 : List Jvm.Cond := [(Jvm.Cond.fieldLink "java/lang/String" (1053 : Nat) "jdk/internal/util/Preconditions" "SIOOBE_FORMATTER" "Ljava/util/function/BiFunction;"), (Jvm.Cond.laysStatic "jdk/internal/util/Preconditions" "SIOOBE_FORMATTER" "Ljava/util/function/BiFunction;"), (Jvm.Cond.methodLink "java/lang/String" (1059 : Nat) ({ cls := "jdk/internal/util/Preconditions", name := "checkIndex", desc := "(IILjava/util/function/BiFunction;)I" } : Jvm.MethodName)), (Jvm.Cond.static ({ cls := "jdk/internal/util/Preconditions", name := "checkIndex", desc := "(IILjava/util/function/BiFunction;)I" } : Jvm.MethodName)), (Jvm.Cond.code ({ cls := "jdk/internal/util/Preconditions", name := "checkIndex", desc := "(IILjava/util/function/BiFunction;)I" } : Jvm.MethodName) prog_19_method_11_code (3 : Nat) (Option.some Jvm.ClassFile.FieldType.int)), (Jvm.Cond.methodLink "java/lang/String" (498 : Nat) ({ cls := "java/lang/StringUTF16", name := "charAt", desc := "([BI)C" } : Jvm.MethodName)), (Jvm.Cond.static ({ cls := "java/lang/StringUTF16", name := "charAt", desc := "([BI)C" } : Jvm.MethodName)), (Jvm.Cond.code ({ cls := "java/lang/StringUTF16", name := "charAt", desc := "([BI)C" } : Jvm.MethodName) prog_18_method_83_code (2 : Nat) (Option.some Jvm.ClassFile.FieldType.char)), (Jvm.Cond.methodLink "java/lang/StringUTF16" (67 : Nat) ({ cls := "java/lang/StringUTF16", name := "checkIndex", desc := "(I[B)V" } : Jvm.MethodName)), (Jvm.Cond.static ({ cls := "java/lang/StringUTF16", name := "checkIndex", desc := "(I[B)V" } : Jvm.MethodName)), (Jvm.Cond.code ({ cls := "java/lang/StringUTF16", name := "checkIndex", desc := "(I[B)V" } : Jvm.MethodName) prog_18_method_91_code (2 : Nat) (Option.none : Option Jvm.ClassFile.FieldType)), (Jvm.Cond.methodLink "java/lang/StringUTF16" (48 : Nat) ({ cls := "java/lang/StringUTF16", name := "length", desc := "([B)I" } : Jvm.MethodName)), (Jvm.Cond.static ({ cls := "java/lang/StringUTF16", name := "length", desc := "([B)I" } : Jvm.MethodName)), (Jvm.Cond.code ({ cls := "java/lang/StringUTF16", name := "length", desc := "([B)I" } : Jvm.MethodName) prog_18_method_6_code (1 : Nat) (Option.some Jvm.ClassFile.FieldType.int)), (Jvm.Cond.methodLink "java/lang/StringUTF16" (414 : Nat) ({ cls := "java/lang/String", name := "checkIndex", desc := "(II)V" } : Jvm.MethodName)), (Jvm.Cond.methodLink "java/lang/StringUTF16" (71 : Nat) ({ cls := "java/lang/StringUTF16", name := "getChar", desc := "([BI)C" } : Jvm.MethodName))]
set_option maxRecDepth 20000 in
theorem zche_1_5 : (tables_1_1.drop 80).take 16 = zch_1_5 := rfl
def zch_1_6 : List Jvm.Cond := [(Jvm.Cond.static ({ cls := "java/lang/StringUTF16", name := "getChar", desc := "([BI)C" } : Jvm.MethodName)), (Jvm.Cond.code ({ cls := "java/lang/StringUTF16", name := "getChar", desc := "([BI)C" } : Jvm.MethodName) prog_18_method_5_code (2 : Nat) (Option.some Jvm.ClassFile.FieldType.char)), (Jvm.Cond.fieldLink "java/lang/StringUTF16" (44 : Nat) "java/lang/StringUTF16" "$assertionsDisabled" "Z"), (Jvm.Cond.laysStatic "java/lang/StringUTF16" "$assertionsDisabled" "Z"), (Jvm.Cond.fieldLink "java/lang/StringUTF16" (59 : Nat) "java/lang/StringUTF16" "HI_BYTE_SHIFT" "I"), (Jvm.Cond.laysStatic "java/lang/StringUTF16" "HI_BYTE_SHIFT" "I"), (Jvm.Cond.fieldLink "java/lang/StringUTF16" (63 : Nat) "java/lang/StringUTF16" "LO_BYTE_SHIFT" "I"), (Jvm.Cond.laysStatic "java/lang/StringUTF16" "LO_BYTE_SHIFT" "I"), (Jvm.Cond.methodLink "RingPurses$Tokens" (37 : Nat) ({ cls := "RingPurses$Tokens", name := "spelled", desc := "(JI)J" } : Jvm.MethodName)), (Jvm.Cond.static ({ cls := "RingPurses$Tokens", name := "spelled", desc := "(JI)J" } : Jvm.MethodName)), (Jvm.Cond.code ({ cls := "RingPurses$Tokens", name := "spelled", desc := "(JI)J" } : Jvm.MethodName) prog_11_method_10_code (3 : Nat) (Option.some Jvm.ClassFile.FieldType.long)), (Jvm.Cond.constantLong "RingPurses$Tokens" (77 : Nat) (32 : Int64)), (Jvm.Cond.fieldLink "RingPurses$Tokens" (9 : Nat) "RingPurses$Tokens" "kinds" "[I"), (Jvm.Cond.fieldLink "RingPurses$Tokens" (15 : Nat) "RingPurses$Tokens" "places" "[I"), (Jvm.Cond.fieldLink "RingPurses$Tokens" (18 : Nat) "RingPurses$Tokens" "values" "[J"), (Jvm.Cond.fieldLink "RingPurses$Tokens" (22 : Nat) "RingPurses$Tokens" "words" "[J")]
set_option maxRecDepth 20000 in
theorem zche_1_6 : (tables_1_1.drop 96).take 16 = zch_1_6 := rfl
def zch_1_7 : List Jvm.Cond := [(Jvm.Cond.fieldLink "RingPurses$Tokens" (41 : Nat) "RingPurses$Tokens" "size" "I"), (Jvm.Cond.fieldLink "RingPurses$Tokens" (68 : Nat) "RingPurses$Tokens" "signs" "I"), (Jvm.Cond.laysFinal "RingPurses$Tokens" "RingPurses$Tokens" "kinds" "[I"), (Jvm.Cond.soleField "RingPurses$Tokens" "kinds"), (Jvm.Cond.laysFinal "RingPurses$Tokens" "RingPurses$Tokens" "places" "[I"), (Jvm.Cond.soleField "RingPurses$Tokens" "places"), (Jvm.Cond.laysFinal "RingPurses$Tokens" "RingPurses$Tokens" "values" "[J"), (Jvm.Cond.soleField "RingPurses$Tokens" "values"), (Jvm.Cond.laysFinal "RingPurses$Tokens" "RingPurses$Tokens" "words" "[J"), (Jvm.Cond.soleField "RingPurses$Tokens" "words"), (Jvm.Cond.lays "RingPurses$Tokens" "RingPurses$Tokens" "size" "I"), (Jvm.Cond.soleField "RingPurses$Tokens" "size"), (Jvm.Cond.lays "RingPurses$Tokens" "RingPurses$Tokens" "signs" "I"), (Jvm.Cond.soleField "RingPurses$Tokens" "signs"), (Jvm.Cond.superclass "RingPurses$Tokens" "java/lang/Object"), (Jvm.Cond.arrayClass Jvm.ClassFile.FieldType.int)]
set_option maxRecDepth 20000 in
theorem zche_1_7 : (tables_1_1.drop 112).take 16 = zch_1_7 := rfl
def zch_1_8 : List Jvm.Cond := [(Jvm.Cond.arrayClass Jvm.ClassFile.FieldType.long), (Jvm.Cond.fieldLink "RingPurses$Reader" (12 : Nat) "RingPurses$Reader" "tokens" "LRingPurses$Tokens;"), (Jvm.Cond.fieldLink "RingPurses$Reader" (18 : Nat) "RingPurses$Reader" "names" "[J"), (Jvm.Cond.fieldLink "RingPurses$Reader" (22 : Nat) "RingPurses$Reader" "waiting" "[I"), (Jvm.Cond.fieldLink "RingPurses$Reader" (39 : Nat) "RingPurses$Reader" "at" "I"), (Jvm.Cond.fieldLink "RingPurses$Reader" (130 : Nat) "RingPurses$Reader" "waits" "I"), (Jvm.Cond.fieldLink "RingPurses$Reader" (133 : Nat) "RingPurses$Reader" "open" "I"), (Jvm.Cond.fieldLink "RingPurses$Reader" (42 : Nat) "RingPurses$Reader" "fault" "I"), (Jvm.Cond.fieldLink "RingPurses$Reader" (26 : Nat) "RingPurses$Reader" "place" "I"), (Jvm.Cond.fieldLink "RingPurses$Reader" (45 : Nat) "RingPurses$Reader" "laterFault" "I"), (Jvm.Cond.fieldLink "RingPurses$Reader" (48 : Nat) "RingPurses$Reader" "laterPlace" "I"), (Jvm.Cond.laysFinal "RingPurses$Reader" "RingPurses$Reader" "tokens" "LRingPurses$Tokens;"), (Jvm.Cond.soleField "RingPurses$Reader" "tokens"), (Jvm.Cond.laysFinal "RingPurses$Reader" "RingPurses$Reader" "names" "[J"), (Jvm.Cond.soleField "RingPurses$Reader" "names"), (Jvm.Cond.laysFinal "RingPurses$Reader" "RingPurses$Reader" "waiting" "[I")]
set_option maxRecDepth 20000 in
theorem zche_1_8 : (tables_1_1.drop 128).take 16 = zch_1_8 := rfl
def zch_1_9 : List Jvm.Cond := [(Jvm.Cond.soleField "RingPurses$Reader" "waiting"), (Jvm.Cond.lays "RingPurses$Reader" "RingPurses$Reader" "at" "I"), (Jvm.Cond.soleField "RingPurses$Reader" "at"), (Jvm.Cond.lays "RingPurses$Reader" "RingPurses$Reader" "waits" "I"), (Jvm.Cond.soleField "RingPurses$Reader" "waits"), (Jvm.Cond.lays "RingPurses$Reader" "RingPurses$Reader" "open" "I"), (Jvm.Cond.soleField "RingPurses$Reader" "open"), (Jvm.Cond.lays "RingPurses$Reader" "RingPurses$Reader" "fault" "I"), (Jvm.Cond.soleField "RingPurses$Reader" "fault"), (Jvm.Cond.lays "RingPurses$Reader" "RingPurses$Reader" "place" "I"), (Jvm.Cond.soleField "RingPurses$Reader" "place"), (Jvm.Cond.lays "RingPurses$Reader" "RingPurses$Reader" "laterFault" "I"), (Jvm.Cond.soleField "RingPurses$Reader" "laterFault"), (Jvm.Cond.lays "RingPurses$Reader" "RingPurses$Reader" "laterPlace" "I"), (Jvm.Cond.soleField "RingPurses$Reader" "laterPlace"), (Jvm.Cond.superclass "RingPurses$Reader" "java/lang/Object")]
set_option maxRecDepth 20000 in
theorem zche_1_9 : (tables_1_1.drop 144).take 16 = zch_1_9 := rfl
def zch_1_10 : List Jvm.Cond := [(Jvm.Cond.classLink "RingPurses" (23 : Nat) "RingPurses$Ring"), (Jvm.Cond.instantiable "RingPurses$Ring" (8 : Nat)), (Jvm.Cond.methodLinkNest "RingPurses" (25 : Nat) ({ cls := "RingPurses$Ring", name := "<init>", desc := "()V" } : Jvm.MethodName) "RingPurses"), (Jvm.Cond.instanceMethod ({ cls := "RingPurses$Ring", name := "<init>", desc := "()V" } : Jvm.MethodName)), (Jvm.Cond.code ({ cls := "RingPurses$Ring", name := "<init>", desc := "()V" } : Jvm.MethodName) prog_8_method_1_code (1 : Nat) (Option.none : Option Jvm.ClassFile.FieldType)), (Jvm.Cond.methodLink "RingPurses$Ring" (3 : Nat) ({ cls := "java/lang/Object", name := "<init>", desc := "()V" } : Jvm.MethodName)), (Jvm.Cond.fieldLink "RingPurses$Ring" (9 : Nat) "RingPurses$Ring" "purse" "[I"), (Jvm.Cond.fieldLinkNest "RingPurses$Plans" (45 : Nat) "RingPurses$Ring" "purse" "[I" "RingPurses"), (Jvm.Cond.fieldLinkNest "RingPurses$Foresight" (42 : Nat) "RingPurses$Ring" "purse" "[I" "RingPurses"), (Jvm.Cond.fieldLinkNest "RingPurses$Told" (58 : Nat) "RingPurses$Ring" "purse" "[I" "RingPurses"), (Jvm.Cond.fieldLinkNest "RingPurses" (108 : Nat) "RingPurses$Ring" "purse" "[I" "RingPurses"), (Jvm.Cond.fieldLink "RingPurses$Ring" (15 : Nat) "RingPurses$Ring" "hidden" "[I"), (Jvm.Cond.fieldLinkNest "RingPurses$Plans" (42 : Nat) "RingPurses$Ring" "hidden" "[I" "RingPurses"), (Jvm.Cond.fieldLinkNest "RingPurses$Told" (74 : Nat) "RingPurses$Ring" "hidden" "[I" "RingPurses"), (Jvm.Cond.fieldLinkNest "RingPurses" (112 : Nat) "RingPurses$Ring" "hidden" "[I" "RingPurses"), (Jvm.Cond.fieldLink "RingPurses$Ring" (18 : Nat) "RingPurses$Ring" "paid" "[I")]
set_option maxRecDepth 20000 in
theorem zche_1_10 : (tables_1_1.drop 160).take 16 = zch_1_10 := rfl
def zch_1_11 : List Jvm.Cond := [(Jvm.Cond.fieldLinkNest "RingPurses" (126 : Nat) "RingPurses$Ring" "paid" "[I" "RingPurses"), (Jvm.Cond.fieldLink "RingPurses$Ring" (21 : Nat) "RingPurses$Ring" "since" "[J"), (Jvm.Cond.fieldLinkNest "RingPurses" (129 : Nat) "RingPurses$Ring" "since" "[J" "RingPurses"), (Jvm.Cond.fieldLinkNest "RingPurses$Plans" (22 : Nat) "RingPurses$Ring" "houses" "I" "RingPurses"), (Jvm.Cond.fieldLink "RingPurses$Ring" (25 : Nat) "RingPurses$Ring" "houses" "I"), (Jvm.Cond.fieldLinkNest "RingPurses$Deals" (22 : Nat) "RingPurses$Ring" "houses" "I" "RingPurses"), (Jvm.Cond.fieldLinkNest "RingPurses$Foresight" (54 : Nat) "RingPurses$Ring" "houses" "I" "RingPurses"), (Jvm.Cond.fieldLinkNest "RingPurses$Told" (56 : Nat) "RingPurses$Ring" "houses" "I" "RingPurses"), (Jvm.Cond.fieldLinkNest "RingPurses$Rules" (87 : Nat) "RingPurses$Ring" "houses" "I" "RingPurses"), (Jvm.Cond.fieldLinkNest "RingPurses" (157 : Nat) "RingPurses$Ring" "houses" "I" "RingPurses"), (Jvm.Cond.fieldLink "RingPurses$Ring" (29 : Nat) "RingPurses$Ring" "pot" "I"), (Jvm.Cond.fieldLinkNest "RingPurses$Foresight" (34 : Nat) "RingPurses$Ring" "pot" "I" "RingPurses"), (Jvm.Cond.fieldLinkNest "RingPurses$Rules" (98 : Nat) "RingPurses$Ring" "pot" "I" "RingPurses"), (Jvm.Cond.fieldLinkNest "RingPurses$Told" (80 : Nat) "RingPurses$Ring" "pot" "I" "RingPurses"), (Jvm.Cond.fieldLinkNest "RingPurses" (154 : Nat) "RingPurses$Ring" "pot" "I" "RingPurses"), (Jvm.Cond.fieldLink "RingPurses$Ring" (32 : Nat) "RingPurses$Ring" "evening" "I")]
set_option maxRecDepth 20000 in
theorem zche_1_11 : (tables_1_1.drop 176).take 16 = zch_1_11 := rfl
def zch_1_12 : List Jvm.Cond := [(Jvm.Cond.fieldLinkNest "RingPurses$Rules" (95 : Nat) "RingPurses$Ring" "evening" "I" "RingPurses"), (Jvm.Cond.fieldLinkNest "RingPurses" (147 : Nat) "RingPurses$Ring" "evening" "I" "RingPurses"), (Jvm.Cond.fieldLink "RingPurses$Ring" (35 : Nat) "RingPurses$Ring" "shares" "I"), (Jvm.Cond.fieldLinkNest "RingPurses" (289 : Nat) "RingPurses$Ring" "shares" "I" "RingPurses"), (Jvm.Cond.laysFinal "RingPurses$Ring" "RingPurses$Ring" "purse" "[I"), (Jvm.Cond.soleField "RingPurses$Ring" "purse"), (Jvm.Cond.laysFinal "RingPurses$Ring" "RingPurses$Ring" "hidden" "[I"), (Jvm.Cond.soleField "RingPurses$Ring" "hidden"), (Jvm.Cond.laysFinal "RingPurses$Ring" "RingPurses$Ring" "paid" "[I"), (Jvm.Cond.soleField "RingPurses$Ring" "paid"), (Jvm.Cond.laysFinal "RingPurses$Ring" "RingPurses$Ring" "since" "[J"), (Jvm.Cond.soleField "RingPurses$Ring" "since"), (Jvm.Cond.lays "RingPurses$Ring" "RingPurses$Ring" "houses" "I"), (Jvm.Cond.soleField "RingPurses$Ring" "houses"), (Jvm.Cond.lays "RingPurses$Ring" "RingPurses$Ring" "pot" "I"), (Jvm.Cond.soleField "RingPurses$Ring" "pot")]
set_option maxRecDepth 20000 in
theorem zche_1_12 : (tables_1_1.drop 192).take 16 = zch_1_12 := rfl
def zch_1_13 : List Jvm.Cond := [(Jvm.Cond.lays "RingPurses$Ring" "RingPurses$Ring" "evening" "I"), (Jvm.Cond.soleField "RingPurses$Ring" "evening"), (Jvm.Cond.lays "RingPurses$Ring" "RingPurses$Ring" "shares" "I"), (Jvm.Cond.soleField "RingPurses$Ring" "shares"), (Jvm.Cond.superclass "RingPurses$Ring" "java/lang/Object"), (Jvm.Cond.classLink "RingPurses" (30 : Nat) "RingPurses$Kept"), (Jvm.Cond.instantiable "RingPurses$Kept" (5 : Nat)), (Jvm.Cond.methodLink "RingPurses" (32 : Nat) ({ cls := "RingPurses$Kept", name := "<init>", desc := "()V" } : Jvm.MethodName)), (Jvm.Cond.instanceMethod ({ cls := "RingPurses$Kept", name := "<init>", desc := "()V" } : Jvm.MethodName)), (Jvm.Cond.code ({ cls := "RingPurses$Kept", name := "<init>", desc := "()V" } : Jvm.MethodName) prog_4_method_1_code (2 : Nat) (Option.none : Option Jvm.ClassFile.FieldType)), (Jvm.Cond.methodLink "RingPurses$Kept" (3 : Nat) ({ cls := "java/lang/Object", name := "<init>", desc := "()V" } : Jvm.MethodName)), (Jvm.Cond.classLink "RingPurses$Kept" (9 : Nat) "RingPurses$Ring"), (Jvm.Cond.arrayOver (Jvm.ClassFile.FieldType.object "RingPurses$Ring")), (Jvm.Cond.methodLinkNest "RingPurses$Kept" (24 : Nat) ({ cls := "RingPurses$Ring", name := "<init>", desc := "()V" } : Jvm.MethodName) "RingPurses"), (Jvm.Cond.fieldLink "RingPurses$Kept" (11 : Nat) "RingPurses$Kept" "past" "[LRingPurses$Ring;"), (Jvm.Cond.fieldLink "RingPurses$Kept" (17 : Nat) "RingPurses$Kept" "slots" "[LRingPurses$Ring;")]
set_option maxRecDepth 20000 in
theorem zche_1_13 : (tables_1_1.drop 208).take 16 = zch_1_13 := rfl
def zch_1_14 : List Jvm.Cond := [(Jvm.Cond.fieldLink "RingPurses$Kept" (20 : Nat) "RingPurses$Kept" "holds" "[Z"), (Jvm.Cond.fieldLink "RingPurses$Kept" (32 : Nat) "RingPurses$Kept" "next" "I"), (Jvm.Cond.fieldLink "RingPurses$Kept" (28 : Nat) "RingPurses$Kept" "undoable" "I"), (Jvm.Cond.fieldLinkNest "RingPurses" (292 : Nat) "RingPurses$Kept" "undoable" "I" "RingPurses"), (Jvm.Cond.laysFinal "RingPurses$Kept" "RingPurses$Kept" "past" "[LRingPurses$Ring;"), (Jvm.Cond.soleField "RingPurses$Kept" "past"), (Jvm.Cond.laysFinal "RingPurses$Kept" "RingPurses$Kept" "slots" "[LRingPurses$Ring;"), (Jvm.Cond.soleField "RingPurses$Kept" "slots"), (Jvm.Cond.laysFinal "RingPurses$Kept" "RingPurses$Kept" "holds" "[Z"), (Jvm.Cond.soleField "RingPurses$Kept" "holds"), (Jvm.Cond.lays "RingPurses$Kept" "RingPurses$Kept" "next" "I"), (Jvm.Cond.soleField "RingPurses$Kept" "next"), (Jvm.Cond.lays "RingPurses$Kept" "RingPurses$Kept" "undoable" "I"), (Jvm.Cond.soleField "RingPurses$Kept" "undoable"), (Jvm.Cond.superclass "RingPurses$Kept" "java/lang/Object"), (Jvm.Cond.arrayClass Jvm.ClassFile.FieldType.boolean)]
set_option maxRecDepth 20000 in
theorem zche_1_14 : (tables_1_1.drop 224).take 16 = zch_1_14 := rfl
def zch_2_0 : List Jvm.Cond := [(Jvm.Cond.classLink "RingPurses" (37 : Nat) "RingPurses$Foresight"), (Jvm.Cond.instantiable "RingPurses$Foresight" (2 : Nat)), (Jvm.Cond.methodLinkNest "RingPurses" (39 : Nat) ({ cls := "RingPurses$Foresight", name := "<init>", desc := "()V" } : Jvm.MethodName) "RingPurses"), (Jvm.Cond.instanceMethod ({ cls := "RingPurses$Foresight", name := "<init>", desc := "()V" } : Jvm.MethodName)), (Jvm.Cond.code ({ cls := "RingPurses$Foresight", name := "<init>", desc := "()V" } : Jvm.MethodName) prog_3_method_1_code (1 : Nat) (Option.none : Option Jvm.ClassFile.FieldType)), (Jvm.Cond.methodLink "RingPurses$Foresight" (3 : Nat) ({ cls := "java/lang/Object", name := "<init>", desc := "()V" } : Jvm.MethodName)), (Jvm.Cond.classLink "RingPurses$Foresight" (9 : Nat) "RingPurses$Ring"), (Jvm.Cond.methodLinkNest "RingPurses$Foresight" (11 : Nat) ({ cls := "RingPurses$Ring", name := "<init>", desc := "()V" } : Jvm.MethodName) "RingPurses"), (Jvm.Cond.fieldLink "RingPurses$Foresight" (12 : Nat) "RingPurses$Foresight" "trial" "LRingPurses$Ring;"), (Jvm.Cond.fieldLink "RingPurses$Foresight" (18 : Nat) "RingPurses$Foresight" "trail" "[I"), (Jvm.Cond.laysFinal "RingPurses$Foresight" "RingPurses$Foresight" "trial" "LRingPurses$Ring;"), (Jvm.Cond.soleField "RingPurses$Foresight" "trial"), (Jvm.Cond.laysFinal "RingPurses$Foresight" "RingPurses$Foresight" "trail" "[I"), (Jvm.Cond.soleField "RingPurses$Foresight" "trail"), (Jvm.Cond.superclass "RingPurses$Foresight" "java/lang/Object"), (Jvm.Cond.classLink "RingPurses" (44 : Nat) "RingPurses$Deals")]
set_option maxRecDepth 20000 in
theorem zche_2_0 : (tables_1_2.drop 0).take 16 = zch_2_0 := rfl
def zch_2_1 : List Jvm.Cond := [(Jvm.Cond.instantiable "RingPurses$Deals" (4 : Nat)), (Jvm.Cond.methodLinkNest "RingPurses" (46 : Nat) ({ cls := "RingPurses$Deals", name := "<init>", desc := "()V" } : Jvm.MethodName) "RingPurses"), (Jvm.Cond.instanceMethod ({ cls := "RingPurses$Deals", name := "<init>", desc := "()V" } : Jvm.MethodName)), (Jvm.Cond.code ({ cls := "RingPurses$Deals", name := "<init>", desc := "()V" } : Jvm.MethodName) prog_2_method_1_code (1 : Nat) (Option.none : Option Jvm.ClassFile.FieldType)), (Jvm.Cond.methodLink "RingPurses$Deals" (3 : Nat) ({ cls := "java/lang/Object", name := "<init>", desc := "()V" } : Jvm.MethodName)), (Jvm.Cond.classLink "RingPurses$Deals" (9 : Nat) "RingPurses$Ring"), (Jvm.Cond.methodLinkNest "RingPurses$Deals" (11 : Nat) ({ cls := "RingPurses$Ring", name := "<init>", desc := "()V" } : Jvm.MethodName) "RingPurses"), (Jvm.Cond.fieldLink "RingPurses$Deals" (12 : Nat) "RingPurses$Deals" "trial" "LRingPurses$Ring;"), (Jvm.Cond.fieldLink "RingPurses$Deals" (43 : Nat) "RingPurses$Deals" "much" "I"), (Jvm.Cond.fieldLinkNest "RingPurses" (221 : Nat) "RingPurses$Deals" "much" "I" "RingPurses"), (Jvm.Cond.fieldLink "RingPurses$Deals" (46 : Nat) "RingPurses$Deals" "whom" "I"), (Jvm.Cond.fieldLinkNest "RingPurses" (207 : Nat) "RingPurses$Deals" "whom" "I" "RingPurses"), (Jvm.Cond.fieldLink "RingPurses$Deals" (18 : Nat) "RingPurses$Deals" "gain" "I"), (Jvm.Cond.fieldLinkNest "RingPurses" (210 : Nat) "RingPurses$Deals" "gain" "I" "RingPurses"), (Jvm.Cond.laysFinal "RingPurses$Deals" "RingPurses$Deals" "trial" "LRingPurses$Ring;"), (Jvm.Cond.soleField "RingPurses$Deals" "trial")]
set_option maxRecDepth 20000 in
theorem zche_2_1 : (tables_1_2.drop 16).take 16 = zch_2_1 := rfl
def zch_2_2 : List Jvm.Cond := [(Jvm.Cond.lays "RingPurses$Deals" "RingPurses$Deals" "much" "I"), (Jvm.Cond.soleField "RingPurses$Deals" "much"), (Jvm.Cond.lays "RingPurses$Deals" "RingPurses$Deals" "whom" "I"), (Jvm.Cond.soleField "RingPurses$Deals" "whom"), (Jvm.Cond.lays "RingPurses$Deals" "RingPurses$Deals" "gain" "I"), (Jvm.Cond.soleField "RingPurses$Deals" "gain"), (Jvm.Cond.superclass "RingPurses$Deals" "java/lang/Object"), (Jvm.Cond.classLink "RingPurses" (51 : Nat) "RingPurses$Plans"), (Jvm.Cond.instantiable "RingPurses$Plans" (2 : Nat)), (Jvm.Cond.methodLinkNest "RingPurses" (53 : Nat) ({ cls := "RingPurses$Plans", name := "<init>", desc := "()V" } : Jvm.MethodName) "RingPurses"), (Jvm.Cond.instanceMethod ({ cls := "RingPurses$Plans", name := "<init>", desc := "()V" } : Jvm.MethodName)), (Jvm.Cond.code ({ cls := "RingPurses$Plans", name := "<init>", desc := "()V" } : Jvm.MethodName) prog_6_method_1_code (1 : Nat) (Option.none : Option Jvm.ClassFile.FieldType)), (Jvm.Cond.methodLink "RingPurses$Plans" (3 : Nat) ({ cls := "java/lang/Object", name := "<init>", desc := "()V" } : Jvm.MethodName)), (Jvm.Cond.classLink "RingPurses$Plans" (9 : Nat) "RingPurses$Ring"), (Jvm.Cond.methodLinkNest "RingPurses$Plans" (11 : Nat) ({ cls := "RingPurses$Ring", name := "<init>", desc := "()V" } : Jvm.MethodName) "RingPurses"), (Jvm.Cond.fieldLink "RingPurses$Plans" (12 : Nat) "RingPurses$Plans" "trial" "LRingPurses$Ring;")]
set_option maxRecDepth 20000 in
theorem zche_2_2 : (tables_1_2.drop 32).take 16 = zch_2_2 := rfl
def zch_2_3 : List Jvm.Cond := [(Jvm.Cond.fieldLink "RingPurses$Plans" (18 : Nat) "RingPurses$Plans" "gains" "[I"), (Jvm.Cond.laysFinal "RingPurses$Plans" "RingPurses$Plans" "trial" "LRingPurses$Ring;"), (Jvm.Cond.soleField "RingPurses$Plans" "trial"), (Jvm.Cond.laysFinal "RingPurses$Plans" "RingPurses$Plans" "gains" "[I"), (Jvm.Cond.soleField "RingPurses$Plans" "gains"), (Jvm.Cond.superclass "RingPurses$Plans" "java/lang/Object"), (Jvm.Cond.classLink "RingPurses" (58 : Nat) "RingPurses$Told"), (Jvm.Cond.instantiable "RingPurses$Told" (11 : Nat)), (Jvm.Cond.methodLinkNest "RingPurses" (60 : Nat) ({ cls := "RingPurses$Told", name := "<init>", desc := "()V" } : Jvm.MethodName) "RingPurses"), (Jvm.Cond.instanceMethod ({ cls := "RingPurses$Told", name := "<init>", desc := "()V" } : Jvm.MethodName)), (Jvm.Cond.code ({ cls := "RingPurses$Told", name := "<init>", desc := "()V" } : Jvm.MethodName) prog_12_method_1_code (1 : Nat) (Option.none : Option Jvm.ClassFile.FieldType)), (Jvm.Cond.methodLink "RingPurses$Told" (3 : Nat) ({ cls := "java/lang/Object", name := "<init>", desc := "()V" } : Jvm.MethodName)), (Jvm.Cond.classLink "RingPurses$Told" (27 : Nat) "RingPurses$Ring"), (Jvm.Cond.methodLinkNest "RingPurses$Told" (29 : Nat) ({ cls := "RingPurses$Ring", name := "<init>", desc := "()V" } : Jvm.MethodName) "RingPurses"), (Jvm.Cond.fieldLink "RingPurses$Told" (9 : Nat) "RingPurses$Told" "houses" "[I"), (Jvm.Cond.fieldLink "RingPurses$Told" (15 : Nat) "RingPurses$Told" "pays" "[I")]
set_option maxRecDepth 20000 in
theorem zche_2_3 : (tables_1_2.drop 48).take 16 = zch_2_3 := rfl
def zch_2_4 : List Jvm.Cond := [(Jvm.Cond.fieldLink "RingPurses$Told" (18 : Nat) "RingPurses$Told" "known" "[I"), (Jvm.Cond.fieldLink "RingPurses$Told" (21 : Nat) "RingPurses$Told" "lowest" "[I"), (Jvm.Cond.fieldLink "RingPurses$Told" (24 : Nat) "RingPurses$Told" "row" "[I"), (Jvm.Cond.fieldLink "RingPurses$Told" (30 : Nat) "RingPurses$Told" "trial" "LRingPurses$Ring;"), (Jvm.Cond.fieldLink "RingPurses$Told" (34 : Nat) "RingPurses$Told" "size" "I"), (Jvm.Cond.fieldLinkNest "RingPurses" (245 : Nat) "RingPurses$Told" "size" "I" "RingPurses"), (Jvm.Cond.fieldLink "RingPurses$Told" (39 : Nat) "RingPurses$Told" "lastKnown" "I"), (Jvm.Cond.fieldLink "RingPurses$Told" (61 : Nat) "RingPurses$Told" "found" "I"), (Jvm.Cond.fieldLinkNest "RingPurses" (258 : Nat) "RingPurses$Told" "found" "I" "RingPurses"), (Jvm.Cond.fieldLink "RingPurses$Told" (64 : Nat) "RingPurses$Told" "least" "I"), (Jvm.Cond.fieldLinkNest "RingPurses" (261 : Nat) "RingPurses$Told" "least" "I" "RingPurses"), (Jvm.Cond.fieldLink "RingPurses$Told" (67 : Nat) "RingPurses$Told" "greatest" "I"), (Jvm.Cond.fieldLinkNest "RingPurses" (264 : Nat) "RingPurses$Told" "greatest" "I" "RingPurses"), (Jvm.Cond.laysFinal "RingPurses$Told" "RingPurses$Told" "houses" "[I"), (Jvm.Cond.soleField "RingPurses$Told" "houses"), (Jvm.Cond.laysFinal "RingPurses$Told" "RingPurses$Told" "pays" "[I")]
set_option maxRecDepth 20000 in
theorem zche_2_4 : (tables_1_2.drop 64).take 16 = zch_2_4 := rfl
def zch_2_5 : List Jvm.Cond := [(Jvm.Cond.soleField "RingPurses$Told" "pays"), (Jvm.Cond.laysFinal "RingPurses$Told" "RingPurses$Told" "known" "[I"), (Jvm.Cond.soleField "RingPurses$Told" "known"), (Jvm.Cond.laysFinal "RingPurses$Told" "RingPurses$Told" "lowest" "[I"), (Jvm.Cond.soleField "RingPurses$Told" "lowest"), (Jvm.Cond.laysFinal "RingPurses$Told" "RingPurses$Told" "row" "[I"), (Jvm.Cond.soleField "RingPurses$Told" "row"), (Jvm.Cond.laysFinal "RingPurses$Told" "RingPurses$Told" "trial" "LRingPurses$Ring;"), (Jvm.Cond.soleField "RingPurses$Told" "trial"), (Jvm.Cond.lays "RingPurses$Told" "RingPurses$Told" "size" "I"), (Jvm.Cond.soleField "RingPurses$Told" "size"), (Jvm.Cond.lays "RingPurses$Told" "RingPurses$Told" "lastKnown" "I"), (Jvm.Cond.soleField "RingPurses$Told" "lastKnown"), (Jvm.Cond.lays "RingPurses$Told" "RingPurses$Told" "found" "I"), (Jvm.Cond.soleField "RingPurses$Told" "found"), (Jvm.Cond.lays "RingPurses$Told" "RingPurses$Told" "least" "I")]
set_option maxRecDepth 20000 in
theorem zche_2_5 : (tables_1_2.drop 80).take 16 = zch_2_5 := rfl
def zch_2_6 : List Jvm.Cond := [(Jvm.Cond.soleField "RingPurses$Told" "least"), (Jvm.Cond.lays "RingPurses$Told" "RingPurses$Told" "greatest" "I"), (Jvm.Cond.soleField "RingPurses$Told" "greatest"), (Jvm.Cond.superclass "RingPurses$Told" "java/lang/Object"), (Jvm.Cond.classLink "RingPurses" (65 : Nat) "RingPurses$Rules"), (Jvm.Cond.instantiable "RingPurses$Rules" (11 : Nat)), (Jvm.Cond.methodLink "RingPurses" (67 : Nat) ({ cls := "RingPurses$Rules", name := "<init>", desc := "()V" } : Jvm.MethodName)), (Jvm.Cond.instanceMethod ({ cls := "RingPurses$Rules", name := "<init>", desc := "()V" } : Jvm.MethodName)), (Jvm.Cond.code ({ cls := "RingPurses$Rules", name := "<init>", desc := "()V" } : Jvm.MethodName) prog_9_method_1_code (1 : Nat) (Option.none : Option Jvm.ClassFile.FieldType)), (Jvm.Cond.methodLink "RingPurses$Rules" (3 : Nat) ({ cls := "java/lang/Object", name := "<init>", desc := "()V" } : Jvm.MethodName)), (Jvm.Cond.classLink "RingPurses$Rules" (9 : Nat) "RingPurses$Law"), (Jvm.Cond.instantiable "RingPurses$Law" (5 : Nat)), (Jvm.Cond.methodLinkNest "RingPurses$Rules" (11 : Nat) ({ cls := "RingPurses$Law", name := "<init>", desc := "()V" } : Jvm.MethodName) "RingPurses"), (Jvm.Cond.instanceMethod ({ cls := "RingPurses$Law", name := "<init>", desc := "()V" } : Jvm.MethodName)), (Jvm.Cond.code ({ cls := "RingPurses$Law", name := "<init>", desc := "()V" } : Jvm.MethodName) prog_5_method_1_code (1 : Nat) (Option.none : Option Jvm.ClassFile.FieldType)), (Jvm.Cond.methodLink "RingPurses$Law" (3 : Nat) ({ cls := "java/lang/Object", name := "<init>", desc := "()V" } : Jvm.MethodName))]
set_option maxRecDepth 20000 in
theorem zche_2_6 : (tables_1_2.drop 96).take 16 = zch_2_6 := rfl
def zch_2_7 : List Jvm.Cond := [(Jvm.Cond.fieldLink "RingPurses$Law" (9 : Nat) "RingPurses$Law" "steps" "[I"), (Jvm.Cond.fieldLink "RingPurses$Law" (15 : Nat) "RingPurses$Law" "args" "[I"), (Jvm.Cond.fieldLink "RingPurses$Law" (18 : Nat) "RingPurses$Law" "stack" "[I"), (Jvm.Cond.fieldLink "RingPurses$Law" (21 : Nat) "RingPurses$Law" "size" "I"), (Jvm.Cond.fieldLinkNest "RingPurses$Reader" (124 : Nat) "RingPurses$Law" "size" "I" "RingPurses"), (Jvm.Cond.fieldLink "RingPurses$Law" (25 : Nat) "RingPurses$Law" "looksAtLot" "Z"), (Jvm.Cond.fieldLinkNest "RingPurses$Rules" (71 : Nat) "RingPurses$Law" "looksAtLot" "Z" "RingPurses"), (Jvm.Cond.laysFinal "RingPurses$Law" "RingPurses$Law" "steps" "[I"), (Jvm.Cond.soleField "RingPurses$Law" "steps"), (Jvm.Cond.laysFinal "RingPurses$Law" "RingPurses$Law" "args" "[I"), (Jvm.Cond.soleField "RingPurses$Law" "args"), (Jvm.Cond.laysFinal "RingPurses$Law" "RingPurses$Law" "stack" "[I"), (Jvm.Cond.soleField "RingPurses$Law" "stack"), (Jvm.Cond.lays "RingPurses$Law" "RingPurses$Law" "size" "I"), (Jvm.Cond.soleField "RingPurses$Law" "size"), (Jvm.Cond.lays "RingPurses$Law" "RingPurses$Law" "looksAtLot" "Z")]
set_option maxRecDepth 20000 in
theorem zche_2_7 : (tables_1_2.drop 112).take 16 = zch_2_7 := rfl
def zch_2_8 : List Jvm.Cond := [(Jvm.Cond.soleField "RingPurses$Law" "looksAtLot"), (Jvm.Cond.superclass "RingPurses$Law" "java/lang/Object"), (Jvm.Cond.methodLink "RingPurses$Rules" (31 : Nat) ({ cls := "RingPurses$Rules", name := "clear", desc := "()V" } : Jvm.MethodName)), (Jvm.Cond.instanceMethod ({ cls := "RingPurses$Rules", name := "clear", desc := "()V" } : Jvm.MethodName)), (Jvm.Cond.selects "RingPurses$Rules" ({ cls := "RingPurses$Rules", name := "clear", desc := "()V" } : Jvm.MethodName) ({ cls := "RingPurses$Rules", name := "clear", desc := "()V" } : Jvm.MethodName)), (Jvm.Cond.code ({ cls := "RingPurses$Rules", name := "clear", desc := "()V" } : Jvm.MethodName) prog_9_method_2_code (1 : Nat) (Option.none : Option Jvm.ClassFile.FieldType)), (Jvm.Cond.methodLink "RingPurses$Rules" (34 : Nat) ({ cls := "RingPurses$Law", name := "beSeen", desc := "(I)V" } : Jvm.MethodName)), (Jvm.Cond.instanceMethod ({ cls := "RingPurses$Law", name := "beSeen", desc := "(I)V" } : Jvm.MethodName)), (Jvm.Cond.selects "RingPurses$Law" ({ cls := "RingPurses$Law", name := "beSeen", desc := "(I)V" } : Jvm.MethodName) ({ cls := "RingPurses$Law", name := "beSeen", desc := "(I)V" } : Jvm.MethodName)), (Jvm.Cond.code ({ cls := "RingPurses$Law", name := "beSeen", desc := "(I)V" } : Jvm.MethodName) prog_5_method_3_code (2 : Nat) (Option.none : Option Jvm.ClassFile.FieldType)), (Jvm.Cond.methodLink "RingPurses$Law" (29 : Nat) ({ cls := "RingPurses$Law", name := "clear", desc := "()V" } : Jvm.MethodName)), (Jvm.Cond.instanceMethod ({ cls := "RingPurses$Law", name := "clear", desc := "()V" } : Jvm.MethodName)), (Jvm.Cond.selects "RingPurses$Law" ({ cls := "RingPurses$Law", name := "clear", desc := "()V" } : Jvm.MethodName) ({ cls := "RingPurses$Law", name := "clear", desc := "()V" } : Jvm.MethodName)), (Jvm.Cond.code ({ cls := "RingPurses$Law", name := "clear", desc := "()V" } : Jvm.MethodName) prog_5_method_2_code (1 : Nat) (Option.none : Option Jvm.ClassFile.FieldType)), (Jvm.Cond.methodLink "RingPurses$Law" (32 : Nat) ({ cls := "RingPurses$Law", name := "add", desc := "(II)V" } : Jvm.MethodName)), (Jvm.Cond.instanceMethod ({ cls := "RingPurses$Law", name := "add", desc := "(II)V" } : Jvm.MethodName))]
set_option maxRecDepth 20000 in
theorem zche_2_8 : (tables_1_2.drop 128).take 16 = zch_2_8 := rfl
def zch_2_9 : List Jvm.Cond := [(Jvm.Cond.selects "RingPurses$Law" ({ cls := "RingPurses$Law", name := "add", desc := "(II)V" } : Jvm.MethodName) ({ cls := "RingPurses$Law", name := "add", desc := "(II)V" } : Jvm.MethodName)), (Jvm.Cond.code ({ cls := "RingPurses$Law", name := "add", desc := "(II)V" } : Jvm.MethodName) prog_5_method_5_code (3 : Nat) (Option.none : Option Jvm.ClassFile.FieldType)), (Jvm.Cond.methodLink "RingPurses$Rules" (38 : Nat) ({ cls := "RingPurses$Law", name := "beNumber", desc := "(I)V" } : Jvm.MethodName)), (Jvm.Cond.instanceMethod ({ cls := "RingPurses$Law", name := "beNumber", desc := "(I)V" } : Jvm.MethodName)), (Jvm.Cond.selects "RingPurses$Law" ({ cls := "RingPurses$Law", name := "beNumber", desc := "(I)V" } : Jvm.MethodName) ({ cls := "RingPurses$Law", name := "beNumber", desc := "(I)V" } : Jvm.MethodName)), (Jvm.Cond.code ({ cls := "RingPurses$Law", name := "beNumber", desc := "(I)V" } : Jvm.MethodName) prog_5_method_4_code (2 : Nat) (Option.none : Option Jvm.ClassFile.FieldType)), (Jvm.Cond.fieldLink "RingPurses$Rules" (12 : Nat) "RingPurses$Rules" "pays" "LRingPurses$Law;"), (Jvm.Cond.fieldLinkNest "RingPurses$Reader" (70 : Nat) "RingPurses$Rules" "pays" "LRingPurses$Law;" "RingPurses"), (Jvm.Cond.fieldLink "RingPurses$Rules" (18 : Nat) "RingPurses$Rules" "earns" "LRingPurses$Law;"), (Jvm.Cond.fieldLinkNest "RingPurses$Reader" (78 : Nat) "RingPurses$Rules" "earns" "LRingPurses$Law;" "RingPurses"), (Jvm.Cond.fieldLink "RingPurses$Rules" (21 : Nat) "RingPurses$Rules" "purses" "[I"), (Jvm.Cond.fieldLinkNest "RingPurses$Ring" (41 : Nat) "RingPurses$Rules" "purses" "[I" "RingPurses"), (Jvm.Cond.fieldLink "RingPurses$Rules" (25 : Nat) "RingPurses$Rules" "seen" "[I"), (Jvm.Cond.fieldLink "RingPurses$Rules" (28 : Nat) "RingPurses$Rules" "due" "[I"), (Jvm.Cond.fieldLink "RingPurses$Rules" (41 : Nat) "RingPurses$Rules" "houses" "I"), (Jvm.Cond.fieldLinkNest "RingPurses$Ring" (38 : Nat) "RingPurses$Rules" "houses" "I" "RingPurses")]
set_option maxRecDepth 20000 in
theorem zche_2_9 : (tables_1_2.drop 144).take 16 = zch_2_9 := rfl
def zch_2_10 : List Jvm.Cond := [(Jvm.Cond.fieldLinkNest "RingPurses$Reader" (91 : Nat) "RingPurses$Rules" "houses" "I" "RingPurses"), (Jvm.Cond.fieldLink "RingPurses$Rules" (45 : Nat) "RingPurses$Rules" "street" "Z"), (Jvm.Cond.fieldLinkNest "RingPurses$Reader" (63 : Nat) "RingPurses$Rules" "street" "Z" "RingPurses"), (Jvm.Cond.fieldLinkNest "RingPurses" (174 : Nat) "RingPurses$Rules" "street" "Z" "RingPurses"), (Jvm.Cond.fieldLink "RingPurses$Rules" (49 : Nat) "RingPurses$Rules" "turns" "Z"), (Jvm.Cond.fieldLinkNest "RingPurses$Reader" (67 : Nat) "RingPurses$Rules" "turns" "Z" "RingPurses"), (Jvm.Cond.fieldLinkNest "RingPurses$Told" (94 : Nat) "RingPurses$Rules" "turns" "Z" "RingPurses"), (Jvm.Cond.fieldLinkNest "RingPurses" (280 : Nat) "RingPurses$Rules" "turns" "Z" "RingPurses"), (Jvm.Cond.fieldLink "RingPurses$Rules" (52 : Nat) "RingPurses$Rules" "sharing" "I"), (Jvm.Cond.fieldLinkNest "RingPurses$Plans" (54 : Nat) "RingPurses$Rules" "sharing" "I" "RingPurses"), (Jvm.Cond.fieldLinkNest "RingPurses$Foresight" (45 : Nat) "RingPurses$Rules" "sharing" "I" "RingPurses"), (Jvm.Cond.fieldLinkNest "RingPurses$Deals" (49 : Nat) "RingPurses$Rules" "sharing" "I" "RingPurses"), (Jvm.Cond.fieldLinkNest "RingPurses" (140 : Nat) "RingPurses$Rules" "sharing" "I" "RingPurses"), (Jvm.Cond.fieldLink "RingPurses$Rules" (55 : Nat) "RingPurses$Rules" "every" "I"), (Jvm.Cond.fieldLinkNest "RingPurses" (283 : Nat) "RingPurses$Rules" "every" "I" "RingPurses"), (Jvm.Cond.fieldLink "RingPurses$Rules" (58 : Nat) "RingPurses$Rules" "seed" "I")]
set_option maxRecDepth 20000 in
theorem zche_2_10 : (tables_1_2.drop 160).take 16 = zch_2_10 := rfl
def zch_2_11 : List Jvm.Cond := [(Jvm.Cond.fieldLinkNest "RingPurses$Reader" (108 : Nat) "RingPurses$Rules" "seed" "I" "RingPurses"), (Jvm.Cond.laysFinal "RingPurses$Rules" "RingPurses$Rules" "pays" "LRingPurses$Law;"), (Jvm.Cond.soleField "RingPurses$Rules" "pays"), (Jvm.Cond.laysFinal "RingPurses$Rules" "RingPurses$Rules" "earns" "LRingPurses$Law;"), (Jvm.Cond.soleField "RingPurses$Rules" "earns"), (Jvm.Cond.laysFinal "RingPurses$Rules" "RingPurses$Rules" "purses" "[I"), (Jvm.Cond.soleField "RingPurses$Rules" "purses"), (Jvm.Cond.laysFinal "RingPurses$Rules" "RingPurses$Rules" "seen" "[I"), (Jvm.Cond.soleField "RingPurses$Rules" "seen"), (Jvm.Cond.laysFinal "RingPurses$Rules" "RingPurses$Rules" "due" "[I"), (Jvm.Cond.soleField "RingPurses$Rules" "due"), (Jvm.Cond.lays "RingPurses$Rules" "RingPurses$Rules" "houses" "I"), (Jvm.Cond.soleField "RingPurses$Rules" "houses"), (Jvm.Cond.lays "RingPurses$Rules" "RingPurses$Rules" "street" "Z"), (Jvm.Cond.soleField "RingPurses$Rules" "street"), (Jvm.Cond.lays "RingPurses$Rules" "RingPurses$Rules" "turns" "Z")]
set_option maxRecDepth 20000 in
theorem zche_2_11 : (tables_1_2.drop 176).take 16 = zch_2_11 := rfl
def zch_2_12 : List Jvm.Cond := [(Jvm.Cond.soleField "RingPurses$Rules" "turns"), (Jvm.Cond.lays "RingPurses$Rules" "RingPurses$Rules" "sharing" "I"), (Jvm.Cond.soleField "RingPurses$Rules" "sharing"), (Jvm.Cond.lays "RingPurses$Rules" "RingPurses$Rules" "every" "I"), (Jvm.Cond.soleField "RingPurses$Rules" "every"), (Jvm.Cond.lays "RingPurses$Rules" "RingPurses$Rules" "seed" "I"), (Jvm.Cond.soleField "RingPurses$Rules" "seed"), (Jvm.Cond.superclass "RingPurses$Rules" "java/lang/Object"), (Jvm.Cond.methodLink "RingPurses" (79 : Nat) ({ cls := "RingPurses$Ring", name := "begin", desc := "(LRingPurses$Rules;)V" } : Jvm.MethodName)), (Jvm.Cond.instanceMethod ({ cls := "RingPurses$Ring", name := "begin", desc := "(LRingPurses$Rules;)V" } : Jvm.MethodName)), (Jvm.Cond.selects "RingPurses$Ring" ({ cls := "RingPurses$Ring", name := "begin", desc := "(LRingPurses$Rules;)V" } : Jvm.MethodName) ({ cls := "RingPurses$Ring", name := "begin", desc := "(LRingPurses$Rules;)V" } : Jvm.MethodName)), (Jvm.Cond.code ({ cls := "RingPurses$Ring", name := "begin", desc := "(LRingPurses$Rules;)V" } : Jvm.MethodName) prog_8_method_2_code (3 : Nat) (Option.none : Option Jvm.ClassFile.FieldType)), (Jvm.Cond.methodLink "RingPurses$Ring" (44 : Nat) ({ cls := "RingPurses$Ring", name := "insert", desc := "(II)V" } : Jvm.MethodName)), (Jvm.Cond.instanceMethod ({ cls := "RingPurses$Ring", name := "insert", desc := "(II)V" } : Jvm.MethodName)), (Jvm.Cond.selects "RingPurses$Ring" ({ cls := "RingPurses$Ring", name := "insert", desc := "(II)V" } : Jvm.MethodName) ({ cls := "RingPurses$Ring", name := "insert", desc := "(II)V" } : Jvm.MethodName)), (Jvm.Cond.code ({ cls := "RingPurses$Ring", name := "insert", desc := "(II)V" } : Jvm.MethodName) prog_8_method_16_code (4 : Nat) (Option.none : Option Jvm.ClassFile.FieldType))]
set_option maxRecDepth 20000 in
theorem zche_2_12 : (tables_1_2.drop 192).take 16 = zch_2_12 := rfl
def zch_2_13 : List Jvm.Cond := [(Jvm.Cond.methodLink "RingPurses$Ring" (68 : Nat) ({ cls := "RingPurses$Ring", name := "isFull", desc := "()Z" } : Jvm.MethodName)), (Jvm.Cond.instanceMethod ({ cls := "RingPurses$Ring", name := "isFull", desc := "()Z" } : Jvm.MethodName)), (Jvm.Cond.selects "RingPurses$Ring" ({ cls := "RingPurses$Ring", name := "isFull", desc := "()Z" } : Jvm.MethodName) ({ cls := "RingPurses$Ring", name := "isFull", desc := "()Z" } : Jvm.MethodName)), (Jvm.Cond.code ({ cls := "RingPurses$Ring", name := "isFull", desc := "()Z" } : Jvm.MethodName) prog_8_method_5_code (1 : Nat) (Option.some Jvm.ClassFile.FieldType.boolean)), (Jvm.Cond.methodLink "RingPurses$Ring" (72 : Nat) ({ cls := "RingPurses$Ring", name := "copyHouse", desc := "(II)V" } : Jvm.MethodName)), (Jvm.Cond.privateMethod ({ cls := "RingPurses$Ring", name := "copyHouse", desc := "(II)V" } : Jvm.MethodName)), (Jvm.Cond.instanceMethod ({ cls := "RingPurses$Ring", name := "copyHouse", desc := "(II)V" } : Jvm.MethodName)), (Jvm.Cond.code ({ cls := "RingPurses$Ring", name := "copyHouse", desc := "(II)V" } : Jvm.MethodName) prog_8_method_19_code (3 : Nat) (Option.none : Option Jvm.ClassFile.FieldType)), (Jvm.Cond.fieldLink "RingPurses" (10 : Nat) "RingPurses" "tape" "LRingPurses$Tape;"), (Jvm.Cond.fieldLink "RingPurses" (19 : Nat) "RingPurses" "reader" "LRingPurses$Reader;"), (Jvm.Cond.fieldLink "RingPurses" (26 : Nat) "RingPurses" "ring" "LRingPurses$Ring;"), (Jvm.Cond.fieldLink "RingPurses" (33 : Nat) "RingPurses" "kept" "LRingPurses$Kept;"), (Jvm.Cond.fieldLink "RingPurses" (40 : Nat) "RingPurses" "foresight" "LRingPurses$Foresight;"), (Jvm.Cond.fieldLink "RingPurses" (47 : Nat) "RingPurses" "deals" "LRingPurses$Deals;"), (Jvm.Cond.fieldLink "RingPurses" (54 : Nat) "RingPurses" "plans" "LRingPurses$Plans;"), (Jvm.Cond.fieldLink "RingPurses" (61 : Nat) "RingPurses" "told" "LRingPurses$Told;")]
set_option maxRecDepth 20000 in
theorem zche_2_13 : (tables_1_2.drop 208).take 16 = zch_2_13 := rfl
def zch_2_14 : List Jvm.Cond := [(Jvm.Cond.fieldLink "RingPurses" (68 : Nat) "RingPurses" "rules" "LRingPurses$Rules;"), (Jvm.Cond.fieldLink "RingPurses" (72 : Nat) "RingPurses" "spare" "LRingPurses$Rules;"), (Jvm.Cond.fieldLink "RingPurses" (75 : Nat) "RingPurses" "faultPlace" "I"), (Jvm.Cond.laysFinal "RingPurses" "RingPurses" "tape" "LRingPurses$Tape;"), (Jvm.Cond.soleField "RingPurses" "tape"), (Jvm.Cond.laysFinal "RingPurses" "RingPurses" "reader" "LRingPurses$Reader;"), (Jvm.Cond.soleField "RingPurses" "reader"), (Jvm.Cond.laysFinal "RingPurses" "RingPurses" "ring" "LRingPurses$Ring;"), (Jvm.Cond.soleField "RingPurses" "ring"), (Jvm.Cond.laysFinal "RingPurses" "RingPurses" "kept" "LRingPurses$Kept;"), (Jvm.Cond.soleField "RingPurses" "kept"), (Jvm.Cond.laysFinal "RingPurses" "RingPurses" "foresight" "LRingPurses$Foresight;"), (Jvm.Cond.soleField "RingPurses" "foresight"), (Jvm.Cond.laysFinal "RingPurses" "RingPurses" "deals" "LRingPurses$Deals;"), (Jvm.Cond.soleField "RingPurses" "deals"), (Jvm.Cond.laysFinal "RingPurses" "RingPurses" "plans" "LRingPurses$Plans;")]
set_option maxRecDepth 20000 in
theorem zche_2_14 : (tables_1_2.drop 224).take 16 = zch_2_14 := rfl
def zch_3_0 : List Jvm.Cond := [(Jvm.Cond.soleField "RingPurses" "plans"), (Jvm.Cond.laysFinal "RingPurses" "RingPurses" "told" "LRingPurses$Told;"), (Jvm.Cond.soleField "RingPurses" "told"), (Jvm.Cond.lays "RingPurses" "RingPurses" "rules" "LRingPurses$Rules;"), (Jvm.Cond.soleField "RingPurses" "rules"), (Jvm.Cond.lays "RingPurses" "RingPurses" "spare" "LRingPurses$Rules;"), (Jvm.Cond.soleField "RingPurses" "spare"), (Jvm.Cond.lays "RingPurses" "RingPurses" "faultPlace" "I"), (Jvm.Cond.soleField "RingPurses" "faultPlace"), (Jvm.Cond.superclass "RingPurses" "java/lang/Object"), (Jvm.Cond.methodLink "RingPursesLaw" (13 : Nat) ({ cls := "RingPurses", name := "feed", desc := "(IIIII)I" } : Jvm.MethodName)), (Jvm.Cond.instanceMethod ({ cls := "RingPurses", name := "feed", desc := "(IIIII)I" } : Jvm.MethodName)), (Jvm.Cond.selects "RingPurses" ({ cls := "RingPurses", name := "feed", desc := "(IIIII)I" } : Jvm.MethodName) ({ cls := "RingPurses", name := "feed", desc := "(IIIII)I" } : Jvm.MethodName)), (Jvm.Cond.code ({ cls := "RingPurses", name := "feed", desc := "(IIIII)I" } : Jvm.MethodName) prog_1_method_2_code (6 : Nat) (Option.some Jvm.ClassFile.FieldType.int)), (Jvm.Cond.methodLink "RingPurses" (86 : Nat) ({ cls := "RingPurses$Tape", name := "put", desc := "(I)V" } : Jvm.MethodName)), (Jvm.Cond.instanceMethod ({ cls := "RingPurses$Tape", name := "put", desc := "(I)V" } : Jvm.MethodName))]
set_option maxRecDepth 20000 in
theorem zche_3_0 : (tables_1_3.drop 0).take 16 = zch_3_0 := rfl
def zch_3_1 : List Jvm.Cond := [(Jvm.Cond.selects "RingPurses$Tape" ({ cls := "RingPurses$Tape", name := "put", desc := "(I)V" } : Jvm.MethodName) ({ cls := "RingPurses$Tape", name := "put", desc := "(I)V" } : Jvm.MethodName)), (Jvm.Cond.code ({ cls := "RingPurses$Tape", name := "put", desc := "(I)V" } : Jvm.MethodName) prog_10_method_2_code (3 : Nat) (Option.none : Option Jvm.ClassFile.FieldType)), (Jvm.Cond.methodLink "RingPursesLaw" (18 : Nat) ({ cls := "RingPurses", name := "back", desc := "(I)I" } : Jvm.MethodName)), (Jvm.Cond.instanceMethod ({ cls := "RingPurses", name := "back", desc := "(I)I" } : Jvm.MethodName)), (Jvm.Cond.selects "RingPurses" ({ cls := "RingPurses", name := "back", desc := "(I)I" } : Jvm.MethodName) ({ cls := "RingPurses", name := "back", desc := "(I)I" } : Jvm.MethodName)), (Jvm.Cond.code ({ cls := "RingPurses", name := "back", desc := "(I)I" } : Jvm.MethodName) prog_1_method_3_code (2 : Nat) (Option.some Jvm.ClassFile.FieldType.int)), (Jvm.Cond.methodLink "RingPursesLaw" (23 : Nat) ({ cls := "RingPurses", name := "read", desc := "()I" } : Jvm.MethodName)), (Jvm.Cond.instanceMethod ({ cls := "RingPurses", name := "read", desc := "()I" } : Jvm.MethodName)), (Jvm.Cond.selects "RingPurses" ({ cls := "RingPurses", name := "read", desc := "()I" } : Jvm.MethodName) ({ cls := "RingPurses", name := "read", desc := "()I" } : Jvm.MethodName)), (Jvm.Cond.code ({ cls := "RingPurses", name := "read", desc := "()I" } : Jvm.MethodName) prog_1_method_4_code (2 : Nat) (Option.some Jvm.ClassFile.FieldType.int)), (Jvm.Cond.methodLink "RingPurses" (90 : Nat) ({ cls := "RingPurses$Reader", name := "parse", desc := "(LRingPurses$Tape;LRingPurses$Rules;)I" } : Jvm.MethodName)), (Jvm.Cond.instanceMethod ({ cls := "RingPurses$Reader", name := "parse", desc := "(LRingPurses$Tape;LRingPurses$Rules;)I" } : Jvm.MethodName)), (Jvm.Cond.selects "RingPurses$Reader" ({ cls := "RingPurses$Reader", name := "parse", desc := "(LRingPurses$Tape;LRingPurses$Rules;)I" } : Jvm.MethodName) ({ cls := "RingPurses$Reader", name := "parse", desc := "(LRingPurses$Tape;LRingPurses$Rules;)I" } : Jvm.MethodName)), (Jvm.Cond.code ({ cls := "RingPurses$Reader", name := "parse", desc := "(LRingPurses$Tape;LRingPurses$Rules;)I" } : Jvm.MethodName) prog_7_method_3_code (4 : Nat) (Option.some Jvm.ClassFile.FieldType.int)), (Jvm.Cond.methodLink "RingPurses$Reader" (30 : Nat) ({ cls := "RingPurses$Tokens", name := "scan", desc := "(LRingPurses$Tape;)V" } : Jvm.MethodName)), (Jvm.Cond.instanceMethod ({ cls := "RingPurses$Tokens", name := "scan", desc := "(LRingPurses$Tape;)V" } : Jvm.MethodName))]
set_option maxRecDepth 20000 in
theorem zche_3_1 : (tables_1_3.drop 16).take 16 = zch_3_1 := rfl
def zch_3_2 : List Jvm.Cond := [(Jvm.Cond.selects "RingPurses$Tokens" ({ cls := "RingPurses$Tokens", name := "scan", desc := "(LRingPurses$Tape;)V" } : Jvm.MethodName) ({ cls := "RingPurses$Tokens", name := "scan", desc := "(LRingPurses$Tape;)V" } : Jvm.MethodName)), (Jvm.Cond.code ({ cls := "RingPurses$Tokens", name := "scan", desc := "(LRingPurses$Tape;)V" } : Jvm.MethodName) prog_11_method_5_code (7 : Nat) (Option.none : Option Jvm.ClassFile.FieldType)), (Jvm.Cond.methodLink "RingPurses$Tokens" (49 : Nat) ({ cls := "RingPurses$Tape", name := "byteAt", desc := "(I)I" } : Jvm.MethodName)), (Jvm.Cond.instanceMethod ({ cls := "RingPurses$Tape", name := "byteAt", desc := "(I)I" } : Jvm.MethodName)), (Jvm.Cond.selects "RingPurses$Tape" ({ cls := "RingPurses$Tape", name := "byteAt", desc := "(I)I" } : Jvm.MethodName) ({ cls := "RingPurses$Tape", name := "byteAt", desc := "(I)I" } : Jvm.MethodName)), (Jvm.Cond.code ({ cls := "RingPurses$Tape", name := "byteAt", desc := "(I)I" } : Jvm.MethodName) prog_10_method_3_code (2 : Nat) (Option.some Jvm.ClassFile.FieldType.int)), (Jvm.Cond.methodLink "RingPurses$Tokens" (53 : Nat) ({ cls := "RingPurses$Tokens", name := "kindOf", desc := "(I)I" } : Jvm.MethodName)), (Jvm.Cond.static ({ cls := "RingPurses$Tokens", name := "kindOf", desc := "(I)I" } : Jvm.MethodName)), (Jvm.Cond.code ({ cls := "RingPurses$Tokens", name := "kindOf", desc := "(I)I" } : Jvm.MethodName) prog_11_method_11_code (1 : Nat) (Option.some Jvm.ClassFile.FieldType.int)), (Jvm.Cond.methodLink "RingPurses$Tokens" (56 : Nat) ({ cls := "RingPurses$Tokens", name := "open", desc := "(II)Z" } : Jvm.MethodName)), (Jvm.Cond.privateMethod ({ cls := "RingPurses$Tokens", name := "open", desc := "(II)Z" } : Jvm.MethodName)), (Jvm.Cond.instanceMethod ({ cls := "RingPurses$Tokens", name := "open", desc := "(II)Z" } : Jvm.MethodName)), (Jvm.Cond.code ({ cls := "RingPurses$Tokens", name := "open", desc := "(II)Z" } : Jvm.MethodName) prog_11_method_6_code (3 : Nat) (Option.some Jvm.ClassFile.FieldType.boolean)), (Jvm.Cond.methodLink "RingPurses$Tokens" (60 : Nat) ({ cls := "RingPurses$Tokens", name := "grow", desc := "(II)V" } : Jvm.MethodName)), (Jvm.Cond.privateMethod ({ cls := "RingPurses$Tokens", name := "grow", desc := "(II)V" } : Jvm.MethodName)), (Jvm.Cond.instanceMethod ({ cls := "RingPurses$Tokens", name := "grow", desc := "(II)V" } : Jvm.MethodName))]
set_option maxRecDepth 20000 in
theorem zche_3_2 : (tables_1_3.drop 32).take 16 = zch_3_2 := rfl
def zch_3_3 : List Jvm.Cond := [(Jvm.Cond.code ({ cls := "RingPurses$Tokens", name := "grow", desc := "(II)V" } : Jvm.MethodName) prog_11_method_7_code (4 : Nat) (Option.none : Option Jvm.ClassFile.FieldType)), (Jvm.Cond.constantLong "RingPurses$Tokens" (71 : Nat) (10 : Int64)), (Jvm.Cond.methodLink "RingPurses$Tokens" (64 : Nat) ({ cls := "RingPurses$Tokens", name := "close", desc := "(I)V" } : Jvm.MethodName)), (Jvm.Cond.privateMethod ({ cls := "RingPurses$Tokens", name := "close", desc := "(I)V" } : Jvm.MethodName)), (Jvm.Cond.instanceMethod ({ cls := "RingPurses$Tokens", name := "close", desc := "(I)V" } : Jvm.MethodName)), (Jvm.Cond.code ({ cls := "RingPurses$Tokens", name := "close", desc := "(I)V" } : Jvm.MethodName) prog_11_method_8_code (3 : Nat) (Option.none : Option Jvm.ClassFile.FieldType)), (Jvm.Cond.methodLink "RingPurses$Tokens" (73 : Nat) ({ cls := "RingPurses$Tokens", name := "wordOrName", desc := "(J)I" } : Jvm.MethodName)), (Jvm.Cond.privateMethod ({ cls := "RingPurses$Tokens", name := "wordOrName", desc := "(J)I" } : Jvm.MethodName)), (Jvm.Cond.instanceMethod ({ cls := "RingPurses$Tokens", name := "wordOrName", desc := "(J)I" } : Jvm.MethodName)), (Jvm.Cond.code ({ cls := "RingPurses$Tokens", name := "wordOrName", desc := "(J)I" } : Jvm.MethodName) prog_11_method_9_code (4 : Nat) (Option.some Jvm.ClassFile.FieldType.int)), (Jvm.Cond.methodLink "RingPurses$Reader" (34 : Nat) ({ cls := "RingPurses$Rules", name := "clear", desc := "()V" } : Jvm.MethodName)), (Jvm.Cond.methodLink "RingPurses$Reader" (51 : Nat) ({ cls := "RingPurses$Tokens", name := "kindAt", desc := "(I)I" } : Jvm.MethodName)), (Jvm.Cond.instanceMethod ({ cls := "RingPurses$Tokens", name := "kindAt", desc := "(I)I" } : Jvm.MethodName)), (Jvm.Cond.selects "RingPurses$Tokens" ({ cls := "RingPurses$Tokens", name := "kindAt", desc := "(I)I" } : Jvm.MethodName) ({ cls := "RingPurses$Tokens", name := "kindAt", desc := "(I)I" } : Jvm.MethodName)), (Jvm.Cond.code ({ cls := "RingPurses$Tokens", name := "kindAt", desc := "(I)I" } : Jvm.MethodName) prog_11_method_2_code (2 : Nat) (Option.some Jvm.ClassFile.FieldType.int)), (Jvm.Cond.methodLink "RingPurses$Reader" (55 : Nat) ({ cls := "RingPurses$Reader", name := "tellHouse", desc := "(LRingPurses$Rules;)V" } : Jvm.MethodName))]
set_option maxRecDepth 20000 in
theorem zche_3_3 : (tables_1_3.drop 48).take 16 = zch_3_3 := rfl
def zch_3_4 : List Jvm.Cond := [(Jvm.Cond.privateMethod ({ cls := "RingPurses$Reader", name := "tellHouse", desc := "(LRingPurses$Rules;)V" } : Jvm.MethodName)), (Jvm.Cond.instanceMethod ({ cls := "RingPurses$Reader", name := "tellHouse", desc := "(LRingPurses$Rules;)V" } : Jvm.MethodName)), (Jvm.Cond.code ({ cls := "RingPurses$Reader", name := "tellHouse", desc := "(LRingPurses$Rules;)V" } : Jvm.MethodName) prog_7_method_4_code (5 : Nat) (Option.none : Option Jvm.ClassFile.FieldType)), (Jvm.Cond.methodLink "RingPurses$Reader" (87 : Nat) ({ cls := "RingPurses$Reader", name := "failAt", desc := "(II)V" } : Jvm.MethodName)), (Jvm.Cond.privateMethod ({ cls := "RingPurses$Reader", name := "failAt", desc := "(II)V" } : Jvm.MethodName)), (Jvm.Cond.instanceMethod ({ cls := "RingPurses$Reader", name := "failAt", desc := "(II)V" } : Jvm.MethodName)), (Jvm.Cond.code ({ cls := "RingPurses$Reader", name := "failAt", desc := "(II)V" } : Jvm.MethodName) prog_7_method_17_code (3 : Nat) (Option.none : Option Jvm.ClassFile.FieldType)), (Jvm.Cond.methodLink "RingPurses$Reader" (161 : Nat) ({ cls := "RingPurses$Tokens", name := "placeOf", desc := "(I)I" } : Jvm.MethodName)), (Jvm.Cond.instanceMethod ({ cls := "RingPurses$Tokens", name := "placeOf", desc := "(I)I" } : Jvm.MethodName)), (Jvm.Cond.selects "RingPurses$Tokens" ({ cls := "RingPurses$Tokens", name := "placeOf", desc := "(I)I" } : Jvm.MethodName) ({ cls := "RingPurses$Tokens", name := "placeOf", desc := "(I)I" } : Jvm.MethodName)), (Jvm.Cond.code ({ cls := "RingPurses$Tokens", name := "placeOf", desc := "(I)I" } : Jvm.MethodName) prog_11_method_3_code (2 : Nat) (Option.some Jvm.ClassFile.FieldType.int)), (Jvm.Cond.methodLink "RingPurses$Reader" (59 : Nat) ({ cls := "RingPurses$Reader", name := "take", desc := "(I)Z" } : Jvm.MethodName)), (Jvm.Cond.privateMethod ({ cls := "RingPurses$Reader", name := "take", desc := "(I)Z" } : Jvm.MethodName)), (Jvm.Cond.instanceMethod ({ cls := "RingPurses$Reader", name := "take", desc := "(I)Z" } : Jvm.MethodName)), (Jvm.Cond.code ({ cls := "RingPurses$Reader", name := "take", desc := "(I)Z" } : Jvm.MethodName) prog_7_method_16_code (3 : Nat) (Option.some Jvm.ClassFile.FieldType.boolean)), (Jvm.Cond.methodLink "RingPurses$Reader" (94 : Nat) ({ cls := "RingPurses$Tokens", name := "valueOf", desc := "(I)J" } : Jvm.MethodName))]
set_option maxRecDepth 20000 in
theorem zche_3_4 : (tables_1_3.drop 64).take 16 = zch_3_4 := rfl
def zch_3_5 : List Jvm.Cond := [(Jvm.Cond.instanceMethod ({ cls := "RingPurses$Tokens", name := "valueOf", desc := "(I)J" } : Jvm.MethodName)), (Jvm.Cond.selects "RingPurses$Tokens" ({ cls := "RingPurses$Tokens", name := "valueOf", desc := "(I)J" } : Jvm.MethodName) ({ cls := "RingPurses$Tokens", name := "valueOf", desc := "(I)J" } : Jvm.MethodName)), (Jvm.Cond.code ({ cls := "RingPurses$Tokens", name := "valueOf", desc := "(I)J" } : Jvm.MethodName) prog_11_method_4_code (2 : Nat) (Option.some Jvm.ClassFile.FieldType.long)), (Jvm.Cond.methodLink "RingPurses$Reader" (98 : Nat) ({ cls := "RingPurses$Reader", name := "failLater", desc := "(II)V" } : Jvm.MethodName)), (Jvm.Cond.privateMethod ({ cls := "RingPurses$Reader", name := "failLater", desc := "(II)V" } : Jvm.MethodName)), (Jvm.Cond.instanceMethod ({ cls := "RingPurses$Reader", name := "failLater", desc := "(II)V" } : Jvm.MethodName)), (Jvm.Cond.code ({ cls := "RingPurses$Reader", name := "failLater", desc := "(II)V" } : Jvm.MethodName) prog_7_method_18_code (3 : Nat) (Option.none : Option Jvm.ClassFile.FieldType)), (Jvm.Cond.methodLink "RingPurses$Reader" (101 : Nat) ({ cls := "RingPurses$Rules", name := "addHouse", desc := "(I)V" } : Jvm.MethodName)), (Jvm.Cond.instanceMethod ({ cls := "RingPurses$Rules", name := "addHouse", desc := "(I)V" } : Jvm.MethodName)), (Jvm.Cond.selects "RingPurses$Rules" ({ cls := "RingPurses$Rules", name := "addHouse", desc := "(I)V" } : Jvm.MethodName) ({ cls := "RingPurses$Rules", name := "addHouse", desc := "(I)V" } : Jvm.MethodName)), (Jvm.Cond.code ({ cls := "RingPurses$Rules", name := "addHouse", desc := "(I)V" } : Jvm.MethodName) prog_9_method_3_code (2 : Nat) (Option.none : Option Jvm.ClassFile.FieldType)), (Jvm.Cond.methodLink "RingPurses$Reader" (74 : Nat) ({ cls := "RingPurses$Reader", name := "tellLaw", desc := "(ILRingPurses$Law;)V" } : Jvm.MethodName)), (Jvm.Cond.privateMethod ({ cls := "RingPurses$Reader", name := "tellLaw", desc := "(ILRingPurses$Law;)V" } : Jvm.MethodName)), (Jvm.Cond.instanceMethod ({ cls := "RingPurses$Reader", name := "tellLaw", desc := "(ILRingPurses$Law;)V" } : Jvm.MethodName)), (Jvm.Cond.code ({ cls := "RingPurses$Reader", name := "tellLaw", desc := "(ILRingPurses$Law;)V" } : Jvm.MethodName) prog_7_method_7_code (4 : Nat) (Option.none : Option Jvm.ClassFile.FieldType)), (Jvm.Cond.methodLink "RingPurses$Reader" (111 : Nat) ({ cls := "RingPurses$Law", name := "clear", desc := "()V" } : Jvm.MethodName))]
set_option maxRecDepth 20000 in
theorem zche_3_5 : (tables_1_3.drop 80).take 16 = zch_3_5 := rfl
def zch_3_6 : List Jvm.Cond := [(Jvm.Cond.methodLink "RingPurses$Reader" (114 : Nat) ({ cls := "RingPurses$Reader", name := "readBranch", desc := "(LRingPurses$Law;)V" } : Jvm.MethodName)), (Jvm.Cond.privateMethod ({ cls := "RingPurses$Reader", name := "readBranch", desc := "(LRingPurses$Law;)V" } : Jvm.MethodName)), (Jvm.Cond.instanceMethod ({ cls := "RingPurses$Reader", name := "readBranch", desc := "(LRingPurses$Law;)V" } : Jvm.MethodName)), (Jvm.Cond.code ({ cls := "RingPurses$Reader", name := "readBranch", desc := "(LRingPurses$Law;)V" } : Jvm.MethodName) prog_7_method_8_code (3 : Nat) (Option.none : Option Jvm.ClassFile.FieldType)), (Jvm.Cond.methodLink "RingPurses$Reader" (118 : Nat) ({ cls := "RingPurses$Reader", name := "readSum", desc := "(LRingPurses$Law;)V" } : Jvm.MethodName)), (Jvm.Cond.privateMethod ({ cls := "RingPurses$Reader", name := "readSum", desc := "(LRingPurses$Law;)V" } : Jvm.MethodName)), (Jvm.Cond.instanceMethod ({ cls := "RingPurses$Reader", name := "readSum", desc := "(LRingPurses$Law;)V" } : Jvm.MethodName)), (Jvm.Cond.code ({ cls := "RingPurses$Reader", name := "readSum", desc := "(LRingPurses$Law;)V" } : Jvm.MethodName) prog_7_method_9_code (5 : Nat) (Option.none : Option Jvm.ClassFile.FieldType)), (Jvm.Cond.methodLink "RingPurses$Reader" (136 : Nat) ({ cls := "RingPurses$Reader", name := "readUnit", desc := "(LRingPurses$Law;I)V" } : Jvm.MethodName)), (Jvm.Cond.privateMethod ({ cls := "RingPurses$Reader", name := "readUnit", desc := "(LRingPurses$Law;I)V" } : Jvm.MethodName)), (Jvm.Cond.instanceMethod ({ cls := "RingPurses$Reader", name := "readUnit", desc := "(LRingPurses$Law;I)V" } : Jvm.MethodName)), (Jvm.Cond.code ({ cls := "RingPurses$Reader", name := "readUnit", desc := "(LRingPurses$Law;I)V" } : Jvm.MethodName) prog_7_method_10_code (3 : Nat) (Option.none : Option Jvm.ClassFile.FieldType)), (Jvm.Cond.methodLink "RingPurses$Reader" (152 : Nat) ({ cls := "RingPurses$Reader", name := "await", desc := "(I)V" } : Jvm.MethodName)), (Jvm.Cond.privateMethod ({ cls := "RingPurses$Reader", name := "await", desc := "(I)V" } : Jvm.MethodName)), (Jvm.Cond.instanceMethod ({ cls := "RingPurses$Reader", name := "await", desc := "(I)V" } : Jvm.MethodName)), (Jvm.Cond.code ({ cls := "RingPurses$Reader", name := "await", desc := "(I)V" } : Jvm.MethodName) prog_7_method_13_code (2 : Nat) (Option.none : Option Jvm.ClassFile.FieldType))]
set_option maxRecDepth 20000 in
theorem zche_3_6 : (tables_1_3.drop 96).take 16 = zch_3_6 := rfl
def zch_3_7 : List Jvm.Cond := [(Jvm.Cond.methodLink "RingPurses$Reader" (121 : Nat) ({ cls := "RingPurses$Law", name := "add", desc := "(II)V" } : Jvm.MethodName)), (Jvm.Cond.methodLink "RingPurses$Reader" (140 : Nat) ({ cls := "RingPurses$Reader", name := "readClose", desc := "(LRingPurses$Law;)V" } : Jvm.MethodName)), (Jvm.Cond.privateMethod ({ cls := "RingPurses$Reader", name := "readClose", desc := "(LRingPurses$Law;)V" } : Jvm.MethodName)), (Jvm.Cond.instanceMethod ({ cls := "RingPurses$Reader", name := "readClose", desc := "(LRingPurses$Law;)V" } : Jvm.MethodName)), (Jvm.Cond.code ({ cls := "RingPurses$Reader", name := "readClose", desc := "(LRingPurses$Law;)V" } : Jvm.MethodName) prog_7_method_11_code (2 : Nat) (Option.none : Option Jvm.ClassFile.FieldType)), (Jvm.Cond.methodLink "RingPurses$Reader" (149 : Nat) ({ cls := "RingPurses$Reader", name := "putSigns", desc := "(LRingPurses$Law;I)V" } : Jvm.MethodName)), (Jvm.Cond.privateMethod ({ cls := "RingPurses$Reader", name := "putSigns", desc := "(LRingPurses$Law;I)V" } : Jvm.MethodName)), (Jvm.Cond.instanceMethod ({ cls := "RingPurses$Reader", name := "putSigns", desc := "(LRingPurses$Law;I)V" } : Jvm.MethodName)), (Jvm.Cond.code ({ cls := "RingPurses$Reader", name := "putSigns", desc := "(LRingPurses$Law;I)V" } : Jvm.MethodName) prog_7_method_14_code (4 : Nat) (Option.none : Option Jvm.ClassFile.FieldType)), (Jvm.Cond.methodLink "RingPurses$Reader" (155 : Nat) ({ cls := "java/lang/Math", name := "min", desc := "(II)I" } : Jvm.MethodName)), (Jvm.Cond.static ({ cls := "java/lang/Math", name := "min", desc := "(II)I" } : Jvm.MethodName)), (Jvm.Cond.code ({ cls := "java/lang/Math", name := "min", desc := "(II)I" } : Jvm.MethodName) prog_15_method_69_code (2 : Nat) (Option.some Jvm.ClassFile.FieldType.int)), (Jvm.Cond.methodLink "RingPurses$Reader" (143 : Nat) ({ cls := "RingPurses$Reader", name := "bond", desc := "(I)I" } : Jvm.MethodName)), (Jvm.Cond.static ({ cls := "RingPurses$Reader", name := "bond", desc := "(I)I" } : Jvm.MethodName)), (Jvm.Cond.code ({ cls := "RingPurses$Reader", name := "bond", desc := "(I)I" } : Jvm.MethodName) prog_7_method_15_code (1 : Nat) (Option.some Jvm.ClassFile.FieldType.int)), (Jvm.Cond.methodLink "RingPurses$Reader" (146 : Nat) ({ cls := "RingPurses$Reader", name := "readSign", desc := "(LRingPurses$Law;I)V" } : Jvm.MethodName))]
set_option maxRecDepth 20000 in
theorem zche_3_7 : (tables_1_3.drop 112).take 16 = zch_3_7 := rfl
def zch_3_8 : List Jvm.Cond := [(Jvm.Cond.privateMethod ({ cls := "RingPurses$Reader", name := "readSign", desc := "(LRingPurses$Law;I)V" } : Jvm.MethodName)), (Jvm.Cond.instanceMethod ({ cls := "RingPurses$Reader", name := "readSign", desc := "(LRingPurses$Law;I)V" } : Jvm.MethodName)), (Jvm.Cond.code ({ cls := "RingPurses$Reader", name := "readSign", desc := "(LRingPurses$Law;I)V" } : Jvm.MethodName) prog_7_method_12_code (3 : Nat) (Option.none : Option Jvm.ClassFile.FieldType)), (Jvm.Cond.methodLink "RingPurses$Reader" (127 : Nat) ({ cls := "RingPurses$Law", name := "leadHere", desc := "(I)V" } : Jvm.MethodName)), (Jvm.Cond.instanceMethod ({ cls := "RingPurses$Law", name := "leadHere", desc := "(I)V" } : Jvm.MethodName)), (Jvm.Cond.selects "RingPurses$Law" ({ cls := "RingPurses$Law", name := "leadHere", desc := "(I)V" } : Jvm.MethodName) ({ cls := "RingPurses$Law", name := "leadHere", desc := "(I)V" } : Jvm.MethodName)), (Jvm.Cond.code ({ cls := "RingPurses$Law", name := "leadHere", desc := "(I)V" } : Jvm.MethodName) prog_5_method_6_code (2 : Nat) (Option.none : Option Jvm.ClassFile.FieldType)), (Jvm.Cond.methodLink "RingPurses$Reader" (81 : Nat) ({ cls := "RingPurses$Reader", name := "tellShared", desc := "(LRingPurses$Rules;)V" } : Jvm.MethodName)), (Jvm.Cond.privateMethod ({ cls := "RingPurses$Reader", name := "tellShared", desc := "(LRingPurses$Rules;)V" } : Jvm.MethodName)), (Jvm.Cond.instanceMethod ({ cls := "RingPurses$Reader", name := "tellShared", desc := "(LRingPurses$Rules;)V" } : Jvm.MethodName)), (Jvm.Cond.code ({ cls := "RingPurses$Reader", name := "tellShared", desc := "(LRingPurses$Rules;)V" } : Jvm.MethodName) prog_7_method_5_code (5 : Nat) (Option.none : Option Jvm.ClassFile.FieldType)), (Jvm.Cond.methodLink "RingPurses$Reader" (105 : Nat) ({ cls := "RingPurses$Rules", name := "share", desc := "(II)V" } : Jvm.MethodName)), (Jvm.Cond.instanceMethod ({ cls := "RingPurses$Rules", name := "share", desc := "(II)V" } : Jvm.MethodName)), (Jvm.Cond.selects "RingPurses$Rules" ({ cls := "RingPurses$Rules", name := "share", desc := "(II)V" } : Jvm.MethodName) ({ cls := "RingPurses$Rules", name := "share", desc := "(II)V" } : Jvm.MethodName)), (Jvm.Cond.code ({ cls := "RingPurses$Rules", name := "share", desc := "(II)V" } : Jvm.MethodName) prog_9_method_4_code (3 : Nat) (Option.none : Option Jvm.ClassFile.FieldType)), (Jvm.Cond.methodLink "RingPurses$Reader" (84 : Nat) ({ cls := "RingPurses$Reader", name := "tellSeed", desc := "(LRingPurses$Rules;)V" } : Jvm.MethodName))]
set_option maxRecDepth 20000 in
theorem zche_3_8 : (tables_1_3.drop 128).take 16 = zch_3_8 := rfl
def zch_3_9 : List Jvm.Cond := [(Jvm.Cond.privateMethod ({ cls := "RingPurses$Reader", name := "tellSeed", desc := "(LRingPurses$Rules;)V" } : Jvm.MethodName)), (Jvm.Cond.instanceMethod ({ cls := "RingPurses$Reader", name := "tellSeed", desc := "(LRingPurses$Rules;)V" } : Jvm.MethodName)), (Jvm.Cond.code ({ cls := "RingPurses$Reader", name := "tellSeed", desc := "(LRingPurses$Rules;)V" } : Jvm.MethodName) prog_7_method_6_code (3 : Nat) (Option.none : Option Jvm.ClassFile.FieldType)), (Jvm.Cond.methodLink "RingPurses" (94 : Nat) ({ cls := "RingPurses$Reader", name := "faultPlace", desc := "()I" } : Jvm.MethodName)), (Jvm.Cond.instanceMethod ({ cls := "RingPurses$Reader", name := "faultPlace", desc := "()I" } : Jvm.MethodName)), (Jvm.Cond.selects "RingPurses$Reader" ({ cls := "RingPurses$Reader", name := "faultPlace", desc := "()I" } : Jvm.MethodName) ({ cls := "RingPurses$Reader", name := "faultPlace", desc := "()I" } : Jvm.MethodName)), (Jvm.Cond.code ({ cls := "RingPurses$Reader", name := "faultPlace", desc := "()I" } : Jvm.MethodName) prog_7_method_2_code (1 : Nat) (Option.some Jvm.ClassFile.FieldType.int)), (Jvm.Cond.methodLink "RingPurses" (97 : Nat) ({ cls := "RingPurses", name := "goOnFromSpare", desc := "()V" } : Jvm.MethodName)), (Jvm.Cond.privateMethod ({ cls := "RingPurses", name := "goOnFromSpare", desc := "()V" } : Jvm.MethodName)), (Jvm.Cond.instanceMethod ({ cls := "RingPurses", name := "goOnFromSpare", desc := "()V" } : Jvm.MethodName)), (Jvm.Cond.code ({ cls := "RingPurses", name := "goOnFromSpare", desc := "()V" } : Jvm.MethodName) prog_1_method_5_code (2 : Nat) (Option.none : Option Jvm.ClassFile.FieldType)), (Jvm.Cond.methodLink "RingPurses" (100 : Nat) ({ cls := "RingPurses$Kept", name := "clear", desc := "()V" } : Jvm.MethodName)), (Jvm.Cond.instanceMethod ({ cls := "RingPurses$Kept", name := "clear", desc := "()V" } : Jvm.MethodName)), (Jvm.Cond.selects "RingPurses$Kept" ({ cls := "RingPurses$Kept", name := "clear", desc := "()V" } : Jvm.MethodName) ({ cls := "RingPurses$Kept", name := "clear", desc := "()V" } : Jvm.MethodName)), (Jvm.Cond.code ({ cls := "RingPurses$Kept", name := "clear", desc := "()V" } : Jvm.MethodName) prog_4_method_2_code (2 : Nat) (Option.none : Option Jvm.ClassFile.FieldType)), (Jvm.Cond.methodLink "RingPurses$Kept" (25 : Nat) ({ cls := "RingPurses$Kept", name := "forgetPast", desc := "()V" } : Jvm.MethodName))]
set_option maxRecDepth 20000 in
theorem zche_3_9 : (tables_1_3.drop 144).take 16 = zch_3_9 := rfl
def zch_3_10 : List Jvm.Cond := [(Jvm.Cond.instanceMethod ({ cls := "RingPurses$Kept", name := "forgetPast", desc := "()V" } : Jvm.MethodName)), (Jvm.Cond.selects "RingPurses$Kept" ({ cls := "RingPurses$Kept", name := "forgetPast", desc := "()V" } : Jvm.MethodName) ({ cls := "RingPurses$Kept", name := "forgetPast", desc := "()V" } : Jvm.MethodName)), (Jvm.Cond.code ({ cls := "RingPurses$Kept", name := "forgetPast", desc := "()V" } : Jvm.MethodName) prog_4_method_3_code (1 : Nat) (Option.none : Option Jvm.ClassFile.FieldType)), (Jvm.Cond.methodLink "RingPurses" (103 : Nat) ({ cls := "RingPurses$Told", name := "clear", desc := "()V" } : Jvm.MethodName)), (Jvm.Cond.instanceMethod ({ cls := "RingPurses$Told", name := "clear", desc := "()V" } : Jvm.MethodName)), (Jvm.Cond.selects "RingPurses$Told" ({ cls := "RingPurses$Told", name := "clear", desc := "()V" } : Jvm.MethodName) ({ cls := "RingPurses$Told", name := "clear", desc := "()V" } : Jvm.MethodName)), (Jvm.Cond.code ({ cls := "RingPurses$Told", name := "clear", desc := "()V" } : Jvm.MethodName) prog_12_method_2_code (1 : Nat) (Option.none : Option Jvm.ClassFile.FieldType)), (Jvm.Cond.methodLink "RingPursesLaw" (28 : Nat) ({ cls := "RingPurses", name := "place", desc := "()I" } : Jvm.MethodName)), (Jvm.Cond.instanceMethod ({ cls := "RingPurses", name := "place", desc := "()I" } : Jvm.MethodName)), (Jvm.Cond.selects "RingPurses" ({ cls := "RingPurses", name := "place", desc := "()I" } : Jvm.MethodName) ({ cls := "RingPurses", name := "place", desc := "()I" } : Jvm.MethodName)), (Jvm.Cond.code ({ cls := "RingPurses", name := "place", desc := "()I" } : Jvm.MethodName) prog_1_method_6_code (1 : Nat) (Option.some Jvm.ClassFile.FieldType.int)), (Jvm.Cond.methodLink "RingPursesLaw" (32 : Nat) ({ cls := "RingPurses", name := "house", desc := "(II)I" } : Jvm.MethodName)), (Jvm.Cond.instanceMethod ({ cls := "RingPurses", name := "house", desc := "(II)I" } : Jvm.MethodName)), (Jvm.Cond.selects "RingPurses" ({ cls := "RingPurses", name := "house", desc := "(II)I" } : Jvm.MethodName) ({ cls := "RingPurses", name := "house", desc := "(II)I" } : Jvm.MethodName)), (Jvm.Cond.code ({ cls := "RingPurses", name := "house", desc := "(II)I" } : Jvm.MethodName) prog_1_method_7_code (3 : Nat) (Option.some Jvm.ClassFile.FieldType.int)), (Jvm.Cond.methodLink "RingPurses" (104 : Nat) ({ cls := "RingPurses$Ring", name := "has", desc := "(I)Z" } : Jvm.MethodName))]
set_option maxRecDepth 20000 in
theorem zche_3_10 : (tables_1_3.drop 160).take 16 = zch_3_10 := rfl
def zch_3_11 : List Jvm.Cond := [(Jvm.Cond.instanceMethod ({ cls := "RingPurses$Ring", name := "has", desc := "(I)Z" } : Jvm.MethodName)), (Jvm.Cond.selects "RingPurses$Ring" ({ cls := "RingPurses$Ring", name := "has", desc := "(I)Z" } : Jvm.MethodName) ({ cls := "RingPurses$Ring", name := "has", desc := "(I)Z" } : Jvm.MethodName)), (Jvm.Cond.code ({ cls := "RingPurses$Ring", name := "has", desc := "(I)Z" } : Jvm.MethodName) prog_8_method_4_code (2 : Nat) (Option.some Jvm.ClassFile.FieldType.boolean)), (Jvm.Cond.methodLink "RingPurses" (115 : Nat) ({ cls := "RingPurses$Ring", name := "shown", desc := "(I)I" } : Jvm.MethodName)), (Jvm.Cond.instanceMethod ({ cls := "RingPurses$Ring", name := "shown", desc := "(I)I" } : Jvm.MethodName)), (Jvm.Cond.selects "RingPurses$Ring" ({ cls := "RingPurses$Ring", name := "shown", desc := "(I)I" } : Jvm.MethodName) ({ cls := "RingPurses$Ring", name := "shown", desc := "(I)I" } : Jvm.MethodName)), (Jvm.Cond.code ({ cls := "RingPurses$Ring", name := "shown", desc := "(I)I" } : Jvm.MethodName) prog_8_method_8_code (2 : Nat) (Option.some Jvm.ClassFile.FieldType.int)), (Jvm.Cond.methodLink "RingPurses" (119 : Nat) ({ cls := "RingPurses$Rules", name := "gapOf", desc := "(LRingPurses$Ring;I)I" } : Jvm.MethodName)), (Jvm.Cond.instanceMethod ({ cls := "RingPurses$Rules", name := "gapOf", desc := "(LRingPurses$Ring;I)I" } : Jvm.MethodName)), (Jvm.Cond.selects "RingPurses$Rules" ({ cls := "RingPurses$Rules", name := "gapOf", desc := "(LRingPurses$Ring;I)I" } : Jvm.MethodName) ({ cls := "RingPurses$Rules", name := "gapOf", desc := "(LRingPurses$Ring;I)I" } : Jvm.MethodName)), (Jvm.Cond.code ({ cls := "RingPurses$Rules", name := "gapOf", desc := "(LRingPurses$Ring;I)I" } : Jvm.MethodName) prog_9_method_5_code (3 : Nat) (Option.some Jvm.ClassFile.FieldType.int)), (Jvm.Cond.methodLink "RingPurses$Rules" (61 : Nat) ({ cls := "RingPurses$Ring", name := "has", desc := "(I)Z" } : Jvm.MethodName)), (Jvm.Cond.methodLink "RingPurses$Rules" (67 : Nat) ({ cls := "RingPurses$Rules", name := "look", desc := "(LRingPurses$Ring;IZ)V" } : Jvm.MethodName)), (Jvm.Cond.privateMethod ({ cls := "RingPurses$Rules", name := "look", desc := "(LRingPurses$Ring;IZ)V" } : Jvm.MethodName)), (Jvm.Cond.instanceMethod ({ cls := "RingPurses$Rules", name := "look", desc := "(LRingPurses$Ring;IZ)V" } : Jvm.MethodName)), (Jvm.Cond.code ({ cls := "RingPurses$Rules", name := "look", desc := "(LRingPurses$Ring;IZ)V" } : Jvm.MethodName) prog_9_method_7_code (9 : Nat) (Option.none : Option Jvm.ClassFile.FieldType))]
set_option maxRecDepth 20000 in
theorem zche_3_11 : (tables_1_3.drop 176).take 16 = zch_3_11 := rfl
def zch_3_12 : List Jvm.Cond := [(Jvm.Cond.methodLink "RingPurses$Rules" (88 : Nat) ({ cls := "RingPurses$Ring", name := "shown", desc := "(I)I" } : Jvm.MethodName)), (Jvm.Cond.methodLink "RingPurses$Rules" (92 : Nat) ({ cls := "java/lang/Math", name := "abs", desc := "(I)I" } : Jvm.MethodName)), (Jvm.Cond.static ({ cls := "java/lang/Math", name := "abs", desc := "(I)I" } : Jvm.MethodName)), (Jvm.Cond.code ({ cls := "java/lang/Math", name := "abs", desc := "(I)I" } : Jvm.MethodName) prog_15_method_59_code (1 : Nat) (Option.some Jvm.ClassFile.FieldType.int)), (Jvm.Cond.methodLink "RingPurses$Rules" (101 : Nat) ({ cls := "RingPurses$Rules", name := "lot", desc := "(I)I" } : Jvm.MethodName)), (Jvm.Cond.privateMethod ({ cls := "RingPurses$Rules", name := "lot", desc := "(I)I" } : Jvm.MethodName)), (Jvm.Cond.instanceMethod ({ cls := "RingPurses$Rules", name := "lot", desc := "(I)I" } : Jvm.MethodName)), (Jvm.Cond.code ({ cls := "RingPurses$Rules", name := "lot", desc := "(I)I" } : Jvm.MethodName) prog_9_method_8_code (4 : Nat) (Option.some Jvm.ClassFile.FieldType.int)), (Jvm.Cond.constant "RingPurses$Rules" (104 : Nat) (1103515245 : Int32)), (Jvm.Cond.methodLink "RingPurses" (123 : Nat) ({ cls := "RingPurses$Rules", name := "wanted", desc := "(LRingPurses$Ring;I)I" } : Jvm.MethodName)), (Jvm.Cond.instanceMethod ({ cls := "RingPurses$Rules", name := "wanted", desc := "(LRingPurses$Ring;I)I" } : Jvm.MethodName)), (Jvm.Cond.selects "RingPurses$Rules" ({ cls := "RingPurses$Rules", name := "wanted", desc := "(LRingPurses$Ring;I)I" } : Jvm.MethodName) ({ cls := "RingPurses$Rules", name := "wanted", desc := "(LRingPurses$Ring;I)I" } : Jvm.MethodName)), (Jvm.Cond.code ({ cls := "RingPurses$Rules", name := "wanted", desc := "(LRingPurses$Ring;I)I" } : Jvm.MethodName) prog_9_method_6_code (3 : Nat) (Option.some Jvm.ClassFile.FieldType.int)), (Jvm.Cond.methodLink "RingPurses$Rules" (74 : Nat) ({ cls := "RingPurses$Law", name := "value", desc := "([I)I" } : Jvm.MethodName)), (Jvm.Cond.instanceMethod ({ cls := "RingPurses$Law", name := "value", desc := "([I)I" } : Jvm.MethodName)), (Jvm.Cond.selects "RingPurses$Law" ({ cls := "RingPurses$Law", name := "value", desc := "([I)I" } : Jvm.MethodName) ({ cls := "RingPurses$Law", name := "value", desc := "([I)I" } : Jvm.MethodName))]
set_option maxRecDepth 20000 in
theorem zche_3_12 : (tables_1_3.drop 192).take 16 = zch_3_12 := rfl
def zch_3_13 : List Jvm.Cond := [(Jvm.Cond.code ({ cls := "RingPurses$Law", name := "value", desc := "([I)I" } : Jvm.MethodName) prog_5_method_7_code (9 : Nat) (Option.some Jvm.ClassFile.FieldType.int)), (Jvm.Cond.methodLink "RingPurses$Law" (36 : Nat) ({ cls := "RingPurses$Law", name := "combined", desc := "(III)I" } : Jvm.MethodName)), (Jvm.Cond.static ({ cls := "RingPurses$Law", name := "combined", desc := "(III)I" } : Jvm.MethodName)), (Jvm.Cond.code ({ cls := "RingPurses$Law", name := "combined", desc := "(III)I" } : Jvm.MethodName) prog_5_method_8_code (3 : Nat) (Option.some Jvm.ClassFile.FieldType.int)), (Jvm.Cond.methodLink "RingPurses$Rules" (78 : Nat) ({ cls := "java/lang/Math", name := "min", desc := "(II)I" } : Jvm.MethodName)), (Jvm.Cond.methodLink "RingPurses$Rules" (84 : Nat) ({ cls := "java/lang/Math", name := "max", desc := "(II)I" } : Jvm.MethodName)), (Jvm.Cond.static ({ cls := "java/lang/Math", name := "max", desc := "(II)I" } : Jvm.MethodName)), (Jvm.Cond.code ({ cls := "java/lang/Math", name := "max", desc := "(II)I" } : Jvm.MethodName) prog_15_method_65_code (2 : Nat) (Option.some Jvm.ClassFile.FieldType.int)), (Jvm.Cond.methodLink "RingPursesLaw" (37 : Nat) ({ cls := "RingPurses", name := "run", desc := "(I)I" } : Jvm.MethodName)), (Jvm.Cond.instanceMethod ({ cls := "RingPurses", name := "run", desc := "(I)I" } : Jvm.MethodName)), (Jvm.Cond.selects "RingPurses" ({ cls := "RingPurses", name := "run", desc := "(I)I" } : Jvm.MethodName) ({ cls := "RingPurses", name := "run", desc := "(I)I" } : Jvm.MethodName)), (Jvm.Cond.code ({ cls := "RingPurses", name := "run", desc := "(I)I" } : Jvm.MethodName) prog_1_method_8_code (2 : Nat) (Option.some Jvm.ClassFile.FieldType.int)), (Jvm.Cond.methodLink "RingPurses" (133 : Nat) ({ cls := "RingPurses", name := "isEvenings", desc := "(I)Z" } : Jvm.MethodName)), (Jvm.Cond.static ({ cls := "RingPurses", name := "isEvenings", desc := "(I)Z" } : Jvm.MethodName)), (Jvm.Cond.code ({ cls := "RingPurses", name := "isEvenings", desc := "(I)Z" } : Jvm.MethodName) prog_1_method_35_code (1 : Nat) (Option.some Jvm.ClassFile.FieldType.boolean)), (Jvm.Cond.methodLink "RingPurses" (136 : Nat) ({ cls := "RingPurses$Kept", name := "note", desc := "(LRingPurses$Ring;)V" } : Jvm.MethodName))]
set_option maxRecDepth 20000 in
theorem zche_3_13 : (tables_1_3.drop 208).take 16 = zch_3_13 := rfl
def zch_3_14 : List Jvm.Cond := [(Jvm.Cond.instanceMethod ({ cls := "RingPurses$Kept", name := "note", desc := "(LRingPurses$Ring;)V" } : Jvm.MethodName)), (Jvm.Cond.selects "RingPurses$Kept" ({ cls := "RingPurses$Kept", name := "note", desc := "(LRingPurses$Ring;)V" } : Jvm.MethodName) ({ cls := "RingPurses$Kept", name := "note", desc := "(LRingPurses$Ring;)V" } : Jvm.MethodName)), (Jvm.Cond.code ({ cls := "RingPurses$Kept", name := "note", desc := "(LRingPurses$Ring;)V" } : Jvm.MethodName) prog_4_method_4_code (2 : Nat) (Option.none : Option Jvm.ClassFile.FieldType)), (Jvm.Cond.methodLink "RingPurses$Kept" (35 : Nat) ({ cls := "RingPurses$Ring", name := "copy", desc := "(LRingPurses$Ring;)V" } : Jvm.MethodName)), (Jvm.Cond.instanceMethod ({ cls := "RingPurses$Ring", name := "copy", desc := "(LRingPurses$Ring;)V" } : Jvm.MethodName)), (Jvm.Cond.selects "RingPurses$Ring" ({ cls := "RingPurses$Ring", name := "copy", desc := "(LRingPurses$Ring;)V" } : Jvm.MethodName) ({ cls := "RingPurses$Ring", name := "copy", desc := "(LRingPurses$Ring;)V" } : Jvm.MethodName)), (Jvm.Cond.code ({ cls := "RingPurses$Ring", name := "copy", desc := "(LRingPurses$Ring;)V" } : Jvm.MethodName) prog_8_method_3_code (3 : Nat) (Option.none : Option Jvm.ClassFile.FieldType)), (Jvm.Cond.methodLink "RingPurses" (143 : Nat) ({ cls := "RingPurses$Rules", name := "evenings", desc := "(LRingPurses$Ring;II)V" } : Jvm.MethodName)), (Jvm.Cond.instanceMethod ({ cls := "RingPurses$Rules", name := "evenings", desc := "(LRingPurses$Ring;II)V" } : Jvm.MethodName)), (Jvm.Cond.selects "RingPurses$Rules" ({ cls := "RingPurses$Rules", name := "evenings", desc := "(LRingPurses$Ring;II)V" } : Jvm.MethodName) ({ cls := "RingPurses$Rules", name := "evenings", desc := "(LRingPurses$Ring;II)V" } : Jvm.MethodName)), (Jvm.Cond.code ({ cls := "RingPurses$Rules", name := "evenings", desc := "(LRingPurses$Ring;II)V" } : Jvm.MethodName) prog_9_method_9_code (5 : Nat) (Option.none : Option Jvm.ClassFile.FieldType)), (Jvm.Cond.methodLink "RingPurses$Rules" (105 : Nat) ({ cls := "RingPurses$Rules", name := "evening", desc := "(LRingPurses$Ring;I)V" } : Jvm.MethodName)), (Jvm.Cond.instanceMethod ({ cls := "RingPurses$Rules", name := "evening", desc := "(LRingPurses$Ring;I)V" } : Jvm.MethodName)), (Jvm.Cond.selects "RingPurses$Rules" ({ cls := "RingPurses$Rules", name := "evening", desc := "(LRingPurses$Ring;I)V" } : Jvm.MethodName) ({ cls := "RingPurses$Rules", name := "evening", desc := "(LRingPurses$Ring;I)V" } : Jvm.MethodName)), (Jvm.Cond.code ({ cls := "RingPurses$Rules", name := "evening", desc := "(LRingPurses$Ring;I)V" } : Jvm.MethodName) prog_9_method_10_code (3 : Nat) (Option.none : Option Jvm.ClassFile.FieldType)), (Jvm.Cond.methodLink "RingPurses$Rules" (108 : Nat) ({ cls := "RingPurses$Rules", name := "earn", desc := "(LRingPurses$Ring;)V" } : Jvm.MethodName))]
set_option maxRecDepth 20000 in
theorem zche_3_14 : (tables_1_3.drop 224).take 16 = zch_3_14 := rfl
def zch_4_0 : List Jvm.Cond := [(Jvm.Cond.privateMethod ({ cls := "RingPurses$Rules", name := "earn", desc := "(LRingPurses$Ring;)V" } : Jvm.MethodName)), (Jvm.Cond.instanceMethod ({ cls := "RingPurses$Rules", name := "earn", desc := "(LRingPurses$Ring;)V" } : Jvm.MethodName)), (Jvm.Cond.code ({ cls := "RingPurses$Rules", name := "earn", desc := "(LRingPurses$Ring;)V" } : Jvm.MethodName) prog_9_method_11_code (3 : Nat) (Option.none : Option Jvm.ClassFile.FieldType)), (Jvm.Cond.methodLink "RingPurses$Rules" (121 : Nat) ({ cls := "RingPurses$Ring", name := "earn", desc := "(II)V" } : Jvm.MethodName)), (Jvm.Cond.instanceMethod ({ cls := "RingPurses$Ring", name := "earn", desc := "(II)V" } : Jvm.MethodName)), (Jvm.Cond.selects "RingPurses$Ring" ({ cls := "RingPurses$Ring", name := "earn", desc := "(II)V" } : Jvm.MethodName) ({ cls := "RingPurses$Ring", name := "earn", desc := "(II)V" } : Jvm.MethodName)), (Jvm.Cond.code ({ cls := "RingPurses$Ring", name := "earn", desc := "(II)V" } : Jvm.MethodName) prog_8_method_12_code (3 : Nat) (Option.none : Option Jvm.ClassFile.FieldType)), (Jvm.Cond.methodLink "RingPurses$Ring" (48 : Nat) ({ cls := "RingPurses$Ring", name := "has", desc := "(I)Z" } : Jvm.MethodName)), (Jvm.Cond.methodLink "RingPurses$Rules" (112 : Nat) ({ cls := "RingPurses$Rules", name := "payByTurns", desc := "(LRingPurses$Ring;I)V" } : Jvm.MethodName)), (Jvm.Cond.instanceMethod ({ cls := "RingPurses$Rules", name := "payByTurns", desc := "(LRingPurses$Ring;I)V" } : Jvm.MethodName)), (Jvm.Cond.selects "RingPurses$Rules" ({ cls := "RingPurses$Rules", name := "payByTurns", desc := "(LRingPurses$Ring;I)V" } : Jvm.MethodName) ({ cls := "RingPurses$Rules", name := "payByTurns", desc := "(LRingPurses$Ring;I)V" } : Jvm.MethodName)), (Jvm.Cond.code ({ cls := "RingPurses$Rules", name := "payByTurns", desc := "(LRingPurses$Ring;I)V" } : Jvm.MethodName) prog_9_method_13_code (4 : Nat) (Option.none : Option Jvm.ClassFile.FieldType)), (Jvm.Cond.methodLink "RingPurses$Rules" (124 : Nat) ({ cls := "RingPurses$Rules", name := "wanted", desc := "(LRingPurses$Ring;I)I" } : Jvm.MethodName)), (Jvm.Cond.methodLink "RingPurses$Rules" (128 : Nat) ({ cls := "RingPurses$Ring", name := "pay", desc := "(II)V" } : Jvm.MethodName)), (Jvm.Cond.instanceMethod ({ cls := "RingPurses$Ring", name := "pay", desc := "(II)V" } : Jvm.MethodName)), (Jvm.Cond.selects "RingPurses$Ring" ({ cls := "RingPurses$Ring", name := "pay", desc := "(II)V" } : Jvm.MethodName) ({ cls := "RingPurses$Ring", name := "pay", desc := "(II)V" } : Jvm.MethodName))]
set_option maxRecDepth 20000 in
theorem zche_4_0 : (tables_1_4.drop 0).take 16 = zch_4_0 := rfl
def zch_4_1 : List Jvm.Cond := [(Jvm.Cond.code ({ cls := "RingPurses$Ring", name := "pay", desc := "(II)V" } : Jvm.MethodName) prog_8_method_13_code (3 : Nat) (Option.none : Option Jvm.ClassFile.FieldType)), (Jvm.Cond.methodLink "RingPurses$Rules" (115 : Nat) ({ cls := "RingPurses$Rules", name := "payAtOnce", desc := "(LRingPurses$Ring;)V" } : Jvm.MethodName)), (Jvm.Cond.privateMethod ({ cls := "RingPurses$Rules", name := "payAtOnce", desc := "(LRingPurses$Ring;)V" } : Jvm.MethodName)), (Jvm.Cond.instanceMethod ({ cls := "RingPurses$Rules", name := "payAtOnce", desc := "(LRingPurses$Ring;)V" } : Jvm.MethodName)), (Jvm.Cond.code ({ cls := "RingPurses$Rules", name := "payAtOnce", desc := "(LRingPurses$Ring;)V" } : Jvm.MethodName) prog_9_method_12_code (3 : Nat) (Option.none : Option Jvm.ClassFile.FieldType)), (Jvm.Cond.methodLink "RingPurses$Rules" (118 : Nat) ({ cls := "RingPurses$Ring", name := "sharePot", desc := "(I)V" } : Jvm.MethodName)), (Jvm.Cond.instanceMethod ({ cls := "RingPurses$Ring", name := "sharePot", desc := "(I)V" } : Jvm.MethodName)), (Jvm.Cond.selects "RingPurses$Ring" ({ cls := "RingPurses$Ring", name := "sharePot", desc := "(I)V" } : Jvm.MethodName) ({ cls := "RingPurses$Ring", name := "sharePot", desc := "(I)V" } : Jvm.MethodName)), (Jvm.Cond.code ({ cls := "RingPurses$Ring", name := "sharePot", desc := "(I)V" } : Jvm.MethodName) prog_8_method_14_code (4 : Nat) (Option.none : Option Jvm.ClassFile.FieldType)), (Jvm.Cond.methodLink "RingPurses$Ring" (61 : Nat) ({ cls := "RingPurses$Ring", name := "mostPaying", desc := "()I" } : Jvm.MethodName)), (Jvm.Cond.privateMethod ({ cls := "RingPurses$Ring", name := "mostPaying", desc := "()I" } : Jvm.MethodName)), (Jvm.Cond.instanceMethod ({ cls := "RingPurses$Ring", name := "mostPaying", desc := "()I" } : Jvm.MethodName)), (Jvm.Cond.code ({ cls := "RingPurses$Ring", name := "mostPaying", desc := "()I" } : Jvm.MethodName) prog_8_method_15_code (3 : Nat) (Option.some Jvm.ClassFile.FieldType.int)), (Jvm.Cond.methodLink "RingPurses$Ring" (65 : Nat) ({ cls := "RingPurses$Ring", name := "earn", desc := "(II)V" } : Jvm.MethodName)), (Jvm.Cond.methodLink "RingPursesLaw" (41 : Nat) ({ cls := "RingPurses", name := "give", desc := "(III)Z" } : Jvm.MethodName)), (Jvm.Cond.instanceMethod ({ cls := "RingPurses", name := "give", desc := "(III)Z" } : Jvm.MethodName))]
set_option maxRecDepth 20000 in
theorem zche_4_1 : (tables_1_4.drop 16).take 16 = zch_4_1 := rfl
def zch_4_2 : List Jvm.Cond := [(Jvm.Cond.selects "RingPurses" ({ cls := "RingPurses", name := "give", desc := "(III)Z" } : Jvm.MethodName) ({ cls := "RingPurses", name := "give", desc := "(III)Z" } : Jvm.MethodName)), (Jvm.Cond.code ({ cls := "RingPurses", name := "give", desc := "(III)Z" } : Jvm.MethodName) prog_1_method_9_code (4 : Nat) (Option.some Jvm.ClassFile.FieldType.boolean)), (Jvm.Cond.methodLink "RingPurses" (150 : Nat) ({ cls := "RingPurses$Ring", name := "move", desc := "(III)V" } : Jvm.MethodName)), (Jvm.Cond.instanceMethod ({ cls := "RingPurses$Ring", name := "move", desc := "(III)V" } : Jvm.MethodName)), (Jvm.Cond.selects "RingPurses$Ring" ({ cls := "RingPurses$Ring", name := "move", desc := "(III)V" } : Jvm.MethodName) ({ cls := "RingPurses$Ring", name := "move", desc := "(III)V" } : Jvm.MethodName)), (Jvm.Cond.code ({ cls := "RingPurses$Ring", name := "move", desc := "(III)V" } : Jvm.MethodName) prog_8_method_11_code (4 : Nat) (Option.none : Option Jvm.ClassFile.FieldType)), (Jvm.Cond.methodLink "RingPursesLaw" (46 : Nat) ({ cls := "RingPurses", name := "hide", desc := "(II)Z" } : Jvm.MethodName)), (Jvm.Cond.instanceMethod ({ cls := "RingPurses", name := "hide", desc := "(II)Z" } : Jvm.MethodName)), (Jvm.Cond.selects "RingPurses" ({ cls := "RingPurses", name := "hide", desc := "(II)Z" } : Jvm.MethodName) ({ cls := "RingPurses", name := "hide", desc := "(II)Z" } : Jvm.MethodName)), (Jvm.Cond.code ({ cls := "RingPurses", name := "hide", desc := "(II)Z" } : Jvm.MethodName) prog_1_method_10_code (3 : Nat) (Option.some Jvm.ClassFile.FieldType.boolean)), (Jvm.Cond.methodLink "RingPursesLaw" (51 : Nat) ({ cls := "RingPurses", name := "grab", desc := "(I)I" } : Jvm.MethodName)), (Jvm.Cond.instanceMethod ({ cls := "RingPurses", name := "grab", desc := "(I)I" } : Jvm.MethodName)), (Jvm.Cond.selects "RingPurses" ({ cls := "RingPurses", name := "grab", desc := "(I)I" } : Jvm.MethodName) ({ cls := "RingPurses", name := "grab", desc := "(I)I" } : Jvm.MethodName)), (Jvm.Cond.code ({ cls := "RingPurses", name := "grab", desc := "(I)I" } : Jvm.MethodName) prog_1_method_11_code (3 : Nat) (Option.some Jvm.ClassFile.FieldType.int)), (Jvm.Cond.methodLink "RingPursesLaw" (55 : Nat) ({ cls := "RingPurses", name := "build", desc := "(II)I" } : Jvm.MethodName)), (Jvm.Cond.instanceMethod ({ cls := "RingPurses", name := "build", desc := "(II)I" } : Jvm.MethodName))]
set_option maxRecDepth 20000 in
theorem zche_4_2 : (tables_1_4.drop 32).take 16 = zch_4_2 := rfl
def zch_4_3 : List Jvm.Cond := [(Jvm.Cond.selects "RingPurses" ({ cls := "RingPurses", name := "build", desc := "(II)I" } : Jvm.MethodName) ({ cls := "RingPurses", name := "build", desc := "(II)I" } : Jvm.MethodName)), (Jvm.Cond.code ({ cls := "RingPurses", name := "build", desc := "(II)I" } : Jvm.MethodName) prog_1_method_12_code (3 : Nat) (Option.some Jvm.ClassFile.FieldType.int)), (Jvm.Cond.methodLink "RingPurses" (160 : Nat) ({ cls := "RingPurses$Ring", name := "isFull", desc := "()Z" } : Jvm.MethodName)), (Jvm.Cond.methodLink "RingPurses" (164 : Nat) ({ cls := "RingPurses", name := "isPurse", desc := "(I)Z" } : Jvm.MethodName)), (Jvm.Cond.static ({ cls := "RingPurses", name := "isPurse", desc := "(I)Z" } : Jvm.MethodName)), (Jvm.Cond.code ({ cls := "RingPurses", name := "isPurse", desc := "(I)Z" } : Jvm.MethodName) prog_1_method_36_code (1 : Nat) (Option.some Jvm.ClassFile.FieldType.boolean)), (Jvm.Cond.methodLink "RingPurses" (167 : Nat) ({ cls := "RingPurses$Ring", name := "insert", desc := "(II)V" } : Jvm.MethodName)), (Jvm.Cond.methodLink "RingPursesLaw" (59 : Nat) ({ cls := "RingPurses", name := "burn", desc := "(I)I" } : Jvm.MethodName)), (Jvm.Cond.instanceMethod ({ cls := "RingPurses", name := "burn", desc := "(I)I" } : Jvm.MethodName)), (Jvm.Cond.selects "RingPurses" ({ cls := "RingPurses", name := "burn", desc := "(I)I" } : Jvm.MethodName) ({ cls := "RingPurses", name := "burn", desc := "(I)I" } : Jvm.MethodName)), (Jvm.Cond.code ({ cls := "RingPurses", name := "burn", desc := "(I)I" } : Jvm.MethodName) prog_1_method_13_code (3 : Nat) (Option.some Jvm.ClassFile.FieldType.int)), (Jvm.Cond.methodLink "RingPurses" (171 : Nat) ({ cls := "RingPurses$Ring", name := "remove", desc := "(I)V" } : Jvm.MethodName)), (Jvm.Cond.instanceMethod ({ cls := "RingPurses$Ring", name := "remove", desc := "(I)V" } : Jvm.MethodName)), (Jvm.Cond.selects "RingPurses$Ring" ({ cls := "RingPurses$Ring", name := "remove", desc := "(I)V" } : Jvm.MethodName) ({ cls := "RingPurses$Ring", name := "remove", desc := "(I)V" } : Jvm.MethodName)), (Jvm.Cond.code ({ cls := "RingPurses$Ring", name := "remove", desc := "(I)V" } : Jvm.MethodName) prog_8_method_17_code (3 : Nat) (Option.none : Option Jvm.ClassFile.FieldType)), (Jvm.Cond.methodLink "RingPursesLaw" (63 : Nat) ({ cls := "RingPurses", name := "join", desc := "(I)I" } : Jvm.MethodName))]
set_option maxRecDepth 20000 in
theorem zche_4_3 : (tables_1_4.drop 48).take 16 = zch_4_3 := rfl
def zch_4_4 : List Jvm.Cond := [(Jvm.Cond.instanceMethod ({ cls := "RingPurses", name := "join", desc := "(I)I" } : Jvm.MethodName)), (Jvm.Cond.selects "RingPurses" ({ cls := "RingPurses", name := "join", desc := "(I)I" } : Jvm.MethodName) ({ cls := "RingPurses", name := "join", desc := "(I)I" } : Jvm.MethodName)), (Jvm.Cond.code ({ cls := "RingPurses", name := "join", desc := "(I)I" } : Jvm.MethodName) prog_1_method_14_code (4 : Nat) (Option.some Jvm.ClassFile.FieldType.int)), (Jvm.Cond.methodLink "RingPurses" (178 : Nat) ({ cls := "RingPurses$Ring", name := "merge", desc := "(II)V" } : Jvm.MethodName)), (Jvm.Cond.instanceMethod ({ cls := "RingPurses$Ring", name := "merge", desc := "(II)V" } : Jvm.MethodName)), (Jvm.Cond.selects "RingPurses$Ring" ({ cls := "RingPurses$Ring", name := "merge", desc := "(II)V" } : Jvm.MethodName) ({ cls := "RingPurses$Ring", name := "merge", desc := "(II)V" } : Jvm.MethodName)), (Jvm.Cond.code ({ cls := "RingPurses$Ring", name := "merge", desc := "(II)V" } : Jvm.MethodName) prog_8_method_18_code (3 : Nat) (Option.none : Option Jvm.ClassFile.FieldType)), (Jvm.Cond.methodLink "RingPurses$Ring" (75 : Nat) ({ cls := "RingPurses$Ring", name := "remove", desc := "(I)V" } : Jvm.MethodName)), (Jvm.Cond.methodLink "RingPurses" (181 : Nat) ({ cls := "RingPurses$Ring", name := "purseOf", desc := "(I)I" } : Jvm.MethodName)), (Jvm.Cond.instanceMethod ({ cls := "RingPurses$Ring", name := "purseOf", desc := "(I)I" } : Jvm.MethodName)), (Jvm.Cond.selects "RingPurses$Ring" ({ cls := "RingPurses$Ring", name := "purseOf", desc := "(I)I" } : Jvm.MethodName) ({ cls := "RingPurses$Ring", name := "purseOf", desc := "(I)I" } : Jvm.MethodName)), (Jvm.Cond.code ({ cls := "RingPurses$Ring", name := "purseOf", desc := "(I)I" } : Jvm.MethodName) prog_8_method_6_code (2 : Nat) (Option.some Jvm.ClassFile.FieldType.int)), (Jvm.Cond.methodLink "RingPursesLaw" (67 : Nat) ({ cls := "RingPurses", name := "undo", desc := "()Z" } : Jvm.MethodName)), (Jvm.Cond.instanceMethod ({ cls := "RingPurses", name := "undo", desc := "()Z" } : Jvm.MethodName)), (Jvm.Cond.selects "RingPurses" ({ cls := "RingPurses", name := "undo", desc := "()Z" } : Jvm.MethodName) ({ cls := "RingPurses", name := "undo", desc := "()Z" } : Jvm.MethodName)), (Jvm.Cond.code ({ cls := "RingPurses", name := "undo", desc := "()Z" } : Jvm.MethodName) prog_1_method_15_code (1 : Nat) (Option.some Jvm.ClassFile.FieldType.boolean))]
set_option maxRecDepth 20000 in
theorem zche_4_4 : (tables_1_4.drop 64).take 16 = zch_4_4 := rfl
def zch_4_5 : List Jvm.Cond := [(Jvm.Cond.methodLink "RingPurses" (184 : Nat) ({ cls := "RingPurses$Kept", name := "takeBack", desc := "(LRingPurses$Ring;)Z" } : Jvm.MethodName)), (Jvm.Cond.instanceMethod ({ cls := "RingPurses$Kept", name := "takeBack", desc := "(LRingPurses$Ring;)Z" } : Jvm.MethodName)), (Jvm.Cond.selects "RingPurses$Kept" ({ cls := "RingPurses$Kept", name := "takeBack", desc := "(LRingPurses$Ring;)Z" } : Jvm.MethodName) ({ cls := "RingPurses$Kept", name := "takeBack", desc := "(LRingPurses$Ring;)Z" } : Jvm.MethodName)), (Jvm.Cond.code ({ cls := "RingPurses$Kept", name := "takeBack", desc := "(LRingPurses$Ring;)Z" } : Jvm.MethodName) prog_4_method_5_code (3 : Nat) (Option.some Jvm.ClassFile.FieldType.boolean)), (Jvm.Cond.methodLink "RingPursesLaw" (72 : Nat) ({ cls := "RingPurses", name := "becomes", desc := "(I)I" } : Jvm.MethodName)), (Jvm.Cond.instanceMethod ({ cls := "RingPurses", name := "becomes", desc := "(I)I" } : Jvm.MethodName)), (Jvm.Cond.selects "RingPurses" ({ cls := "RingPurses", name := "becomes", desc := "(I)I" } : Jvm.MethodName) ({ cls := "RingPurses", name := "becomes", desc := "(I)I" } : Jvm.MethodName)), (Jvm.Cond.code ({ cls := "RingPurses", name := "becomes", desc := "(I)I" } : Jvm.MethodName) prog_1_method_16_code (2 : Nat) (Option.some Jvm.ClassFile.FieldType.int)), (Jvm.Cond.methodLink "RingPurses" (188 : Nat) ({ cls := "RingPurses$Foresight", name := "period", desc := "(LRingPurses$Rules;LRingPurses$Ring;Z)I" } : Jvm.MethodName)), (Jvm.Cond.instanceMethod ({ cls := "RingPurses$Foresight", name := "period", desc := "(LRingPurses$Rules;LRingPurses$Ring;Z)I" } : Jvm.MethodName)), (Jvm.Cond.selects "RingPurses$Foresight" ({ cls := "RingPurses$Foresight", name := "period", desc := "(LRingPurses$Rules;LRingPurses$Ring;Z)I" } : Jvm.MethodName) ({ cls := "RingPurses$Foresight", name := "period", desc := "(LRingPurses$Rules;LRingPurses$Ring;Z)I" } : Jvm.MethodName)), (Jvm.Cond.code ({ cls := "RingPurses$Foresight", name := "period", desc := "(LRingPurses$Rules;LRingPurses$Ring;Z)I" } : Jvm.MethodName) prog_3_method_2_code (6 : Nat) (Option.some Jvm.ClassFile.FieldType.int)), (Jvm.Cond.methodLink "RingPurses$Foresight" (22 : Nat) ({ cls := "RingPurses$Foresight", name := "walk", desc := "(LRingPurses$Rules;LRingPurses$Ring;)V" } : Jvm.MethodName)), (Jvm.Cond.privateMethod ({ cls := "RingPurses$Foresight", name := "walk", desc := "(LRingPurses$Rules;LRingPurses$Ring;)V" } : Jvm.MethodName)), (Jvm.Cond.instanceMethod ({ cls := "RingPurses$Foresight", name := "walk", desc := "(LRingPurses$Rules;LRingPurses$Ring;)V" } : Jvm.MethodName)), (Jvm.Cond.code ({ cls := "RingPurses$Foresight", name := "walk", desc := "(LRingPurses$Rules;LRingPurses$Ring;)V" } : Jvm.MethodName) prog_3_method_3_code (6 : Nat) (Option.none : Option Jvm.ClassFile.FieldType))]
set_option maxRecDepth 20000 in
theorem zche_4_5 : (tables_1_4.drop 80).take 16 = zch_4_5 := rfl
def zch_4_6 : List Jvm.Cond := [(Jvm.Cond.methodLink "RingPurses$Foresight" (30 : Nat) ({ cls := "RingPurses$Ring", name := "copy", desc := "(LRingPurses$Ring;)V" } : Jvm.MethodName)), (Jvm.Cond.methodLink "RingPurses$Foresight" (38 : Nat) ({ cls := "RingPurses$Ring", name := "has", desc := "(I)Z" } : Jvm.MethodName)), (Jvm.Cond.methodLink "RingPurses$Foresight" (50 : Nat) ({ cls := "RingPurses$Rules", name := "evening", desc := "(LRingPurses$Ring;I)V" } : Jvm.MethodName)), (Jvm.Cond.methodLink "RingPurses$Foresight" (26 : Nat) ({ cls := "RingPurses$Foresight", name := "isSame", desc := "(II)Z" } : Jvm.MethodName)), (Jvm.Cond.privateMethod ({ cls := "RingPurses$Foresight", name := "isSame", desc := "(II)Z" } : Jvm.MethodName)), (Jvm.Cond.instanceMethod ({ cls := "RingPurses$Foresight", name := "isSame", desc := "(II)Z" } : Jvm.MethodName)), (Jvm.Cond.code ({ cls := "RingPurses$Foresight", name := "isSame", desc := "(II)Z" } : Jvm.MethodName) prog_3_method_4_code (6 : Nat) (Option.some Jvm.ClassFile.FieldType.boolean)), (Jvm.Cond.methodLink "RingPursesLaw" (76 : Nat) ({ cls := "RingPurses", name := "apart", desc := "(I)I" } : Jvm.MethodName)), (Jvm.Cond.instanceMethod ({ cls := "RingPurses", name := "apart", desc := "(I)I" } : Jvm.MethodName)), (Jvm.Cond.selects "RingPurses" ({ cls := "RingPurses", name := "apart", desc := "(I)I" } : Jvm.MethodName) ({ cls := "RingPurses", name := "apart", desc := "(I)I" } : Jvm.MethodName)), (Jvm.Cond.code ({ cls := "RingPurses", name := "apart", desc := "(I)I" } : Jvm.MethodName) prog_1_method_17_code (2 : Nat) (Option.some Jvm.ClassFile.FieldType.int)), (Jvm.Cond.methodLink "RingPurses" (192 : Nat) ({ cls := "RingPurses$Foresight", name := "spreadAfter", desc := "(LRingPurses$Rules;LRingPurses$Ring;I)I" } : Jvm.MethodName)), (Jvm.Cond.instanceMethod ({ cls := "RingPurses$Foresight", name := "spreadAfter", desc := "(LRingPurses$Rules;LRingPurses$Ring;I)I" } : Jvm.MethodName)), (Jvm.Cond.selects "RingPurses$Foresight" ({ cls := "RingPurses$Foresight", name := "spreadAfter", desc := "(LRingPurses$Rules;LRingPurses$Ring;I)I" } : Jvm.MethodName) ({ cls := "RingPurses$Foresight", name := "spreadAfter", desc := "(LRingPurses$Rules;LRingPurses$Ring;I)I" } : Jvm.MethodName)), (Jvm.Cond.code ({ cls := "RingPurses$Foresight", name := "spreadAfter", desc := "(LRingPurses$Rules;LRingPurses$Ring;I)I" } : Jvm.MethodName) prog_3_method_5_code (4 : Nat) (Option.some Jvm.ClassFile.FieldType.int)), (Jvm.Cond.methodLink "RingPurses$Foresight" (57 : Nat) ({ cls := "RingPurses$Rules", name := "evenings", desc := "(LRingPurses$Ring;II)V" } : Jvm.MethodName))]
set_option maxRecDepth 20000 in
theorem zche_4_6 : (tables_1_4.drop 96).take 16 = zch_4_6 := rfl
def zch_4_7 : List Jvm.Cond := [(Jvm.Cond.methodLink "RingPurses$Foresight" (61 : Nat) ({ cls := "RingPurses$Ring", name := "spread", desc := "()I" } : Jvm.MethodName)), (Jvm.Cond.instanceMethod ({ cls := "RingPurses$Ring", name := "spread", desc := "()I" } : Jvm.MethodName)), (Jvm.Cond.selects "RingPurses$Ring" ({ cls := "RingPurses$Ring", name := "spread", desc := "()I" } : Jvm.MethodName) ({ cls := "RingPurses$Ring", name := "spread", desc := "()I" } : Jvm.MethodName)), (Jvm.Cond.code ({ cls := "RingPurses$Ring", name := "spread", desc := "()I" } : Jvm.MethodName) prog_8_method_10_code (4 : Nat) (Option.some Jvm.ClassFile.FieldType.int)), (Jvm.Cond.methodLink "RingPurses$Ring" (52 : Nat) ({ cls := "java/lang/Math", name := "min", desc := "(II)I" } : Jvm.MethodName)), (Jvm.Cond.methodLink "RingPurses$Ring" (58 : Nat) ({ cls := "java/lang/Math", name := "max", desc := "(II)I" } : Jvm.MethodName)), (Jvm.Cond.methodLink "RingPursesLaw" (80 : Nat) ({ cls := "RingPurses", name := "even", desc := "(II)I" } : Jvm.MethodName)), (Jvm.Cond.instanceMethod ({ cls := "RingPurses", name := "even", desc := "(II)I" } : Jvm.MethodName)), (Jvm.Cond.selects "RingPurses" ({ cls := "RingPurses", name := "even", desc := "(II)I" } : Jvm.MethodName) ({ cls := "RingPurses", name := "even", desc := "(II)I" } : Jvm.MethodName)), (Jvm.Cond.code ({ cls := "RingPurses", name := "even", desc := "(II)I" } : Jvm.MethodName) prog_1_method_18_code (3 : Nat) (Option.some Jvm.ClassFile.FieldType.int)), (Jvm.Cond.methodLink "RingPurses" (196 : Nat) ({ cls := "RingPurses$Foresight", name := "evenAfter", desc := "(LRingPurses$Rules;LRingPurses$Ring;II)I" } : Jvm.MethodName)), (Jvm.Cond.instanceMethod ({ cls := "RingPurses$Foresight", name := "evenAfter", desc := "(LRingPurses$Rules;LRingPurses$Ring;II)I" } : Jvm.MethodName)), (Jvm.Cond.selects "RingPurses$Foresight" ({ cls := "RingPurses$Foresight", name := "evenAfter", desc := "(LRingPurses$Rules;LRingPurses$Ring;II)I" } : Jvm.MethodName) ({ cls := "RingPurses$Foresight", name := "evenAfter", desc := "(LRingPurses$Rules;LRingPurses$Ring;II)I" } : Jvm.MethodName)), (Jvm.Cond.code ({ cls := "RingPurses$Foresight", name := "evenAfter", desc := "(LRingPurses$Rules;LRingPurses$Ring;II)I" } : Jvm.MethodName) prog_3_method_6_code (6 : Nat) (Option.some Jvm.ClassFile.FieldType.int)), (Jvm.Cond.methodLink "RingPursesLaw" (84 : Nat) ({ cls := "RingPurses", name := "soonest", desc := "(I)I" } : Jvm.MethodName)), (Jvm.Cond.instanceMethod ({ cls := "RingPurses", name := "soonest", desc := "(I)I" } : Jvm.MethodName))]
set_option maxRecDepth 20000 in
theorem zche_4_7 : (tables_1_4.drop 112).take 16 = zch_4_7 := rfl
def zch_4_8 : List Jvm.Cond := [(Jvm.Cond.selects "RingPurses" ({ cls := "RingPurses", name := "soonest", desc := "(I)I" } : Jvm.MethodName) ({ cls := "RingPurses", name := "soonest", desc := "(I)I" } : Jvm.MethodName)), (Jvm.Cond.code ({ cls := "RingPurses", name := "soonest", desc := "(I)I" } : Jvm.MethodName) prog_1_method_19_code (2 : Nat) (Option.some Jvm.ClassFile.FieldType.int)), (Jvm.Cond.methodLink "RingPurses" (200 : Nat) ({ cls := "RingPurses$Foresight", name := "soonestSharing", desc := "(LRingPurses$Rules;LRingPurses$Ring;I)I" } : Jvm.MethodName)), (Jvm.Cond.instanceMethod ({ cls := "RingPurses$Foresight", name := "soonestSharing", desc := "(LRingPurses$Rules;LRingPurses$Ring;I)I" } : Jvm.MethodName)), (Jvm.Cond.selects "RingPurses$Foresight" ({ cls := "RingPurses$Foresight", name := "soonestSharing", desc := "(LRingPurses$Rules;LRingPurses$Ring;I)I" } : Jvm.MethodName) ({ cls := "RingPurses$Foresight", name := "soonestSharing", desc := "(LRingPurses$Rules;LRingPurses$Ring;I)I" } : Jvm.MethodName)), (Jvm.Cond.code ({ cls := "RingPurses$Foresight", name := "soonestSharing", desc := "(LRingPurses$Rules;LRingPurses$Ring;I)I" } : Jvm.MethodName) prog_3_method_7_code (8 : Nat) (Option.some Jvm.ClassFile.FieldType.int)), (Jvm.Cond.methodLink "RingPurses$Foresight" (65 : Nat) ({ cls := "RingPurses$Foresight", name := "evenAfter", desc := "(LRingPurses$Rules;LRingPurses$Ring;II)I" } : Jvm.MethodName)), (Jvm.Cond.methodLink "RingPursesLaw" (88 : Nat) ({ cls := "RingPurses", name := "start", desc := "(II)I" } : Jvm.MethodName)), (Jvm.Cond.instanceMethod ({ cls := "RingPurses", name := "start", desc := "(II)I" } : Jvm.MethodName)), (Jvm.Cond.selects "RingPurses" ({ cls := "RingPurses", name := "start", desc := "(II)I" } : Jvm.MethodName) ({ cls := "RingPurses", name := "start", desc := "(II)I" } : Jvm.MethodName)), (Jvm.Cond.code ({ cls := "RingPurses", name := "start", desc := "(II)I" } : Jvm.MethodName) prog_1_method_20_code (3 : Nat) (Option.some Jvm.ClassFile.FieldType.int)), (Jvm.Cond.methodLink "RingPurses" (203 : Nat) ({ cls := "RingPurses$Deals", name := "findStart", desc := "(LRingPurses$Rules;LRingPurses$Ring;I)V" } : Jvm.MethodName)), (Jvm.Cond.instanceMethod ({ cls := "RingPurses$Deals", name := "findStart", desc := "(LRingPurses$Rules;LRingPurses$Ring;I)V" } : Jvm.MethodName)), (Jvm.Cond.selects "RingPurses$Deals" ({ cls := "RingPurses$Deals", name := "findStart", desc := "(LRingPurses$Rules;LRingPurses$Ring;I)V" } : Jvm.MethodName) ({ cls := "RingPurses$Deals", name := "findStart", desc := "(LRingPurses$Rules;LRingPurses$Ring;I)V" } : Jvm.MethodName)), (Jvm.Cond.code ({ cls := "RingPurses$Deals", name := "findStart", desc := "(LRingPurses$Rules;LRingPurses$Ring;I)V" } : Jvm.MethodName) prog_2_method_2_code (5 : Nat) (Option.none : Option Jvm.ClassFile.FieldType)), (Jvm.Cond.methodLink "RingPurses$Deals" (25 : Nat) ({ cls := "RingPurses$Ring", name := "copy", desc := "(LRingPurses$Ring;)V" } : Jvm.MethodName))]
set_option maxRecDepth 20000 in
theorem zche_4_8 : (tables_1_4.drop 128).take 16 = zch_4_8 := rfl
def zch_4_9 : List Jvm.Cond := [(Jvm.Cond.methodLink "RingPurses$Deals" (29 : Nat) ({ cls := "RingPurses$Rules", name := "payByTurns", desc := "(LRingPurses$Ring;I)V" } : Jvm.MethodName)), (Jvm.Cond.methodLink "RingPurses$Deals" (35 : Nat) ({ cls := "RingPurses$Ring", name := "purseOf", desc := "(I)I" } : Jvm.MethodName)), (Jvm.Cond.methodLink "RingPurses$Deals" (39 : Nat) ({ cls := "RingPurses$Deals", name := "better", desc := "(III)V" } : Jvm.MethodName)), (Jvm.Cond.privateMethod ({ cls := "RingPurses$Deals", name := "better", desc := "(III)V" } : Jvm.MethodName)), (Jvm.Cond.instanceMethod ({ cls := "RingPurses$Deals", name := "better", desc := "(III)V" } : Jvm.MethodName)), (Jvm.Cond.code ({ cls := "RingPurses$Deals", name := "better", desc := "(III)V" } : Jvm.MethodName) prog_2_method_3_code (4 : Nat) (Option.none : Option Jvm.ClassFile.FieldType)), (Jvm.Cond.methodLink "RingPursesLaw" (92 : Nat) ({ cls := "RingPurses", name := "wealth", desc := "(III)I" } : Jvm.MethodName)), (Jvm.Cond.instanceMethod ({ cls := "RingPurses", name := "wealth", desc := "(III)I" } : Jvm.MethodName)), (Jvm.Cond.selects "RingPurses" ({ cls := "RingPurses", name := "wealth", desc := "(III)I" } : Jvm.MethodName) ({ cls := "RingPurses", name := "wealth", desc := "(III)I" } : Jvm.MethodName)), (Jvm.Cond.code ({ cls := "RingPurses", name := "wealth", desc := "(III)I" } : Jvm.MethodName) prog_1_method_21_code (4 : Nat) (Option.some Jvm.ClassFile.FieldType.int)), (Jvm.Cond.constant "RingPurses" (213 : Nat) (-1000000 : Int32)), (Jvm.Cond.methodLink "RingPurses" (214 : Nat) ({ cls := "RingPurses$Deals", name := "lessPaid", desc := "(LRingPurses$Rules;LRingPurses$Ring;III)I" } : Jvm.MethodName)), (Jvm.Cond.instanceMethod ({ cls := "RingPurses$Deals", name := "lessPaid", desc := "(LRingPurses$Rules;LRingPurses$Ring;III)I" } : Jvm.MethodName)), (Jvm.Cond.selects "RingPurses$Deals" ({ cls := "RingPurses$Deals", name := "lessPaid", desc := "(LRingPurses$Rules;LRingPurses$Ring;III)I" } : Jvm.MethodName) ({ cls := "RingPurses$Deals", name := "lessPaid", desc := "(LRingPurses$Rules;LRingPurses$Ring;III)I" } : Jvm.MethodName)), (Jvm.Cond.code ({ cls := "RingPurses$Deals", name := "lessPaid", desc := "(LRingPurses$Rules;LRingPurses$Ring;III)I" } : Jvm.MethodName) prog_2_method_4_code (7 : Nat) (Option.some Jvm.ClassFile.FieldType.int)), (Jvm.Cond.methodLink "RingPurses$Deals" (52 : Nat) ({ cls := "RingPurses$Rules", name := "evening", desc := "(LRingPurses$Ring;I)V" } : Jvm.MethodName))]
set_option maxRecDepth 20000 in
theorem zche_4_9 : (tables_1_4.drop 144).take 16 = zch_4_9 := rfl
def zch_4_10 : List Jvm.Cond := [(Jvm.Cond.methodLink "RingPurses$Deals" (55 : Nat) ({ cls := "RingPurses$Ring", name := "paidBy", desc := "(I)I" } : Jvm.MethodName)), (Jvm.Cond.instanceMethod ({ cls := "RingPurses$Ring", name := "paidBy", desc := "(I)I" } : Jvm.MethodName)), (Jvm.Cond.selects "RingPurses$Ring" ({ cls := "RingPurses$Ring", name := "paidBy", desc := "(I)I" } : Jvm.MethodName) ({ cls := "RingPurses$Ring", name := "paidBy", desc := "(I)I" } : Jvm.MethodName)), (Jvm.Cond.code ({ cls := "RingPurses$Ring", name := "paidBy", desc := "(I)I" } : Jvm.MethodName) prog_8_method_7_code (2 : Nat) (Option.some Jvm.ClassFile.FieldType.int)), (Jvm.Cond.methodLink "RingPurses$Deals" (58 : Nat) ({ cls := "RingPurses$Ring", name := "earn", desc := "(II)V" } : Jvm.MethodName)), (Jvm.Cond.methodLink "RingPursesLaw" (97 : Nat) ({ cls := "RingPurses", name := "free", desc := "(II)I" } : Jvm.MethodName)), (Jvm.Cond.instanceMethod ({ cls := "RingPurses", name := "free", desc := "(II)I" } : Jvm.MethodName)), (Jvm.Cond.selects "RingPurses" ({ cls := "RingPurses", name := "free", desc := "(II)I" } : Jvm.MethodName) ({ cls := "RingPurses", name := "free", desc := "(II)I" } : Jvm.MethodName)), (Jvm.Cond.code ({ cls := "RingPurses", name := "free", desc := "(II)I" } : Jvm.MethodName) prog_1_method_22_code (3 : Nat) (Option.some Jvm.ClassFile.FieldType.int)), (Jvm.Cond.methodLink "RingPurses" (218 : Nat) ({ cls := "RingPurses$Deals", name := "findLeastGift", desc := "(LRingPurses$Rules;LRingPurses$Ring;I)V" } : Jvm.MethodName)), (Jvm.Cond.instanceMethod ({ cls := "RingPurses$Deals", name := "findLeastGift", desc := "(LRingPurses$Rules;LRingPurses$Ring;I)V" } : Jvm.MethodName)), (Jvm.Cond.selects "RingPurses$Deals" ({ cls := "RingPurses$Deals", name := "findLeastGift", desc := "(LRingPurses$Rules;LRingPurses$Ring;I)V" } : Jvm.MethodName) ({ cls := "RingPurses$Deals", name := "findLeastGift", desc := "(LRingPurses$Rules;LRingPurses$Ring;I)V" } : Jvm.MethodName)), (Jvm.Cond.code ({ cls := "RingPurses$Deals", name := "findLeastGift", desc := "(LRingPurses$Rules;LRingPurses$Ring;I)V" } : Jvm.MethodName) prog_2_method_5_code (7 : Nat) (Option.none : Option Jvm.ClassFile.FieldType)), (Jvm.Cond.methodLink "RingPurses$Deals" (62 : Nat) ({ cls := "RingPurses$Rules", name := "wanted", desc := "(LRingPurses$Ring;I)I" } : Jvm.MethodName)), (Jvm.Cond.methodLink "RingPurses$Deals" (66 : Nat) ({ cls := "RingPurses$Ring", name := "shown", desc := "(I)I" } : Jvm.MethodName)), (Jvm.Cond.methodLink "RingPurses$Deals" (69 : Nat) ({ cls := "java/lang/Math", name := "min", desc := "(II)I" } : Jvm.MethodName))]
set_option maxRecDepth 20000 in
theorem zche_4_10 : (tables_1_4.drop 160).take 16 = zch_4_10 := rfl
def zch_4_11 : List Jvm.Cond := [(Jvm.Cond.methodLink "RingPurses$Deals" (75 : Nat) ({ cls := "RingPurses$Deals", name := "isFreeBy", desc := "(LRingPurses$Rules;III)Z" } : Jvm.MethodName)), (Jvm.Cond.privateMethod ({ cls := "RingPurses$Deals", name := "isFreeBy", desc := "(LRingPurses$Rules;III)Z" } : Jvm.MethodName)), (Jvm.Cond.instanceMethod ({ cls := "RingPurses$Deals", name := "isFreeBy", desc := "(LRingPurses$Rules;III)Z" } : Jvm.MethodName)), (Jvm.Cond.code ({ cls := "RingPurses$Deals", name := "isFreeBy", desc := "(LRingPurses$Rules;III)Z" } : Jvm.MethodName) prog_2_method_6_code (6 : Nat) (Option.some Jvm.ClassFile.FieldType.boolean)), (Jvm.Cond.methodLink "RingPurses$Deals" (79 : Nat) ({ cls := "RingPurses$Ring", name := "move", desc := "(III)V" } : Jvm.MethodName)), (Jvm.Cond.methodLink "RingPursesLaw" (101 : Nat) ({ cls := "RingPurses", name := "best", desc := "(IIII)I" } : Jvm.MethodName)), (Jvm.Cond.instanceMethod ({ cls := "RingPurses", name := "best", desc := "(IIII)I" } : Jvm.MethodName)), (Jvm.Cond.selects "RingPurses" ({ cls := "RingPurses", name := "best", desc := "(IIII)I" } : Jvm.MethodName) ({ cls := "RingPurses", name := "best", desc := "(IIII)I" } : Jvm.MethodName)), (Jvm.Cond.code ({ cls := "RingPurses", name := "best", desc := "(IIII)I" } : Jvm.MethodName) prog_1_method_23_code (5 : Nat) (Option.some Jvm.ClassFile.FieldType.int)), (Jvm.Cond.methodLink "RingPurses" (224 : Nat) ({ cls := "RingPurses", name := "isUnit", desc := "(I)Z" } : Jvm.MethodName)), (Jvm.Cond.static ({ cls := "RingPurses", name := "isUnit", desc := "(I)Z" } : Jvm.MethodName)), (Jvm.Cond.code ({ cls := "RingPurses", name := "isUnit", desc := "(I)Z" } : Jvm.MethodName) prog_1_method_37_code (1 : Nat) (Option.some Jvm.ClassFile.FieldType.boolean)), (Jvm.Cond.methodLink "RingPurses" (227 : Nat) ({ cls := "RingPurses$Deals", name := "findBestGift", desc := "(LRingPurses$Rules;LRingPurses$Ring;III)V" } : Jvm.MethodName)), (Jvm.Cond.instanceMethod ({ cls := "RingPurses$Deals", name := "findBestGift", desc := "(LRingPurses$Rules;LRingPurses$Ring;III)V" } : Jvm.MethodName)), (Jvm.Cond.selects "RingPurses$Deals" ({ cls := "RingPurses$Deals", name := "findBestGift", desc := "(LRingPurses$Rules;LRingPurses$Ring;III)V" } : Jvm.MethodName) ({ cls := "RingPurses$Deals", name := "findBestGift", desc := "(LRingPurses$Rules;LRingPurses$Ring;III)V" } : Jvm.MethodName)), (Jvm.Cond.code ({ cls := "RingPurses$Deals", name := "findBestGift", desc := "(LRingPurses$Rules;LRingPurses$Ring;III)V" } : Jvm.MethodName) prog_2_method_7_code (8 : Nat) (Option.none : Option Jvm.ClassFile.FieldType))]
set_option maxRecDepth 20000 in
theorem zche_4_11 : (tables_1_4.drop 176).take 16 = zch_4_11 := rfl
def zch_4_12 : List Jvm.Cond := [(Jvm.Cond.methodLink "RingPurses$Deals" (82 : Nat) ({ cls := "RingPurses$Rules", name := "evenings", desc := "(LRingPurses$Ring;II)V" } : Jvm.MethodName)), (Jvm.Cond.methodLink "RingPursesLaw" (106 : Nat) ({ cls := "RingPurses", name := "loan", desc := "(IIIZ)I" } : Jvm.MethodName)), (Jvm.Cond.instanceMethod ({ cls := "RingPurses", name := "loan", desc := "(IIIZ)I" } : Jvm.MethodName)), (Jvm.Cond.selects "RingPurses" ({ cls := "RingPurses", name := "loan", desc := "(IIIZ)I" } : Jvm.MethodName) ({ cls := "RingPurses", name := "loan", desc := "(IIIZ)I" } : Jvm.MethodName)), (Jvm.Cond.code ({ cls := "RingPurses", name := "loan", desc := "(IIIZ)I" } : Jvm.MethodName) prog_1_method_24_code (5 : Nat) (Option.some Jvm.ClassFile.FieldType.int)), (Jvm.Cond.methodLink "RingPurses" (231 : Nat) ({ cls := "RingPurses$Deals", name := "rate", desc := "(LRingPurses$Rules;LRingPurses$Ring;IIIZ)I" } : Jvm.MethodName)), (Jvm.Cond.instanceMethod ({ cls := "RingPurses$Deals", name := "rate", desc := "(LRingPurses$Rules;LRingPurses$Ring;IIIZ)I" } : Jvm.MethodName)), (Jvm.Cond.selects "RingPurses$Deals" ({ cls := "RingPurses$Deals", name := "rate", desc := "(LRingPurses$Rules;LRingPurses$Ring;IIIZ)I" } : Jvm.MethodName) ({ cls := "RingPurses$Deals", name := "rate", desc := "(LRingPurses$Rules;LRingPurses$Ring;IIIZ)I" } : Jvm.MethodName)), (Jvm.Cond.code ({ cls := "RingPurses$Deals", name := "rate", desc := "(LRingPurses$Rules;LRingPurses$Ring;IIIZ)I" } : Jvm.MethodName) prog_2_method_8_code (8 : Nat) (Option.some Jvm.ClassFile.FieldType.int)), (Jvm.Cond.methodLink "RingPursesLaw" (111 : Nat) ({ cls := "RingPurses", name := "site", desc := "(I)I" } : Jvm.MethodName)), (Jvm.Cond.instanceMethod ({ cls := "RingPurses", name := "site", desc := "(I)I" } : Jvm.MethodName)), (Jvm.Cond.selects "RingPurses" ({ cls := "RingPurses", name := "site", desc := "(I)I" } : Jvm.MethodName) ({ cls := "RingPurses", name := "site", desc := "(I)I" } : Jvm.MethodName)), (Jvm.Cond.code ({ cls := "RingPurses", name := "site", desc := "(I)I" } : Jvm.MethodName) prog_1_method_25_code (2 : Nat) (Option.some Jvm.ClassFile.FieldType.int)), (Jvm.Cond.methodLink "RingPurses" (235 : Nat) ({ cls := "RingPurses$Deals", name := "bestSite", desc := "(LRingPurses$Rules;LRingPurses$Ring;I)I" } : Jvm.MethodName)), (Jvm.Cond.instanceMethod ({ cls := "RingPurses$Deals", name := "bestSite", desc := "(LRingPurses$Rules;LRingPurses$Ring;I)I" } : Jvm.MethodName)), (Jvm.Cond.selects "RingPurses$Deals" ({ cls := "RingPurses$Deals", name := "bestSite", desc := "(LRingPurses$Rules;LRingPurses$Ring;I)I" } : Jvm.MethodName) ({ cls := "RingPurses$Deals", name := "bestSite", desc := "(LRingPurses$Rules;LRingPurses$Ring;I)I" } : Jvm.MethodName))]
set_option maxRecDepth 20000 in
theorem zche_4_12 : (tables_1_4.drop 192).take 16 = zch_4_12 := rfl
def zch_4_13 : List Jvm.Cond := [(Jvm.Cond.code ({ cls := "RingPurses$Deals", name := "bestSite", desc := "(LRingPurses$Rules;LRingPurses$Ring;I)I" } : Jvm.MethodName) prog_2_method_9_code (11 : Nat) (Option.some Jvm.ClassFile.FieldType.int)), (Jvm.Cond.constantLong "RingPurses$Deals" (88 : Nat) (9223372036854775807 : Int64)), (Jvm.Cond.methodLink "RingPurses$Deals" (90 : Nat) ({ cls := "RingPurses$Ring", name := "insert", desc := "(II)V" } : Jvm.MethodName)), (Jvm.Cond.methodLink "RingPursesLaw" (115 : Nat) ({ cls := "RingPurses", name := "rests", desc := "(II)I" } : Jvm.MethodName)), (Jvm.Cond.instanceMethod ({ cls := "RingPurses", name := "rests", desc := "(II)I" } : Jvm.MethodName)), (Jvm.Cond.selects "RingPurses" ({ cls := "RingPurses", name := "rests", desc := "(II)I" } : Jvm.MethodName) ({ cls := "RingPurses", name := "rests", desc := "(II)I" } : Jvm.MethodName)), (Jvm.Cond.code ({ cls := "RingPurses", name := "rests", desc := "(II)I" } : Jvm.MethodName) prog_1_method_26_code (3 : Nat) (Option.some Jvm.ClassFile.FieldType.int)), (Jvm.Cond.methodLink "RingPurses" (238 : Nat) ({ cls := "RingPurses$Plans", name := "restAt", desc := "(LRingPurses$Rules;LRingPurses$Ring;II)I" } : Jvm.MethodName)), (Jvm.Cond.instanceMethod ({ cls := "RingPurses$Plans", name := "restAt", desc := "(LRingPurses$Rules;LRingPurses$Ring;II)I" } : Jvm.MethodName)), (Jvm.Cond.selects "RingPurses$Plans" ({ cls := "RingPurses$Plans", name := "restAt", desc := "(LRingPurses$Rules;LRingPurses$Ring;II)I" } : Jvm.MethodName) ({ cls := "RingPurses$Plans", name := "restAt", desc := "(LRingPurses$Rules;LRingPurses$Ring;II)I" } : Jvm.MethodName)), (Jvm.Cond.code ({ cls := "RingPurses$Plans", name := "restAt", desc := "(LRingPurses$Rules;LRingPurses$Ring;II)I" } : Jvm.MethodName) prog_6_method_2_code (8 : Nat) (Option.some Jvm.ClassFile.FieldType.int)), (Jvm.Cond.methodLink "RingPurses$Plans" (26 : Nat) ({ cls := "RingPurses$Plans", name := "follow", desc := "(LRingPurses$Rules;LRingPurses$Ring;II)V" } : Jvm.MethodName)), (Jvm.Cond.privateMethod ({ cls := "RingPurses$Plans", name := "follow", desc := "(LRingPurses$Rules;LRingPurses$Ring;II)V" } : Jvm.MethodName)), (Jvm.Cond.instanceMethod ({ cls := "RingPurses$Plans", name := "follow", desc := "(LRingPurses$Rules;LRingPurses$Ring;II)V" } : Jvm.MethodName)), (Jvm.Cond.code ({ cls := "RingPurses$Plans", name := "follow", desc := "(LRingPurses$Rules;LRingPurses$Ring;II)V" } : Jvm.MethodName) prog_6_method_3_code (6 : Nat) (Option.none : Option Jvm.ClassFile.FieldType)), (Jvm.Cond.methodLink "RingPurses$Plans" (34 : Nat) ({ cls := "RingPurses$Ring", name := "copy", desc := "(LRingPurses$Ring;)V" } : Jvm.MethodName))]
set_option maxRecDepth 20000 in
theorem zche_4_13 : (tables_1_4.drop 208).take 16 = zch_4_13 := rfl
def zch_4_14 : List Jvm.Cond := [(Jvm.Cond.methodLink "RingPurses$Plans" (38 : Nat) ({ cls := "RingPurses$Ring", name := "has", desc := "(I)Z" } : Jvm.MethodName)), (Jvm.Cond.methodLink "RingPurses$Plans" (48 : Nat) ({ cls := "java/lang/Math", name := "min", desc := "(II)I" } : Jvm.MethodName)), (Jvm.Cond.methodLink "RingPurses$Plans" (59 : Nat) ({ cls := "RingPurses$Rules", name := "evening", desc := "(LRingPurses$Ring;I)V" } : Jvm.MethodName)), (Jvm.Cond.methodLink "RingPurses$Plans" (30 : Nat) ({ cls := "RingPurses$Plans", name := "isRest", desc := "(II)Z" } : Jvm.MethodName)), (Jvm.Cond.privateMethod ({ cls := "RingPurses$Plans", name := "isRest", desc := "(II)Z" } : Jvm.MethodName)), (Jvm.Cond.instanceMethod ({ cls := "RingPurses$Plans", name := "isRest", desc := "(II)Z" } : Jvm.MethodName)), (Jvm.Cond.code ({ cls := "RingPurses$Plans", name := "isRest", desc := "(II)Z" } : Jvm.MethodName) prog_6_method_4_code (5 : Nat) (Option.some Jvm.ClassFile.FieldType.boolean)), (Jvm.Cond.methodLink "RingPursesLaw" (119 : Nat) ({ cls := "RingPurses", name := "tell", desc := "(II)I" } : Jvm.MethodName)), (Jvm.Cond.instanceMethod ({ cls := "RingPurses", name := "tell", desc := "(II)I" } : Jvm.MethodName)), (Jvm.Cond.selects "RingPurses" ({ cls := "RingPurses", name := "tell", desc := "(II)I" } : Jvm.MethodName) ({ cls := "RingPurses", name := "tell", desc := "(II)I" } : Jvm.MethodName)), (Jvm.Cond.code ({ cls := "RingPurses", name := "tell", desc := "(II)I" } : Jvm.MethodName) prog_1_method_27_code (3 : Nat) (Option.some Jvm.ClassFile.FieldType.int)), (Jvm.Cond.methodLink "RingPurses" (241 : Nat) ({ cls := "RingPurses$Told", name := "add", desc := "(II)I" } : Jvm.MethodName)), (Jvm.Cond.instanceMethod ({ cls := "RingPurses$Told", name := "add", desc := "(II)I" } : Jvm.MethodName)), (Jvm.Cond.selects "RingPurses$Told" ({ cls := "RingPurses$Told", name := "add", desc := "(II)I" } : Jvm.MethodName) ({ cls := "RingPurses$Told", name := "add", desc := "(II)I" } : Jvm.MethodName)), (Jvm.Cond.code ({ cls := "RingPurses$Told", name := "add", desc := "(II)I" } : Jvm.MethodName) prog_12_method_3_code (3 : Nat) (Option.some Jvm.ClassFile.FieldType.int)), (Jvm.Cond.methodLink "RingPursesLaw" (123 : Nat) ({ cls := "RingPurses", name := "forget", desc := "()I" } : Jvm.MethodName))]
set_option maxRecDepth 20000 in
theorem zche_4_14 : (tables_1_4.drop 224).take 16 = zch_4_14 := rfl
def zch_5_0 : List Jvm.Cond := [(Jvm.Cond.instanceMethod ({ cls := "RingPurses", name := "forget", desc := "()I" } : Jvm.MethodName)), (Jvm.Cond.selects "RingPurses" ({ cls := "RingPurses", name := "forget", desc := "()I" } : Jvm.MethodName) ({ cls := "RingPurses", name := "forget", desc := "()I" } : Jvm.MethodName)), (Jvm.Cond.code ({ cls := "RingPurses", name := "forget", desc := "()I" } : Jvm.MethodName) prog_1_method_28_code (2 : Nat) (Option.some Jvm.ClassFile.FieldType.int)), (Jvm.Cond.methodLink "RingPursesLaw" (127 : Nat) ({ cls := "RingPurses", name := "fits", desc := "(II)I" } : Jvm.MethodName)), (Jvm.Cond.instanceMethod ({ cls := "RingPurses", name := "fits", desc := "(II)I" } : Jvm.MethodName)), (Jvm.Cond.selects "RingPurses" ({ cls := "RingPurses", name := "fits", desc := "(II)I" } : Jvm.MethodName) ({ cls := "RingPurses", name := "fits", desc := "(II)I" } : Jvm.MethodName)), (Jvm.Cond.code ({ cls := "RingPurses", name := "fits", desc := "(II)I" } : Jvm.MethodName) prog_1_method_29_code (3 : Nat) (Option.some Jvm.ClassFile.FieldType.int)), (Jvm.Cond.methodLink "RingPurses" (248 : Nat) ({ cls := "RingPurses", name := "isInRow", desc := "(I)Z" } : Jvm.MethodName)), (Jvm.Cond.static ({ cls := "RingPurses", name := "isInRow", desc := "(I)Z" } : Jvm.MethodName)), (Jvm.Cond.code ({ cls := "RingPurses", name := "isInRow", desc := "(I)Z" } : Jvm.MethodName) prog_1_method_38_code (1 : Nat) (Option.some Jvm.ClassFile.FieldType.boolean)), (Jvm.Cond.methodLink "RingPurses" (251 : Nat) ({ cls := "RingPurses$Told", name := "rowsUpTo", desc := "(II)I" } : Jvm.MethodName)), (Jvm.Cond.instanceMethod ({ cls := "RingPurses$Told", name := "rowsUpTo", desc := "(II)I" } : Jvm.MethodName)), (Jvm.Cond.selects "RingPurses$Told" ({ cls := "RingPurses$Told", name := "rowsUpTo", desc := "(II)I" } : Jvm.MethodName) ({ cls := "RingPurses$Told", name := "rowsUpTo", desc := "(II)I" } : Jvm.MethodName)), (Jvm.Cond.code ({ cls := "RingPurses$Told", name := "rowsUpTo", desc := "(II)I" } : Jvm.MethodName) prog_12_method_4_code (5 : Nat) (Option.some Jvm.ClassFile.FieldType.int)), (Jvm.Cond.constant "RingPurses$Told" (38 : Nat) (200000 : Int32)), (Jvm.Cond.constant "RingPurses" (254 : Nat) (200000 : Int32))]
set_option maxRecDepth 20000 in
theorem zche_5_0 : (tables_1_5.drop 0).take 16 = zch_5_0 := rfl
def zch_5_1 : List Jvm.Cond := [(Jvm.Cond.methodLink "RingPurses" (255 : Nat) ({ cls := "RingPurses$Told", name := "goThroughFits", desc := "(LRingPurses$Rules;LRingPurses$Ring;III)V" } : Jvm.MethodName)), (Jvm.Cond.instanceMethod ({ cls := "RingPurses$Told", name := "goThroughFits", desc := "(LRingPurses$Rules;LRingPurses$Ring;III)V" } : Jvm.MethodName)), (Jvm.Cond.selects "RingPurses$Told" ({ cls := "RingPurses$Told", name := "goThroughFits", desc := "(LRingPurses$Rules;LRingPurses$Ring;III)V" } : Jvm.MethodName) ({ cls := "RingPurses$Told", name := "goThroughFits", desc := "(LRingPurses$Rules;LRingPurses$Ring;III)V" } : Jvm.MethodName)), (Jvm.Cond.code ({ cls := "RingPurses$Told", name := "goThroughFits", desc := "(LRingPurses$Rules;LRingPurses$Ring;III)V" } : Jvm.MethodName) prog_12_method_5_code (7 : Nat) (Option.none : Option Jvm.ClassFile.FieldType)), (Jvm.Cond.methodLink "RingPurses$Told" (42 : Nat) ({ cls := "RingPurses$Ring", name := "has", desc := "(I)Z" } : Jvm.MethodName)), (Jvm.Cond.methodLink "RingPurses$Told" (46 : Nat) ({ cls := "java/lang/Math", name := "max", desc := "(II)I" } : Jvm.MethodName)), (Jvm.Cond.methodLink "RingPurses$Told" (52 : Nat) ({ cls := "RingPurses$Told", name := "goThrough", desc := "(LRingPurses$Rules;LRingPurses$Ring;IIZ)V" } : Jvm.MethodName)), (Jvm.Cond.privateMethod ({ cls := "RingPurses$Told", name := "goThrough", desc := "(LRingPurses$Rules;LRingPurses$Ring;IIZ)V" } : Jvm.MethodName)), (Jvm.Cond.instanceMethod ({ cls := "RingPurses$Told", name := "goThrough", desc := "(LRingPurses$Rules;LRingPurses$Ring;IIZ)V" } : Jvm.MethodName)), (Jvm.Cond.code ({ cls := "RingPurses$Told", name := "goThrough", desc := "(LRingPurses$Rules;LRingPurses$Ring;IIZ)V" } : Jvm.MethodName) prog_12_method_7_code (9 : Nat) (Option.none : Option Jvm.ClassFile.FieldType)), (Jvm.Cond.methodLink "RingPurses$Told" (70 : Nat) ({ cls := "RingPurses$Ring", name := "copy", desc := "(LRingPurses$Ring;)V" } : Jvm.MethodName)), (Jvm.Cond.methodLink "RingPurses$Told" (77 : Nat) ({ cls := "RingPurses$Told", name := "startRows", desc := "(I)Z" } : Jvm.MethodName)), (Jvm.Cond.privateMethod ({ cls := "RingPurses$Told", name := "startRows", desc := "(I)Z" } : Jvm.MethodName)), (Jvm.Cond.instanceMethod ({ cls := "RingPurses$Told", name := "startRows", desc := "(I)Z" } : Jvm.MethodName)), (Jvm.Cond.code ({ cls := "RingPurses$Told", name := "startRows", desc := "(I)Z" } : Jvm.MethodName) prog_12_method_8_code (3 : Nat) (Option.some Jvm.ClassFile.FieldType.boolean)), (Jvm.Cond.methodLink "RingPurses$Told" (83 : Nat) ({ cls := "RingPurses$Told", name := "paysAsKnown", desc := "(LRingPurses$Rules;)Z" } : Jvm.MethodName))]
set_option maxRecDepth 20000 in
theorem zche_5_1 : (tables_1_5.drop 16).take 16 = zch_5_1 := rfl
def zch_5_2 : List Jvm.Cond := [(Jvm.Cond.privateMethod ({ cls := "RingPurses$Told", name := "paysAsKnown", desc := "(LRingPurses$Rules;)Z" } : Jvm.MethodName)), (Jvm.Cond.instanceMethod ({ cls := "RingPurses$Told", name := "paysAsKnown", desc := "(LRingPurses$Rules;)Z" } : Jvm.MethodName)), (Jvm.Cond.code ({ cls := "RingPurses$Told", name := "paysAsKnown", desc := "(LRingPurses$Rules;)Z" } : Jvm.MethodName) prog_12_method_10_code (4 : Nat) (Option.some Jvm.ClassFile.FieldType.boolean)), (Jvm.Cond.methodLink "RingPurses$Told" (100 : Nat) ({ cls := "RingPurses$Rules", name := "wanted", desc := "(LRingPurses$Ring;I)I" } : Jvm.MethodName)), (Jvm.Cond.methodLink "RingPurses$Told" (104 : Nat) ({ cls := "RingPurses$Ring", name := "pay", desc := "(II)V" } : Jvm.MethodName)), (Jvm.Cond.methodLink "RingPurses$Told" (87 : Nat) ({ cls := "RingPurses$Told", name := "note", desc := "(I)V" } : Jvm.MethodName)), (Jvm.Cond.privateMethod ({ cls := "RingPurses$Told", name := "note", desc := "(I)V" } : Jvm.MethodName)), (Jvm.Cond.instanceMethod ({ cls := "RingPurses$Told", name := "note", desc := "(I)V" } : Jvm.MethodName)), (Jvm.Cond.code ({ cls := "RingPurses$Told", name := "note", desc := "(I)V" } : Jvm.MethodName) prog_12_method_11_code (2 : Nat) (Option.none : Option Jvm.ClassFile.FieldType)), (Jvm.Cond.methodLink "RingPurses$Told" (108 : Nat) ({ cls := "java/lang/Math", name := "min", desc := "(II)I" } : Jvm.MethodName)), (Jvm.Cond.methodLink "RingPurses$Told" (91 : Nat) ({ cls := "RingPurses$Told", name := "stepRow", desc := "(I)Z" } : Jvm.MethodName)), (Jvm.Cond.privateMethod ({ cls := "RingPurses$Told", name := "stepRow", desc := "(I)Z" } : Jvm.MethodName)), (Jvm.Cond.instanceMethod ({ cls := "RingPurses$Told", name := "stepRow", desc := "(I)Z" } : Jvm.MethodName)), (Jvm.Cond.code ({ cls := "RingPurses$Told", name := "stepRow", desc := "(I)Z" } : Jvm.MethodName) prog_12_method_9_code (3 : Nat) (Option.some Jvm.ClassFile.FieldType.boolean)), (Jvm.Cond.methodLink "RingPursesLaw" (131 : Nat) ({ cls := "RingPurses", name := "span", desc := "(III)I" } : Jvm.MethodName)), (Jvm.Cond.instanceMethod ({ cls := "RingPurses", name := "span", desc := "(III)I" } : Jvm.MethodName))]
set_option maxRecDepth 20000 in
theorem zche_5_2 : (tables_1_5.drop 32).take 16 = zch_5_2 := rfl
def zch_5_3 : List Jvm.Cond := [(Jvm.Cond.selects "RingPurses" ({ cls := "RingPurses", name := "span", desc := "(III)I" } : Jvm.MethodName) ({ cls := "RingPurses", name := "span", desc := "(III)I" } : Jvm.MethodName)), (Jvm.Cond.code ({ cls := "RingPurses", name := "span", desc := "(III)I" } : Jvm.MethodName) prog_1_method_30_code (4 : Nat) (Option.some Jvm.ClassFile.FieldType.int)), (Jvm.Cond.methodLink "RingPursesLaw" (135 : Nat) ({ cls := "RingPurses", name := "ago", desc := "(I)I" } : Jvm.MethodName)), (Jvm.Cond.instanceMethod ({ cls := "RingPurses", name := "ago", desc := "(I)I" } : Jvm.MethodName)), (Jvm.Cond.selects "RingPurses" ({ cls := "RingPurses", name := "ago", desc := "(I)I" } : Jvm.MethodName) ({ cls := "RingPurses", name := "ago", desc := "(I)I" } : Jvm.MethodName)), (Jvm.Cond.code ({ cls := "RingPurses", name := "ago", desc := "(I)I" } : Jvm.MethodName) prog_1_method_31_code (2 : Nat) (Option.some Jvm.ClassFile.FieldType.int)), (Jvm.Cond.methodLink "RingPurses" (267 : Nat) ({ cls := "RingPurses$Told", name := "goThroughAgo", desc := "(LRingPurses$Rules;LRingPurses$Ring;I)V" } : Jvm.MethodName)), (Jvm.Cond.instanceMethod ({ cls := "RingPurses$Told", name := "goThroughAgo", desc := "(LRingPurses$Rules;LRingPurses$Ring;I)V" } : Jvm.MethodName)), (Jvm.Cond.selects "RingPurses$Told" ({ cls := "RingPurses$Told", name := "goThroughAgo", desc := "(LRingPurses$Rules;LRingPurses$Ring;I)V" } : Jvm.MethodName) ({ cls := "RingPurses$Told", name := "goThroughAgo", desc := "(LRingPurses$Rules;LRingPurses$Ring;I)V" } : Jvm.MethodName)), (Jvm.Cond.code ({ cls := "RingPurses$Told", name := "goThroughAgo", desc := "(LRingPurses$Rules;LRingPurses$Ring;I)V" } : Jvm.MethodName) prog_12_method_6_code (5 : Nat) (Option.none : Option Jvm.ClassFile.FieldType)), (Jvm.Cond.methodLink "RingPursesLaw" (139 : Nat) ({ cls := "RingPurses", name := "hold", desc := "(I)Z" } : Jvm.MethodName)), (Jvm.Cond.instanceMethod ({ cls := "RingPurses", name := "hold", desc := "(I)Z" } : Jvm.MethodName)), (Jvm.Cond.selects "RingPurses" ({ cls := "RingPurses", name := "hold", desc := "(I)Z" } : Jvm.MethodName) ({ cls := "RingPurses", name := "hold", desc := "(I)Z" } : Jvm.MethodName)), (Jvm.Cond.code ({ cls := "RingPurses", name := "hold", desc := "(I)Z" } : Jvm.MethodName) prog_1_method_32_code (2 : Nat) (Option.some Jvm.ClassFile.FieldType.boolean)), (Jvm.Cond.methodLink "RingPurses" (270 : Nat) ({ cls := "RingPurses$Kept", name := "holdIn", desc := "(ILRingPurses$Ring;)Z" } : Jvm.MethodName)), (Jvm.Cond.instanceMethod ({ cls := "RingPurses$Kept", name := "holdIn", desc := "(ILRingPurses$Ring;)Z" } : Jvm.MethodName))]
set_option maxRecDepth 20000 in
theorem zche_5_3 : (tables_1_5.drop 48).take 16 = zch_5_3 := rfl
def zch_5_4 : List Jvm.Cond := [(Jvm.Cond.selects "RingPurses$Kept" ({ cls := "RingPurses$Kept", name := "holdIn", desc := "(ILRingPurses$Ring;)Z" } : Jvm.MethodName) ({ cls := "RingPurses$Kept", name := "holdIn", desc := "(ILRingPurses$Ring;)Z" } : Jvm.MethodName)), (Jvm.Cond.code ({ cls := "RingPurses$Kept", name := "holdIn", desc := "(ILRingPurses$Ring;)Z" } : Jvm.MethodName) prog_4_method_6_code (3 : Nat) (Option.some Jvm.ClassFile.FieldType.boolean)), (Jvm.Cond.methodLink "RingPursesLaw" (144 : Nat) ({ cls := "RingPurses", name := "restore", desc := "(I)Z" } : Jvm.MethodName)), (Jvm.Cond.instanceMethod ({ cls := "RingPurses", name := "restore", desc := "(I)Z" } : Jvm.MethodName)), (Jvm.Cond.selects "RingPurses" ({ cls := "RingPurses", name := "restore", desc := "(I)Z" } : Jvm.MethodName) ({ cls := "RingPurses", name := "restore", desc := "(I)Z" } : Jvm.MethodName)), (Jvm.Cond.code ({ cls := "RingPurses", name := "restore", desc := "(I)Z" } : Jvm.MethodName) prog_1_method_33_code (2 : Nat) (Option.some Jvm.ClassFile.FieldType.boolean)), (Jvm.Cond.methodLink "RingPurses" (274 : Nat) ({ cls := "RingPurses$Kept", name := "bringBack", desc := "(ILRingPurses$Ring;)Z" } : Jvm.MethodName)), (Jvm.Cond.instanceMethod ({ cls := "RingPurses$Kept", name := "bringBack", desc := "(ILRingPurses$Ring;)Z" } : Jvm.MethodName)), (Jvm.Cond.selects "RingPurses$Kept" ({ cls := "RingPurses$Kept", name := "bringBack", desc := "(ILRingPurses$Ring;)Z" } : Jvm.MethodName) ({ cls := "RingPurses$Kept", name := "bringBack", desc := "(ILRingPurses$Ring;)Z" } : Jvm.MethodName)), (Jvm.Cond.code ({ cls := "RingPurses$Kept", name := "bringBack", desc := "(ILRingPurses$Ring;)Z" } : Jvm.MethodName) prog_4_method_7_code (3 : Nat) (Option.some Jvm.ClassFile.FieldType.boolean)), (Jvm.Cond.methodLink "RingPurses$Kept" (39 : Nat) ({ cls := "RingPurses$Kept", name := "isHeld", desc := "(I)Z" } : Jvm.MethodName)), (Jvm.Cond.privateMethod ({ cls := "RingPurses$Kept", name := "isHeld", desc := "(I)Z" } : Jvm.MethodName)), (Jvm.Cond.instanceMethod ({ cls := "RingPurses$Kept", name := "isHeld", desc := "(I)Z" } : Jvm.MethodName)), (Jvm.Cond.code ({ cls := "RingPurses$Kept", name := "isHeld", desc := "(I)Z" } : Jvm.MethodName) prog_4_method_9_code (2 : Nat) (Option.some Jvm.ClassFile.FieldType.boolean)), (Jvm.Cond.methodLink "RingPurses" (277 : Nat) ({ cls := "RingPurses$Kept", name := "forgetPast", desc := "()V" } : Jvm.MethodName)), (Jvm.Cond.methodLink "RingPursesLaw" (148 : Nat) ({ cls := "RingPurses", name := "count", desc := "(I)I" } : Jvm.MethodName))]
set_option maxRecDepth 20000 in
theorem zche_5_4 : (tables_1_5.drop 64).take 16 = zch_5_4 := rfl
def zch_5_5 : List Jvm.Cond := [(Jvm.Cond.instanceMethod ({ cls := "RingPurses", name := "count", desc := "(I)I" } : Jvm.MethodName)), (Jvm.Cond.selects "RingPurses" ({ cls := "RingPurses", name := "count", desc := "(I)I" } : Jvm.MethodName) ({ cls := "RingPurses", name := "count", desc := "(I)I" } : Jvm.MethodName)), (Jvm.Cond.code ({ cls := "RingPurses", name := "count", desc := "(I)I" } : Jvm.MethodName) prog_1_method_34_code (2 : Nat) (Option.some Jvm.ClassFile.FieldType.int)), (Jvm.Cond.methodLink "RingPurses" (286 : Nat) ({ cls := "RingPurses$Ring", name := "total", desc := "()I" } : Jvm.MethodName)), (Jvm.Cond.instanceMethod ({ cls := "RingPurses$Ring", name := "total", desc := "()I" } : Jvm.MethodName)), (Jvm.Cond.selects "RingPurses$Ring" ({ cls := "RingPurses$Ring", name := "total", desc := "()I" } : Jvm.MethodName) ({ cls := "RingPurses$Ring", name := "total", desc := "()I" } : Jvm.MethodName)), (Jvm.Cond.code ({ cls := "RingPurses$Ring", name := "total", desc := "()I" } : Jvm.MethodName) prog_8_method_9_code (3 : Nat) (Option.some Jvm.ClassFile.FieldType.int)), (Jvm.Cond.methodLink "RingPurses" (295 : Nat) ({ cls := "RingPurses$Kept", name := "heldSlots", desc := "()I" } : Jvm.MethodName)), (Jvm.Cond.instanceMethod ({ cls := "RingPurses$Kept", name := "heldSlots", desc := "()I" } : Jvm.MethodName)), (Jvm.Cond.selects "RingPurses$Kept" ({ cls := "RingPurses$Kept", name := "heldSlots", desc := "()I" } : Jvm.MethodName) ({ cls := "RingPurses$Kept", name := "heldSlots", desc := "()I" } : Jvm.MethodName)), (Jvm.Cond.code ({ cls := "RingPurses$Kept", name := "heldSlots", desc := "()I" } : Jvm.MethodName) prog_4_method_8_code (3 : Nat) (Option.some Jvm.ClassFile.FieldType.int)), (Jvm.Cond.classLink "RingPursesLaw" (10 : Nat) "RingPursesModel"), (Jvm.Cond.instantiable "RingPursesModel" (61 : Nat)), (Jvm.Cond.methodLink "RingPursesLaw" (12 : Nat) ({ cls := "RingPursesModel", name := "<init>", desc := "()V" } : Jvm.MethodName)), (Jvm.Cond.instanceMethod ({ cls := "RingPursesModel", name := "<init>", desc := "()V" } : Jvm.MethodName)), (Jvm.Cond.code ({ cls := "RingPursesModel", name := "<init>", desc := "()V" } : Jvm.MethodName) prog_14_method_2_code (1 : Nat) (Option.none : Option Jvm.ClassFile.FieldType))]
set_option maxRecDepth 20000 in
theorem zche_5_5 : (tables_1_5.drop 80).take 16 = zch_5_5 := rfl
def zch_5_6 : List Jvm.Cond := [(Jvm.Cond.methodLink "RingPursesModel" (7 : Nat) ({ cls := "java/lang/Object", name := "<init>", desc := "()V" } : Jvm.MethodName)), (Jvm.Cond.methodLink "RingPursesModel" (140 : Nat) ({ cls := "RingPursesModel", name := "word", desc := "(IIIIIII)J" } : Jvm.MethodName)), (Jvm.Cond.static ({ cls := "RingPursesModel", name := "word", desc := "(IIIIIII)J" } : Jvm.MethodName)), (Jvm.Cond.code ({ cls := "RingPursesModel", name := "word", desc := "(IIIIIII)J" } : Jvm.MethodName) prog_14_method_10_code (7 : Nat) (Option.some Jvm.ClassFile.FieldType.long)), (Jvm.Cond.methodLink "RingPursesModel" (156 : Nat) ({ cls := "RingPursesModel", name := "appends", desc := "(JI)J" } : Jvm.MethodName)), (Jvm.Cond.static ({ cls := "RingPursesModel", name := "appends", desc := "(JI)J" } : Jvm.MethodName)), (Jvm.Cond.code ({ cls := "RingPursesModel", name := "appends", desc := "(JI)J" } : Jvm.MethodName) prog_14_method_9_code (3 : Nat) (Option.some Jvm.ClassFile.FieldType.long)), (Jvm.Cond.constantLong "RingPursesModel" (154 : Nat) (27 : Int64)), (Jvm.Cond.fieldLink "RingPursesModel" (13 : Nat) "RingPursesModel" "tape" "[B"), (Jvm.Cond.fieldLink "RingPursesModel" (144 : Nat) "RingPursesModel" "taped" "I"), (Jvm.Cond.fieldLink "RingPursesModel" (17 : Nat) "RingPursesModel" "text" "[B"), (Jvm.Cond.fieldLink "RingPursesModel" (151 : Nat) "RingPursesModel" "size" "I"), (Jvm.Cond.fieldLink "RingPursesModel" (20 : Nat) "RingPursesModel" "tKind" "[I"), (Jvm.Cond.fieldLink "RingPursesModel" (24 : Nat) "RingPursesModel" "tPlace" "[I"), (Jvm.Cond.fieldLink "RingPursesModel" (27 : Nat) "RingPursesModel" "tValue" "[I"), (Jvm.Cond.fieldLink "RingPursesModel" (30 : Nat) "RingPursesModel" "tName" "[J")]
set_option maxRecDepth 20000 in
theorem zche_5_6 : (tables_1_5.drop 96).take 16 = zch_5_6 := rfl
def zch_5_7 : List Jvm.Cond := [(Jvm.Cond.fieldLink "RingPursesModel" (34 : Nat) "RingPursesModel" "keys" "[J"), (Jvm.Cond.fieldLink "RingPursesModel" (160 : Nat) "RingPursesModel" "tokens" "I"), (Jvm.Cond.fieldLink "RingPursesModel" (185 : Nat) "RingPursesModel" "t" "I"), (Jvm.Cond.fieldLink "RingPursesModel" (209 : Nat) "RingPursesModel" "open" "I"), (Jvm.Cond.fieldLink "RingPursesModel" (182 : Nat) "RingPursesModel" "fault" "I"), (Jvm.Cond.fieldLink "RingPursesModel" (188 : Nat) "RingPursesModel" "faultPlace" "I"), (Jvm.Cond.fieldLink "RingPursesModel" (191 : Nat) "RingPursesModel" "worst" "I"), (Jvm.Cond.fieldLink "RingPursesModel" (194 : Nat) "RingPursesModel" "worstPlace" "I"), (Jvm.Cond.fieldLink "RingPursesModel" (37 : Nat) "RingPursesModel" "place" "I"), (Jvm.Cond.fieldLink "RingPursesModel" (212 : Nat) "RingPursesModel" "live" "I"), (Jvm.Cond.fieldLink "RingPursesModel" (215 : Nat) "RingPursesModel" "side" "I"), (Jvm.Cond.fieldLink "RingPursesModel" (218 : Nat) "RingPursesModel" "names" "I"), (Jvm.Cond.fieldLink "RingPursesModel" (40 : Nat) "RingPursesModel" "nameOf" "[J"), (Jvm.Cond.fieldLink "RingPursesModel" (43 : Nat) "RingPursesModel" "houses" "[I"), (Jvm.Cond.fieldLink "RingPursesModel" (46 : Nat) "RingPursesModel" "purseTold" "[I"), (Jvm.Cond.fieldLink "RingPursesModel" (49 : Nat) "RingPursesModel" "isStreet" "[Z")]
set_option maxRecDepth 20000 in
theorem zche_5_7 : (tables_1_5.drop 112).take 16 = zch_5_7 := rfl
def zch_5_8 : List Jvm.Cond := [(Jvm.Cond.fieldLink "RingPursesModel" (53 : Nat) "RingPursesModel" "byTurns" "[Z"), (Jvm.Cond.fieldLink "RingPursesModel" (56 : Nat) "RingPursesModel" "shared" "[I"), (Jvm.Cond.fieldLink "RingPursesModel" (59 : Nat) "RingPursesModel" "every" "[I"), (Jvm.Cond.fieldLink "RingPursesModel" (62 : Nat) "RingPursesModel" "seed" "[I"), (Jvm.Cond.fieldLink "RingPursesModel" (65 : Nat) "RingPursesModel" "lawFirst" "[I"), (Jvm.Cond.fieldLink "RingPursesModel" (68 : Nat) "RingPursesModel" "lawLast" "[I"), (Jvm.Cond.fieldLink "RingPursesModel" (221 : Nat) "RingPursesModel" "branches" "I"), (Jvm.Cond.fieldLink "RingPursesModel" (71 : Nat) "RingPursesModel" "hasTest" "[Z"), (Jvm.Cond.fieldLink "RingPursesModel" (74 : Nat) "RingPursesModel" "testFrom" "[I"), (Jvm.Cond.fieldLink "RingPursesModel" (77 : Nat) "RingPursesModel" "testMid" "[I"), (Jvm.Cond.fieldLink "RingPursesModel" (80 : Nat) "RingPursesModel" "testTo" "[I"), (Jvm.Cond.fieldLink "RingPursesModel" (83 : Nat) "RingPursesModel" "termTo" "[I"), (Jvm.Cond.fieldLink "RingPursesModel" (224 : Nat) "RingPursesModel" "codes" "I"), (Jvm.Cond.fieldLink "RingPursesModel" (86 : Nat) "RingPursesModel" "code" "[I"), (Jvm.Cond.fieldLink "RingPursesModel" (89 : Nat) "RingPursesModel" "codeInt" "[I"), (Jvm.Cond.fieldLink "RingPursesModel" (92 : Nat) "RingPursesModel" "waits" "[I")]
set_option maxRecDepth 20000 in
theorem zche_5_8 : (tables_1_5.drop 128).take 16 = zch_5_8 := rfl
def zch_5_9 : List Jvm.Cond := [(Jvm.Cond.fieldLink "RingPursesModel" (259 : Nat) "RingPursesModel" "waiting" "I"), (Jvm.Cond.fieldLink "RingPursesModel" (95 : Nat) "RingPursesModel" "variables" "[I"), (Jvm.Cond.fieldLink "RingPursesModel" (98 : Nat) "RingPursesModel" "pile" "[I"), (Jvm.Cond.fieldLink "RingPursesModel" (272 : Nat) "RingPursesModel" "isBroken" "Z"), (Jvm.Cond.fieldLink "RingPursesModel" (101 : Nat) "RingPursesModel" "now" "[I"), (Jvm.Cond.fieldLink "RingPursesModel" (104 : Nat) "RingPursesModel" "row" "[I"), (Jvm.Cond.fieldLink "RingPursesModel" (107 : Nat) "RingPursesModel" "wants" "[I"), (Jvm.Cond.fieldLink "RingPursesModel" (230 : Nat) "RingPursesModel" "undos" "I"), (Jvm.Cond.fieldLink "RingPursesModel" (110 : Nat) "RingPursesModel" "history" "[I"), (Jvm.Cond.fieldLink "RingPursesModel" (113 : Nat) "RingPursesModel" "trail" "[I"), (Jvm.Cond.fieldLink "RingPursesModel" (358 : Nat) "RingPursesModel" "freeTo" "I"), (Jvm.Cond.fieldLink "RingPursesModel" (116 : Nat) "RingPursesModel" "hasBy" "[I"), (Jvm.Cond.fieldLink "RingPursesModel" (233 : Nat) "RingPursesModel" "told" "I"), (Jvm.Cond.fieldLink "RingPursesModel" (119 : Nat) "RingPursesModel" "toldHouse" "[I"), (Jvm.Cond.fieldLink "RingPursesModel" (122 : Nat) "RingPursesModel" "toldPay" "[I"), (Jvm.Cond.fieldLink "RingPursesModel" (125 : Nat) "RingPursesModel" "known" "[I")]
set_option maxRecDepth 20000 in
theorem zche_5_9 : (tables_1_5.drop 144).take 16 = zch_5_9 := rfl
def zch_5_10 : List Jvm.Cond := [(Jvm.Cond.fieldLink "RingPursesModel" (128 : Nat) "RingPursesModel" "spanLow" "[I"), (Jvm.Cond.fieldLink "RingPursesModel" (131 : Nat) "RingPursesModel" "spanHigh" "[I"), (Jvm.Cond.fieldLink "RingPursesModel" (134 : Nat) "RingPursesModel" "isHeld" "[Z"), (Jvm.Cond.fieldLink "RingPursesModel" (137 : Nat) "RingPursesModel" "held" "[I"), (Jvm.Cond.lays "RingPursesModel" "RingPursesModel" "thrown" "I"), (Jvm.Cond.soleField "RingPursesModel" "thrown"), (Jvm.Cond.laysFinal "RingPursesModel" "RingPursesModel" "tape" "[B"), (Jvm.Cond.soleField "RingPursesModel" "tape"), (Jvm.Cond.lays "RingPursesModel" "RingPursesModel" "taped" "I"), (Jvm.Cond.soleField "RingPursesModel" "taped"), (Jvm.Cond.laysFinal "RingPursesModel" "RingPursesModel" "text" "[B"), (Jvm.Cond.soleField "RingPursesModel" "text"), (Jvm.Cond.lays "RingPursesModel" "RingPursesModel" "size" "I"), (Jvm.Cond.soleField "RingPursesModel" "size"), (Jvm.Cond.laysFinal "RingPursesModel" "RingPursesModel" "tKind" "[I"), (Jvm.Cond.soleField "RingPursesModel" "tKind")]
set_option maxRecDepth 20000 in
theorem zche_5_10 : (tables_1_5.drop 160).take 16 = zch_5_10 := rfl
def zch_5_11 : List Jvm.Cond := [(Jvm.Cond.laysFinal "RingPursesModel" "RingPursesModel" "tPlace" "[I"), (Jvm.Cond.soleField "RingPursesModel" "tPlace"), (Jvm.Cond.laysFinal "RingPursesModel" "RingPursesModel" "tValue" "[I"), (Jvm.Cond.soleField "RingPursesModel" "tValue"), (Jvm.Cond.laysFinal "RingPursesModel" "RingPursesModel" "tName" "[J"), (Jvm.Cond.soleField "RingPursesModel" "tName"), (Jvm.Cond.laysFinal "RingPursesModel" "RingPursesModel" "keys" "[J"), (Jvm.Cond.soleField "RingPursesModel" "keys"), (Jvm.Cond.lays "RingPursesModel" "RingPursesModel" "tokens" "I"), (Jvm.Cond.soleField "RingPursesModel" "tokens"), (Jvm.Cond.lays "RingPursesModel" "RingPursesModel" "t" "I"), (Jvm.Cond.soleField "RingPursesModel" "t"), (Jvm.Cond.lays "RingPursesModel" "RingPursesModel" "open" "I"), (Jvm.Cond.soleField "RingPursesModel" "open"), (Jvm.Cond.lays "RingPursesModel" "RingPursesModel" "fault" "I"), (Jvm.Cond.soleField "RingPursesModel" "fault")]
set_option maxRecDepth 20000 in
theorem zche_5_11 : (tables_1_5.drop 176).take 16 = zch_5_11 := rfl
def zch_5_12 : List Jvm.Cond := [(Jvm.Cond.lays "RingPursesModel" "RingPursesModel" "faultPlace" "I"), (Jvm.Cond.soleField "RingPursesModel" "faultPlace"), (Jvm.Cond.lays "RingPursesModel" "RingPursesModel" "worst" "I"), (Jvm.Cond.soleField "RingPursesModel" "worst"), (Jvm.Cond.lays "RingPursesModel" "RingPursesModel" "worstPlace" "I"), (Jvm.Cond.soleField "RingPursesModel" "worstPlace"), (Jvm.Cond.lays "RingPursesModel" "RingPursesModel" "place" "I"), (Jvm.Cond.soleField "RingPursesModel" "place"), (Jvm.Cond.lays "RingPursesModel" "RingPursesModel" "live" "I"), (Jvm.Cond.soleField "RingPursesModel" "live"), (Jvm.Cond.lays "RingPursesModel" "RingPursesModel" "side" "I"), (Jvm.Cond.soleField "RingPursesModel" "side"), (Jvm.Cond.lays "RingPursesModel" "RingPursesModel" "names" "I"), (Jvm.Cond.soleField "RingPursesModel" "names"), (Jvm.Cond.laysFinal "RingPursesModel" "RingPursesModel" "nameOf" "[J"), (Jvm.Cond.soleField "RingPursesModel" "nameOf")]
set_option maxRecDepth 20000 in
theorem zche_5_12 : (tables_1_5.drop 192).take 16 = zch_5_12 := rfl
def zch_5_13 : List Jvm.Cond := [(Jvm.Cond.laysFinal "RingPursesModel" "RingPursesModel" "houses" "[I"), (Jvm.Cond.soleField "RingPursesModel" "houses"), (Jvm.Cond.laysFinal "RingPursesModel" "RingPursesModel" "purseTold" "[I"), (Jvm.Cond.soleField "RingPursesModel" "purseTold"), (Jvm.Cond.laysFinal "RingPursesModel" "RingPursesModel" "isStreet" "[Z"), (Jvm.Cond.soleField "RingPursesModel" "isStreet"), (Jvm.Cond.laysFinal "RingPursesModel" "RingPursesModel" "byTurns" "[Z"), (Jvm.Cond.soleField "RingPursesModel" "byTurns"), (Jvm.Cond.laysFinal "RingPursesModel" "RingPursesModel" "shared" "[I"), (Jvm.Cond.soleField "RingPursesModel" "shared"), (Jvm.Cond.laysFinal "RingPursesModel" "RingPursesModel" "every" "[I"), (Jvm.Cond.soleField "RingPursesModel" "every"), (Jvm.Cond.laysFinal "RingPursesModel" "RingPursesModel" "seed" "[I"), (Jvm.Cond.soleField "RingPursesModel" "seed"), (Jvm.Cond.laysFinal "RingPursesModel" "RingPursesModel" "lawFirst" "[I"), (Jvm.Cond.soleField "RingPursesModel" "lawFirst")]
set_option maxRecDepth 20000 in
theorem zche_5_13 : (tables_1_5.drop 208).take 16 = zch_5_13 := rfl
def zch_5_14 : List Jvm.Cond := [(Jvm.Cond.laysFinal "RingPursesModel" "RingPursesModel" "lawLast" "[I"), (Jvm.Cond.soleField "RingPursesModel" "lawLast"), (Jvm.Cond.lays "RingPursesModel" "RingPursesModel" "branches" "I"), (Jvm.Cond.soleField "RingPursesModel" "branches"), (Jvm.Cond.laysFinal "RingPursesModel" "RingPursesModel" "hasTest" "[Z"), (Jvm.Cond.soleField "RingPursesModel" "hasTest"), (Jvm.Cond.laysFinal "RingPursesModel" "RingPursesModel" "testFrom" "[I"), (Jvm.Cond.soleField "RingPursesModel" "testFrom"), (Jvm.Cond.laysFinal "RingPursesModel" "RingPursesModel" "testMid" "[I"), (Jvm.Cond.soleField "RingPursesModel" "testMid"), (Jvm.Cond.laysFinal "RingPursesModel" "RingPursesModel" "testTo" "[I"), (Jvm.Cond.soleField "RingPursesModel" "testTo"), (Jvm.Cond.laysFinal "RingPursesModel" "RingPursesModel" "termTo" "[I"), (Jvm.Cond.soleField "RingPursesModel" "termTo"), (Jvm.Cond.lays "RingPursesModel" "RingPursesModel" "codes" "I"), (Jvm.Cond.soleField "RingPursesModel" "codes")]
set_option maxRecDepth 20000 in
theorem zche_5_14 : (tables_1_5.drop 224).take 16 = zch_5_14 := rfl
def zch_6_0 : List Jvm.Cond := [(Jvm.Cond.laysFinal "RingPursesModel" "RingPursesModel" "code" "[I"), (Jvm.Cond.soleField "RingPursesModel" "code"), (Jvm.Cond.laysFinal "RingPursesModel" "RingPursesModel" "codeInt" "[I"), (Jvm.Cond.soleField "RingPursesModel" "codeInt"), (Jvm.Cond.laysFinal "RingPursesModel" "RingPursesModel" "waits" "[I"), (Jvm.Cond.soleField "RingPursesModel" "waits"), (Jvm.Cond.lays "RingPursesModel" "RingPursesModel" "waiting" "I"), (Jvm.Cond.soleField "RingPursesModel" "waiting"), (Jvm.Cond.laysFinal "RingPursesModel" "RingPursesModel" "variables" "[I"), (Jvm.Cond.soleField "RingPursesModel" "variables"), (Jvm.Cond.laysFinal "RingPursesModel" "RingPursesModel" "pile" "[I"), (Jvm.Cond.soleField "RingPursesModel" "pile"), (Jvm.Cond.lays "RingPursesModel" "RingPursesModel" "isBroken" "Z"), (Jvm.Cond.soleField "RingPursesModel" "isBroken"), (Jvm.Cond.laysFinal "RingPursesModel" "RingPursesModel" "now" "[I"), (Jvm.Cond.soleField "RingPursesModel" "now")]
set_option maxRecDepth 20000 in
theorem zche_6_0 : (tables_1_6.drop 0).take 16 = zch_6_0 := rfl
def zch_6_1 : List Jvm.Cond := [(Jvm.Cond.laysFinal "RingPursesModel" "RingPursesModel" "row" "[I"), (Jvm.Cond.soleField "RingPursesModel" "row"), (Jvm.Cond.laysFinal "RingPursesModel" "RingPursesModel" "wants" "[I"), (Jvm.Cond.soleField "RingPursesModel" "wants"), (Jvm.Cond.lays "RingPursesModel" "RingPursesModel" "undos" "I"), (Jvm.Cond.soleField "RingPursesModel" "undos"), (Jvm.Cond.laysFinal "RingPursesModel" "RingPursesModel" "history" "[I"), (Jvm.Cond.soleField "RingPursesModel" "history"), (Jvm.Cond.laysFinal "RingPursesModel" "RingPursesModel" "trail" "[I"), (Jvm.Cond.soleField "RingPursesModel" "trail"), (Jvm.Cond.lays "RingPursesModel" "RingPursesModel" "freeTo" "I"), (Jvm.Cond.soleField "RingPursesModel" "freeTo"), (Jvm.Cond.laysFinal "RingPursesModel" "RingPursesModel" "hasBy" "[I"), (Jvm.Cond.soleField "RingPursesModel" "hasBy"), (Jvm.Cond.lays "RingPursesModel" "RingPursesModel" "told" "I"), (Jvm.Cond.soleField "RingPursesModel" "told")]
set_option maxRecDepth 20000 in
theorem zche_6_1 : (tables_1_6.drop 16).take 16 = zch_6_1 := rfl
def zch_6_2 : List Jvm.Cond := [(Jvm.Cond.laysFinal "RingPursesModel" "RingPursesModel" "toldHouse" "[I"), (Jvm.Cond.soleField "RingPursesModel" "toldHouse"), (Jvm.Cond.laysFinal "RingPursesModel" "RingPursesModel" "toldPay" "[I"), (Jvm.Cond.soleField "RingPursesModel" "toldPay"), (Jvm.Cond.laysFinal "RingPursesModel" "RingPursesModel" "known" "[I"), (Jvm.Cond.soleField "RingPursesModel" "known"), (Jvm.Cond.laysFinal "RingPursesModel" "RingPursesModel" "spanLow" "[I"), (Jvm.Cond.soleField "RingPursesModel" "spanLow"), (Jvm.Cond.laysFinal "RingPursesModel" "RingPursesModel" "spanHigh" "[I"), (Jvm.Cond.soleField "RingPursesModel" "spanHigh"), (Jvm.Cond.laysFinal "RingPursesModel" "RingPursesModel" "isHeld" "[Z"), (Jvm.Cond.soleField "RingPursesModel" "isHeld"), (Jvm.Cond.laysFinal "RingPursesModel" "RingPursesModel" "held" "[I"), (Jvm.Cond.soleField "RingPursesModel" "held"), (Jvm.Cond.superclass "RingPursesModel" "java/lang/Object"), (Jvm.Cond.methodLink "RingPursesLaw" (17 : Nat) ({ cls := "RingPursesModel", name := "feed", desc := "(IIIII)I" } : Jvm.MethodName))]
set_option maxRecDepth 20000 in
theorem zche_6_2 : (tables_1_6.drop 32).take 16 = zch_6_2 := rfl
def zch_6_3 : List Jvm.Cond := [(Jvm.Cond.instanceMethod ({ cls := "RingPursesModel", name := "feed", desc := "(IIIII)I" } : Jvm.MethodName)), (Jvm.Cond.selects "RingPursesModel" ({ cls := "RingPursesModel", name := "feed", desc := "(IIIII)I" } : Jvm.MethodName) ({ cls := "RingPursesModel", name := "feed", desc := "(IIIII)I" } : Jvm.MethodName)), (Jvm.Cond.code ({ cls := "RingPursesModel", name := "feed", desc := "(IIIII)I" } : Jvm.MethodName) prog_14_method_3_code (6 : Nat) (Option.some Jvm.ClassFile.FieldType.int)), (Jvm.Cond.methodLink "RingPursesModel" (147 : Nat) ({ cls := "RingPursesModel", name := "put", desc := "(I)V" } : Jvm.MethodName)), (Jvm.Cond.privateMethod ({ cls := "RingPursesModel", name := "put", desc := "(I)V" } : Jvm.MethodName)), (Jvm.Cond.instanceMethod ({ cls := "RingPursesModel", name := "put", desc := "(I)V" } : Jvm.MethodName)), (Jvm.Cond.code ({ cls := "RingPursesModel", name := "put", desc := "(I)V" } : Jvm.MethodName) prog_14_method_4_code (3 : Nat) (Option.none : Option Jvm.ClassFile.FieldType)), (Jvm.Cond.methodLink "RingPursesLaw" (22 : Nat) ({ cls := "RingPursesModel", name := "back", desc := "(I)I" } : Jvm.MethodName)), (Jvm.Cond.instanceMethod ({ cls := "RingPursesModel", name := "back", desc := "(I)I" } : Jvm.MethodName)), (Jvm.Cond.selects "RingPursesModel" ({ cls := "RingPursesModel", name := "back", desc := "(I)I" } : Jvm.MethodName) ({ cls := "RingPursesModel", name := "back", desc := "(I)I" } : Jvm.MethodName)), (Jvm.Cond.code ({ cls := "RingPursesModel", name := "back", desc := "(I)I" } : Jvm.MethodName) prog_14_method_5_code (2 : Nat) (Option.some Jvm.ClassFile.FieldType.int)), (Jvm.Cond.methodLink "RingPursesLaw" (27 : Nat) ({ cls := "RingPursesModel", name := "read", desc := "()I" } : Jvm.MethodName)), (Jvm.Cond.instanceMethod ({ cls := "RingPursesModel", name := "read", desc := "()I" } : Jvm.MethodName)), (Jvm.Cond.selects "RingPursesModel" ({ cls := "RingPursesModel", name := "read", desc := "()I" } : Jvm.MethodName) ({ cls := "RingPursesModel", name := "read", desc := "()I" } : Jvm.MethodName)), (Jvm.Cond.code ({ cls := "RingPursesModel", name := "read", desc := "()I" } : Jvm.MethodName) prog_14_method_19_code (2 : Nat) (Option.some Jvm.ClassFile.FieldType.int)), (Jvm.Cond.methodLink "RingPursesModel" (206 : Nat) ({ cls := "RingPursesModel", name := "cut", desc := "()V" } : Jvm.MethodName))]
set_option maxRecDepth 20000 in
theorem zche_6_3 : (tables_1_6.drop 48).take 16 = zch_6_3 := rfl
def zch_6_4 : List Jvm.Cond := [(Jvm.Cond.privateMethod ({ cls := "RingPursesModel", name := "cut", desc := "()V" } : Jvm.MethodName)), (Jvm.Cond.instanceMethod ({ cls := "RingPursesModel", name := "cut", desc := "()V" } : Jvm.MethodName)), (Jvm.Cond.code ({ cls := "RingPursesModel", name := "cut", desc := "()V" } : Jvm.MethodName) prog_14_method_12_code (8 : Nat) (Option.none : Option Jvm.ClassFile.FieldType)), (Jvm.Cond.methodLink "RingPursesModel" (163 : Nat) ({ cls := "RingPursesModel", name := "byteAt", desc := "(I)I" } : Jvm.MethodName)), (Jvm.Cond.privateMethod ({ cls := "RingPursesModel", name := "byteAt", desc := "(I)I" } : Jvm.MethodName)), (Jvm.Cond.instanceMethod ({ cls := "RingPursesModel", name := "byteAt", desc := "(I)I" } : Jvm.MethodName)), (Jvm.Cond.code ({ cls := "RingPursesModel", name := "byteAt", desc := "(I)I" } : Jvm.MethodName) prog_14_method_6_code (2 : Nat) (Option.some Jvm.ClassFile.FieldType.int)), (Jvm.Cond.methodLink "RingPursesModel" (167 : Nat) ({ cls := "RingPursesModel", name := "token", desc := "(IIIJ)V" } : Jvm.MethodName)), (Jvm.Cond.privateMethod ({ cls := "RingPursesModel", name := "token", desc := "(IIIJ)V" } : Jvm.MethodName)), (Jvm.Cond.instanceMethod ({ cls := "RingPursesModel", name := "token", desc := "(IIIJ)V" } : Jvm.MethodName)), (Jvm.Cond.code ({ cls := "RingPursesModel", name := "token", desc := "(IIIJ)V" } : Jvm.MethodName) prog_14_method_11_code (6 : Nat) (Option.none : Option Jvm.ClassFile.FieldType)), (Jvm.Cond.methodLink "RingPursesModel" (171 : Nat) ({ cls := "RingPursesModel", name := "isLetter", desc := "(I)Z" } : Jvm.MethodName)), (Jvm.Cond.static ({ cls := "RingPursesModel", name := "isLetter", desc := "(I)Z" } : Jvm.MethodName)), (Jvm.Cond.code ({ cls := "RingPursesModel", name := "isLetter", desc := "(I)Z" } : Jvm.MethodName) prog_14_method_8_code (1 : Nat) (Option.some Jvm.ClassFile.FieldType.boolean)), (Jvm.Cond.methodLink "RingPursesModel" (175 : Nat) ({ cls := "RingPursesModel", name := "isDigit", desc := "(I)Z" } : Jvm.MethodName)), (Jvm.Cond.static ({ cls := "RingPursesModel", name := "isDigit", desc := "(I)Z" } : Jvm.MethodName))]
set_option maxRecDepth 20000 in
theorem zche_6_4 : (tables_1_6.drop 64).take 16 = zch_6_4 := rfl
def zch_6_5 : List Jvm.Cond := [(Jvm.Cond.code ({ cls := "RingPursesModel", name := "isDigit", desc := "(I)Z" } : Jvm.MethodName) prog_14_method_7_code (1 : Nat) (Option.some Jvm.ClassFile.FieldType.boolean)), (Jvm.Cond.methodLink "RingPursesModel" (178 : Nat) ({ cls := "RingPursesModel", name := "sign", desc := "(III)I" } : Jvm.MethodName)), (Jvm.Cond.privateMethod ({ cls := "RingPursesModel", name := "sign", desc := "(III)I" } : Jvm.MethodName)), (Jvm.Cond.instanceMethod ({ cls := "RingPursesModel", name := "sign", desc := "(III)I" } : Jvm.MethodName)), (Jvm.Cond.code ({ cls := "RingPursesModel", name := "sign", desc := "(III)I" } : Jvm.MethodName) prog_14_method_13_code (5 : Nat) (Option.some Jvm.ClassFile.FieldType.int)), (Jvm.Cond.methodLink "RingPursesModel" (200 : Nat) ({ cls := "RingPursesModel", name := "is", desc := "(I)Z" } : Jvm.MethodName)), (Jvm.Cond.privateMethod ({ cls := "RingPursesModel", name := "is", desc := "(I)Z" } : Jvm.MethodName)), (Jvm.Cond.instanceMethod ({ cls := "RingPursesModel", name := "is", desc := "(I)Z" } : Jvm.MethodName)), (Jvm.Cond.code ({ cls := "RingPursesModel", name := "is", desc := "(I)Z" } : Jvm.MethodName) prog_14_method_14_code (2 : Nat) (Option.some Jvm.ClassFile.FieldType.boolean)), (Jvm.Cond.methodLink "RingPursesModel" (227 : Nat) ({ cls := "RingPursesModel", name := "tell", desc := "()V" } : Jvm.MethodName)), (Jvm.Cond.privateMethod ({ cls := "RingPursesModel", name := "tell", desc := "()V" } : Jvm.MethodName)), (Jvm.Cond.instanceMethod ({ cls := "RingPursesModel", name := "tell", desc := "()V" } : Jvm.MethodName)), (Jvm.Cond.code ({ cls := "RingPursesModel", name := "tell", desc := "()V" } : Jvm.MethodName) prog_14_method_21_code (2 : Nat) (Option.none : Option Jvm.ClassFile.FieldType)), (Jvm.Cond.methodLink "RingPursesModel" (197 : Nat) ({ cls := "RingPursesModel", name := "fail", desc := "(I)V" } : Jvm.MethodName)), (Jvm.Cond.privateMethod ({ cls := "RingPursesModel", name := "fail", desc := "(I)V" } : Jvm.MethodName)), (Jvm.Cond.instanceMethod ({ cls := "RingPursesModel", name := "fail", desc := "(I)V" } : Jvm.MethodName))]
set_option maxRecDepth 20000 in
theorem zche_6_5 : (tables_1_6.drop 80).take 16 = zch_6_5 := rfl
def zch_6_6 : List Jvm.Cond := [(Jvm.Cond.code ({ cls := "RingPursesModel", name := "fail", desc := "(I)V" } : Jvm.MethodName) prog_14_method_15_code (2 : Nat) (Option.none : Option Jvm.ClassFile.FieldType)), (Jvm.Cond.methodLink "RingPursesModel" (236 : Nat) ({ cls := "RingPursesModel", name := "tellHouse", desc := "()V" } : Jvm.MethodName)), (Jvm.Cond.privateMethod ({ cls := "RingPursesModel", name := "tellHouse", desc := "()V" } : Jvm.MethodName)), (Jvm.Cond.instanceMethod ({ cls := "RingPursesModel", name := "tellHouse", desc := "()V" } : Jvm.MethodName)), (Jvm.Cond.code ({ cls := "RingPursesModel", name := "tellHouse", desc := "()V" } : Jvm.MethodName) prog_14_method_23_code (3 : Nat) (Option.none : Option Jvm.ClassFile.FieldType)), (Jvm.Cond.methodLink "RingPursesModel" (203 : Nat) ({ cls := "RingPursesModel", name := "goesOn", desc := "()V" } : Jvm.MethodName)), (Jvm.Cond.privateMethod ({ cls := "RingPursesModel", name := "goesOn", desc := "()V" } : Jvm.MethodName)), (Jvm.Cond.instanceMethod ({ cls := "RingPursesModel", name := "goesOn", desc := "()V" } : Jvm.MethodName)), (Jvm.Cond.code ({ cls := "RingPursesModel", name := "goesOn", desc := "()V" } : Jvm.MethodName) prog_14_method_17_code (1 : Nat) (Option.none : Option Jvm.ClassFile.FieldType)), (Jvm.Cond.methodLink "RingPursesModel" (239 : Nat) ({ cls := "RingPursesModel", name := "must", desc := "(I)V" } : Jvm.MethodName)), (Jvm.Cond.privateMethod ({ cls := "RingPursesModel", name := "must", desc := "(I)V" } : Jvm.MethodName)), (Jvm.Cond.instanceMethod ({ cls := "RingPursesModel", name := "must", desc := "(I)V" } : Jvm.MethodName)), (Jvm.Cond.code ({ cls := "RingPursesModel", name := "must", desc := "(I)V" } : Jvm.MethodName) prog_14_method_18_code (2 : Nat) (Option.none : Option Jvm.ClassFile.FieldType)), (Jvm.Cond.methodLink "RingPursesModel" (249 : Nat) ({ cls := "RingPursesModel", name := "wrong", desc := "(II)V" } : Jvm.MethodName)), (Jvm.Cond.privateMethod ({ cls := "RingPursesModel", name := "wrong", desc := "(II)V" } : Jvm.MethodName)), (Jvm.Cond.instanceMethod ({ cls := "RingPursesModel", name := "wrong", desc := "(II)V" } : Jvm.MethodName))]
set_option maxRecDepth 20000 in
theorem zche_6_6 : (tables_1_6.drop 96).take 16 = zch_6_6 := rfl
def zch_6_7 : List Jvm.Cond := [(Jvm.Cond.code ({ cls := "RingPursesModel", name := "wrong", desc := "(II)V" } : Jvm.MethodName) prog_14_method_16_code (4 : Nat) (Option.none : Option Jvm.ClassFile.FieldType)), (Jvm.Cond.methodLink "RingPursesModel" (245 : Nat) ({ cls := "RingPursesModel", name := "bounded", desc := "(II)I" } : Jvm.MethodName)), (Jvm.Cond.privateMethod ({ cls := "RingPursesModel", name := "bounded", desc := "(II)I" } : Jvm.MethodName)), (Jvm.Cond.instanceMethod ({ cls := "RingPursesModel", name := "bounded", desc := "(II)I" } : Jvm.MethodName)), (Jvm.Cond.code ({ cls := "RingPursesModel", name := "bounded", desc := "(II)I" } : Jvm.MethodName) prog_14_method_22_code (4 : Nat) (Option.some Jvm.ClassFile.FieldType.int)), (Jvm.Cond.methodLink "RingPursesModel" (242 : Nat) ({ cls := "RingPursesModel", name := "tellLaw", desc := "(I)V" } : Jvm.MethodName)), (Jvm.Cond.privateMethod ({ cls := "RingPursesModel", name := "tellLaw", desc := "(I)V" } : Jvm.MethodName)), (Jvm.Cond.instanceMethod ({ cls := "RingPursesModel", name := "tellLaw", desc := "(I)V" } : Jvm.MethodName)), (Jvm.Cond.code ({ cls := "RingPursesModel", name := "tellLaw", desc := "(I)V" } : Jvm.MethodName) prog_14_method_24_code (4 : Nat) (Option.none : Option Jvm.ClassFile.FieldType)), (Jvm.Cond.methodLink "RingPursesModel" (253 : Nat) ({ cls := "RingPursesModel", name := "expression", desc := "()V" } : Jvm.MethodName)), (Jvm.Cond.privateMethod ({ cls := "RingPursesModel", name := "expression", desc := "()V" } : Jvm.MethodName)), (Jvm.Cond.instanceMethod ({ cls := "RingPursesModel", name := "expression", desc := "()V" } : Jvm.MethodName)), (Jvm.Cond.code ({ cls := "RingPursesModel", name := "expression", desc := "()V" } : Jvm.MethodName) prog_14_method_28_code (3 : Nat) (Option.none : Option Jvm.ClassFile.FieldType)), (Jvm.Cond.methodLink "RingPursesModel" (265 : Nat) ({ cls := "RingPursesModel", name := "unit", desc := "()V" } : Jvm.MethodName)), (Jvm.Cond.privateMethod ({ cls := "RingPursesModel", name := "unit", desc := "()V" } : Jvm.MethodName)), (Jvm.Cond.instanceMethod ({ cls := "RingPursesModel", name := "unit", desc := "()V" } : Jvm.MethodName))]
set_option maxRecDepth 20000 in
theorem zche_6_7 : (tables_1_6.drop 112).take 16 = zch_6_7 := rfl
def zch_6_8 : List Jvm.Cond := [(Jvm.Cond.code ({ cls := "RingPursesModel", name := "unit", desc := "()V" } : Jvm.MethodName) prog_14_method_29_code (1 : Nat) (Option.none : Option Jvm.ClassFile.FieldType)), (Jvm.Cond.methodLink "RingPursesModel" (262 : Nat) ({ cls := "RingPursesModel", name := "emit", desc := "(II)V" } : Jvm.MethodName)), (Jvm.Cond.privateMethod ({ cls := "RingPursesModel", name := "emit", desc := "(II)V" } : Jvm.MethodName)), (Jvm.Cond.instanceMethod ({ cls := "RingPursesModel", name := "emit", desc := "(II)V" } : Jvm.MethodName)), (Jvm.Cond.code ({ cls := "RingPursesModel", name := "emit", desc := "(II)V" } : Jvm.MethodName) prog_14_method_26_code (3 : Nat) (Option.none : Option Jvm.ClassFile.FieldType)), (Jvm.Cond.methodLink "RingPursesModel" (268 : Nat) ({ cls := "RingPursesModel", name := "comesOut", desc := "(Z)V" } : Jvm.MethodName)), (Jvm.Cond.privateMethod ({ cls := "RingPursesModel", name := "comesOut", desc := "(Z)V" } : Jvm.MethodName)), (Jvm.Cond.instanceMethod ({ cls := "RingPursesModel", name := "comesOut", desc := "(Z)V" } : Jvm.MethodName)), (Jvm.Cond.code ({ cls := "RingPursesModel", name := "comesOut", desc := "(Z)V" } : Jvm.MethodName) prog_14_method_27_code (3 : Nat) (Option.none : Option Jvm.ClassFile.FieldType)), (Jvm.Cond.methodLink "RingPursesModel" (256 : Nat) ({ cls := "RingPursesModel", name := "term", desc := "()V" } : Jvm.MethodName)), (Jvm.Cond.privateMethod ({ cls := "RingPursesModel", name := "term", desc := "()V" } : Jvm.MethodName)), (Jvm.Cond.instanceMethod ({ cls := "RingPursesModel", name := "term", desc := "()V" } : Jvm.MethodName)), (Jvm.Cond.code ({ cls := "RingPursesModel", name := "term", desc := "()V" } : Jvm.MethodName) prog_14_method_25_code (1 : Nat) (Option.none : Option Jvm.ClassFile.FieldType)), (Jvm.Cond.methodLink "RingPursesLaw" (31 : Nat) ({ cls := "RingPursesModel", name := "place", desc := "()I" } : Jvm.MethodName)), (Jvm.Cond.instanceMethod ({ cls := "RingPursesModel", name := "place", desc := "()I" } : Jvm.MethodName)), (Jvm.Cond.selects "RingPursesModel" ({ cls := "RingPursesModel", name := "place", desc := "()I" } : Jvm.MethodName) ({ cls := "RingPursesModel", name := "place", desc := "()I" } : Jvm.MethodName))]
set_option maxRecDepth 20000 in
theorem zche_6_8 : (tables_1_6.drop 128).take 16 = zch_6_8 := rfl
def zch_6_9 : List Jvm.Cond := [(Jvm.Cond.code ({ cls := "RingPursesModel", name := "place", desc := "()I" } : Jvm.MethodName) prog_14_method_20_code (1 : Nat) (Option.some Jvm.ClassFile.FieldType.int)), (Jvm.Cond.methodLink "RingPursesLaw" (36 : Nat) ({ cls := "RingPursesModel", name := "house", desc := "(II)I" } : Jvm.MethodName)), (Jvm.Cond.instanceMethod ({ cls := "RingPursesModel", name := "house", desc := "(II)I" } : Jvm.MethodName)), (Jvm.Cond.selects "RingPursesModel" ({ cls := "RingPursesModel", name := "house", desc := "(II)I" } : Jvm.MethodName) ({ cls := "RingPursesModel", name := "house", desc := "(II)I" } : Jvm.MethodName)), (Jvm.Cond.code ({ cls := "RingPursesModel", name := "house", desc := "(II)I" } : Jvm.MethodName) prog_14_method_48_code (3 : Nat) (Option.some Jvm.ClassFile.FieldType.int)), (Jvm.Cond.methodLink "RingPursesModel" (325 : Nat) ({ cls := "RingPursesModel", name := "isHouse", desc := "(I)Z" } : Jvm.MethodName)), (Jvm.Cond.privateMethod ({ cls := "RingPursesModel", name := "isHouse", desc := "(I)Z" } : Jvm.MethodName)), (Jvm.Cond.instanceMethod ({ cls := "RingPursesModel", name := "isHouse", desc := "(I)Z" } : Jvm.MethodName)), (Jvm.Cond.code ({ cls := "RingPursesModel", name := "isHouse", desc := "(I)Z" } : Jvm.MethodName) prog_14_method_33_code (2 : Nat) (Option.some Jvm.ClassFile.FieldType.boolean)), (Jvm.Cond.methodLink "RingPursesModel" (276 : Nat) ({ cls := "RingPursesModel", name := "in", desc := "(III)Z" } : Jvm.MethodName)), (Jvm.Cond.static ({ cls := "RingPursesModel", name := "in", desc := "(III)Z" } : Jvm.MethodName)), (Jvm.Cond.code ({ cls := "RingPursesModel", name := "in", desc := "(III)Z" } : Jvm.MethodName) prog_14_method_31_code (3 : Nat) (Option.some Jvm.ClassFile.FieldType.boolean)), (Jvm.Cond.methodLink "RingPursesModel" (328 : Nat) ({ cls := "RingPursesModel", name := "copies", desc := "()V" } : Jvm.MethodName)), (Jvm.Cond.privateMethod ({ cls := "RingPursesModel", name := "copies", desc := "()V" } : Jvm.MethodName)), (Jvm.Cond.instanceMethod ({ cls := "RingPursesModel", name := "copies", desc := "()V" } : Jvm.MethodName)), (Jvm.Cond.code ({ cls := "RingPursesModel", name := "copies", desc := "()V" } : Jvm.MethodName) prog_14_method_32_code (2 : Nat) (Option.none : Option Jvm.ClassFile.FieldType))]
set_option maxRecDepth 20000 in
theorem zche_6_9 : (tables_1_6.drop 144).take 16 = zch_6_9 := rfl
def zch_6_10 : List Jvm.Cond := [(Jvm.Cond.methodLink "RingPursesModel" (280 : Nat) ({ cls := "RingPursesModel", name := "shownOf", desc := "(I)I" } : Jvm.MethodName)), (Jvm.Cond.privateMethod ({ cls := "RingPursesModel", name := "shownOf", desc := "(I)I" } : Jvm.MethodName)), (Jvm.Cond.instanceMethod ({ cls := "RingPursesModel", name := "shownOf", desc := "(I)I" } : Jvm.MethodName)), (Jvm.Cond.code ({ cls := "RingPursesModel", name := "shownOf", desc := "(I)I" } : Jvm.MethodName) prog_14_method_34_code (2 : Nat) (Option.some Jvm.ClassFile.FieldType.int)), (Jvm.Cond.methodLink "RingPursesModel" (290 : Nat) ({ cls := "RingPursesModel", name := "gapOf", desc := "(I)I" } : Jvm.MethodName)), (Jvm.Cond.privateMethod ({ cls := "RingPursesModel", name := "gapOf", desc := "(I)I" } : Jvm.MethodName)), (Jvm.Cond.instanceMethod ({ cls := "RingPursesModel", name := "gapOf", desc := "(I)I" } : Jvm.MethodName)), (Jvm.Cond.code ({ cls := "RingPursesModel", name := "gapOf", desc := "(I)I" } : Jvm.MethodName) prog_14_method_38_code (3 : Nat) (Option.some Jvm.ClassFile.FieldType.int)), (Jvm.Cond.methodLink "RingPursesModel" (287 : Nat) ({ cls := "RingPursesModel", name := "beside", desc := "(II)I" } : Jvm.MethodName)), (Jvm.Cond.privateMethod ({ cls := "RingPursesModel", name := "beside", desc := "(II)I" } : Jvm.MethodName)), (Jvm.Cond.instanceMethod ({ cls := "RingPursesModel", name := "beside", desc := "(II)I" } : Jvm.MethodName)), (Jvm.Cond.code ({ cls := "RingPursesModel", name := "beside", desc := "(II)I" } : Jvm.MethodName) prog_14_method_35_code (5 : Nat) (Option.some Jvm.ClassFile.FieldType.int)), (Jvm.Cond.methodLink "RingPursesModel" (303 : Nat) ({ cls := "RingPursesModel", name := "wanted", desc := "(I)I" } : Jvm.MethodName)), (Jvm.Cond.privateMethod ({ cls := "RingPursesModel", name := "wanted", desc := "(I)I" } : Jvm.MethodName)), (Jvm.Cond.instanceMethod ({ cls := "RingPursesModel", name := "wanted", desc := "(I)I" } : Jvm.MethodName)), (Jvm.Cond.code ({ cls := "RingPursesModel", name := "wanted", desc := "(I)I" } : Jvm.MethodName) prog_14_method_40_code (2 : Nat) (Option.some Jvm.ClassFile.FieldType.int))]
set_option maxRecDepth 20000 in
theorem zche_6_10 : (tables_1_6.drop 160).take 16 = zch_6_10 := rfl
def zch_6_11 : List Jvm.Cond := [(Jvm.Cond.methodLink "RingPursesModel" (299 : Nat) ({ cls := "RingPursesModel", name := "tellsBy", desc := "(IIII)I" } : Jvm.MethodName)), (Jvm.Cond.privateMethod ({ cls := "RingPursesModel", name := "tellsBy", desc := "(IIII)I" } : Jvm.MethodName)), (Jvm.Cond.instanceMethod ({ cls := "RingPursesModel", name := "tellsBy", desc := "(IIII)I" } : Jvm.MethodName)), (Jvm.Cond.code ({ cls := "RingPursesModel", name := "tellsBy", desc := "(IIII)I" } : Jvm.MethodName) prog_14_method_39_code (10 : Nat) (Option.some Jvm.ClassFile.FieldType.int)), (Jvm.Cond.methodLink "RingPursesModel" (293 : Nat) ({ cls := "RingPursesModel", name := "lot", desc := "(III)I" } : Jvm.MethodName)), (Jvm.Cond.static ({ cls := "RingPursesModel", name := "lot", desc := "(III)I" } : Jvm.MethodName)), (Jvm.Cond.code ({ cls := "RingPursesModel", name := "lot", desc := "(III)I" } : Jvm.MethodName) prog_14_method_37_code (3 : Nat) (Option.some Jvm.ClassFile.FieldType.int)), (Jvm.Cond.methodLink "RingPursesModel" (284 : Nat) ({ cls := "RingPursesModel", name := "mixed", desc := "(II)I" } : Jvm.MethodName)), (Jvm.Cond.static ({ cls := "RingPursesModel", name := "mixed", desc := "(II)I" } : Jvm.MethodName)), (Jvm.Cond.code ({ cls := "RingPursesModel", name := "mixed", desc := "(II)I" } : Jvm.MethodName) prog_14_method_36_code (3 : Nat) (Option.some Jvm.ClassFile.FieldType.int)), (Jvm.Cond.constant "RingPursesModel" (283 : Nat) (1103515245 : Int32)), (Jvm.Cond.methodLink "RingPursesModel" (296 : Nat) ({ cls := "RingPursesModel", name := "termOf", desc := "(II)I" } : Jvm.MethodName)), (Jvm.Cond.privateMethod ({ cls := "RingPursesModel", name := "termOf", desc := "(II)I" } : Jvm.MethodName)), (Jvm.Cond.instanceMethod ({ cls := "RingPursesModel", name := "termOf", desc := "(II)I" } : Jvm.MethodName)), (Jvm.Cond.code ({ cls := "RingPursesModel", name := "termOf", desc := "(II)I" } : Jvm.MethodName) prog_14_method_30_code (8 : Nat) (Option.some Jvm.ClassFile.FieldType.int)), (Jvm.Cond.methodLink "RingPursesLaw" (40 : Nat) ({ cls := "RingPursesModel", name := "run", desc := "(I)I" } : Jvm.MethodName))]
set_option maxRecDepth 20000 in
theorem zche_6_11 : (tables_1_6.drop 176).take 16 = zch_6_11 := rfl
def zch_6_12 : List Jvm.Cond := [(Jvm.Cond.instanceMethod ({ cls := "RingPursesModel", name := "run", desc := "(I)I" } : Jvm.MethodName)), (Jvm.Cond.selects "RingPursesModel" ({ cls := "RingPursesModel", name := "run", desc := "(I)I" } : Jvm.MethodName) ({ cls := "RingPursesModel", name := "run", desc := "(I)I" } : Jvm.MethodName)), (Jvm.Cond.code ({ cls := "RingPursesModel", name := "run", desc := "(I)I" } : Jvm.MethodName) prog_14_method_50_code (2 : Nat) (Option.some Jvm.ClassFile.FieldType.int)), (Jvm.Cond.methodLink "RingPursesModel" (331 : Nat) ({ cls := "RingPursesModel", name := "evenings", desc := "(I)V" } : Jvm.MethodName)), (Jvm.Cond.privateMethod ({ cls := "RingPursesModel", name := "evenings", desc := "(I)V" } : Jvm.MethodName)), (Jvm.Cond.instanceMethod ({ cls := "RingPursesModel", name := "evenings", desc := "(I)V" } : Jvm.MethodName)), (Jvm.Cond.code ({ cls := "RingPursesModel", name := "evenings", desc := "(I)V" } : Jvm.MethodName) prog_14_method_47_code (3 : Nat) (Option.none : Option Jvm.ClassFile.FieldType)), (Jvm.Cond.methodLink "RingPursesModel" (322 : Nat) ({ cls := "RingPursesModel", name := "evening", desc := "(I)V" } : Jvm.MethodName)), (Jvm.Cond.privateMethod ({ cls := "RingPursesModel", name := "evening", desc := "(I)V" } : Jvm.MethodName)), (Jvm.Cond.instanceMethod ({ cls := "RingPursesModel", name := "evening", desc := "(I)V" } : Jvm.MethodName)), (Jvm.Cond.code ({ cls := "RingPursesModel", name := "evening", desc := "(I)V" } : Jvm.MethodName) prog_14_method_46_code (2 : Nat) (Option.none : Option Jvm.ClassFile.FieldType)), (Jvm.Cond.methodLink "RingPursesModel" (312 : Nat) ({ cls := "RingPursesModel", name := "earnAll", desc := "()V" } : Jvm.MethodName)), (Jvm.Cond.privateMethod ({ cls := "RingPursesModel", name := "earnAll", desc := "()V" } : Jvm.MethodName)), (Jvm.Cond.instanceMethod ({ cls := "RingPursesModel", name := "earnAll", desc := "()V" } : Jvm.MethodName)), (Jvm.Cond.code ({ cls := "RingPursesModel", name := "earnAll", desc := "()V" } : Jvm.MethodName) prog_14_method_41_code (2 : Nat) (Option.none : Option Jvm.ClassFile.FieldType)), (Jvm.Cond.methodLink "RingPursesModel" (315 : Nat) ({ cls := "RingPursesModel", name := "payAll", desc := "(ZI)V" } : Jvm.MethodName))]
set_option maxRecDepth 20000 in
theorem zche_6_12 : (tables_1_6.drop 192).take 16 = zch_6_12 := rfl
def zch_6_13 : List Jvm.Cond := [(Jvm.Cond.privateMethod ({ cls := "RingPursesModel", name := "payAll", desc := "(ZI)V" } : Jvm.MethodName)), (Jvm.Cond.instanceMethod ({ cls := "RingPursesModel", name := "payAll", desc := "(ZI)V" } : Jvm.MethodName)), (Jvm.Cond.code ({ cls := "RingPursesModel", name := "payAll", desc := "(ZI)V" } : Jvm.MethodName) prog_14_method_43_code (5 : Nat) (Option.none : Option Jvm.ClassFile.FieldType)), (Jvm.Cond.methodLink "RingPursesModel" (306 : Nat) ({ cls := "RingPursesModel", name := "pays", desc := "(II)V" } : Jvm.MethodName)), (Jvm.Cond.privateMethod ({ cls := "RingPursesModel", name := "pays", desc := "(II)V" } : Jvm.MethodName)), (Jvm.Cond.instanceMethod ({ cls := "RingPursesModel", name := "pays", desc := "(II)V" } : Jvm.MethodName)), (Jvm.Cond.code ({ cls := "RingPursesModel", name := "pays", desc := "(II)V" } : Jvm.MethodName) prog_14_method_42_code (3 : Nat) (Option.none : Option Jvm.ClassFile.FieldType)), (Jvm.Cond.methodLink "RingPursesModel" (319 : Nat) ({ cls := "RingPursesModel", name := "ends", desc := "(I)V" } : Jvm.MethodName)), (Jvm.Cond.privateMethod ({ cls := "RingPursesModel", name := "ends", desc := "(I)V" } : Jvm.MethodName)), (Jvm.Cond.instanceMethod ({ cls := "RingPursesModel", name := "ends", desc := "(I)V" } : Jvm.MethodName)), (Jvm.Cond.code ({ cls := "RingPursesModel", name := "ends", desc := "(I)V" } : Jvm.MethodName) prog_14_method_45_code (2 : Nat) (Option.none : Option Jvm.ClassFile.FieldType)), (Jvm.Cond.methodLink "RingPursesModel" (309 : Nat) ({ cls := "RingPursesModel", name := "shares", desc := "(I)V" } : Jvm.MethodName)), (Jvm.Cond.privateMethod ({ cls := "RingPursesModel", name := "shares", desc := "(I)V" } : Jvm.MethodName)), (Jvm.Cond.instanceMethod ({ cls := "RingPursesModel", name := "shares", desc := "(I)V" } : Jvm.MethodName)), (Jvm.Cond.code ({ cls := "RingPursesModel", name := "shares", desc := "(I)V" } : Jvm.MethodName) prog_14_method_44_code (6 : Nat) (Option.none : Option Jvm.ClassFile.FieldType)), (Jvm.Cond.methodLink "RingPursesModel" (334 : Nat) ({ cls := "RingPursesModel", name := "keeps", desc := "()V" } : Jvm.MethodName))]
set_option maxRecDepth 20000 in
theorem zche_6_13 : (tables_1_6.drop 208).take 16 = zch_6_13 := rfl
def zch_6_14 : List Jvm.Cond := [(Jvm.Cond.privateMethod ({ cls := "RingPursesModel", name := "keeps", desc := "()V" } : Jvm.MethodName)), (Jvm.Cond.instanceMethod ({ cls := "RingPursesModel", name := "keeps", desc := "()V" } : Jvm.MethodName)), (Jvm.Cond.code ({ cls := "RingPursesModel", name := "keeps", desc := "()V" } : Jvm.MethodName) prog_14_method_49_code (2 : Nat) (Option.none : Option Jvm.ClassFile.FieldType)), (Jvm.Cond.methodLink "RingPursesLaw" (45 : Nat) ({ cls := "RingPursesModel", name := "give", desc := "(III)Z" } : Jvm.MethodName)), (Jvm.Cond.instanceMethod ({ cls := "RingPursesModel", name := "give", desc := "(III)Z" } : Jvm.MethodName)), (Jvm.Cond.selects "RingPursesModel" ({ cls := "RingPursesModel", name := "give", desc := "(III)Z" } : Jvm.MethodName) ({ cls := "RingPursesModel", name := "give", desc := "(III)Z" } : Jvm.MethodName)), (Jvm.Cond.code ({ cls := "RingPursesModel", name := "give", desc := "(III)Z" } : Jvm.MethodName) prog_14_method_51_code (4 : Nat) (Option.some Jvm.ClassFile.FieldType.boolean)), (Jvm.Cond.methodLink "RingPursesLaw" (50 : Nat) ({ cls := "RingPursesModel", name := "hide", desc := "(II)Z" } : Jvm.MethodName)), (Jvm.Cond.instanceMethod ({ cls := "RingPursesModel", name := "hide", desc := "(II)Z" } : Jvm.MethodName)), (Jvm.Cond.selects "RingPursesModel" ({ cls := "RingPursesModel", name := "hide", desc := "(II)Z" } : Jvm.MethodName) ({ cls := "RingPursesModel", name := "hide", desc := "(II)Z" } : Jvm.MethodName)), (Jvm.Cond.code ({ cls := "RingPursesModel", name := "hide", desc := "(II)Z" } : Jvm.MethodName) prog_14_method_52_code (3 : Nat) (Option.some Jvm.ClassFile.FieldType.boolean)), (Jvm.Cond.methodLink "RingPursesLaw" (54 : Nat) ({ cls := "RingPursesModel", name := "grab", desc := "(I)I" } : Jvm.MethodName)), (Jvm.Cond.instanceMethod ({ cls := "RingPursesModel", name := "grab", desc := "(I)I" } : Jvm.MethodName)), (Jvm.Cond.selects "RingPursesModel" ({ cls := "RingPursesModel", name := "grab", desc := "(I)I" } : Jvm.MethodName) ({ cls := "RingPursesModel", name := "grab", desc := "(I)I" } : Jvm.MethodName)), (Jvm.Cond.code ({ cls := "RingPursesModel", name := "grab", desc := "(I)I" } : Jvm.MethodName) prog_14_method_53_code (3 : Nat) (Option.some Jvm.ClassFile.FieldType.int)), (Jvm.Cond.methodLink "RingPursesLaw" (58 : Nat) ({ cls := "RingPursesModel", name := "build", desc := "(II)I" } : Jvm.MethodName))]
set_option maxRecDepth 20000 in
theorem zche_6_14 : (tables_1_6.drop 224).take 16 = zch_6_14 := rfl
def zch_7_0 : List Jvm.Cond := [(Jvm.Cond.instanceMethod ({ cls := "RingPursesModel", name := "build", desc := "(II)I" } : Jvm.MethodName)), (Jvm.Cond.selects "RingPursesModel" ({ cls := "RingPursesModel", name := "build", desc := "(II)I" } : Jvm.MethodName) ({ cls := "RingPursesModel", name := "build", desc := "(II)I" } : Jvm.MethodName)), (Jvm.Cond.code ({ cls := "RingPursesModel", name := "build", desc := "(II)I" } : Jvm.MethodName) prog_14_method_56_code (3 : Nat) (Option.some Jvm.ClassFile.FieldType.int)), (Jvm.Cond.methodLink "RingPursesModel" (337 : Nat) ({ cls := "RingPursesModel", name := "builds", desc := "(II)V" } : Jvm.MethodName)), (Jvm.Cond.privateMethod ({ cls := "RingPursesModel", name := "builds", desc := "(II)V" } : Jvm.MethodName)), (Jvm.Cond.instanceMethod ({ cls := "RingPursesModel", name := "builds", desc := "(II)V" } : Jvm.MethodName)), (Jvm.Cond.code ({ cls := "RingPursesModel", name := "builds", desc := "(II)V" } : Jvm.MethodName) prog_14_method_54_code (5 : Nat) (Option.none : Option Jvm.ClassFile.FieldType)), (Jvm.Cond.methodLink "RingPursesLaw" (62 : Nat) ({ cls := "RingPursesModel", name := "burn", desc := "(I)I" } : Jvm.MethodName)), (Jvm.Cond.instanceMethod ({ cls := "RingPursesModel", name := "burn", desc := "(I)I" } : Jvm.MethodName)), (Jvm.Cond.selects "RingPursesModel" ({ cls := "RingPursesModel", name := "burn", desc := "(I)I" } : Jvm.MethodName) ({ cls := "RingPursesModel", name := "burn", desc := "(I)I" } : Jvm.MethodName)), (Jvm.Cond.code ({ cls := "RingPursesModel", name := "burn", desc := "(I)I" } : Jvm.MethodName) prog_14_method_57_code (3 : Nat) (Option.some Jvm.ClassFile.FieldType.int)), (Jvm.Cond.methodLink "RingPursesModel" (340 : Nat) ({ cls := "RingPursesModel", name := "goes", desc := "(I)V" } : Jvm.MethodName)), (Jvm.Cond.privateMethod ({ cls := "RingPursesModel", name := "goes", desc := "(I)V" } : Jvm.MethodName)), (Jvm.Cond.instanceMethod ({ cls := "RingPursesModel", name := "goes", desc := "(I)V" } : Jvm.MethodName)), (Jvm.Cond.code ({ cls := "RingPursesModel", name := "goes", desc := "(I)V" } : Jvm.MethodName) prog_14_method_55_code (4 : Nat) (Option.none : Option Jvm.ClassFile.FieldType)), (Jvm.Cond.methodLink "RingPursesLaw" (66 : Nat) ({ cls := "RingPursesModel", name := "join", desc := "(I)I" } : Jvm.MethodName))]
set_option maxRecDepth 20000 in
theorem zche_7_0 : (tables_1_7.drop 0).take 16 = zch_7_0 := rfl
def zch_7_1 : List Jvm.Cond := [(Jvm.Cond.instanceMethod ({ cls := "RingPursesModel", name := "join", desc := "(I)I" } : Jvm.MethodName)), (Jvm.Cond.selects "RingPursesModel" ({ cls := "RingPursesModel", name := "join", desc := "(I)I" } : Jvm.MethodName) ({ cls := "RingPursesModel", name := "join", desc := "(I)I" } : Jvm.MethodName)), (Jvm.Cond.code ({ cls := "RingPursesModel", name := "join", desc := "(I)I" } : Jvm.MethodName) prog_14_method_58_code (5 : Nat) (Option.some Jvm.ClassFile.FieldType.int)), (Jvm.Cond.methodLink "RingPursesLaw" (71 : Nat) ({ cls := "RingPursesModel", name := "undo", desc := "()Z" } : Jvm.MethodName)), (Jvm.Cond.instanceMethod ({ cls := "RingPursesModel", name := "undo", desc := "()Z" } : Jvm.MethodName)), (Jvm.Cond.selects "RingPursesModel" ({ cls := "RingPursesModel", name := "undo", desc := "()Z" } : Jvm.MethodName) ({ cls := "RingPursesModel", name := "undo", desc := "()Z" } : Jvm.MethodName)), (Jvm.Cond.code ({ cls := "RingPursesModel", name := "undo", desc := "()Z" } : Jvm.MethodName) prog_14_method_59_code (2 : Nat) (Option.some Jvm.ClassFile.FieldType.boolean)), (Jvm.Cond.methodLink "RingPursesLaw" (75 : Nat) ({ cls := "RingPursesModel", name := "becomes", desc := "(I)I" } : Jvm.MethodName)), (Jvm.Cond.instanceMethod ({ cls := "RingPursesModel", name := "becomes", desc := "(I)I" } : Jvm.MethodName)), (Jvm.Cond.selects "RingPursesModel" ({ cls := "RingPursesModel", name := "becomes", desc := "(I)I" } : Jvm.MethodName) ({ cls := "RingPursesModel", name := "becomes", desc := "(I)I" } : Jvm.MethodName)), (Jvm.Cond.code ({ cls := "RingPursesModel", name := "becomes", desc := "(I)I" } : Jvm.MethodName) prog_14_method_61_code (4 : Nat) (Option.some Jvm.ClassFile.FieldType.int)), (Jvm.Cond.methodLink "RingPursesModel" (343 : Nat) ({ cls := "RingPursesModel", name := "isAlike", desc := "(II)Z" } : Jvm.MethodName)), (Jvm.Cond.privateMethod ({ cls := "RingPursesModel", name := "isAlike", desc := "(II)Z" } : Jvm.MethodName)), (Jvm.Cond.instanceMethod ({ cls := "RingPursesModel", name := "isAlike", desc := "(II)Z" } : Jvm.MethodName)), (Jvm.Cond.code ({ cls := "RingPursesModel", name := "isAlike", desc := "(II)Z" } : Jvm.MethodName) prog_14_method_60_code (4 : Nat) (Option.some Jvm.ClassFile.FieldType.boolean)), (Jvm.Cond.methodLink "RingPursesLaw" (79 : Nat) ({ cls := "RingPursesModel", name := "apart", desc := "(I)I" } : Jvm.MethodName))]
set_option maxRecDepth 20000 in
theorem zche_7_1 : (tables_1_7.drop 16).take 16 = zch_7_1 := rfl
def zch_7_2 : List Jvm.Cond := [(Jvm.Cond.instanceMethod ({ cls := "RingPursesModel", name := "apart", desc := "(I)I" } : Jvm.MethodName)), (Jvm.Cond.selects "RingPursesModel" ({ cls := "RingPursesModel", name := "apart", desc := "(I)I" } : Jvm.MethodName) ({ cls := "RingPursesModel", name := "apart", desc := "(I)I" } : Jvm.MethodName)), (Jvm.Cond.code ({ cls := "RingPursesModel", name := "apart", desc := "(I)I" } : Jvm.MethodName) prog_14_method_63_code (2 : Nat) (Option.some Jvm.ClassFile.FieldType.int)), (Jvm.Cond.methodLink "RingPursesModel" (347 : Nat) ({ cls := "RingPursesModel", name := "apartNow", desc := "()I" } : Jvm.MethodName)), (Jvm.Cond.privateMethod ({ cls := "RingPursesModel", name := "apartNow", desc := "()I" } : Jvm.MethodName)), (Jvm.Cond.instanceMethod ({ cls := "RingPursesModel", name := "apartNow", desc := "()I" } : Jvm.MethodName)), (Jvm.Cond.code ({ cls := "RingPursesModel", name := "apartNow", desc := "()I" } : Jvm.MethodName) prog_14_method_62_code (4 : Nat) (Option.some Jvm.ClassFile.FieldType.int)), (Jvm.Cond.methodLink "RingPursesLaw" (83 : Nat) ({ cls := "RingPursesModel", name := "even", desc := "(II)I" } : Jvm.MethodName)), (Jvm.Cond.instanceMethod ({ cls := "RingPursesModel", name := "even", desc := "(II)I" } : Jvm.MethodName)), (Jvm.Cond.selects "RingPursesModel" ({ cls := "RingPursesModel", name := "even", desc := "(II)I" } : Jvm.MethodName) ({ cls := "RingPursesModel", name := "even", desc := "(II)I" } : Jvm.MethodName)), (Jvm.Cond.code ({ cls := "RingPursesModel", name := "even", desc := "(II)I" } : Jvm.MethodName) prog_14_method_65_code (3 : Nat) (Option.some Jvm.ClassFile.FieldType.int)), (Jvm.Cond.methodLink "RingPursesModel" (351 : Nat) ({ cls := "RingPursesModel", name := "evenBy", desc := "(II)I" } : Jvm.MethodName)), (Jvm.Cond.privateMethod ({ cls := "RingPursesModel", name := "evenBy", desc := "(II)I" } : Jvm.MethodName)), (Jvm.Cond.instanceMethod ({ cls := "RingPursesModel", name := "evenBy", desc := "(II)I" } : Jvm.MethodName)), (Jvm.Cond.code ({ cls := "RingPursesModel", name := "evenBy", desc := "(II)I" } : Jvm.MethodName) prog_14_method_64_code (4 : Nat) (Option.some Jvm.ClassFile.FieldType.int)), (Jvm.Cond.methodLink "RingPursesLaw" (87 : Nat) ({ cls := "RingPursesModel", name := "soonest", desc := "(I)I" } : Jvm.MethodName))]
set_option maxRecDepth 20000 in
theorem zche_7_2 : (tables_1_7.drop 32).take 16 = zch_7_2 := rfl
def zch_7_3 : List Jvm.Cond := [(Jvm.Cond.instanceMethod ({ cls := "RingPursesModel", name := "soonest", desc := "(I)I" } : Jvm.MethodName)), (Jvm.Cond.selects "RingPursesModel" ({ cls := "RingPursesModel", name := "soonest", desc := "(I)I" } : Jvm.MethodName) ({ cls := "RingPursesModel", name := "soonest", desc := "(I)I" } : Jvm.MethodName)), (Jvm.Cond.code ({ cls := "RingPursesModel", name := "soonest", desc := "(I)I" } : Jvm.MethodName) prog_14_method_66_code (6 : Nat) (Option.some Jvm.ClassFile.FieldType.int)), (Jvm.Cond.methodLink "RingPursesLaw" (91 : Nat) ({ cls := "RingPursesModel", name := "start", desc := "(II)I" } : Jvm.MethodName)), (Jvm.Cond.instanceMethod ({ cls := "RingPursesModel", name := "start", desc := "(II)I" } : Jvm.MethodName)), (Jvm.Cond.selects "RingPursesModel" ({ cls := "RingPursesModel", name := "start", desc := "(II)I" } : Jvm.MethodName) ({ cls := "RingPursesModel", name := "start", desc := "(II)I" } : Jvm.MethodName)), (Jvm.Cond.code ({ cls := "RingPursesModel", name := "start", desc := "(II)I" } : Jvm.MethodName) prog_14_method_67_code (6 : Nat) (Option.some Jvm.ClassFile.FieldType.int)), (Jvm.Cond.methodLink "RingPursesLaw" (96 : Nat) ({ cls := "RingPursesModel", name := "wealth", desc := "(III)I" } : Jvm.MethodName)), (Jvm.Cond.instanceMethod ({ cls := "RingPursesModel", name := "wealth", desc := "(III)I" } : Jvm.MethodName)), (Jvm.Cond.selects "RingPursesModel" ({ cls := "RingPursesModel", name := "wealth", desc := "(III)I" } : Jvm.MethodName) ({ cls := "RingPursesModel", name := "wealth", desc := "(III)I" } : Jvm.MethodName)), (Jvm.Cond.code ({ cls := "RingPursesModel", name := "wealth", desc := "(III)I" } : Jvm.MethodName) prog_14_method_69_code (5 : Nat) (Option.some Jvm.ClassFile.FieldType.int)), (Jvm.Cond.constant "RingPursesModel" (354 : Nat) (-1000000 : Int32)), (Jvm.Cond.methodLink "RingPursesModel" (355 : Nat) ({ cls := "RingPursesModel", name := "paidBy", desc := "(I)I" } : Jvm.MethodName)), (Jvm.Cond.privateMethod ({ cls := "RingPursesModel", name := "paidBy", desc := "(I)I" } : Jvm.MethodName)), (Jvm.Cond.instanceMethod ({ cls := "RingPursesModel", name := "paidBy", desc := "(I)I" } : Jvm.MethodName)), (Jvm.Cond.code ({ cls := "RingPursesModel", name := "paidBy", desc := "(I)I" } : Jvm.MethodName) prog_14_method_68_code (2 : Nat) (Option.some Jvm.ClassFile.FieldType.int))]
set_option maxRecDepth 20000 in
theorem zche_7_3 : (tables_1_7.drop 48).take 16 = zch_7_3 := rfl
def zch_7_4 : List Jvm.Cond := [(Jvm.Cond.methodLink "RingPursesLaw" (100 : Nat) ({ cls := "RingPursesModel", name := "free", desc := "(II)I" } : Jvm.MethodName)), (Jvm.Cond.instanceMethod ({ cls := "RingPursesModel", name := "free", desc := "(II)I" } : Jvm.MethodName)), (Jvm.Cond.selects "RingPursesModel" ({ cls := "RingPursesModel", name := "free", desc := "(II)I" } : Jvm.MethodName) ({ cls := "RingPursesModel", name := "free", desc := "(II)I" } : Jvm.MethodName)), (Jvm.Cond.code ({ cls := "RingPursesModel", name := "free", desc := "(II)I" } : Jvm.MethodName) prog_14_method_71_code (4 : Nat) (Option.some Jvm.ClassFile.FieldType.int)), (Jvm.Cond.methodLink "RingPursesModel" (361 : Nat) ({ cls := "RingPursesModel", name := "frees", desc := "(I)I" } : Jvm.MethodName)), (Jvm.Cond.privateMethod ({ cls := "RingPursesModel", name := "frees", desc := "(I)I" } : Jvm.MethodName)), (Jvm.Cond.instanceMethod ({ cls := "RingPursesModel", name := "frees", desc := "(I)I" } : Jvm.MethodName)), (Jvm.Cond.code ({ cls := "RingPursesModel", name := "frees", desc := "(I)I" } : Jvm.MethodName) prog_14_method_70_code (6 : Nat) (Option.some Jvm.ClassFile.FieldType.int)), (Jvm.Cond.methodLink "RingPursesLaw" (105 : Nat) ({ cls := "RingPursesModel", name := "best", desc := "(IIII)I" } : Jvm.MethodName)), (Jvm.Cond.instanceMethod ({ cls := "RingPursesModel", name := "best", desc := "(IIII)I" } : Jvm.MethodName)), (Jvm.Cond.selects "RingPursesModel" ({ cls := "RingPursesModel", name := "best", desc := "(IIII)I" } : Jvm.MethodName) ({ cls := "RingPursesModel", name := "best", desc := "(IIII)I" } : Jvm.MethodName)), (Jvm.Cond.code ({ cls := "RingPursesModel", name := "best", desc := "(IIII)I" } : Jvm.MethodName) prog_14_method_72_code (11 : Nat) (Option.some Jvm.ClassFile.FieldType.int)), (Jvm.Cond.methodLink "RingPursesLaw" (110 : Nat) ({ cls := "RingPursesModel", name := "loan", desc := "(IIIZ)I" } : Jvm.MethodName)), (Jvm.Cond.instanceMethod ({ cls := "RingPursesModel", name := "loan", desc := "(IIIZ)I" } : Jvm.MethodName)), (Jvm.Cond.selects "RingPursesModel" ({ cls := "RingPursesModel", name := "loan", desc := "(IIIZ)I" } : Jvm.MethodName) ({ cls := "RingPursesModel", name := "loan", desc := "(IIIZ)I" } : Jvm.MethodName)), (Jvm.Cond.code ({ cls := "RingPursesModel", name := "loan", desc := "(IIIZ)I" } : Jvm.MethodName) prog_14_method_73_code (8 : Nat) (Option.some Jvm.ClassFile.FieldType.int))]
set_option maxRecDepth 20000 in
theorem zche_7_4 : (tables_1_7.drop 64).take 16 = zch_7_4 := rfl
def zch_7_5 : List Jvm.Cond := [(Jvm.Cond.methodLink "RingPursesLaw" (114 : Nat) ({ cls := "RingPursesModel", name := "site", desc := "(I)I" } : Jvm.MethodName)), (Jvm.Cond.instanceMethod ({ cls := "RingPursesModel", name := "site", desc := "(I)I" } : Jvm.MethodName)), (Jvm.Cond.selects "RingPursesModel" ({ cls := "RingPursesModel", name := "site", desc := "(I)I" } : Jvm.MethodName) ({ cls := "RingPursesModel", name := "site", desc := "(I)I" } : Jvm.MethodName)), (Jvm.Cond.code ({ cls := "RingPursesModel", name := "site", desc := "(I)I" } : Jvm.MethodName) prog_14_method_74_code (7 : Nat) (Option.some Jvm.ClassFile.FieldType.int)), (Jvm.Cond.methodLink "RingPursesLaw" (118 : Nat) ({ cls := "RingPursesModel", name := "rests", desc := "(II)I" } : Jvm.MethodName)), (Jvm.Cond.instanceMethod ({ cls := "RingPursesModel", name := "rests", desc := "(II)I" } : Jvm.MethodName)), (Jvm.Cond.selects "RingPursesModel" ({ cls := "RingPursesModel", name := "rests", desc := "(II)I" } : Jvm.MethodName) ({ cls := "RingPursesModel", name := "rests", desc := "(II)I" } : Jvm.MethodName)), (Jvm.Cond.code ({ cls := "RingPursesModel", name := "rests", desc := "(II)I" } : Jvm.MethodName) prog_14_method_77_code (5 : Nat) (Option.some Jvm.ClassFile.FieldType.int)), (Jvm.Cond.methodLink "RingPursesModel" (364 : Nat) ({ cls := "RingPursesModel", name := "hides", desc := "(II)V" } : Jvm.MethodName)), (Jvm.Cond.privateMethod ({ cls := "RingPursesModel", name := "hides", desc := "(II)V" } : Jvm.MethodName)), (Jvm.Cond.instanceMethod ({ cls := "RingPursesModel", name := "hides", desc := "(II)V" } : Jvm.MethodName)), (Jvm.Cond.code ({ cls := "RingPursesModel", name := "hides", desc := "(II)V" } : Jvm.MethodName) prog_14_method_75_code (4 : Nat) (Option.none : Option Jvm.ClassFile.FieldType)), (Jvm.Cond.methodLink "RingPursesModel" (367 : Nat) ({ cls := "RingPursesModel", name := "isResting", desc := "(I)Z" } : Jvm.MethodName)), (Jvm.Cond.privateMethod ({ cls := "RingPursesModel", name := "isResting", desc := "(I)Z" } : Jvm.MethodName)), (Jvm.Cond.instanceMethod ({ cls := "RingPursesModel", name := "isResting", desc := "(I)Z" } : Jvm.MethodName)), (Jvm.Cond.code ({ cls := "RingPursesModel", name := "isResting", desc := "(I)Z" } : Jvm.MethodName) prog_14_method_76_code (3 : Nat) (Option.some Jvm.ClassFile.FieldType.boolean))]
set_option maxRecDepth 20000 in
theorem zche_7_5 : (tables_1_7.drop 80).take 16 = zch_7_5 := rfl
def zch_7_6 : List Jvm.Cond := [(Jvm.Cond.methodLink "RingPursesLaw" (122 : Nat) ({ cls := "RingPursesModel", name := "tell", desc := "(II)I" } : Jvm.MethodName)), (Jvm.Cond.instanceMethod ({ cls := "RingPursesModel", name := "tell", desc := "(II)I" } : Jvm.MethodName)), (Jvm.Cond.selects "RingPursesModel" ({ cls := "RingPursesModel", name := "tell", desc := "(II)I" } : Jvm.MethodName) ({ cls := "RingPursesModel", name := "tell", desc := "(II)I" } : Jvm.MethodName)), (Jvm.Cond.code ({ cls := "RingPursesModel", name := "tell", desc := "(II)I" } : Jvm.MethodName) prog_14_method_78_code (3 : Nat) (Option.some Jvm.ClassFile.FieldType.int)), (Jvm.Cond.methodLink "RingPursesLaw" (126 : Nat) ({ cls := "RingPursesModel", name := "forget", desc := "()I" } : Jvm.MethodName)), (Jvm.Cond.instanceMethod ({ cls := "RingPursesModel", name := "forget", desc := "()I" } : Jvm.MethodName)), (Jvm.Cond.selects "RingPursesModel" ({ cls := "RingPursesModel", name := "forget", desc := "()I" } : Jvm.MethodName) ({ cls := "RingPursesModel", name := "forget", desc := "()I" } : Jvm.MethodName)), (Jvm.Cond.code ({ cls := "RingPursesModel", name := "forget", desc := "()I" } : Jvm.MethodName) prog_14_method_79_code (2 : Nat) (Option.some Jvm.ClassFile.FieldType.int)), (Jvm.Cond.methodLink "RingPursesLaw" (130 : Nat) ({ cls := "RingPursesModel", name := "fits", desc := "(II)I" } : Jvm.MethodName)), (Jvm.Cond.instanceMethod ({ cls := "RingPursesModel", name := "fits", desc := "(II)I" } : Jvm.MethodName)), (Jvm.Cond.selects "RingPursesModel" ({ cls := "RingPursesModel", name := "fits", desc := "(II)I" } : Jvm.MethodName) ({ cls := "RingPursesModel", name := "fits", desc := "(II)I" } : Jvm.MethodName)), (Jvm.Cond.code ({ cls := "RingPursesModel", name := "fits", desc := "(II)I" } : Jvm.MethodName) prog_14_method_83_code (3 : Nat) (Option.some Jvm.ClassFile.FieldType.int)), (Jvm.Cond.methodLink "RingPursesModel" (377 : Nat) ({ cls := "RingPursesModel", name := "fillsFits", desc := "(II)I" } : Jvm.MethodName)), (Jvm.Cond.privateMethod ({ cls := "RingPursesModel", name := "fillsFits", desc := "(II)I" } : Jvm.MethodName)), (Jvm.Cond.instanceMethod ({ cls := "RingPursesModel", name := "fillsFits", desc := "(II)I" } : Jvm.MethodName)), (Jvm.Cond.code ({ cls := "RingPursesModel", name := "fillsFits", desc := "(II)I" } : Jvm.MethodName) prog_14_method_82_code (8 : Nat) (Option.some Jvm.ClassFile.FieldType.int))]
set_option maxRecDepth 20000 in
theorem zche_7_6 : (tables_1_7.drop 96).take 16 = zch_7_6 := rfl
def zch_7_7 : List Jvm.Cond := [(Jvm.Cond.methodLink "RingPursesModel" (371 : Nat) ({ cls := "RingPursesModel", name := "rowsOf", desc := "(I)I" } : Jvm.MethodName)), (Jvm.Cond.privateMethod ({ cls := "RingPursesModel", name := "rowsOf", desc := "(I)I" } : Jvm.MethodName)), (Jvm.Cond.instanceMethod ({ cls := "RingPursesModel", name := "rowsOf", desc := "(I)I" } : Jvm.MethodName)), (Jvm.Cond.code ({ cls := "RingPursesModel", name := "rowsOf", desc := "(I)I" } : Jvm.MethodName) prog_14_method_80_code (4 : Nat) (Option.some Jvm.ClassFile.FieldType.int)), (Jvm.Cond.constant "RingPursesModel" (370 : Nat) (200000 : Int32)), (Jvm.Cond.methodLink "RingPursesModel" (374 : Nat) ({ cls := "RingPursesModel", name := "takesRow", desc := "(II)V" } : Jvm.MethodName)), (Jvm.Cond.privateMethod ({ cls := "RingPursesModel", name := "takesRow", desc := "(II)V" } : Jvm.MethodName)), (Jvm.Cond.instanceMethod ({ cls := "RingPursesModel", name := "takesRow", desc := "(II)V" } : Jvm.MethodName)), (Jvm.Cond.code ({ cls := "RingPursesModel", name := "takesRow", desc := "(II)V" } : Jvm.MethodName) prog_14_method_81_code (5 : Nat) (Option.none : Option Jvm.ClassFile.FieldType)), (Jvm.Cond.methodLink "RingPursesLaw" (134 : Nat) ({ cls := "RingPursesModel", name := "span", desc := "(III)I" } : Jvm.MethodName)), (Jvm.Cond.instanceMethod ({ cls := "RingPursesModel", name := "span", desc := "(III)I" } : Jvm.MethodName)), (Jvm.Cond.selects "RingPursesModel" ({ cls := "RingPursesModel", name := "span", desc := "(III)I" } : Jvm.MethodName) ({ cls := "RingPursesModel", name := "span", desc := "(III)I" } : Jvm.MethodName)), (Jvm.Cond.code ({ cls := "RingPursesModel", name := "span", desc := "(III)I" } : Jvm.MethodName) prog_14_method_84_code (4 : Nat) (Option.some Jvm.ClassFile.FieldType.int)), (Jvm.Cond.methodLink "RingPursesLaw" (138 : Nat) ({ cls := "RingPursesModel", name := "ago", desc := "(I)I" } : Jvm.MethodName)), (Jvm.Cond.instanceMethod ({ cls := "RingPursesModel", name := "ago", desc := "(I)I" } : Jvm.MethodName)), (Jvm.Cond.selects "RingPursesModel" ({ cls := "RingPursesModel", name := "ago", desc := "(I)I" } : Jvm.MethodName) ({ cls := "RingPursesModel", name := "ago", desc := "(I)I" } : Jvm.MethodName))]
set_option maxRecDepth 20000 in
theorem zche_7_7 : (tables_1_7.drop 112).take 16 = zch_7_7 := rfl
def zch_7_8 : List Jvm.Cond := [(Jvm.Cond.code ({ cls := "RingPursesModel", name := "ago", desc := "(I)I" } : Jvm.MethodName) prog_14_method_85_code (7 : Nat) (Option.some Jvm.ClassFile.FieldType.int)), (Jvm.Cond.methodLink "RingPursesLaw" (143 : Nat) ({ cls := "RingPursesModel", name := "hold", desc := "(I)Z" } : Jvm.MethodName)), (Jvm.Cond.instanceMethod ({ cls := "RingPursesModel", name := "hold", desc := "(I)Z" } : Jvm.MethodName)), (Jvm.Cond.selects "RingPursesModel" ({ cls := "RingPursesModel", name := "hold", desc := "(I)Z" } : Jvm.MethodName) ({ cls := "RingPursesModel", name := "hold", desc := "(I)Z" } : Jvm.MethodName)), (Jvm.Cond.code ({ cls := "RingPursesModel", name := "hold", desc := "(I)Z" } : Jvm.MethodName) prog_14_method_86_code (3 : Nat) (Option.some Jvm.ClassFile.FieldType.boolean)), (Jvm.Cond.methodLink "RingPursesLaw" (147 : Nat) ({ cls := "RingPursesModel", name := "restore", desc := "(I)Z" } : Jvm.MethodName)), (Jvm.Cond.instanceMethod ({ cls := "RingPursesModel", name := "restore", desc := "(I)Z" } : Jvm.MethodName)), (Jvm.Cond.selects "RingPursesModel" ({ cls := "RingPursesModel", name := "restore", desc := "(I)Z" } : Jvm.MethodName) ({ cls := "RingPursesModel", name := "restore", desc := "(I)Z" } : Jvm.MethodName)), (Jvm.Cond.code ({ cls := "RingPursesModel", name := "restore", desc := "(I)Z" } : Jvm.MethodName) prog_14_method_87_code (3 : Nat) (Option.some Jvm.ClassFile.FieldType.boolean)), (Jvm.Cond.methodLink "RingPursesLaw" (151 : Nat) ({ cls := "RingPursesModel", name := "count", desc := "(I)I" } : Jvm.MethodName)), (Jvm.Cond.instanceMethod ({ cls := "RingPursesModel", name := "count", desc := "(I)I" } : Jvm.MethodName)), (Jvm.Cond.selects "RingPursesModel" ({ cls := "RingPursesModel", name := "count", desc := "(I)I" } : Jvm.MethodName) ({ cls := "RingPursesModel", name := "count", desc := "(I)I" } : Jvm.MethodName)), (Jvm.Cond.code ({ cls := "RingPursesModel", name := "count", desc := "(I)I" } : Jvm.MethodName) prog_14_method_88_code (4 : Nat) (Option.some Jvm.ClassFile.FieldType.int)), (Jvm.Cond.fieldLink "java/lang/String" (9 : Nat) "java/lang/String" "value" "[B"), (Jvm.Cond.fieldLink "java/lang/String" (15 : Nat) "java/lang/String" "coder" "B")]
set_option maxRecDepth 20000 in
theorem zche_7_8 : (tables_1_7.drop 128).take 16 = zch_7_8 := rfl
theorem zti_1 {w : Cond} (h : w ∈ tables_1_1) : w ∈ lw_tbl := List.mem_append_right _ (List.mem_append_left _ h)
theorem zti_2 {w : Cond} (h : w ∈ tables_1_2) : w ∈ lw_tbl := List.mem_append_right _ (List.mem_append_right _ (List.mem_append_left _ h))
theorem zti_3 {w : Cond} (h : w ∈ tables_1_3) : w ∈ lw_tbl := List.mem_append_right _ (List.mem_append_right _ (List.mem_append_right _ (List.mem_append_left _ h)))
theorem zti_4 {w : Cond} (h : w ∈ tables_1_4) : w ∈ lw_tbl := List.mem_append_right _ (List.mem_append_right _ (List.mem_append_right _ (List.mem_append_right _ (List.mem_append_left _ h))))
theorem zti_5 {w : Cond} (h : w ∈ tables_1_5) : w ∈ lw_tbl := List.mem_append_right _ (List.mem_append_right _ (List.mem_append_right _ (List.mem_append_right _ (List.mem_append_right _ (List.mem_append_left _ h)))))
theorem zti_6 {w : Cond} (h : w ∈ tables_1_6) : w ∈ lw_tbl := List.mem_append_right _ (List.mem_append_right _ (List.mem_append_right _ (List.mem_append_right _ (List.mem_append_right _ (List.mem_append_right _ (List.mem_append_left _ h))))))
theorem zti_7 {w : Cond} (h : w ∈ tables_1_7) : w ∈ lw_tbl := List.mem_append_right _ (List.mem_append_right _ (List.mem_append_right _ (List.mem_append_right _ (List.mem_append_right _ (List.mem_append_right _ (List.mem_append_right _ h))))))
theorem zcI_1_0 {w : Cond} (k : Nat) (h : zch_1_0[k]? = some w) (hw : zwOK w = true) : zIn w := ⟨zti_1 (List.mem_of_mem_drop (List.mem_of_mem_take (by rw [zche_1_0]; exact List.mem_of_getElem? h))), hw⟩
theorem zcI_1_1 {w : Cond} (k : Nat) (h : zch_1_1[k]? = some w) (hw : zwOK w = true) : zIn w := ⟨zti_1 (List.mem_of_mem_drop (List.mem_of_mem_take (by rw [zche_1_1]; exact List.mem_of_getElem? h))), hw⟩
theorem zcI_1_2 {w : Cond} (k : Nat) (h : zch_1_2[k]? = some w) (hw : zwOK w = true) : zIn w := ⟨zti_1 (List.mem_of_mem_drop (List.mem_of_mem_take (by rw [zche_1_2]; exact List.mem_of_getElem? h))), hw⟩
theorem zcI_1_3 {w : Cond} (k : Nat) (h : zch_1_3[k]? = some w) (hw : zwOK w = true) : zIn w := ⟨zti_1 (List.mem_of_mem_drop (List.mem_of_mem_take (by rw [zche_1_3]; exact List.mem_of_getElem? h))), hw⟩
theorem zcI_1_4 {w : Cond} (k : Nat) (h : zch_1_4[k]? = some w) (hw : zwOK w = true) : zIn w := ⟨zti_1 (List.mem_of_mem_drop (List.mem_of_mem_take (by rw [zche_1_4]; exact List.mem_of_getElem? h))), hw⟩
theorem zcI_1_5 {w : Cond} (k : Nat) (h : zch_1_5[k]? = some w) (hw : zwOK w = true) : zIn w := ⟨zti_1 (List.mem_of_mem_drop (List.mem_of_mem_take (by rw [zche_1_5]; exact List.mem_of_getElem? h))), hw⟩
theorem zcI_1_6 {w : Cond} (k : Nat) (h : zch_1_6[k]? = some w) (hw : zwOK w = true) : zIn w := ⟨zti_1 (List.mem_of_mem_drop (List.mem_of_mem_take (by rw [zche_1_6]; exact List.mem_of_getElem? h))), hw⟩
theorem zcI_1_7 {w : Cond} (k : Nat) (h : zch_1_7[k]? = some w) (hw : zwOK w = true) : zIn w := ⟨zti_1 (List.mem_of_mem_drop (List.mem_of_mem_take (by rw [zche_1_7]; exact List.mem_of_getElem? h))), hw⟩
theorem zcI_1_8 {w : Cond} (k : Nat) (h : zch_1_8[k]? = some w) (hw : zwOK w = true) : zIn w := ⟨zti_1 (List.mem_of_mem_drop (List.mem_of_mem_take (by rw [zche_1_8]; exact List.mem_of_getElem? h))), hw⟩
theorem zcI_1_9 {w : Cond} (k : Nat) (h : zch_1_9[k]? = some w) (hw : zwOK w = true) : zIn w := ⟨zti_1 (List.mem_of_mem_drop (List.mem_of_mem_take (by rw [zche_1_9]; exact List.mem_of_getElem? h))), hw⟩
theorem zcI_1_10 {w : Cond} (k : Nat) (h : zch_1_10[k]? = some w) (hw : zwOK w = true) : zIn w := ⟨zti_1 (List.mem_of_mem_drop (List.mem_of_mem_take (by rw [zche_1_10]; exact List.mem_of_getElem? h))), hw⟩
theorem zcI_1_11 {w : Cond} (k : Nat) (h : zch_1_11[k]? = some w) (hw : zwOK w = true) : zIn w := ⟨zti_1 (List.mem_of_mem_drop (List.mem_of_mem_take (by rw [zche_1_11]; exact List.mem_of_getElem? h))), hw⟩
theorem zcI_1_12 {w : Cond} (k : Nat) (h : zch_1_12[k]? = some w) (hw : zwOK w = true) : zIn w := ⟨zti_1 (List.mem_of_mem_drop (List.mem_of_mem_take (by rw [zche_1_12]; exact List.mem_of_getElem? h))), hw⟩
theorem zcI_1_13 {w : Cond} (k : Nat) (h : zch_1_13[k]? = some w) (hw : zwOK w = true) : zIn w := ⟨zti_1 (List.mem_of_mem_drop (List.mem_of_mem_take (by rw [zche_1_13]; exact List.mem_of_getElem? h))), hw⟩
theorem zcI_1_14 {w : Cond} (k : Nat) (h : zch_1_14[k]? = some w) (hw : zwOK w = true) : zIn w := ⟨zti_1 (List.mem_of_mem_drop (List.mem_of_mem_take (by rw [zche_1_14]; exact List.mem_of_getElem? h))), hw⟩
theorem zcI_2_0 {w : Cond} (k : Nat) (h : zch_2_0[k]? = some w) (hw : zwOK w = true) : zIn w := ⟨zti_2 (List.mem_of_mem_drop (List.mem_of_mem_take (by rw [zche_2_0]; exact List.mem_of_getElem? h))), hw⟩
theorem zcI_2_1 {w : Cond} (k : Nat) (h : zch_2_1[k]? = some w) (hw : zwOK w = true) : zIn w := ⟨zti_2 (List.mem_of_mem_drop (List.mem_of_mem_take (by rw [zche_2_1]; exact List.mem_of_getElem? h))), hw⟩
theorem zcI_2_2 {w : Cond} (k : Nat) (h : zch_2_2[k]? = some w) (hw : zwOK w = true) : zIn w := ⟨zti_2 (List.mem_of_mem_drop (List.mem_of_mem_take (by rw [zche_2_2]; exact List.mem_of_getElem? h))), hw⟩
theorem zcI_2_3 {w : Cond} (k : Nat) (h : zch_2_3[k]? = some w) (hw : zwOK w = true) : zIn w := ⟨zti_2 (List.mem_of_mem_drop (List.mem_of_mem_take (by rw [zche_2_3]; exact List.mem_of_getElem? h))), hw⟩
theorem zcI_2_4 {w : Cond} (k : Nat) (h : zch_2_4[k]? = some w) (hw : zwOK w = true) : zIn w := ⟨zti_2 (List.mem_of_mem_drop (List.mem_of_mem_take (by rw [zche_2_4]; exact List.mem_of_getElem? h))), hw⟩
theorem zcI_2_5 {w : Cond} (k : Nat) (h : zch_2_5[k]? = some w) (hw : zwOK w = true) : zIn w := ⟨zti_2 (List.mem_of_mem_drop (List.mem_of_mem_take (by rw [zche_2_5]; exact List.mem_of_getElem? h))), hw⟩
theorem zcI_2_6 {w : Cond} (k : Nat) (h : zch_2_6[k]? = some w) (hw : zwOK w = true) : zIn w := ⟨zti_2 (List.mem_of_mem_drop (List.mem_of_mem_take (by rw [zche_2_6]; exact List.mem_of_getElem? h))), hw⟩
theorem zcI_2_7 {w : Cond} (k : Nat) (h : zch_2_7[k]? = some w) (hw : zwOK w = true) : zIn w := ⟨zti_2 (List.mem_of_mem_drop (List.mem_of_mem_take (by rw [zche_2_7]; exact List.mem_of_getElem? h))), hw⟩
theorem zcI_2_8 {w : Cond} (k : Nat) (h : zch_2_8[k]? = some w) (hw : zwOK w = true) : zIn w := ⟨zti_2 (List.mem_of_mem_drop (List.mem_of_mem_take (by rw [zche_2_8]; exact List.mem_of_getElem? h))), hw⟩
theorem zcI_2_9 {w : Cond} (k : Nat) (h : zch_2_9[k]? = some w) (hw : zwOK w = true) : zIn w := ⟨zti_2 (List.mem_of_mem_drop (List.mem_of_mem_take (by rw [zche_2_9]; exact List.mem_of_getElem? h))), hw⟩
theorem zcI_2_10 {w : Cond} (k : Nat) (h : zch_2_10[k]? = some w) (hw : zwOK w = true) : zIn w := ⟨zti_2 (List.mem_of_mem_drop (List.mem_of_mem_take (by rw [zche_2_10]; exact List.mem_of_getElem? h))), hw⟩
theorem zcI_2_11 {w : Cond} (k : Nat) (h : zch_2_11[k]? = some w) (hw : zwOK w = true) : zIn w := ⟨zti_2 (List.mem_of_mem_drop (List.mem_of_mem_take (by rw [zche_2_11]; exact List.mem_of_getElem? h))), hw⟩
theorem zcI_2_12 {w : Cond} (k : Nat) (h : zch_2_12[k]? = some w) (hw : zwOK w = true) : zIn w := ⟨zti_2 (List.mem_of_mem_drop (List.mem_of_mem_take (by rw [zche_2_12]; exact List.mem_of_getElem? h))), hw⟩
theorem zcI_2_13 {w : Cond} (k : Nat) (h : zch_2_13[k]? = some w) (hw : zwOK w = true) : zIn w := ⟨zti_2 (List.mem_of_mem_drop (List.mem_of_mem_take (by rw [zche_2_13]; exact List.mem_of_getElem? h))), hw⟩
theorem zcI_2_14 {w : Cond} (k : Nat) (h : zch_2_14[k]? = some w) (hw : zwOK w = true) : zIn w := ⟨zti_2 (List.mem_of_mem_drop (List.mem_of_mem_take (by rw [zche_2_14]; exact List.mem_of_getElem? h))), hw⟩
theorem zcI_3_0 {w : Cond} (k : Nat) (h : zch_3_0[k]? = some w) (hw : zwOK w = true) : zIn w := ⟨zti_3 (List.mem_of_mem_drop (List.mem_of_mem_take (by rw [zche_3_0]; exact List.mem_of_getElem? h))), hw⟩
theorem zcI_3_1 {w : Cond} (k : Nat) (h : zch_3_1[k]? = some w) (hw : zwOK w = true) : zIn w := ⟨zti_3 (List.mem_of_mem_drop (List.mem_of_mem_take (by rw [zche_3_1]; exact List.mem_of_getElem? h))), hw⟩
theorem zcI_3_2 {w : Cond} (k : Nat) (h : zch_3_2[k]? = some w) (hw : zwOK w = true) : zIn w := ⟨zti_3 (List.mem_of_mem_drop (List.mem_of_mem_take (by rw [zche_3_2]; exact List.mem_of_getElem? h))), hw⟩
theorem zcI_3_3 {w : Cond} (k : Nat) (h : zch_3_3[k]? = some w) (hw : zwOK w = true) : zIn w := ⟨zti_3 (List.mem_of_mem_drop (List.mem_of_mem_take (by rw [zche_3_3]; exact List.mem_of_getElem? h))), hw⟩
theorem zcI_3_4 {w : Cond} (k : Nat) (h : zch_3_4[k]? = some w) (hw : zwOK w = true) : zIn w := ⟨zti_3 (List.mem_of_mem_drop (List.mem_of_mem_take (by rw [zche_3_4]; exact List.mem_of_getElem? h))), hw⟩
theorem zcI_3_5 {w : Cond} (k : Nat) (h : zch_3_5[k]? = some w) (hw : zwOK w = true) : zIn w := ⟨zti_3 (List.mem_of_mem_drop (List.mem_of_mem_take (by rw [zche_3_5]; exact List.mem_of_getElem? h))), hw⟩
theorem zcI_3_6 {w : Cond} (k : Nat) (h : zch_3_6[k]? = some w) (hw : zwOK w = true) : zIn w := ⟨zti_3 (List.mem_of_mem_drop (List.mem_of_mem_take (by rw [zche_3_6]; exact List.mem_of_getElem? h))), hw⟩
theorem zcI_3_7 {w : Cond} (k : Nat) (h : zch_3_7[k]? = some w) (hw : zwOK w = true) : zIn w := ⟨zti_3 (List.mem_of_mem_drop (List.mem_of_mem_take (by rw [zche_3_7]; exact List.mem_of_getElem? h))), hw⟩
theorem zcI_3_8 {w : Cond} (k : Nat) (h : zch_3_8[k]? = some w) (hw : zwOK w = true) : zIn w := ⟨zti_3 (List.mem_of_mem_drop (List.mem_of_mem_take (by rw [zche_3_8]; exact List.mem_of_getElem? h))), hw⟩
theorem zcI_3_9 {w : Cond} (k : Nat) (h : zch_3_9[k]? = some w) (hw : zwOK w = true) : zIn w := ⟨zti_3 (List.mem_of_mem_drop (List.mem_of_mem_take (by rw [zche_3_9]; exact List.mem_of_getElem? h))), hw⟩
theorem zcI_3_10 {w : Cond} (k : Nat) (h : zch_3_10[k]? = some w) (hw : zwOK w = true) : zIn w := ⟨zti_3 (List.mem_of_mem_drop (List.mem_of_mem_take (by rw [zche_3_10]; exact List.mem_of_getElem? h))), hw⟩
theorem zcI_3_11 {w : Cond} (k : Nat) (h : zch_3_11[k]? = some w) (hw : zwOK w = true) : zIn w := ⟨zti_3 (List.mem_of_mem_drop (List.mem_of_mem_take (by rw [zche_3_11]; exact List.mem_of_getElem? h))), hw⟩
theorem zcI_3_12 {w : Cond} (k : Nat) (h : zch_3_12[k]? = some w) (hw : zwOK w = true) : zIn w := ⟨zti_3 (List.mem_of_mem_drop (List.mem_of_mem_take (by rw [zche_3_12]; exact List.mem_of_getElem? h))), hw⟩
theorem zcI_3_13 {w : Cond} (k : Nat) (h : zch_3_13[k]? = some w) (hw : zwOK w = true) : zIn w := ⟨zti_3 (List.mem_of_mem_drop (List.mem_of_mem_take (by rw [zche_3_13]; exact List.mem_of_getElem? h))), hw⟩
theorem zcI_3_14 {w : Cond} (k : Nat) (h : zch_3_14[k]? = some w) (hw : zwOK w = true) : zIn w := ⟨zti_3 (List.mem_of_mem_drop (List.mem_of_mem_take (by rw [zche_3_14]; exact List.mem_of_getElem? h))), hw⟩
theorem zcI_4_0 {w : Cond} (k : Nat) (h : zch_4_0[k]? = some w) (hw : zwOK w = true) : zIn w := ⟨zti_4 (List.mem_of_mem_drop (List.mem_of_mem_take (by rw [zche_4_0]; exact List.mem_of_getElem? h))), hw⟩
theorem zcI_4_1 {w : Cond} (k : Nat) (h : zch_4_1[k]? = some w) (hw : zwOK w = true) : zIn w := ⟨zti_4 (List.mem_of_mem_drop (List.mem_of_mem_take (by rw [zche_4_1]; exact List.mem_of_getElem? h))), hw⟩
theorem zcI_4_2 {w : Cond} (k : Nat) (h : zch_4_2[k]? = some w) (hw : zwOK w = true) : zIn w := ⟨zti_4 (List.mem_of_mem_drop (List.mem_of_mem_take (by rw [zche_4_2]; exact List.mem_of_getElem? h))), hw⟩
theorem zcI_4_3 {w : Cond} (k : Nat) (h : zch_4_3[k]? = some w) (hw : zwOK w = true) : zIn w := ⟨zti_4 (List.mem_of_mem_drop (List.mem_of_mem_take (by rw [zche_4_3]; exact List.mem_of_getElem? h))), hw⟩
theorem zcI_4_4 {w : Cond} (k : Nat) (h : zch_4_4[k]? = some w) (hw : zwOK w = true) : zIn w := ⟨zti_4 (List.mem_of_mem_drop (List.mem_of_mem_take (by rw [zche_4_4]; exact List.mem_of_getElem? h))), hw⟩
theorem zcI_4_5 {w : Cond} (k : Nat) (h : zch_4_5[k]? = some w) (hw : zwOK w = true) : zIn w := ⟨zti_4 (List.mem_of_mem_drop (List.mem_of_mem_take (by rw [zche_4_5]; exact List.mem_of_getElem? h))), hw⟩
theorem zcI_4_6 {w : Cond} (k : Nat) (h : zch_4_6[k]? = some w) (hw : zwOK w = true) : zIn w := ⟨zti_4 (List.mem_of_mem_drop (List.mem_of_mem_take (by rw [zche_4_6]; exact List.mem_of_getElem? h))), hw⟩
theorem zcI_4_7 {w : Cond} (k : Nat) (h : zch_4_7[k]? = some w) (hw : zwOK w = true) : zIn w := ⟨zti_4 (List.mem_of_mem_drop (List.mem_of_mem_take (by rw [zche_4_7]; exact List.mem_of_getElem? h))), hw⟩
theorem zcI_4_8 {w : Cond} (k : Nat) (h : zch_4_8[k]? = some w) (hw : zwOK w = true) : zIn w := ⟨zti_4 (List.mem_of_mem_drop (List.mem_of_mem_take (by rw [zche_4_8]; exact List.mem_of_getElem? h))), hw⟩
theorem zcI_4_9 {w : Cond} (k : Nat) (h : zch_4_9[k]? = some w) (hw : zwOK w = true) : zIn w := ⟨zti_4 (List.mem_of_mem_drop (List.mem_of_mem_take (by rw [zche_4_9]; exact List.mem_of_getElem? h))), hw⟩
theorem zcI_4_10 {w : Cond} (k : Nat) (h : zch_4_10[k]? = some w) (hw : zwOK w = true) : zIn w := ⟨zti_4 (List.mem_of_mem_drop (List.mem_of_mem_take (by rw [zche_4_10]; exact List.mem_of_getElem? h))), hw⟩
theorem zcI_4_11 {w : Cond} (k : Nat) (h : zch_4_11[k]? = some w) (hw : zwOK w = true) : zIn w := ⟨zti_4 (List.mem_of_mem_drop (List.mem_of_mem_take (by rw [zche_4_11]; exact List.mem_of_getElem? h))), hw⟩
theorem zcI_4_12 {w : Cond} (k : Nat) (h : zch_4_12[k]? = some w) (hw : zwOK w = true) : zIn w := ⟨zti_4 (List.mem_of_mem_drop (List.mem_of_mem_take (by rw [zche_4_12]; exact List.mem_of_getElem? h))), hw⟩
theorem zcI_4_13 {w : Cond} (k : Nat) (h : zch_4_13[k]? = some w) (hw : zwOK w = true) : zIn w := ⟨zti_4 (List.mem_of_mem_drop (List.mem_of_mem_take (by rw [zche_4_13]; exact List.mem_of_getElem? h))), hw⟩
theorem zcI_4_14 {w : Cond} (k : Nat) (h : zch_4_14[k]? = some w) (hw : zwOK w = true) : zIn w := ⟨zti_4 (List.mem_of_mem_drop (List.mem_of_mem_take (by rw [zche_4_14]; exact List.mem_of_getElem? h))), hw⟩
theorem zcI_5_0 {w : Cond} (k : Nat) (h : zch_5_0[k]? = some w) (hw : zwOK w = true) : zIn w := ⟨zti_5 (List.mem_of_mem_drop (List.mem_of_mem_take (by rw [zche_5_0]; exact List.mem_of_getElem? h))), hw⟩
theorem zcI_5_1 {w : Cond} (k : Nat) (h : zch_5_1[k]? = some w) (hw : zwOK w = true) : zIn w := ⟨zti_5 (List.mem_of_mem_drop (List.mem_of_mem_take (by rw [zche_5_1]; exact List.mem_of_getElem? h))), hw⟩
theorem zcI_5_2 {w : Cond} (k : Nat) (h : zch_5_2[k]? = some w) (hw : zwOK w = true) : zIn w := ⟨zti_5 (List.mem_of_mem_drop (List.mem_of_mem_take (by rw [zche_5_2]; exact List.mem_of_getElem? h))), hw⟩
theorem zcI_5_3 {w : Cond} (k : Nat) (h : zch_5_3[k]? = some w) (hw : zwOK w = true) : zIn w := ⟨zti_5 (List.mem_of_mem_drop (List.mem_of_mem_take (by rw [zche_5_3]; exact List.mem_of_getElem? h))), hw⟩
theorem zcI_5_4 {w : Cond} (k : Nat) (h : zch_5_4[k]? = some w) (hw : zwOK w = true) : zIn w := ⟨zti_5 (List.mem_of_mem_drop (List.mem_of_mem_take (by rw [zche_5_4]; exact List.mem_of_getElem? h))), hw⟩
theorem zcI_5_5 {w : Cond} (k : Nat) (h : zch_5_5[k]? = some w) (hw : zwOK w = true) : zIn w := ⟨zti_5 (List.mem_of_mem_drop (List.mem_of_mem_take (by rw [zche_5_5]; exact List.mem_of_getElem? h))), hw⟩
theorem zcI_5_6 {w : Cond} (k : Nat) (h : zch_5_6[k]? = some w) (hw : zwOK w = true) : zIn w := ⟨zti_5 (List.mem_of_mem_drop (List.mem_of_mem_take (by rw [zche_5_6]; exact List.mem_of_getElem? h))), hw⟩
theorem zcI_5_7 {w : Cond} (k : Nat) (h : zch_5_7[k]? = some w) (hw : zwOK w = true) : zIn w := ⟨zti_5 (List.mem_of_mem_drop (List.mem_of_mem_take (by rw [zche_5_7]; exact List.mem_of_getElem? h))), hw⟩
theorem zcI_5_8 {w : Cond} (k : Nat) (h : zch_5_8[k]? = some w) (hw : zwOK w = true) : zIn w := ⟨zti_5 (List.mem_of_mem_drop (List.mem_of_mem_take (by rw [zche_5_8]; exact List.mem_of_getElem? h))), hw⟩
theorem zcI_5_9 {w : Cond} (k : Nat) (h : zch_5_9[k]? = some w) (hw : zwOK w = true) : zIn w := ⟨zti_5 (List.mem_of_mem_drop (List.mem_of_mem_take (by rw [zche_5_9]; exact List.mem_of_getElem? h))), hw⟩
theorem zcI_5_10 {w : Cond} (k : Nat) (h : zch_5_10[k]? = some w) (hw : zwOK w = true) : zIn w := ⟨zti_5 (List.mem_of_mem_drop (List.mem_of_mem_take (by rw [zche_5_10]; exact List.mem_of_getElem? h))), hw⟩
theorem zcI_5_11 {w : Cond} (k : Nat) (h : zch_5_11[k]? = some w) (hw : zwOK w = true) : zIn w := ⟨zti_5 (List.mem_of_mem_drop (List.mem_of_mem_take (by rw [zche_5_11]; exact List.mem_of_getElem? h))), hw⟩
theorem zcI_5_12 {w : Cond} (k : Nat) (h : zch_5_12[k]? = some w) (hw : zwOK w = true) : zIn w := ⟨zti_5 (List.mem_of_mem_drop (List.mem_of_mem_take (by rw [zche_5_12]; exact List.mem_of_getElem? h))), hw⟩
theorem zcI_5_13 {w : Cond} (k : Nat) (h : zch_5_13[k]? = some w) (hw : zwOK w = true) : zIn w := ⟨zti_5 (List.mem_of_mem_drop (List.mem_of_mem_take (by rw [zche_5_13]; exact List.mem_of_getElem? h))), hw⟩
theorem zcI_5_14 {w : Cond} (k : Nat) (h : zch_5_14[k]? = some w) (hw : zwOK w = true) : zIn w := ⟨zti_5 (List.mem_of_mem_drop (List.mem_of_mem_take (by rw [zche_5_14]; exact List.mem_of_getElem? h))), hw⟩
theorem zcI_6_0 {w : Cond} (k : Nat) (h : zch_6_0[k]? = some w) (hw : zwOK w = true) : zIn w := ⟨zti_6 (List.mem_of_mem_drop (List.mem_of_mem_take (by rw [zche_6_0]; exact List.mem_of_getElem? h))), hw⟩
theorem zcI_6_1 {w : Cond} (k : Nat) (h : zch_6_1[k]? = some w) (hw : zwOK w = true) : zIn w := ⟨zti_6 (List.mem_of_mem_drop (List.mem_of_mem_take (by rw [zche_6_1]; exact List.mem_of_getElem? h))), hw⟩
theorem zcI_6_2 {w : Cond} (k : Nat) (h : zch_6_2[k]? = some w) (hw : zwOK w = true) : zIn w := ⟨zti_6 (List.mem_of_mem_drop (List.mem_of_mem_take (by rw [zche_6_2]; exact List.mem_of_getElem? h))), hw⟩
theorem zcI_6_3 {w : Cond} (k : Nat) (h : zch_6_3[k]? = some w) (hw : zwOK w = true) : zIn w := ⟨zti_6 (List.mem_of_mem_drop (List.mem_of_mem_take (by rw [zche_6_3]; exact List.mem_of_getElem? h))), hw⟩
theorem zcI_6_4 {w : Cond} (k : Nat) (h : zch_6_4[k]? = some w) (hw : zwOK w = true) : zIn w := ⟨zti_6 (List.mem_of_mem_drop (List.mem_of_mem_take (by rw [zche_6_4]; exact List.mem_of_getElem? h))), hw⟩
theorem zcI_6_5 {w : Cond} (k : Nat) (h : zch_6_5[k]? = some w) (hw : zwOK w = true) : zIn w := ⟨zti_6 (List.mem_of_mem_drop (List.mem_of_mem_take (by rw [zche_6_5]; exact List.mem_of_getElem? h))), hw⟩
theorem zcI_6_6 {w : Cond} (k : Nat) (h : zch_6_6[k]? = some w) (hw : zwOK w = true) : zIn w := ⟨zti_6 (List.mem_of_mem_drop (List.mem_of_mem_take (by rw [zche_6_6]; exact List.mem_of_getElem? h))), hw⟩
theorem zcI_6_7 {w : Cond} (k : Nat) (h : zch_6_7[k]? = some w) (hw : zwOK w = true) : zIn w := ⟨zti_6 (List.mem_of_mem_drop (List.mem_of_mem_take (by rw [zche_6_7]; exact List.mem_of_getElem? h))), hw⟩
theorem zcI_6_8 {w : Cond} (k : Nat) (h : zch_6_8[k]? = some w) (hw : zwOK w = true) : zIn w := ⟨zti_6 (List.mem_of_mem_drop (List.mem_of_mem_take (by rw [zche_6_8]; exact List.mem_of_getElem? h))), hw⟩
theorem zcI_6_9 {w : Cond} (k : Nat) (h : zch_6_9[k]? = some w) (hw : zwOK w = true) : zIn w := ⟨zti_6 (List.mem_of_mem_drop (List.mem_of_mem_take (by rw [zche_6_9]; exact List.mem_of_getElem? h))), hw⟩
theorem zcI_6_10 {w : Cond} (k : Nat) (h : zch_6_10[k]? = some w) (hw : zwOK w = true) : zIn w := ⟨zti_6 (List.mem_of_mem_drop (List.mem_of_mem_take (by rw [zche_6_10]; exact List.mem_of_getElem? h))), hw⟩
theorem zcI_6_11 {w : Cond} (k : Nat) (h : zch_6_11[k]? = some w) (hw : zwOK w = true) : zIn w := ⟨zti_6 (List.mem_of_mem_drop (List.mem_of_mem_take (by rw [zche_6_11]; exact List.mem_of_getElem? h))), hw⟩
theorem zcI_6_12 {w : Cond} (k : Nat) (h : zch_6_12[k]? = some w) (hw : zwOK w = true) : zIn w := ⟨zti_6 (List.mem_of_mem_drop (List.mem_of_mem_take (by rw [zche_6_12]; exact List.mem_of_getElem? h))), hw⟩
theorem zcI_6_13 {w : Cond} (k : Nat) (h : zch_6_13[k]? = some w) (hw : zwOK w = true) : zIn w := ⟨zti_6 (List.mem_of_mem_drop (List.mem_of_mem_take (by rw [zche_6_13]; exact List.mem_of_getElem? h))), hw⟩
theorem zcI_6_14 {w : Cond} (k : Nat) (h : zch_6_14[k]? = some w) (hw : zwOK w = true) : zIn w := ⟨zti_6 (List.mem_of_mem_drop (List.mem_of_mem_take (by rw [zche_6_14]; exact List.mem_of_getElem? h))), hw⟩
theorem zcI_7_0 {w : Cond} (k : Nat) (h : zch_7_0[k]? = some w) (hw : zwOK w = true) : zIn w := ⟨zti_7 (List.mem_of_mem_drop (List.mem_of_mem_take (by rw [zche_7_0]; exact List.mem_of_getElem? h))), hw⟩
theorem zcI_7_1 {w : Cond} (k : Nat) (h : zch_7_1[k]? = some w) (hw : zwOK w = true) : zIn w := ⟨zti_7 (List.mem_of_mem_drop (List.mem_of_mem_take (by rw [zche_7_1]; exact List.mem_of_getElem? h))), hw⟩
theorem zcI_7_2 {w : Cond} (k : Nat) (h : zch_7_2[k]? = some w) (hw : zwOK w = true) : zIn w := ⟨zti_7 (List.mem_of_mem_drop (List.mem_of_mem_take (by rw [zche_7_2]; exact List.mem_of_getElem? h))), hw⟩
theorem zcI_7_3 {w : Cond} (k : Nat) (h : zch_7_3[k]? = some w) (hw : zwOK w = true) : zIn w := ⟨zti_7 (List.mem_of_mem_drop (List.mem_of_mem_take (by rw [zche_7_3]; exact List.mem_of_getElem? h))), hw⟩
theorem zcI_7_4 {w : Cond} (k : Nat) (h : zch_7_4[k]? = some w) (hw : zwOK w = true) : zIn w := ⟨zti_7 (List.mem_of_mem_drop (List.mem_of_mem_take (by rw [zche_7_4]; exact List.mem_of_getElem? h))), hw⟩
theorem zcI_7_5 {w : Cond} (k : Nat) (h : zch_7_5[k]? = some w) (hw : zwOK w = true) : zIn w := ⟨zti_7 (List.mem_of_mem_drop (List.mem_of_mem_take (by rw [zche_7_5]; exact List.mem_of_getElem? h))), hw⟩
theorem zcI_7_6 {w : Cond} (k : Nat) (h : zch_7_6[k]? = some w) (hw : zwOK w = true) : zIn w := ⟨zti_7 (List.mem_of_mem_drop (List.mem_of_mem_take (by rw [zche_7_6]; exact List.mem_of_getElem? h))), hw⟩
theorem zcI_7_7 {w : Cond} (k : Nat) (h : zch_7_7[k]? = some w) (hw : zwOK w = true) : zIn w := ⟨zti_7 (List.mem_of_mem_drop (List.mem_of_mem_take (by rw [zche_7_7]; exact List.mem_of_getElem? h))), hw⟩
theorem zcI_7_8 {w : Cond} (k : Nat) (h : zch_7_8[k]? = some w) (hw : zwOK w = true) : zIn w := ⟨zti_7 (List.mem_of_mem_drop (List.mem_of_mem_take (by rw [zche_7_8]; exact List.mem_of_getElem? h))), hw⟩
theorem zpI_1 {q : MethodName × Nat} (k : Nat) (h : lw_privs_1[k]? = some q) (hw : zwOK (.selects q.1.cls q.1 q.1) = true) : zIn (.selects q.1.cls q.1 q.1) := ⟨List.mem_append_left _ (List.mem_map.mpr ⟨q, (List.mem_append_left _ (List.mem_of_getElem? h)), rfl⟩), hw⟩
theorem zpI_2 {q : MethodName × Nat} (k : Nat) (h : lw_privs_2[k]? = some q) (hw : zwOK (.selects q.1.cls q.1 q.1) = true) : zIn (.selects q.1.cls q.1 q.1) := ⟨List.mem_append_left _ (List.mem_map.mpr ⟨q, (List.mem_append_right _ (List.mem_append_left _ (List.mem_of_getElem? h))), rfl⟩), hw⟩
theorem zpI_3 {q : MethodName × Nat} (k : Nat) (h : lw_privs_3[k]? = some q) (hw : zwOK (.selects q.1.cls q.1 q.1) = true) : zIn (.selects q.1.cls q.1 q.1) := ⟨List.mem_append_left _ (List.mem_map.mpr ⟨q, (List.mem_append_right _ (List.mem_append_right _ (List.mem_append_left _ (List.mem_of_getElem? h)))), rfl⟩), hw⟩
theorem zpI_4 {q : MethodName × Nat} (k : Nat) (h : lw_privs_4[k]? = some q) (hw : zwOK (.selects q.1.cls q.1 q.1) = true) : zIn (.selects q.1.cls q.1 q.1) := ⟨List.mem_append_left _ (List.mem_map.mpr ⟨q, (List.mem_append_right _ (List.mem_append_right _ (List.mem_append_right _ (List.mem_append_left _ (List.mem_of_getElem? h))))), rfl⟩), hw⟩
theorem zpI_5 {q : MethodName × Nat} (k : Nat) (h : lw_privs_5[k]? = some q) (hw : zwOK (.selects q.1.cls q.1 q.1) = true) : zIn (.selects q.1.cls q.1 q.1) := ⟨List.mem_append_left _ (List.mem_map.mpr ⟨q, (List.mem_append_right _ (List.mem_append_right _ (List.mem_append_right _ (List.mem_append_right _ (List.mem_append_left _ (List.mem_of_getElem? h)))))), rfl⟩), hw⟩
theorem zpI_6 {q : MethodName × Nat} (k : Nat) (h : lw_privs_6[k]? = some q) (hw : zwOK (.selects q.1.cls q.1 q.1) = true) : zIn (.selects q.1.cls q.1 q.1) := ⟨List.mem_append_left _ (List.mem_map.mpr ⟨q, (List.mem_append_right _ (List.mem_append_right _ (List.mem_append_right _ (List.mem_append_right _ (List.mem_append_right _ (List.mem_of_getElem? h)))))), rfl⟩), hw⟩
theorem zwk_X0 : ∀ k, k < 4 → zIn (u_lay RX0 TX0 k) := fun k hk => match k, hk with
  | 0, _ => (zcI_2_1 14 rfl rfl)
  | 1, _ => (zcI_2_2 0 rfl rfl)
  | 2, _ => (zcI_2_2 2 rfl rfl)
  | 3, _ => (zcI_2_2 4 rfl rfl)
  | k + 4, hk => absurd hk (by omega)
theorem zws_X0 : ∀ w ∈ u_ws RX0 TX0 4, zIn w := fun w hw => by
  obtain ⟨k, hk, rfl⟩ := List.mem_map.mp hw
  exact zwk_X0 k (List.mem_range.mp hk)
theorem zc_X0 : zCls 0 RX0 TX0 4 tyX0 := ⟨rfl, by decide, zws_X0, tyX0_ok, nmX0, by decide +kernel⟩
theorem zwk_X1 : ∀ k, k < 2 → zIn (u_lay RX1 TX1 k) := fun k hk => match k, hk with
  | 0, _ => (zcI_2_0 10 rfl rfl)
  | 1, _ => (zcI_2_0 12 rfl rfl)
  | k + 2, hk => absurd hk (by omega)
theorem zws_X1 : ∀ w ∈ u_ws RX1 TX1 2, zIn w := fun w hw => by
  obtain ⟨k, hk, rfl⟩ := List.mem_map.mp hw
  exact zwk_X1 k (List.mem_range.mp hk)
theorem zc_X1 : zCls 1 RX1 TX1 2 tyX1 := ⟨rfl, by decide, zws_X1, tyX1_ok, nmX1, by decide +kernel⟩
theorem zwk_X2 : ∀ k, k < 5 → zIn (u_lay RX2 TX2 k) := fun k hk => match k, hk with
  | 0, _ => (zcI_1_14 4 rfl rfl)
  | 1, _ => (zcI_1_14 6 rfl rfl)
  | 2, _ => (zcI_1_14 8 rfl rfl)
  | 3, _ => (zcI_1_14 10 rfl rfl)
  | 4, _ => (zcI_1_14 12 rfl rfl)
  | k + 5, hk => absurd hk (by omega)
theorem zws_X2 : ∀ w ∈ u_ws RX2 TX2 5, zIn w := fun w hw => by
  obtain ⟨k, hk, rfl⟩ := List.mem_map.mp hw
  exact zwk_X2 k (List.mem_range.mp hk)
theorem zc_X2 : zCls 2 RX2 TX2 5 tyX2 := ⟨rfl, by decide, zws_X2, tyX2_ok, nmX2, by decide +kernel⟩
theorem zwk_X3 : ∀ k, k < 5 → zIn (u_lay RX3 TX3 k) := fun k hk => match k, hk with
  | 0, _ => (zcI_2_7 7 rfl rfl)
  | 1, _ => (zcI_2_7 9 rfl rfl)
  | 2, _ => (zcI_2_7 11 rfl rfl)
  | 3, _ => (zcI_2_7 13 rfl rfl)
  | 4, _ => (zcI_2_7 15 rfl rfl)
  | k + 5, hk => absurd hk (by omega)
theorem zws_X3 : ∀ w ∈ u_ws RX3 TX3 5, zIn w := fun w hw => by
  obtain ⟨k, hk, rfl⟩ := List.mem_map.mp hw
  exact zwk_X3 k (List.mem_range.mp hk)
theorem zc_X3 : zCls 3 RX3 TX3 5 tyX3 := ⟨rfl, by decide, zws_X3, tyX3_ok, nmX3, by decide +kernel⟩
theorem zwk_X4 : ∀ k, k < 2 → zIn (u_lay RX4 TX4 k) := fun k hk => match k, hk with
  | 0, _ => (zcI_2_3 1 rfl rfl)
  | 1, _ => (zcI_2_3 3 rfl rfl)
  | k + 2, hk => absurd hk (by omega)
theorem zws_X4 : ∀ w ∈ u_ws RX4 TX4 2, zIn w := fun w hw => by
  obtain ⟨k, hk, rfl⟩ := List.mem_map.mp hw
  exact zwk_X4 k (List.mem_range.mp hk)
theorem zc_X4 : zCls 4 RX4 TX4 2 tyX4 := ⟨rfl, by decide, zws_X4, tyX4_ok, nmX4, by decide +kernel⟩
theorem zwk_X5 : ∀ k, k < 10 → zIn (u_lay RX5 TX5 k) := fun k hk => match k, hk with
  | 0, _ => (zcI_1_8 11 rfl rfl)
  | 1, _ => (zcI_1_8 13 rfl rfl)
  | 2, _ => (zcI_1_8 15 rfl rfl)
  | 3, _ => (zcI_1_9 1 rfl rfl)
  | 4, _ => (zcI_1_9 3 rfl rfl)
  | 5, _ => (zcI_1_9 5 rfl rfl)
  | 6, _ => (zcI_1_9 7 rfl rfl)
  | 7, _ => (zcI_1_9 9 rfl rfl)
  | 8, _ => (zcI_1_9 11 rfl rfl)
  | 9, _ => (zcI_1_9 13 rfl rfl)
  | k + 10, hk => absurd hk (by omega)
theorem zws_X5 : ∀ w ∈ u_ws RX5 TX5 10, zIn w := fun w hw => by
  obtain ⟨k, hk, rfl⟩ := List.mem_map.mp hw
  exact zwk_X5 k (List.mem_range.mp hk)
theorem zc_X5 : zCls 5 RX5 TX5 10 tyX5 := ⟨rfl, by decide, zws_X5, tyX5_ok, nmX5, by decide +kernel⟩
theorem zwk_X6 : ∀ k, k < 8 → zIn (u_lay RX6 TX6 k) := fun k hk => match k, hk with
  | 0, _ => (zcI_1_12 4 rfl rfl)
  | 1, _ => (zcI_1_12 6 rfl rfl)
  | 2, _ => (zcI_1_12 8 rfl rfl)
  | 3, _ => (zcI_1_12 10 rfl rfl)
  | 4, _ => (zcI_1_12 12 rfl rfl)
  | 5, _ => (zcI_1_12 14 rfl rfl)
  | 6, _ => (zcI_1_13 0 rfl rfl)
  | 7, _ => (zcI_1_13 2 rfl rfl)
  | k + 8, hk => absurd hk (by omega)
theorem zws_X6 : ∀ w ∈ u_ws RX6 TX6 8, zIn w := fun w hw => by
  obtain ⟨k, hk, rfl⟩ := List.mem_map.mp hw
  exact zwk_X6 k (List.mem_range.mp hk)
theorem zc_X6 : zCls 6 RX6 TX6 8 tyX6 := ⟨rfl, by decide, zws_X6, tyX6_ok, nmX6, by decide +kernel⟩
theorem zwk_X7 : ∀ k, k < 11 → zIn (u_lay RX7 TX7 k) := fun k hk => match k, hk with
  | 0, _ => (zcI_2_11 1 rfl rfl)
  | 1, _ => (zcI_2_11 3 rfl rfl)
  | 2, _ => (zcI_2_11 5 rfl rfl)
  | 3, _ => (zcI_2_11 7 rfl rfl)
  | 4, _ => (zcI_2_11 9 rfl rfl)
  | 5, _ => (zcI_2_11 11 rfl rfl)
  | 6, _ => (zcI_2_11 13 rfl rfl)
  | 7, _ => (zcI_2_11 15 rfl rfl)
  | 8, _ => (zcI_2_12 1 rfl rfl)
  | 9, _ => (zcI_2_12 3 rfl rfl)
  | 10, _ => (zcI_2_12 5 rfl rfl)
  | k + 11, hk => absurd hk (by omega)
theorem zws_X7 : ∀ w ∈ u_ws RX7 TX7 11, zIn w := fun w hw => by
  obtain ⟨k, hk, rfl⟩ := List.mem_map.mp hw
  exact zwk_X7 k (List.mem_range.mp hk)
theorem zc_X7 : zCls 7 RX7 TX7 11 tyX7 := ⟨rfl, by decide, zws_X7, tyX7_ok, nmX7, by decide +kernel⟩
theorem zwk_X8 : ∀ k, k < 2 → zIn (u_lay RX8 TX8 k) := fun k hk => match k, hk with
  | 0, _ => (zcI_1_2 5 rfl rfl)
  | 1, _ => (zcI_1_2 7 rfl rfl)
  | k + 2, hk => absurd hk (by omega)
theorem zws_X8 : ∀ w ∈ u_ws RX8 TX8 2, zIn w := fun w hw => by
  obtain ⟨k, hk, rfl⟩ := List.mem_map.mp hw
  exact zwk_X8 k (List.mem_range.mp hk)
theorem zc_X8 : zCls 8 RX8 TX8 2 tyX8 := ⟨rfl, by decide, zws_X8, tyX8_ok, nmX8, by decide +kernel⟩
theorem zwk_X9 : ∀ k, k < 6 → zIn (u_lay RX9 TX9 k) := fun k hk => match k, hk with
  | 0, _ => (zcI_1_7 2 rfl rfl)
  | 1, _ => (zcI_1_7 4 rfl rfl)
  | 2, _ => (zcI_1_7 6 rfl rfl)
  | 3, _ => (zcI_1_7 8 rfl rfl)
  | 4, _ => (zcI_1_7 10 rfl rfl)
  | 5, _ => (zcI_1_7 12 rfl rfl)
  | k + 6, hk => absurd hk (by omega)
theorem zws_X9 : ∀ w ∈ u_ws RX9 TX9 6, zIn w := fun w hw => by
  obtain ⟨k, hk, rfl⟩ := List.mem_map.mp hw
  exact zwk_X9 k (List.mem_range.mp hk)
theorem zc_X9 : zCls 9 RX9 TX9 6 tyX9 := ⟨rfl, by decide, zws_X9, tyX9_ok, nmX9, by decide +kernel⟩
theorem zwk_X10 : ∀ k, k < 11 → zIn (u_lay RX10 TX10 k) := fun k hk => match k, hk with
  | 0, _ => (zcI_2_4 13 rfl rfl)
  | 1, _ => (zcI_2_4 15 rfl rfl)
  | 2, _ => (zcI_2_5 1 rfl rfl)
  | 3, _ => (zcI_2_5 3 rfl rfl)
  | 4, _ => (zcI_2_5 5 rfl rfl)
  | 5, _ => (zcI_2_5 7 rfl rfl)
  | 6, _ => (zcI_2_5 9 rfl rfl)
  | 7, _ => (zcI_2_5 11 rfl rfl)
  | 8, _ => (zcI_2_5 13 rfl rfl)
  | 9, _ => (zcI_2_5 15 rfl rfl)
  | 10, _ => (zcI_2_6 1 rfl rfl)
  | k + 11, hk => absurd hk (by omega)
theorem zws_X10 : ∀ w ∈ u_ws RX10 TX10 11, zIn w := fun w hw => by
  obtain ⟨k, hk, rfl⟩ := List.mem_map.mp hw
  exact zwk_X10 k (List.mem_range.mp hk)
theorem zc_X10 : zCls 10 RX10 TX10 11 tyX10 := ⟨rfl, by decide, zws_X10, tyX10_ok, nmX10, by decide +kernel⟩
theorem zwk_X11 : ∀ k, k < 11 → zIn (u_lay RX11 TX11 k) := fun k hk => match k, hk with
  | 0, _ => (zcI_2_14 3 rfl rfl)
  | 1, _ => (zcI_2_14 5 rfl rfl)
  | 2, _ => (zcI_2_14 7 rfl rfl)
  | 3, _ => (zcI_2_14 9 rfl rfl)
  | 4, _ => (zcI_2_14 11 rfl rfl)
  | 5, _ => (zcI_2_14 13 rfl rfl)
  | 6, _ => (zcI_2_14 15 rfl rfl)
  | 7, _ => (zcI_3_0 1 rfl rfl)
  | 8, _ => (zcI_3_0 3 rfl rfl)
  | 9, _ => (zcI_3_0 5 rfl rfl)
  | 10, _ => (zcI_3_0 7 rfl rfl)
  | k + 11, hk => absurd hk (by omega)
theorem zws_X11 : ∀ w ∈ u_ws RX11 TX11 11, zIn w := fun w hw => by
  obtain ⟨k, hk, rfl⟩ := List.mem_map.mp hw
  exact zwk_X11 k (List.mem_range.mp hk)
theorem zc_X11 : zCls 11 RX11 TX11 11 tyX11 := ⟨rfl, by decide, zws_X11, tyX11_ok, nmX11, by decide +kernel⟩
theorem zwk_X12 : ∀ k, k < 61 → zIn (u_lay RX12 TX12 k) := fun k hk => match k, hk with
  | 0, _ => (zcI_5_10 4 rfl rfl)
  | 1, _ => (zcI_5_10 6 rfl rfl)
  | 2, _ => (zcI_5_10 8 rfl rfl)
  | 3, _ => (zcI_5_10 10 rfl rfl)
  | 4, _ => (zcI_5_10 12 rfl rfl)
  | 5, _ => (zcI_5_10 14 rfl rfl)
  | 6, _ => (zcI_5_11 0 rfl rfl)
  | 7, _ => (zcI_5_11 2 rfl rfl)
  | 8, _ => (zcI_5_11 4 rfl rfl)
  | 9, _ => (zcI_5_11 6 rfl rfl)
  | 10, _ => (zcI_5_11 8 rfl rfl)
  | 11, _ => (zcI_5_11 10 rfl rfl)
  | 12, _ => (zcI_5_11 12 rfl rfl)
  | 13, _ => (zcI_5_11 14 rfl rfl)
  | 14, _ => (zcI_5_12 0 rfl rfl)
  | 15, _ => (zcI_5_12 2 rfl rfl)
  | 16, _ => (zcI_5_12 4 rfl rfl)
  | 17, _ => (zcI_5_12 6 rfl rfl)
  | 18, _ => (zcI_5_12 8 rfl rfl)
  | 19, _ => (zcI_5_12 10 rfl rfl)
  | 20, _ => (zcI_5_12 12 rfl rfl)
  | 21, _ => (zcI_5_12 14 rfl rfl)
  | 22, _ => (zcI_5_13 0 rfl rfl)
  | 23, _ => (zcI_5_13 2 rfl rfl)
  | 24, _ => (zcI_5_13 4 rfl rfl)
  | 25, _ => (zcI_5_13 6 rfl rfl)
  | 26, _ => (zcI_5_13 8 rfl rfl)
  | 27, _ => (zcI_5_13 10 rfl rfl)
  | 28, _ => (zcI_5_13 12 rfl rfl)
  | 29, _ => (zcI_5_13 14 rfl rfl)
  | 30, _ => (zcI_5_14 0 rfl rfl)
  | 31, _ => (zcI_5_14 2 rfl rfl)
  | 32, _ => (zcI_5_14 4 rfl rfl)
  | 33, _ => (zcI_5_14 6 rfl rfl)
  | 34, _ => (zcI_5_14 8 rfl rfl)
  | 35, _ => (zcI_5_14 10 rfl rfl)
  | 36, _ => (zcI_5_14 12 rfl rfl)
  | 37, _ => (zcI_5_14 14 rfl rfl)
  | 38, _ => (zcI_6_0 0 rfl rfl)
  | 39, _ => (zcI_6_0 2 rfl rfl)
  | 40, _ => (zcI_6_0 4 rfl rfl)
  | 41, _ => (zcI_6_0 6 rfl rfl)
  | 42, _ => (zcI_6_0 8 rfl rfl)
  | 43, _ => (zcI_6_0 10 rfl rfl)
  | 44, _ => (zcI_6_0 12 rfl rfl)
  | 45, _ => (zcI_6_0 14 rfl rfl)
  | 46, _ => (zcI_6_1 0 rfl rfl)
  | 47, _ => (zcI_6_1 2 rfl rfl)
  | 48, _ => (zcI_6_1 4 rfl rfl)
  | 49, _ => (zcI_6_1 6 rfl rfl)
  | 50, _ => (zcI_6_1 8 rfl rfl)
  | 51, _ => (zcI_6_1 10 rfl rfl)
  | 52, _ => (zcI_6_1 12 rfl rfl)
  | 53, _ => (zcI_6_1 14 rfl rfl)
  | 54, _ => (zcI_6_2 0 rfl rfl)
  | 55, _ => (zcI_6_2 2 rfl rfl)
  | 56, _ => (zcI_6_2 4 rfl rfl)
  | 57, _ => (zcI_6_2 6 rfl rfl)
  | 58, _ => (zcI_6_2 8 rfl rfl)
  | 59, _ => (zcI_6_2 10 rfl rfl)
  | 60, _ => (zcI_6_2 12 rfl rfl)
  | k + 61, hk => absurd hk (by omega)
theorem zws_X12 : ∀ w ∈ u_ws RX12 TX12 61, zIn w := fun w hw => by
  obtain ⟨k, hk, rfl⟩ := List.mem_map.mp hw
  exact zwk_X12 k (List.mem_range.mp hk)
theorem zc_X12 : zCls 12 RX12 TX12 61 tyX12 := ⟨rfl, by decide, zws_X12, tyX12_ok, nmX12, by decide +kernel⟩
theorem zf_X8_9 : zFld RX8 9 8 2 0 (.array .byte) true false := ⟨RX8, TX8, tyX8, zc_X8, by decide, rfl, rfl, rfl, (fun _ _ => rfl), Or.inl ⟨rfl, (zcI_1_2 1 rfl rfl)⟩⟩
theorem zf_X11_83 : zFld RX11 83 8 2 1 (.int) false true := ⟨RX8, TX8, tyX8, zc_X8, by decide, rfl, rfl, rfl, (fun h => by cases h), Or.inr ⟨rfl, "RingPurses", (zcI_1_2 2 rfl rfl)⟩⟩
theorem zf_X8_15 : zFld RX8 15 8 2 1 (.int) false false := ⟨RX8, TX8, tyX8, zc_X8, by decide, rfl, rfl, rfl, (fun h => by cases h), Or.inl ⟨rfl, (zcI_1_2 3 rfl rfl)⟩⟩
theorem zf_X9_45 : zFld RX9 45 8 2 1 (.int) false true := ⟨RX8, TX8, tyX8, zc_X8, by decide, rfl, rfl, rfl, (fun h => by cases h), Or.inr ⟨rfl, "RingPurses", (zcI_1_2 4 rfl rfl)⟩⟩
theorem zf_X9_9 : zFld RX9 9 9 6 0 (.array .int) true false := ⟨RX9, TX9, tyX9, zc_X9, by decide, rfl, rfl, rfl, (fun _ _ => rfl), Or.inl ⟨rfl, (zcI_1_6 12 rfl rfl)⟩⟩
theorem zf_X9_15 : zFld RX9 15 9 6 1 (.array .int) true false := ⟨RX9, TX9, tyX9, zc_X9, by decide, rfl, rfl, rfl, (fun _ _ => rfl), Or.inl ⟨rfl, (zcI_1_6 13 rfl rfl)⟩⟩
theorem zf_X9_18 : zFld RX9 18 9 6 2 (.array .long) true false := ⟨RX9, TX9, tyX9, zc_X9, by decide, rfl, rfl, rfl, (fun _ _ => rfl), Or.inl ⟨rfl, (zcI_1_6 14 rfl rfl)⟩⟩
theorem zf_X9_22 : zFld RX9 22 9 6 3 (.array .long) true false := ⟨RX9, TX9, tyX9, zc_X9, by decide, rfl, rfl, rfl, (fun _ _ => rfl), Or.inl ⟨rfl, (zcI_1_6 15 rfl rfl)⟩⟩
theorem zf_X9_41 : zFld RX9 41 9 6 4 (.int) false false := ⟨RX9, TX9, tyX9, zc_X9, by decide, rfl, rfl, rfl, (fun h => by cases h), Or.inl ⟨rfl, (zcI_1_7 0 rfl rfl)⟩⟩
theorem zf_X9_68 : zFld RX9 68 9 6 5 (.int) false false := ⟨RX9, TX9, tyX9, zc_X9, by decide, rfl, rfl, rfl, (fun h => by cases h), Or.inl ⟨rfl, (zcI_1_7 1 rfl rfl)⟩⟩
theorem zf_X5_12 : zFld RX5 12 5 10 0 (.object "RingPurses$Tokens") true false := ⟨RX5, TX5, tyX5, zc_X5, by decide, rfl, rfl, rfl, (fun _ _ => rfl), Or.inl ⟨rfl, (zcI_1_8 1 rfl rfl)⟩⟩
theorem zf_X5_18 : zFld RX5 18 5 10 1 (.array .long) true false := ⟨RX5, TX5, tyX5, zc_X5, by decide, rfl, rfl, rfl, (fun _ _ => rfl), Or.inl ⟨rfl, (zcI_1_8 2 rfl rfl)⟩⟩
theorem zf_X5_22 : zFld RX5 22 5 10 2 (.array .int) true false := ⟨RX5, TX5, tyX5, zc_X5, by decide, rfl, rfl, rfl, (fun _ _ => rfl), Or.inl ⟨rfl, (zcI_1_8 3 rfl rfl)⟩⟩
theorem zf_X5_39 : zFld RX5 39 5 10 3 (.int) false false := ⟨RX5, TX5, tyX5, zc_X5, by decide, rfl, rfl, rfl, (fun h => by cases h), Or.inl ⟨rfl, (zcI_1_8 4 rfl rfl)⟩⟩
theorem zf_X5_130 : zFld RX5 130 5 10 4 (.int) false false := ⟨RX5, TX5, tyX5, zc_X5, by decide, rfl, rfl, rfl, (fun h => by cases h), Or.inl ⟨rfl, (zcI_1_8 5 rfl rfl)⟩⟩
theorem zf_X5_133 : zFld RX5 133 5 10 5 (.int) false false := ⟨RX5, TX5, tyX5, zc_X5, by decide, rfl, rfl, rfl, (fun h => by cases h), Or.inl ⟨rfl, (zcI_1_8 6 rfl rfl)⟩⟩
theorem zf_X5_42 : zFld RX5 42 5 10 6 (.int) false false := ⟨RX5, TX5, tyX5, zc_X5, by decide, rfl, rfl, rfl, (fun h => by cases h), Or.inl ⟨rfl, (zcI_1_8 7 rfl rfl)⟩⟩
theorem zf_X5_26 : zFld RX5 26 5 10 7 (.int) false false := ⟨RX5, TX5, tyX5, zc_X5, by decide, rfl, rfl, rfl, (fun h => by cases h), Or.inl ⟨rfl, (zcI_1_8 8 rfl rfl)⟩⟩
theorem zf_X5_45 : zFld RX5 45 5 10 8 (.int) false false := ⟨RX5, TX5, tyX5, zc_X5, by decide, rfl, rfl, rfl, (fun h => by cases h), Or.inl ⟨rfl, (zcI_1_8 9 rfl rfl)⟩⟩
theorem zf_X5_48 : zFld RX5 48 5 10 9 (.int) false false := ⟨RX5, TX5, tyX5, zc_X5, by decide, rfl, rfl, rfl, (fun h => by cases h), Or.inl ⟨rfl, (zcI_1_8 10 rfl rfl)⟩⟩
theorem zf_X6_9 : zFld RX6 9 6 8 0 (.array .int) true false := ⟨RX6, TX6, tyX6, zc_X6, by decide, rfl, rfl, rfl, (fun _ _ => rfl), Or.inl ⟨rfl, (zcI_1_10 6 rfl rfl)⟩⟩
theorem zf_X4_45 : zFld RX4 45 6 8 0 (.array .int) true true := ⟨RX6, TX6, tyX6, zc_X6, by decide, rfl, rfl, rfl, (fun _ h => by cases h), Or.inr ⟨rfl, "RingPurses", (zcI_1_10 7 rfl rfl)⟩⟩
theorem zf_X1_42 : zFld RX1 42 6 8 0 (.array .int) true true := ⟨RX6, TX6, tyX6, zc_X6, by decide, rfl, rfl, rfl, (fun _ h => by cases h), Or.inr ⟨rfl, "RingPurses", (zcI_1_10 8 rfl rfl)⟩⟩
theorem zf_X10_58 : zFld RX10 58 6 8 0 (.array .int) true true := ⟨RX6, TX6, tyX6, zc_X6, by decide, rfl, rfl, rfl, (fun _ h => by cases h), Or.inr ⟨rfl, "RingPurses", (zcI_1_10 9 rfl rfl)⟩⟩
theorem zf_X11_108 : zFld RX11 108 6 8 0 (.array .int) true true := ⟨RX6, TX6, tyX6, zc_X6, by decide, rfl, rfl, rfl, (fun _ h => by cases h), Or.inr ⟨rfl, "RingPurses", (zcI_1_10 10 rfl rfl)⟩⟩
theorem zf_X6_15 : zFld RX6 15 6 8 1 (.array .int) true false := ⟨RX6, TX6, tyX6, zc_X6, by decide, rfl, rfl, rfl, (fun _ _ => rfl), Or.inl ⟨rfl, (zcI_1_10 11 rfl rfl)⟩⟩
theorem zf_X4_42 : zFld RX4 42 6 8 1 (.array .int) true true := ⟨RX6, TX6, tyX6, zc_X6, by decide, rfl, rfl, rfl, (fun _ h => by cases h), Or.inr ⟨rfl, "RingPurses", (zcI_1_10 12 rfl rfl)⟩⟩
theorem zf_X10_74 : zFld RX10 74 6 8 1 (.array .int) true true := ⟨RX6, TX6, tyX6, zc_X6, by decide, rfl, rfl, rfl, (fun _ h => by cases h), Or.inr ⟨rfl, "RingPurses", (zcI_1_10 13 rfl rfl)⟩⟩
theorem zf_X11_112 : zFld RX11 112 6 8 1 (.array .int) true true := ⟨RX6, TX6, tyX6, zc_X6, by decide, rfl, rfl, rfl, (fun _ h => by cases h), Or.inr ⟨rfl, "RingPurses", (zcI_1_10 14 rfl rfl)⟩⟩
theorem zf_X6_18 : zFld RX6 18 6 8 2 (.array .int) true false := ⟨RX6, TX6, tyX6, zc_X6, by decide, rfl, rfl, rfl, (fun _ _ => rfl), Or.inl ⟨rfl, (zcI_1_10 15 rfl rfl)⟩⟩
theorem zf_X11_126 : zFld RX11 126 6 8 2 (.array .int) true true := ⟨RX6, TX6, tyX6, zc_X6, by decide, rfl, rfl, rfl, (fun _ h => by cases h), Or.inr ⟨rfl, "RingPurses", (zcI_1_11 0 rfl rfl)⟩⟩
theorem zf_X6_21 : zFld RX6 21 6 8 3 (.array .long) true false := ⟨RX6, TX6, tyX6, zc_X6, by decide, rfl, rfl, rfl, (fun _ _ => rfl), Or.inl ⟨rfl, (zcI_1_11 1 rfl rfl)⟩⟩
theorem zf_X11_129 : zFld RX11 129 6 8 3 (.array .long) true true := ⟨RX6, TX6, tyX6, zc_X6, by decide, rfl, rfl, rfl, (fun _ h => by cases h), Or.inr ⟨rfl, "RingPurses", (zcI_1_11 2 rfl rfl)⟩⟩
theorem zf_X4_22 : zFld RX4 22 6 8 4 (.int) false true := ⟨RX6, TX6, tyX6, zc_X6, by decide, rfl, rfl, rfl, (fun h => by cases h), Or.inr ⟨rfl, "RingPurses", (zcI_1_11 3 rfl rfl)⟩⟩
theorem zf_X6_25 : zFld RX6 25 6 8 4 (.int) false false := ⟨RX6, TX6, tyX6, zc_X6, by decide, rfl, rfl, rfl, (fun h => by cases h), Or.inl ⟨rfl, (zcI_1_11 4 rfl rfl)⟩⟩
theorem zf_X0_22 : zFld RX0 22 6 8 4 (.int) false true := ⟨RX6, TX6, tyX6, zc_X6, by decide, rfl, rfl, rfl, (fun h => by cases h), Or.inr ⟨rfl, "RingPurses", (zcI_1_11 5 rfl rfl)⟩⟩
theorem zf_X1_54 : zFld RX1 54 6 8 4 (.int) false true := ⟨RX6, TX6, tyX6, zc_X6, by decide, rfl, rfl, rfl, (fun h => by cases h), Or.inr ⟨rfl, "RingPurses", (zcI_1_11 6 rfl rfl)⟩⟩
theorem zf_X10_56 : zFld RX10 56 6 8 4 (.int) false true := ⟨RX6, TX6, tyX6, zc_X6, by decide, rfl, rfl, rfl, (fun h => by cases h), Or.inr ⟨rfl, "RingPurses", (zcI_1_11 7 rfl rfl)⟩⟩
theorem zf_X7_87 : zFld RX7 87 6 8 4 (.int) false true := ⟨RX6, TX6, tyX6, zc_X6, by decide, rfl, rfl, rfl, (fun h => by cases h), Or.inr ⟨rfl, "RingPurses", (zcI_1_11 8 rfl rfl)⟩⟩
theorem zf_X11_157 : zFld RX11 157 6 8 4 (.int) false true := ⟨RX6, TX6, tyX6, zc_X6, by decide, rfl, rfl, rfl, (fun h => by cases h), Or.inr ⟨rfl, "RingPurses", (zcI_1_11 9 rfl rfl)⟩⟩
theorem zf_X6_29 : zFld RX6 29 6 8 5 (.int) false false := ⟨RX6, TX6, tyX6, zc_X6, by decide, rfl, rfl, rfl, (fun h => by cases h), Or.inl ⟨rfl, (zcI_1_11 10 rfl rfl)⟩⟩
theorem zf_X1_34 : zFld RX1 34 6 8 5 (.int) false true := ⟨RX6, TX6, tyX6, zc_X6, by decide, rfl, rfl, rfl, (fun h => by cases h), Or.inr ⟨rfl, "RingPurses", (zcI_1_11 11 rfl rfl)⟩⟩
theorem zf_X7_98 : zFld RX7 98 6 8 5 (.int) false true := ⟨RX6, TX6, tyX6, zc_X6, by decide, rfl, rfl, rfl, (fun h => by cases h), Or.inr ⟨rfl, "RingPurses", (zcI_1_11 12 rfl rfl)⟩⟩
theorem zf_X10_80 : zFld RX10 80 6 8 5 (.int) false true := ⟨RX6, TX6, tyX6, zc_X6, by decide, rfl, rfl, rfl, (fun h => by cases h), Or.inr ⟨rfl, "RingPurses", (zcI_1_11 13 rfl rfl)⟩⟩
theorem zf_X11_154 : zFld RX11 154 6 8 5 (.int) false true := ⟨RX6, TX6, tyX6, zc_X6, by decide, rfl, rfl, rfl, (fun h => by cases h), Or.inr ⟨rfl, "RingPurses", (zcI_1_11 14 rfl rfl)⟩⟩
theorem zf_X6_32 : zFld RX6 32 6 8 6 (.int) false false := ⟨RX6, TX6, tyX6, zc_X6, by decide, rfl, rfl, rfl, (fun h => by cases h), Or.inl ⟨rfl, (zcI_1_11 15 rfl rfl)⟩⟩
theorem zf_X7_95 : zFld RX7 95 6 8 6 (.int) false true := ⟨RX6, TX6, tyX6, zc_X6, by decide, rfl, rfl, rfl, (fun h => by cases h), Or.inr ⟨rfl, "RingPurses", (zcI_1_12 0 rfl rfl)⟩⟩
theorem zf_X11_147 : zFld RX11 147 6 8 6 (.int) false true := ⟨RX6, TX6, tyX6, zc_X6, by decide, rfl, rfl, rfl, (fun h => by cases h), Or.inr ⟨rfl, "RingPurses", (zcI_1_12 1 rfl rfl)⟩⟩
theorem zf_X6_35 : zFld RX6 35 6 8 7 (.int) false false := ⟨RX6, TX6, tyX6, zc_X6, by decide, rfl, rfl, rfl, (fun h => by cases h), Or.inl ⟨rfl, (zcI_1_12 2 rfl rfl)⟩⟩
theorem zf_X11_289 : zFld RX11 289 6 8 7 (.int) false true := ⟨RX6, TX6, tyX6, zc_X6, by decide, rfl, rfl, rfl, (fun h => by cases h), Or.inr ⟨rfl, "RingPurses", (zcI_1_12 3 rfl rfl)⟩⟩
theorem zf_X2_11 : zFld RX2 11 2 5 0 (.array (.object "RingPurses$Ring")) true false := ⟨RX2, TX2, tyX2, zc_X2, by decide, rfl, rfl, rfl, (fun _ _ => rfl), Or.inl ⟨rfl, (zcI_1_13 14 rfl rfl)⟩⟩
theorem zf_X2_17 : zFld RX2 17 2 5 1 (.array (.object "RingPurses$Ring")) true false := ⟨RX2, TX2, tyX2, zc_X2, by decide, rfl, rfl, rfl, (fun _ _ => rfl), Or.inl ⟨rfl, (zcI_1_13 15 rfl rfl)⟩⟩
theorem zf_X2_20 : zFld RX2 20 2 5 2 (.array .boolean) true false := ⟨RX2, TX2, tyX2, zc_X2, by decide, rfl, rfl, rfl, (fun _ _ => rfl), Or.inl ⟨rfl, (zcI_1_14 0 rfl rfl)⟩⟩
theorem zf_X2_32 : zFld RX2 32 2 5 3 (.int) false false := ⟨RX2, TX2, tyX2, zc_X2, by decide, rfl, rfl, rfl, (fun h => by cases h), Or.inl ⟨rfl, (zcI_1_14 1 rfl rfl)⟩⟩
theorem zf_X2_28 : zFld RX2 28 2 5 4 (.int) false false := ⟨RX2, TX2, tyX2, zc_X2, by decide, rfl, rfl, rfl, (fun h => by cases h), Or.inl ⟨rfl, (zcI_1_14 2 rfl rfl)⟩⟩
theorem zf_X11_292 : zFld RX11 292 2 5 4 (.int) false true := ⟨RX2, TX2, tyX2, zc_X2, by decide, rfl, rfl, rfl, (fun h => by cases h), Or.inr ⟨rfl, "RingPurses", (zcI_1_14 3 rfl rfl)⟩⟩
theorem zf_X1_12 : zFld RX1 12 1 2 0 (.object "RingPurses$Ring") true false := ⟨RX1, TX1, tyX1, zc_X1, by decide, rfl, rfl, rfl, (fun _ _ => rfl), Or.inl ⟨rfl, (zcI_2_0 8 rfl rfl)⟩⟩
theorem zf_X1_18 : zFld RX1 18 1 2 1 (.array .int) true false := ⟨RX1, TX1, tyX1, zc_X1, by decide, rfl, rfl, rfl, (fun _ _ => rfl), Or.inl ⟨rfl, (zcI_2_0 9 rfl rfl)⟩⟩
theorem zf_X0_12 : zFld RX0 12 0 4 0 (.object "RingPurses$Ring") true false := ⟨RX0, TX0, tyX0, zc_X0, by decide, rfl, rfl, rfl, (fun _ _ => rfl), Or.inl ⟨rfl, (zcI_2_1 7 rfl rfl)⟩⟩
theorem zf_X0_43 : zFld RX0 43 0 4 1 (.int) false false := ⟨RX0, TX0, tyX0, zc_X0, by decide, rfl, rfl, rfl, (fun h => by cases h), Or.inl ⟨rfl, (zcI_2_1 8 rfl rfl)⟩⟩
theorem zf_X11_221 : zFld RX11 221 0 4 1 (.int) false true := ⟨RX0, TX0, tyX0, zc_X0, by decide, rfl, rfl, rfl, (fun h => by cases h), Or.inr ⟨rfl, "RingPurses", (zcI_2_1 9 rfl rfl)⟩⟩
theorem zf_X0_46 : zFld RX0 46 0 4 2 (.int) false false := ⟨RX0, TX0, tyX0, zc_X0, by decide, rfl, rfl, rfl, (fun h => by cases h), Or.inl ⟨rfl, (zcI_2_1 10 rfl rfl)⟩⟩
theorem zf_X11_207 : zFld RX11 207 0 4 2 (.int) false true := ⟨RX0, TX0, tyX0, zc_X0, by decide, rfl, rfl, rfl, (fun h => by cases h), Or.inr ⟨rfl, "RingPurses", (zcI_2_1 11 rfl rfl)⟩⟩
theorem zf_X0_18 : zFld RX0 18 0 4 3 (.int) false false := ⟨RX0, TX0, tyX0, zc_X0, by decide, rfl, rfl, rfl, (fun h => by cases h), Or.inl ⟨rfl, (zcI_2_1 12 rfl rfl)⟩⟩
theorem zf_X11_210 : zFld RX11 210 0 4 3 (.int) false true := ⟨RX0, TX0, tyX0, zc_X0, by decide, rfl, rfl, rfl, (fun h => by cases h), Or.inr ⟨rfl, "RingPurses", (zcI_2_1 13 rfl rfl)⟩⟩
theorem zf_X4_12 : zFld RX4 12 4 2 0 (.object "RingPurses$Ring") true false := ⟨RX4, TX4, tyX4, zc_X4, by decide, rfl, rfl, rfl, (fun _ _ => rfl), Or.inl ⟨rfl, (zcI_2_2 15 rfl rfl)⟩⟩
theorem zf_X4_18 : zFld RX4 18 4 2 1 (.array .int) true false := ⟨RX4, TX4, tyX4, zc_X4, by decide, rfl, rfl, rfl, (fun _ _ => rfl), Or.inl ⟨rfl, (zcI_2_3 0 rfl rfl)⟩⟩
theorem zf_X10_9 : zFld RX10 9 10 11 0 (.array .int) true false := ⟨RX10, TX10, tyX10, zc_X10, by decide, rfl, rfl, rfl, (fun _ _ => rfl), Or.inl ⟨rfl, (zcI_2_3 14 rfl rfl)⟩⟩
theorem zf_X10_15 : zFld RX10 15 10 11 1 (.array .int) true false := ⟨RX10, TX10, tyX10, zc_X10, by decide, rfl, rfl, rfl, (fun _ _ => rfl), Or.inl ⟨rfl, (zcI_2_3 15 rfl rfl)⟩⟩
theorem zf_X10_18 : zFld RX10 18 10 11 2 (.array .int) true false := ⟨RX10, TX10, tyX10, zc_X10, by decide, rfl, rfl, rfl, (fun _ _ => rfl), Or.inl ⟨rfl, (zcI_2_4 0 rfl rfl)⟩⟩
theorem zf_X10_21 : zFld RX10 21 10 11 3 (.array .int) true false := ⟨RX10, TX10, tyX10, zc_X10, by decide, rfl, rfl, rfl, (fun _ _ => rfl), Or.inl ⟨rfl, (zcI_2_4 1 rfl rfl)⟩⟩
theorem zf_X10_24 : zFld RX10 24 10 11 4 (.array .int) true false := ⟨RX10, TX10, tyX10, zc_X10, by decide, rfl, rfl, rfl, (fun _ _ => rfl), Or.inl ⟨rfl, (zcI_2_4 2 rfl rfl)⟩⟩
theorem zf_X10_30 : zFld RX10 30 10 11 5 (.object "RingPurses$Ring") true false := ⟨RX10, TX10, tyX10, zc_X10, by decide, rfl, rfl, rfl, (fun _ _ => rfl), Or.inl ⟨rfl, (zcI_2_4 3 rfl rfl)⟩⟩
theorem zf_X10_34 : zFld RX10 34 10 11 6 (.int) false false := ⟨RX10, TX10, tyX10, zc_X10, by decide, rfl, rfl, rfl, (fun h => by cases h), Or.inl ⟨rfl, (zcI_2_4 4 rfl rfl)⟩⟩
theorem zf_X11_245 : zFld RX11 245 10 11 6 (.int) false true := ⟨RX10, TX10, tyX10, zc_X10, by decide, rfl, rfl, rfl, (fun h => by cases h), Or.inr ⟨rfl, "RingPurses", (zcI_2_4 5 rfl rfl)⟩⟩
theorem zf_X10_39 : zFld RX10 39 10 11 7 (.int) false false := ⟨RX10, TX10, tyX10, zc_X10, by decide, rfl, rfl, rfl, (fun h => by cases h), Or.inl ⟨rfl, (zcI_2_4 6 rfl rfl)⟩⟩
theorem zf_X10_61 : zFld RX10 61 10 11 8 (.int) false false := ⟨RX10, TX10, tyX10, zc_X10, by decide, rfl, rfl, rfl, (fun h => by cases h), Or.inl ⟨rfl, (zcI_2_4 7 rfl rfl)⟩⟩
theorem zf_X11_258 : zFld RX11 258 10 11 8 (.int) false true := ⟨RX10, TX10, tyX10, zc_X10, by decide, rfl, rfl, rfl, (fun h => by cases h), Or.inr ⟨rfl, "RingPurses", (zcI_2_4 8 rfl rfl)⟩⟩
theorem zf_X10_64 : zFld RX10 64 10 11 9 (.int) false false := ⟨RX10, TX10, tyX10, zc_X10, by decide, rfl, rfl, rfl, (fun h => by cases h), Or.inl ⟨rfl, (zcI_2_4 9 rfl rfl)⟩⟩
theorem zf_X11_261 : zFld RX11 261 10 11 9 (.int) false true := ⟨RX10, TX10, tyX10, zc_X10, by decide, rfl, rfl, rfl, (fun h => by cases h), Or.inr ⟨rfl, "RingPurses", (zcI_2_4 10 rfl rfl)⟩⟩
theorem zf_X10_67 : zFld RX10 67 10 11 10 (.int) false false := ⟨RX10, TX10, tyX10, zc_X10, by decide, rfl, rfl, rfl, (fun h => by cases h), Or.inl ⟨rfl, (zcI_2_4 11 rfl rfl)⟩⟩
theorem zf_X11_264 : zFld RX11 264 10 11 10 (.int) false true := ⟨RX10, TX10, tyX10, zc_X10, by decide, rfl, rfl, rfl, (fun h => by cases h), Or.inr ⟨rfl, "RingPurses", (zcI_2_4 12 rfl rfl)⟩⟩
theorem zf_X3_9 : zFld RX3 9 3 5 0 (.array .int) true false := ⟨RX3, TX3, tyX3, zc_X3, by decide, rfl, rfl, rfl, (fun _ _ => rfl), Or.inl ⟨rfl, (zcI_2_7 0 rfl rfl)⟩⟩
theorem zf_X3_15 : zFld RX3 15 3 5 1 (.array .int) true false := ⟨RX3, TX3, tyX3, zc_X3, by decide, rfl, rfl, rfl, (fun _ _ => rfl), Or.inl ⟨rfl, (zcI_2_7 1 rfl rfl)⟩⟩
theorem zf_X3_18 : zFld RX3 18 3 5 2 (.array .int) true false := ⟨RX3, TX3, tyX3, zc_X3, by decide, rfl, rfl, rfl, (fun _ _ => rfl), Or.inl ⟨rfl, (zcI_2_7 2 rfl rfl)⟩⟩
theorem zf_X3_21 : zFld RX3 21 3 5 3 (.int) false false := ⟨RX3, TX3, tyX3, zc_X3, by decide, rfl, rfl, rfl, (fun h => by cases h), Or.inl ⟨rfl, (zcI_2_7 3 rfl rfl)⟩⟩
theorem zf_X5_124 : zFld RX5 124 3 5 3 (.int) false true := ⟨RX3, TX3, tyX3, zc_X3, by decide, rfl, rfl, rfl, (fun h => by cases h), Or.inr ⟨rfl, "RingPurses", (zcI_2_7 4 rfl rfl)⟩⟩
theorem zf_X3_25 : zFld RX3 25 3 5 4 (.boolean) false false := ⟨RX3, TX3, tyX3, zc_X3, by decide, rfl, rfl, rfl, (fun h => by cases h), Or.inl ⟨rfl, (zcI_2_7 5 rfl rfl)⟩⟩
theorem zf_X7_71 : zFld RX7 71 3 5 4 (.boolean) false true := ⟨RX3, TX3, tyX3, zc_X3, by decide, rfl, rfl, rfl, (fun h => by cases h), Or.inr ⟨rfl, "RingPurses", (zcI_2_7 6 rfl rfl)⟩⟩
theorem zf_X7_12 : zFld RX7 12 7 11 0 (.object "RingPurses$Law") true false := ⟨RX7, TX7, tyX7, zc_X7, by decide, rfl, rfl, rfl, (fun _ _ => rfl), Or.inl ⟨rfl, (zcI_2_9 6 rfl rfl)⟩⟩
theorem zf_X5_70 : zFld RX5 70 7 11 0 (.object "RingPurses$Law") true true := ⟨RX7, TX7, tyX7, zc_X7, by decide, rfl, rfl, rfl, (fun _ h => by cases h), Or.inr ⟨rfl, "RingPurses", (zcI_2_9 7 rfl rfl)⟩⟩
theorem zf_X7_18 : zFld RX7 18 7 11 1 (.object "RingPurses$Law") true false := ⟨RX7, TX7, tyX7, zc_X7, by decide, rfl, rfl, rfl, (fun _ _ => rfl), Or.inl ⟨rfl, (zcI_2_9 8 rfl rfl)⟩⟩
theorem zf_X5_78 : zFld RX5 78 7 11 1 (.object "RingPurses$Law") true true := ⟨RX7, TX7, tyX7, zc_X7, by decide, rfl, rfl, rfl, (fun _ h => by cases h), Or.inr ⟨rfl, "RingPurses", (zcI_2_9 9 rfl rfl)⟩⟩
theorem zf_X7_21 : zFld RX7 21 7 11 2 (.array .int) true false := ⟨RX7, TX7, tyX7, zc_X7, by decide, rfl, rfl, rfl, (fun _ _ => rfl), Or.inl ⟨rfl, (zcI_2_9 10 rfl rfl)⟩⟩
theorem zf_X6_41 : zFld RX6 41 7 11 2 (.array .int) true true := ⟨RX7, TX7, tyX7, zc_X7, by decide, rfl, rfl, rfl, (fun _ h => by cases h), Or.inr ⟨rfl, "RingPurses", (zcI_2_9 11 rfl rfl)⟩⟩
theorem zf_X7_25 : zFld RX7 25 7 11 3 (.array .int) true false := ⟨RX7, TX7, tyX7, zc_X7, by decide, rfl, rfl, rfl, (fun _ _ => rfl), Or.inl ⟨rfl, (zcI_2_9 12 rfl rfl)⟩⟩
theorem zf_X7_28 : zFld RX7 28 7 11 4 (.array .int) true false := ⟨RX7, TX7, tyX7, zc_X7, by decide, rfl, rfl, rfl, (fun _ _ => rfl), Or.inl ⟨rfl, (zcI_2_9 13 rfl rfl)⟩⟩
theorem zf_X7_41 : zFld RX7 41 7 11 5 (.int) false false := ⟨RX7, TX7, tyX7, zc_X7, by decide, rfl, rfl, rfl, (fun h => by cases h), Or.inl ⟨rfl, (zcI_2_9 14 rfl rfl)⟩⟩
theorem zf_X6_38 : zFld RX6 38 7 11 5 (.int) false true := ⟨RX7, TX7, tyX7, zc_X7, by decide, rfl, rfl, rfl, (fun h => by cases h), Or.inr ⟨rfl, "RingPurses", (zcI_2_9 15 rfl rfl)⟩⟩
theorem zf_X5_91 : zFld RX5 91 7 11 5 (.int) false true := ⟨RX7, TX7, tyX7, zc_X7, by decide, rfl, rfl, rfl, (fun h => by cases h), Or.inr ⟨rfl, "RingPurses", (zcI_2_10 0 rfl rfl)⟩⟩
theorem zf_X7_45 : zFld RX7 45 7 11 6 (.boolean) false false := ⟨RX7, TX7, tyX7, zc_X7, by decide, rfl, rfl, rfl, (fun h => by cases h), Or.inl ⟨rfl, (zcI_2_10 1 rfl rfl)⟩⟩
theorem zf_X5_63 : zFld RX5 63 7 11 6 (.boolean) false true := ⟨RX7, TX7, tyX7, zc_X7, by decide, rfl, rfl, rfl, (fun h => by cases h), Or.inr ⟨rfl, "RingPurses", (zcI_2_10 2 rfl rfl)⟩⟩
theorem zf_X11_174 : zFld RX11 174 7 11 6 (.boolean) false true := ⟨RX7, TX7, tyX7, zc_X7, by decide, rfl, rfl, rfl, (fun h => by cases h), Or.inr ⟨rfl, "RingPurses", (zcI_2_10 3 rfl rfl)⟩⟩
theorem zf_X7_49 : zFld RX7 49 7 11 7 (.boolean) false false := ⟨RX7, TX7, tyX7, zc_X7, by decide, rfl, rfl, rfl, (fun h => by cases h), Or.inl ⟨rfl, (zcI_2_10 4 rfl rfl)⟩⟩
theorem zf_X5_67 : zFld RX5 67 7 11 7 (.boolean) false true := ⟨RX7, TX7, tyX7, zc_X7, by decide, rfl, rfl, rfl, (fun h => by cases h), Or.inr ⟨rfl, "RingPurses", (zcI_2_10 5 rfl rfl)⟩⟩
theorem zf_X10_94 : zFld RX10 94 7 11 7 (.boolean) false true := ⟨RX7, TX7, tyX7, zc_X7, by decide, rfl, rfl, rfl, (fun h => by cases h), Or.inr ⟨rfl, "RingPurses", (zcI_2_10 6 rfl rfl)⟩⟩
theorem zf_X11_280 : zFld RX11 280 7 11 7 (.boolean) false true := ⟨RX7, TX7, tyX7, zc_X7, by decide, rfl, rfl, rfl, (fun h => by cases h), Or.inr ⟨rfl, "RingPurses", (zcI_2_10 7 rfl rfl)⟩⟩
theorem zf_X7_52 : zFld RX7 52 7 11 8 (.int) false false := ⟨RX7, TX7, tyX7, zc_X7, by decide, rfl, rfl, rfl, (fun h => by cases h), Or.inl ⟨rfl, (zcI_2_10 8 rfl rfl)⟩⟩
theorem zf_X4_54 : zFld RX4 54 7 11 8 (.int) false true := ⟨RX7, TX7, tyX7, zc_X7, by decide, rfl, rfl, rfl, (fun h => by cases h), Or.inr ⟨rfl, "RingPurses", (zcI_2_10 9 rfl rfl)⟩⟩
theorem zf_X1_45 : zFld RX1 45 7 11 8 (.int) false true := ⟨RX7, TX7, tyX7, zc_X7, by decide, rfl, rfl, rfl, (fun h => by cases h), Or.inr ⟨rfl, "RingPurses", (zcI_2_10 10 rfl rfl)⟩⟩
theorem zf_X0_49 : zFld RX0 49 7 11 8 (.int) false true := ⟨RX7, TX7, tyX7, zc_X7, by decide, rfl, rfl, rfl, (fun h => by cases h), Or.inr ⟨rfl, "RingPurses", (zcI_2_10 11 rfl rfl)⟩⟩
theorem zf_X11_140 : zFld RX11 140 7 11 8 (.int) false true := ⟨RX7, TX7, tyX7, zc_X7, by decide, rfl, rfl, rfl, (fun h => by cases h), Or.inr ⟨rfl, "RingPurses", (zcI_2_10 12 rfl rfl)⟩⟩
theorem zf_X7_55 : zFld RX7 55 7 11 9 (.int) false false := ⟨RX7, TX7, tyX7, zc_X7, by decide, rfl, rfl, rfl, (fun h => by cases h), Or.inl ⟨rfl, (zcI_2_10 13 rfl rfl)⟩⟩
theorem zf_X11_283 : zFld RX11 283 7 11 9 (.int) false true := ⟨RX7, TX7, tyX7, zc_X7, by decide, rfl, rfl, rfl, (fun h => by cases h), Or.inr ⟨rfl, "RingPurses", (zcI_2_10 14 rfl rfl)⟩⟩
theorem zf_X7_58 : zFld RX7 58 7 11 10 (.int) false false := ⟨RX7, TX7, tyX7, zc_X7, by decide, rfl, rfl, rfl, (fun h => by cases h), Or.inl ⟨rfl, (zcI_2_10 15 rfl rfl)⟩⟩
theorem zf_X5_108 : zFld RX5 108 7 11 10 (.int) false true := ⟨RX7, TX7, tyX7, zc_X7, by decide, rfl, rfl, rfl, (fun h => by cases h), Or.inr ⟨rfl, "RingPurses", (zcI_2_11 0 rfl rfl)⟩⟩
theorem zf_X11_10 : zFld RX11 10 11 11 0 (.object "RingPurses$Tape") true false := ⟨RX11, TX11, tyX11, zc_X11, by decide, rfl, rfl, rfl, (fun _ _ => rfl), Or.inl ⟨rfl, (zcI_2_13 8 rfl rfl)⟩⟩
theorem zf_X11_19 : zFld RX11 19 11 11 1 (.object "RingPurses$Reader") true false := ⟨RX11, TX11, tyX11, zc_X11, by decide, rfl, rfl, rfl, (fun _ _ => rfl), Or.inl ⟨rfl, (zcI_2_13 9 rfl rfl)⟩⟩
theorem zf_X11_26 : zFld RX11 26 11 11 2 (.object "RingPurses$Ring") true false := ⟨RX11, TX11, tyX11, zc_X11, by decide, rfl, rfl, rfl, (fun _ _ => rfl), Or.inl ⟨rfl, (zcI_2_13 10 rfl rfl)⟩⟩
theorem zf_X11_33 : zFld RX11 33 11 11 3 (.object "RingPurses$Kept") true false := ⟨RX11, TX11, tyX11, zc_X11, by decide, rfl, rfl, rfl, (fun _ _ => rfl), Or.inl ⟨rfl, (zcI_2_13 11 rfl rfl)⟩⟩
theorem zf_X11_40 : zFld RX11 40 11 11 4 (.object "RingPurses$Foresight") true false := ⟨RX11, TX11, tyX11, zc_X11, by decide, rfl, rfl, rfl, (fun _ _ => rfl), Or.inl ⟨rfl, (zcI_2_13 12 rfl rfl)⟩⟩
theorem zf_X11_47 : zFld RX11 47 11 11 5 (.object "RingPurses$Deals") true false := ⟨RX11, TX11, tyX11, zc_X11, by decide, rfl, rfl, rfl, (fun _ _ => rfl), Or.inl ⟨rfl, (zcI_2_13 13 rfl rfl)⟩⟩
theorem zf_X11_54 : zFld RX11 54 11 11 6 (.object "RingPurses$Plans") true false := ⟨RX11, TX11, tyX11, zc_X11, by decide, rfl, rfl, rfl, (fun _ _ => rfl), Or.inl ⟨rfl, (zcI_2_13 14 rfl rfl)⟩⟩
theorem zf_X11_61 : zFld RX11 61 11 11 7 (.object "RingPurses$Told") true false := ⟨RX11, TX11, tyX11, zc_X11, by decide, rfl, rfl, rfl, (fun _ _ => rfl), Or.inl ⟨rfl, (zcI_2_13 15 rfl rfl)⟩⟩
theorem zf_X11_68 : zFld RX11 68 11 11 8 (.object "RingPurses$Rules") false false := ⟨RX11, TX11, tyX11, zc_X11, by decide, rfl, rfl, rfl, (fun h => by cases h), Or.inl ⟨rfl, (zcI_2_14 0 rfl rfl)⟩⟩
theorem zf_X11_72 : zFld RX11 72 11 11 9 (.object "RingPurses$Rules") false false := ⟨RX11, TX11, tyX11, zc_X11, by decide, rfl, rfl, rfl, (fun h => by cases h), Or.inl ⟨rfl, (zcI_2_14 1 rfl rfl)⟩⟩
theorem zf_X11_75 : zFld RX11 75 11 11 10 (.int) false false := ⟨RX11, TX11, tyX11, zc_X11, by decide, rfl, rfl, rfl, (fun h => by cases h), Or.inl ⟨rfl, (zcI_2_14 2 rfl rfl)⟩⟩
theorem zf_X12_13 : zFld RX12 13 12 61 1 (.array .byte) true false := ⟨RX12, TX12, tyX12, zc_X12, by decide, rfl, rfl, rfl, (fun _ _ => rfl), Or.inl ⟨rfl, (zcI_5_6 8 rfl rfl)⟩⟩
theorem zf_X12_144 : zFld RX12 144 12 61 2 (.int) false false := ⟨RX12, TX12, tyX12, zc_X12, by decide, rfl, rfl, rfl, (fun h => by cases h), Or.inl ⟨rfl, (zcI_5_6 9 rfl rfl)⟩⟩
theorem zf_X12_17 : zFld RX12 17 12 61 3 (.array .byte) true false := ⟨RX12, TX12, tyX12, zc_X12, by decide, rfl, rfl, rfl, (fun _ _ => rfl), Or.inl ⟨rfl, (zcI_5_6 10 rfl rfl)⟩⟩
theorem zf_X12_151 : zFld RX12 151 12 61 4 (.int) false false := ⟨RX12, TX12, tyX12, zc_X12, by decide, rfl, rfl, rfl, (fun h => by cases h), Or.inl ⟨rfl, (zcI_5_6 11 rfl rfl)⟩⟩
theorem zf_X12_20 : zFld RX12 20 12 61 5 (.array .int) true false := ⟨RX12, TX12, tyX12, zc_X12, by decide, rfl, rfl, rfl, (fun _ _ => rfl), Or.inl ⟨rfl, (zcI_5_6 12 rfl rfl)⟩⟩
theorem zf_X12_24 : zFld RX12 24 12 61 6 (.array .int) true false := ⟨RX12, TX12, tyX12, zc_X12, by decide, rfl, rfl, rfl, (fun _ _ => rfl), Or.inl ⟨rfl, (zcI_5_6 13 rfl rfl)⟩⟩
theorem zf_X12_27 : zFld RX12 27 12 61 7 (.array .int) true false := ⟨RX12, TX12, tyX12, zc_X12, by decide, rfl, rfl, rfl, (fun _ _ => rfl), Or.inl ⟨rfl, (zcI_5_6 14 rfl rfl)⟩⟩
theorem zf_X12_30 : zFld RX12 30 12 61 8 (.array .long) true false := ⟨RX12, TX12, tyX12, zc_X12, by decide, rfl, rfl, rfl, (fun _ _ => rfl), Or.inl ⟨rfl, (zcI_5_6 15 rfl rfl)⟩⟩
theorem zf_X12_34 : zFld RX12 34 12 61 9 (.array .long) true false := ⟨RX12, TX12, tyX12, zc_X12, by decide, rfl, rfl, rfl, (fun _ _ => rfl), Or.inl ⟨rfl, (zcI_5_7 0 rfl rfl)⟩⟩
theorem zf_X12_160 : zFld RX12 160 12 61 10 (.int) false false := ⟨RX12, TX12, tyX12, zc_X12, by decide, rfl, rfl, rfl, (fun h => by cases h), Or.inl ⟨rfl, (zcI_5_7 1 rfl rfl)⟩⟩
theorem zf_X12_185 : zFld RX12 185 12 61 11 (.int) false false := ⟨RX12, TX12, tyX12, zc_X12, by decide, rfl, rfl, rfl, (fun h => by cases h), Or.inl ⟨rfl, (zcI_5_7 2 rfl rfl)⟩⟩
theorem zf_X12_209 : zFld RX12 209 12 61 12 (.int) false false := ⟨RX12, TX12, tyX12, zc_X12, by decide, rfl, rfl, rfl, (fun h => by cases h), Or.inl ⟨rfl, (zcI_5_7 3 rfl rfl)⟩⟩
theorem zf_X12_182 : zFld RX12 182 12 61 13 (.int) false false := ⟨RX12, TX12, tyX12, zc_X12, by decide, rfl, rfl, rfl, (fun h => by cases h), Or.inl ⟨rfl, (zcI_5_7 4 rfl rfl)⟩⟩
theorem zf_X12_188 : zFld RX12 188 12 61 14 (.int) false false := ⟨RX12, TX12, tyX12, zc_X12, by decide, rfl, rfl, rfl, (fun h => by cases h), Or.inl ⟨rfl, (zcI_5_7 5 rfl rfl)⟩⟩
theorem zf_X12_191 : zFld RX12 191 12 61 15 (.int) false false := ⟨RX12, TX12, tyX12, zc_X12, by decide, rfl, rfl, rfl, (fun h => by cases h), Or.inl ⟨rfl, (zcI_5_7 6 rfl rfl)⟩⟩
theorem zf_X12_194 : zFld RX12 194 12 61 16 (.int) false false := ⟨RX12, TX12, tyX12, zc_X12, by decide, rfl, rfl, rfl, (fun h => by cases h), Or.inl ⟨rfl, (zcI_5_7 7 rfl rfl)⟩⟩
theorem zf_X12_37 : zFld RX12 37 12 61 17 (.int) false false := ⟨RX12, TX12, tyX12, zc_X12, by decide, rfl, rfl, rfl, (fun h => by cases h), Or.inl ⟨rfl, (zcI_5_7 8 rfl rfl)⟩⟩
theorem zf_X12_212 : zFld RX12 212 12 61 18 (.int) false false := ⟨RX12, TX12, tyX12, zc_X12, by decide, rfl, rfl, rfl, (fun h => by cases h), Or.inl ⟨rfl, (zcI_5_7 9 rfl rfl)⟩⟩
theorem zf_X12_215 : zFld RX12 215 12 61 19 (.int) false false := ⟨RX12, TX12, tyX12, zc_X12, by decide, rfl, rfl, rfl, (fun h => by cases h), Or.inl ⟨rfl, (zcI_5_7 10 rfl rfl)⟩⟩
theorem zf_X12_218 : zFld RX12 218 12 61 20 (.int) false false := ⟨RX12, TX12, tyX12, zc_X12, by decide, rfl, rfl, rfl, (fun h => by cases h), Or.inl ⟨rfl, (zcI_5_7 11 rfl rfl)⟩⟩
theorem zf_X12_40 : zFld RX12 40 12 61 21 (.array .long) true false := ⟨RX12, TX12, tyX12, zc_X12, by decide, rfl, rfl, rfl, (fun _ _ => rfl), Or.inl ⟨rfl, (zcI_5_7 12 rfl rfl)⟩⟩
theorem zf_X12_43 : zFld RX12 43 12 61 22 (.array .int) true false := ⟨RX12, TX12, tyX12, zc_X12, by decide, rfl, rfl, rfl, (fun _ _ => rfl), Or.inl ⟨rfl, (zcI_5_7 13 rfl rfl)⟩⟩
theorem zf_X12_46 : zFld RX12 46 12 61 23 (.array .int) true false := ⟨RX12, TX12, tyX12, zc_X12, by decide, rfl, rfl, rfl, (fun _ _ => rfl), Or.inl ⟨rfl, (zcI_5_7 14 rfl rfl)⟩⟩
theorem zf_X12_49 : zFld RX12 49 12 61 24 (.array .boolean) true false := ⟨RX12, TX12, tyX12, zc_X12, by decide, rfl, rfl, rfl, (fun _ _ => rfl), Or.inl ⟨rfl, (zcI_5_7 15 rfl rfl)⟩⟩
theorem zf_X12_53 : zFld RX12 53 12 61 25 (.array .boolean) true false := ⟨RX12, TX12, tyX12, zc_X12, by decide, rfl, rfl, rfl, (fun _ _ => rfl), Or.inl ⟨rfl, (zcI_5_8 0 rfl rfl)⟩⟩
theorem zf_X12_56 : zFld RX12 56 12 61 26 (.array .int) true false := ⟨RX12, TX12, tyX12, zc_X12, by decide, rfl, rfl, rfl, (fun _ _ => rfl), Or.inl ⟨rfl, (zcI_5_8 1 rfl rfl)⟩⟩
theorem zf_X12_59 : zFld RX12 59 12 61 27 (.array .int) true false := ⟨RX12, TX12, tyX12, zc_X12, by decide, rfl, rfl, rfl, (fun _ _ => rfl), Or.inl ⟨rfl, (zcI_5_8 2 rfl rfl)⟩⟩
theorem zf_X12_62 : zFld RX12 62 12 61 28 (.array .int) true false := ⟨RX12, TX12, tyX12, zc_X12, by decide, rfl, rfl, rfl, (fun _ _ => rfl), Or.inl ⟨rfl, (zcI_5_8 3 rfl rfl)⟩⟩
theorem zf_X12_65 : zFld RX12 65 12 61 29 (.array .int) true false := ⟨RX12, TX12, tyX12, zc_X12, by decide, rfl, rfl, rfl, (fun _ _ => rfl), Or.inl ⟨rfl, (zcI_5_8 4 rfl rfl)⟩⟩
theorem zf_X12_68 : zFld RX12 68 12 61 30 (.array .int) true false := ⟨RX12, TX12, tyX12, zc_X12, by decide, rfl, rfl, rfl, (fun _ _ => rfl), Or.inl ⟨rfl, (zcI_5_8 5 rfl rfl)⟩⟩
theorem zf_X12_221 : zFld RX12 221 12 61 31 (.int) false false := ⟨RX12, TX12, tyX12, zc_X12, by decide, rfl, rfl, rfl, (fun h => by cases h), Or.inl ⟨rfl, (zcI_5_8 6 rfl rfl)⟩⟩
theorem zf_X12_71 : zFld RX12 71 12 61 32 (.array .boolean) true false := ⟨RX12, TX12, tyX12, zc_X12, by decide, rfl, rfl, rfl, (fun _ _ => rfl), Or.inl ⟨rfl, (zcI_5_8 7 rfl rfl)⟩⟩
theorem zf_X12_74 : zFld RX12 74 12 61 33 (.array .int) true false := ⟨RX12, TX12, tyX12, zc_X12, by decide, rfl, rfl, rfl, (fun _ _ => rfl), Or.inl ⟨rfl, (zcI_5_8 8 rfl rfl)⟩⟩
theorem zf_X12_77 : zFld RX12 77 12 61 34 (.array .int) true false := ⟨RX12, TX12, tyX12, zc_X12, by decide, rfl, rfl, rfl, (fun _ _ => rfl), Or.inl ⟨rfl, (zcI_5_8 9 rfl rfl)⟩⟩
theorem zf_X12_80 : zFld RX12 80 12 61 35 (.array .int) true false := ⟨RX12, TX12, tyX12, zc_X12, by decide, rfl, rfl, rfl, (fun _ _ => rfl), Or.inl ⟨rfl, (zcI_5_8 10 rfl rfl)⟩⟩
theorem zf_X12_83 : zFld RX12 83 12 61 36 (.array .int) true false := ⟨RX12, TX12, tyX12, zc_X12, by decide, rfl, rfl, rfl, (fun _ _ => rfl), Or.inl ⟨rfl, (zcI_5_8 11 rfl rfl)⟩⟩
theorem zf_X12_224 : zFld RX12 224 12 61 37 (.int) false false := ⟨RX12, TX12, tyX12, zc_X12, by decide, rfl, rfl, rfl, (fun h => by cases h), Or.inl ⟨rfl, (zcI_5_8 12 rfl rfl)⟩⟩
theorem zf_X12_86 : zFld RX12 86 12 61 38 (.array .int) true false := ⟨RX12, TX12, tyX12, zc_X12, by decide, rfl, rfl, rfl, (fun _ _ => rfl), Or.inl ⟨rfl, (zcI_5_8 13 rfl rfl)⟩⟩
theorem zf_X12_89 : zFld RX12 89 12 61 39 (.array .int) true false := ⟨RX12, TX12, tyX12, zc_X12, by decide, rfl, rfl, rfl, (fun _ _ => rfl), Or.inl ⟨rfl, (zcI_5_8 14 rfl rfl)⟩⟩
theorem zf_X12_92 : zFld RX12 92 12 61 40 (.array .int) true false := ⟨RX12, TX12, tyX12, zc_X12, by decide, rfl, rfl, rfl, (fun _ _ => rfl), Or.inl ⟨rfl, (zcI_5_8 15 rfl rfl)⟩⟩
theorem zf_X12_259 : zFld RX12 259 12 61 41 (.int) false false := ⟨RX12, TX12, tyX12, zc_X12, by decide, rfl, rfl, rfl, (fun h => by cases h), Or.inl ⟨rfl, (zcI_5_9 0 rfl rfl)⟩⟩
theorem zf_X12_95 : zFld RX12 95 12 61 42 (.array .int) true false := ⟨RX12, TX12, tyX12, zc_X12, by decide, rfl, rfl, rfl, (fun _ _ => rfl), Or.inl ⟨rfl, (zcI_5_9 1 rfl rfl)⟩⟩
theorem zf_X12_98 : zFld RX12 98 12 61 43 (.array .int) true false := ⟨RX12, TX12, tyX12, zc_X12, by decide, rfl, rfl, rfl, (fun _ _ => rfl), Or.inl ⟨rfl, (zcI_5_9 2 rfl rfl)⟩⟩
theorem zf_X12_272 : zFld RX12 272 12 61 44 (.boolean) false false := ⟨RX12, TX12, tyX12, zc_X12, by decide, rfl, rfl, rfl, (fun h => by cases h), Or.inl ⟨rfl, (zcI_5_9 3 rfl rfl)⟩⟩
theorem zf_X12_101 : zFld RX12 101 12 61 45 (.array .int) true false := ⟨RX12, TX12, tyX12, zc_X12, by decide, rfl, rfl, rfl, (fun _ _ => rfl), Or.inl ⟨rfl, (zcI_5_9 4 rfl rfl)⟩⟩
theorem zf_X12_104 : zFld RX12 104 12 61 46 (.array .int) true false := ⟨RX12, TX12, tyX12, zc_X12, by decide, rfl, rfl, rfl, (fun _ _ => rfl), Or.inl ⟨rfl, (zcI_5_9 5 rfl rfl)⟩⟩
theorem zf_X12_107 : zFld RX12 107 12 61 47 (.array .int) true false := ⟨RX12, TX12, tyX12, zc_X12, by decide, rfl, rfl, rfl, (fun _ _ => rfl), Or.inl ⟨rfl, (zcI_5_9 6 rfl rfl)⟩⟩
theorem zf_X12_230 : zFld RX12 230 12 61 48 (.int) false false := ⟨RX12, TX12, tyX12, zc_X12, by decide, rfl, rfl, rfl, (fun h => by cases h), Or.inl ⟨rfl, (zcI_5_9 7 rfl rfl)⟩⟩
theorem zf_X12_110 : zFld RX12 110 12 61 49 (.array .int) true false := ⟨RX12, TX12, tyX12, zc_X12, by decide, rfl, rfl, rfl, (fun _ _ => rfl), Or.inl ⟨rfl, (zcI_5_9 8 rfl rfl)⟩⟩
theorem zf_X12_113 : zFld RX12 113 12 61 50 (.array .int) true false := ⟨RX12, TX12, tyX12, zc_X12, by decide, rfl, rfl, rfl, (fun _ _ => rfl), Or.inl ⟨rfl, (zcI_5_9 9 rfl rfl)⟩⟩
theorem zf_X12_358 : zFld RX12 358 12 61 51 (.int) false false := ⟨RX12, TX12, tyX12, zc_X12, by decide, rfl, rfl, rfl, (fun h => by cases h), Or.inl ⟨rfl, (zcI_5_9 10 rfl rfl)⟩⟩
theorem zf_X12_116 : zFld RX12 116 12 61 52 (.array .int) true false := ⟨RX12, TX12, tyX12, zc_X12, by decide, rfl, rfl, rfl, (fun _ _ => rfl), Or.inl ⟨rfl, (zcI_5_9 11 rfl rfl)⟩⟩
theorem zf_X12_233 : zFld RX12 233 12 61 53 (.int) false false := ⟨RX12, TX12, tyX12, zc_X12, by decide, rfl, rfl, rfl, (fun h => by cases h), Or.inl ⟨rfl, (zcI_5_9 12 rfl rfl)⟩⟩
theorem zf_X12_119 : zFld RX12 119 12 61 54 (.array .int) true false := ⟨RX12, TX12, tyX12, zc_X12, by decide, rfl, rfl, rfl, (fun _ _ => rfl), Or.inl ⟨rfl, (zcI_5_9 13 rfl rfl)⟩⟩
theorem zf_X12_122 : zFld RX12 122 12 61 55 (.array .int) true false := ⟨RX12, TX12, tyX12, zc_X12, by decide, rfl, rfl, rfl, (fun _ _ => rfl), Or.inl ⟨rfl, (zcI_5_9 14 rfl rfl)⟩⟩
theorem zf_X12_125 : zFld RX12 125 12 61 56 (.array .int) true false := ⟨RX12, TX12, tyX12, zc_X12, by decide, rfl, rfl, rfl, (fun _ _ => rfl), Or.inl ⟨rfl, (zcI_5_9 15 rfl rfl)⟩⟩
theorem zf_X12_128 : zFld RX12 128 12 61 57 (.array .int) true false := ⟨RX12, TX12, tyX12, zc_X12, by decide, rfl, rfl, rfl, (fun _ _ => rfl), Or.inl ⟨rfl, (zcI_5_10 0 rfl rfl)⟩⟩
theorem zf_X12_131 : zFld RX12 131 12 61 58 (.array .int) true false := ⟨RX12, TX12, tyX12, zc_X12, by decide, rfl, rfl, rfl, (fun _ _ => rfl), Or.inl ⟨rfl, (zcI_5_10 1 rfl rfl)⟩⟩
theorem zf_X12_134 : zFld RX12 134 12 61 59 (.array .boolean) true false := ⟨RX12, TX12, tyX12, zc_X12, by decide, rfl, rfl, rfl, (fun _ _ => rfl), Or.inl ⟨rfl, (zcI_5_10 2 rfl rfl)⟩⟩
theorem zf_X12_137 : zFld RX12 137 12 61 60 (.array .int) true false := ⟨RX12, TX12, tyX12, zc_X12, by decide, rfl, rfl, rfl, (fun _ _ => rfl), Or.inl ⟨rfl, (zcI_5_10 3 rfl rfl)⟩⟩
abbrev mt_X0_init : zMT := (RX0, yX0_init, cX0_init, 1, none, 2, 41)
theorem zm_X0_init : zMthI mt_X0_init 0 := ⟨⟨(zcI_2_1 3 rfl rfl), (zcI_1_0 12 rfl rfl), ⟨by decide, by decide⟩, rfl⟩, rfl, (zcI_2_1 2 rfl rfl), rfl⟩
abbrev mt_X0_findStart : zMT := (RX0, yX0_findStart, cX0_findStart, 5, none, 4, 96)
theorem zm_X0_findStart : zMthV mt_X0_findStart 3 := ⟨⟨(zcI_4_8 14 rfl rfl), (zcI_1_0 12 rfl rfl), ⟨by decide, by decide⟩, rfl⟩, (zcI_4_8 12 rfl rfl), (zcI_4_8 13 rfl rfl)⟩
abbrev mt_X0_better : zMT := (RX0, yX0_better, cX0_better, 4, none, 0, 0)
theorem zm_X0_better : zMthV mt_X0_better 3 := ⟨⟨(zcI_4_9 5 rfl rfl), (zcI_1_0 12 rfl rfl), ⟨by decide, by decide⟩, rfl⟩, (zcI_4_9 4 rfl rfl), (zpI_2 11 rfl rfl)⟩
abbrev mt_X0_lessPaid : zMT := (RX0, yX0_lessPaid, cX0_lessPaid, 7, (some .int), 5, 118)
theorem zm_X0_lessPaid : zMthV mt_X0_lessPaid 5 := ⟨⟨(zcI_4_9 14 rfl rfl), (zcI_1_0 12 rfl rfl), ⟨by decide, by decide⟩, rfl⟩, (zcI_4_9 12 rfl rfl), (zcI_4_9 13 rfl rfl)⟩
abbrev mt_X0_findLeastGift : zMT := (RX0, yX0_findLeastGift, cX0_findLeastGift, 7, none, 4, 98)
theorem zm_X0_findLeastGift : zMthV mt_X0_findLeastGift 3 := ⟨⟨(zcI_4_10 12 rfl rfl), (zcI_1_0 12 rfl rfl), ⟨by decide, by decide⟩, rfl⟩, (zcI_4_10 10 rfl rfl), (zcI_4_10 11 rfl rfl)⟩
abbrev mt_X0_isFreeBy : zMT := (RX0, yX0_isFreeBy, cX0_isFreeBy, 6, (some .boolean), 3, 73)
theorem zm_X0_isFreeBy : zMthV mt_X0_isFreeBy 4 := ⟨⟨(zcI_4_11 3 rfl rfl), (zcI_1_0 12 rfl rfl), ⟨by decide, by decide⟩, rfl⟩, (zcI_4_11 2 rfl rfl), (zpI_2 12 rfl rfl)⟩
abbrev mt_X0_findBestGift : zMT := (RX0, yX0_findBestGift, cX0_findBestGift, 8, none, 6, 142)
theorem zm_X0_findBestGift : zMthV mt_X0_findBestGift 5 := ⟨⟨(zcI_4_11 15 rfl rfl), (zcI_1_0 12 rfl rfl), ⟨by decide, by decide⟩, rfl⟩, (zcI_4_11 13 rfl rfl), (zcI_4_11 14 rfl rfl)⟩
abbrev mt_X0_rate : zMT := (RX0, yX0_rate, cX0_rate, 8, (some .int), 5, 118)
theorem zm_X0_rate : zMthV mt_X0_rate 6 := ⟨⟨(zcI_4_12 8 rfl rfl), (zcI_1_0 12 rfl rfl), ⟨by decide, by decide⟩, rfl⟩, (zcI_4_12 6 rfl rfl), (zcI_4_12 7 rfl rfl)⟩
abbrev mt_X0_bestSite : zMT := (RX0, yX0_bestSite, cX0_bestSite, 11, (some .int), 3, 73)
theorem zm_X0_bestSite : zMthV mt_X0_bestSite 3 := ⟨⟨(zcI_4_13 0 rfl rfl), (zcI_1_0 12 rfl rfl), ⟨by decide, by decide⟩, rfl⟩, (zcI_4_12 14 rfl rfl), (zcI_4_12 15 rfl rfl)⟩
abbrev mt_X1_init : zMT := (RX1, yX1_init, cX1_init, 1, none, 2, 41)
theorem zm_X1_init : zMthI mt_X1_init 0 := ⟨⟨(zcI_2_0 4 rfl rfl), (zcI_1_0 11 rfl rfl), ⟨by decide, by decide⟩, rfl⟩, rfl, (zcI_2_0 3 rfl rfl), rfl⟩
abbrev mt_X1_period : zMT := (RX1, yX1_period, cX1_period, 6, (some .int), 6, 143)
theorem zm_X1_period : zMthV mt_X1_period 3 := ⟨⟨(zcI_4_5 11 rfl rfl), (zcI_1_0 11 rfl rfl), ⟨by decide, by decide⟩, rfl⟩, (zcI_4_5 9 rfl rfl), (zcI_4_5 10 rfl rfl)⟩
abbrev mt_X1_walk : zMT := (RX1, yX1_walk, cX1_walk, 6, none, 5, 118)
theorem zm_X1_walk : zMthV mt_X1_walk 2 := ⟨⟨(zcI_4_5 15 rfl rfl), (zcI_1_0 11 rfl rfl), ⟨by decide, by decide⟩, rfl⟩, (zcI_4_5 14 rfl rfl), (zpI_2 9 rfl rfl)⟩
abbrev mt_X1_isSame : zMT := (RX1, yX1_isSame, cX1_isSame, 6, (some .boolean), 0, 0)
theorem zm_X1_isSame : zMthV mt_X1_isSame 2 := ⟨⟨(zcI_4_6 6 rfl rfl), (zcI_1_0 11 rfl rfl), ⟨by decide, by decide⟩, rfl⟩, (zcI_4_6 5 rfl rfl), (zpI_2 10 rfl rfl)⟩
abbrev mt_X1_spreadAfter : zMT := (RX1, yX1_spreadAfter, cX1_spreadAfter, 4, (some .int), 6, 142)
theorem zm_X1_spreadAfter : zMthV mt_X1_spreadAfter 3 := ⟨⟨(zcI_4_6 14 rfl rfl), (zcI_1_0 11 rfl rfl), ⟨by decide, by decide⟩, rfl⟩, (zcI_4_6 12 rfl rfl), (zcI_4_6 13 rfl rfl)⟩
abbrev mt_X1_evenAfter : zMT := (RX1, yX1_evenAfter, cX1_evenAfter, 6, (some .int), 5, 118)
theorem zm_X1_evenAfter : zMthV mt_X1_evenAfter 4 := ⟨⟨(zcI_4_7 13 rfl rfl), (zcI_1_0 11 rfl rfl), ⟨by decide, by decide⟩, rfl⟩, (zcI_4_7 11 rfl rfl), (zcI_4_7 12 rfl rfl)⟩
abbrev mt_X1_soonestSharing : zMT := (RX1, yX1_soonestSharing, cX1_soonestSharing, 8, (some .int), 6, 143)
theorem zm_X1_soonestSharing : zMthV mt_X1_soonestSharing 3 := ⟨⟨(zcI_4_8 5 rfl rfl), (zcI_1_0 11 rfl rfl), ⟨by decide, by decide⟩, rfl⟩, (zcI_4_8 3 rfl rfl), (zcI_4_8 4 rfl rfl)⟩
abbrev mt_X2_init : zMT := (RX2, yX2_init, cX2_init, 2, none, 2, 41)
theorem zm_X2_init : zMthI mt_X2_init 0 := ⟨⟨(zcI_1_13 9 rfl rfl), (zcI_1_0 10 rfl rfl), ⟨by decide, by decide⟩, rfl⟩, rfl, (zcI_1_13 8 rfl rfl), rfl⟩
abbrev mt_X2_clear : zMT := (RX2, yX2_clear, cX2_clear, 2, none, 1, 20)
theorem zm_X2_clear : zMthV mt_X2_clear 0 := ⟨⟨(zcI_3_9 14 rfl rfl), (zcI_1_0 10 rfl rfl), ⟨by decide, by decide⟩, rfl⟩, (zcI_3_9 12 rfl rfl), (zcI_3_9 13 rfl rfl)⟩
abbrev mt_X2_forgetPast : zMT := (RX2, yX2_forgetPast, cX2_forgetPast, 1, none, 0, 0)
theorem zm_X2_forgetPast : zMthV mt_X2_forgetPast 0 := ⟨⟨(zcI_3_10 2 rfl rfl), (zcI_1_0 10 rfl rfl), ⟨by decide, by decide⟩, rfl⟩, (zcI_3_10 0 rfl rfl), (zcI_3_10 1 rfl rfl)⟩
abbrev mt_X2_note : zMT := (RX2, yX2_note, cX2_note, 2, none, 1, 22)
theorem zm_X2_note : zMthV mt_X2_note 1 := ⟨⟨(zcI_3_14 2 rfl rfl), (zcI_1_0 10 rfl rfl), ⟨by decide, by decide⟩, rfl⟩, (zcI_3_14 0 rfl rfl), (zcI_3_14 1 rfl rfl)⟩
abbrev mt_X2_takeBack : zMT := (RX2, yX2_takeBack, cX2_takeBack, 3, (some .boolean), 1, 22)
theorem zm_X2_takeBack : zMthV mt_X2_takeBack 1 := ⟨⟨(zcI_4_5 3 rfl rfl), (zcI_1_0 10 rfl rfl), ⟨by decide, by decide⟩, rfl⟩, (zcI_4_5 1 rfl rfl), (zcI_4_5 2 rfl rfl)⟩
abbrev mt_X2_holdIn : zMT := (RX2, yX2_holdIn, cX2_holdIn, 3, (some .boolean), 1, 22)
theorem zm_X2_holdIn : zMthV mt_X2_holdIn 2 := ⟨⟨(zcI_5_4 1 rfl rfl), (zcI_1_0 10 rfl rfl), ⟨by decide, by decide⟩, rfl⟩, (zcI_5_3 15 rfl rfl), (zcI_5_4 0 rfl rfl)⟩
abbrev mt_X2_bringBack : zMT := (RX2, yX2_bringBack, cX2_bringBack, 3, (some .boolean), 1, 22)
theorem zm_X2_bringBack : zMthV mt_X2_bringBack 2 := ⟨⟨(zcI_5_4 9 rfl rfl), (zcI_1_0 10 rfl rfl), ⟨by decide, by decide⟩, rfl⟩, (zcI_5_4 7 rfl rfl), (zcI_5_4 8 rfl rfl)⟩
abbrev mt_X2_heldSlots : zMT := (RX2, yX2_heldSlots, cX2_heldSlots, 3, (some .int), 1, 21)
theorem zm_X2_heldSlots : zMthV mt_X2_heldSlots 0 := ⟨⟨(zcI_5_5 10 rfl rfl), (zcI_1_0 10 rfl rfl), ⟨by decide, by decide⟩, rfl⟩, (zcI_5_5 8 rfl rfl), (zcI_5_5 9 rfl rfl)⟩
abbrev mt_X2_isHeld : zMT := (RX2, yX2_isHeld, cX2_isHeld, 2, (some .boolean), 0, 0)
theorem zm_X2_isHeld : zMthV mt_X2_isHeld 1 := ⟨⟨(zcI_5_4 13 rfl rfl), (zcI_1_0 10 rfl rfl), ⟨by decide, by decide⟩, rfl⟩, (zcI_5_4 12 rfl rfl), (zpI_3 4 rfl rfl)⟩
abbrev mt_X3_init : zMT := (RX3, yX3_init, cX3_init, 1, none, 1, 21)
theorem zm_X3_init : zMthI mt_X3_init 0 := ⟨⟨(zcI_2_6 14 rfl rfl), (zcI_1_1 0 rfl rfl), ⟨by decide, by decide⟩, rfl⟩, rfl, (zcI_2_6 13 rfl rfl), rfl⟩
abbrev mt_X3_clear : zMT := (RX3, yX3_clear, cX3_clear, 1, none, 0, 0)
theorem zm_X3_clear : zMthV mt_X3_clear 0 := ⟨⟨(zcI_2_8 13 rfl rfl), (zcI_1_1 0 rfl rfl), ⟨by decide, by decide⟩, rfl⟩, (zcI_2_8 11 rfl rfl), (zcI_2_8 12 rfl rfl)⟩
abbrev mt_X3_beSeen : zMT := (RX3, yX3_beSeen, cX3_beSeen, 2, none, 1, 22)
theorem zm_X3_beSeen : zMthV mt_X3_beSeen 1 := ⟨⟨(zcI_2_8 9 rfl rfl), (zcI_1_1 0 rfl rfl), ⟨by decide, by decide⟩, rfl⟩, (zcI_2_8 7 rfl rfl), (zcI_2_8 8 rfl rfl)⟩
abbrev mt_X3_beNumber : zMT := (RX3, yX3_beNumber, cX3_beNumber, 2, none, 1, 22)
theorem zm_X3_beNumber : zMthV mt_X3_beNumber 1 := ⟨⟨(zcI_2_9 5 rfl rfl), (zcI_1_1 0 rfl rfl), ⟨by decide, by decide⟩, rfl⟩, (zcI_2_9 3 rfl rfl), (zcI_2_9 4 rfl rfl)⟩
abbrev mt_X3_add : zMT := (RX3, yX3_add, cX3_add, 3, none, 0, 0)
theorem zm_X3_add : zMthV mt_X3_add 2 := ⟨⟨(zcI_2_9 1 rfl rfl), (zcI_1_1 0 rfl rfl), ⟨by decide, by decide⟩, rfl⟩, (zcI_2_8 15 rfl rfl), (zcI_2_9 0 rfl rfl)⟩
abbrev mt_X3_leadHere : zMT := (RX3, yX3_leadHere, cX3_leadHere, 2, none, 0, 0)
theorem zm_X3_leadHere : zMthV mt_X3_leadHere 1 := ⟨⟨(zcI_3_8 6 rfl rfl), (zcI_1_1 0 rfl rfl), ⟨by decide, by decide⟩, rfl⟩, (zcI_3_8 4 rfl rfl), (zcI_3_8 5 rfl rfl)⟩
abbrev mt_X3_value : zMT := (RX3, yX3_value, cX3_value, 9, (some .int), 1, 22)
theorem zm_X3_value : zMthV mt_X3_value 1 := ⟨⟨(zcI_3_13 0 rfl rfl), (zcI_1_1 0 rfl rfl), ⟨by decide, by decide⟩, rfl⟩, (zcI_3_12 14 rfl rfl), (zcI_3_12 15 rfl rfl)⟩
abbrev mt_X3_combined : zMT := (RX3, yX3_combined, cX3_combined, 3, (some .int), 0, 0)
theorem zm_X3_combined : zMthS mt_X3_combined 3 := ⟨⟨(zcI_3_13 3 rfl rfl), (zcI_1_1 0 rfl rfl), ⟨by decide, by decide⟩, rfl⟩, (zcI_3_13 2 rfl rfl)⟩
abbrev mt_X4_init : zMT := (RX4, yX4_init, cX4_init, 1, none, 2, 41)
theorem zm_X4_init : zMthI mt_X4_init 0 := ⟨⟨(zcI_2_2 11 rfl rfl), (zcI_1_0 13 rfl rfl), ⟨by decide, by decide⟩, rfl⟩, rfl, (zcI_2_2 10 rfl rfl), rfl⟩
abbrev mt_X4_restAt : zMT := (RX4, yX4_restAt, cX4_restAt, 8, (some .int), 6, 143)
theorem zm_X4_restAt : zMthV mt_X4_restAt 4 := ⟨⟨(zcI_4_13 10 rfl rfl), (zcI_1_0 13 rfl rfl), ⟨by decide, by decide⟩, rfl⟩, (zcI_4_13 8 rfl rfl), (zcI_4_13 9 rfl rfl)⟩
abbrev mt_X4_follow : zMT := (RX4, yX4_follow, cX4_follow, 6, none, 5, 118)
theorem zm_X4_follow : zMthV mt_X4_follow 4 := ⟨⟨(zcI_4_13 14 rfl rfl), (zcI_1_0 13 rfl rfl), ⟨by decide, by decide⟩, rfl⟩, (zcI_4_13 13 rfl rfl), (zpI_2 13 rfl rfl)⟩
abbrev mt_X4_isRest : zMT := (RX4, yX4_isRest, cX4_isRest, 5, (some .boolean), 0, 0)
theorem zm_X4_isRest : zMthV mt_X4_isRest 2 := ⟨⟨(zcI_4_14 6 rfl rfl), (zcI_1_0 13 rfl rfl), ⟨by decide, by decide⟩, rfl⟩, (zcI_4_14 5 rfl rfl), (zpI_2 14 rfl rfl)⟩
abbrev mt_X5_init : zMT := (RX5, yX5_init, cX5_init, 1, none, 5, 172)
theorem zm_X5_init : zMthI mt_X5_init 0 := ⟨⟨(zcI_1_2 15 rfl rfl), (zcI_1_0 3 rfl rfl), ⟨by decide, by decide⟩, rfl⟩, rfl, (zcI_1_2 14 rfl rfl), rfl⟩
abbrev mt_X5_faultPlace : zMT := (RX5, yX5_faultPlace, cX5_faultPlace, 1, (some .int), 0, 0)
theorem zm_X5_faultPlace : zMthV mt_X5_faultPlace 0 := ⟨⟨(zcI_3_9 6 rfl rfl), (zcI_1_0 3 rfl rfl), ⟨by decide, by decide⟩, rfl⟩, (zcI_3_9 4 rfl rfl), (zcI_3_9 5 rfl rfl)⟩
abbrev mt_X5_parse : zMT := (RX5, yX5_parse, cX5_parse, 4, (some .int), 6, 136)
theorem zm_X5_parse : zMthV mt_X5_parse 2 := ⟨⟨(zcI_3_1 13 rfl rfl), (zcI_1_0 3 rfl rfl), ⟨by decide, by decide⟩, rfl⟩, (zcI_3_1 11 rfl rfl), (zcI_3_1 12 rfl rfl)⟩
abbrev mt_X5_tellHouse : zMT := (RX5, yX5_tellHouse, cX5_tellHouse, 5, none, 2, 43)
theorem zm_X5_tellHouse : zMthV mt_X5_tellHouse 1 := ⟨⟨(zcI_3_4 2 rfl rfl), (zcI_1_0 3 rfl rfl), ⟨by decide, by decide⟩, rfl⟩, (zcI_3_4 1 rfl rfl), (zpI_1 5 rfl rfl)⟩
abbrev mt_X5_tellShared : zMT := (RX5, yX5_tellShared, cX5_tellShared, 5, none, 2, 43)
theorem zm_X5_tellShared : zMthV mt_X5_tellShared 1 := ⟨⟨(zcI_3_8 10 rfl rfl), (zcI_1_0 3 rfl rfl), ⟨by decide, by decide⟩, rfl⟩, (zcI_3_8 9 rfl rfl), (zpI_2 1 rfl rfl)⟩
abbrev mt_X5_tellSeed : zMT := (RX5, yX5_tellSeed, cX5_tellSeed, 3, none, 2, 43)
theorem zm_X5_tellSeed : zMthV mt_X5_tellSeed 1 := ⟨⟨(zcI_3_9 2 rfl rfl), (zcI_1_0 3 rfl rfl), ⟨by decide, by decide⟩, rfl⟩, (zcI_3_9 1 rfl rfl), (zpI_2 2 rfl rfl)⟩
abbrev mt_X5_tellLaw : zMT := (RX5, yX5_tellLaw, cX5_tellLaw, 4, none, 5, 113)
theorem zm_X5_tellLaw : zMthV mt_X5_tellLaw 2 := ⟨⟨(zcI_3_5 14 rfl rfl), (zcI_1_0 3 rfl rfl), ⟨by decide, by decide⟩, rfl⟩, (zcI_3_5 13 rfl rfl), (zpI_1 9 rfl rfl)⟩
abbrev mt_X5_readBranch : zMT := (RX5, yX5_readBranch, cX5_readBranch, 3, none, 4, 91)
theorem zm_X5_readBranch : zMthV mt_X5_readBranch 1 := ⟨⟨(zcI_3_6 3 rfl rfl), (zcI_1_0 3 rfl rfl), ⟨by decide, by decide⟩, rfl⟩, (zcI_3_6 2 rfl rfl), (zpI_1 10 rfl rfl)⟩
abbrev mt_X5_readSum : zMT := (RX5, yX5_readSum, cX5_readSum, 5, none, 3, 67)
theorem zm_X5_readSum : zMthV mt_X5_readSum 1 := ⟨⟨(zcI_3_6 7 rfl rfl), (zcI_1_0 3 rfl rfl), ⟨by decide, by decide⟩, rfl⟩, (zcI_3_6 6 rfl rfl), (zpI_1 11 rfl rfl)⟩
abbrev mt_X5_readUnit : zMT := (RX5, yX5_readUnit, cX5_readUnit, 3, none, 2, 43)
theorem zm_X5_readUnit : zMthV mt_X5_readUnit 2 := ⟨⟨(zcI_3_6 11 rfl rfl), (zcI_1_0 3 rfl rfl), ⟨by decide, by decide⟩, rfl⟩, (zcI_3_6 10 rfl rfl), (zpI_1 12 rfl rfl)⟩
abbrev mt_X5_readClose : zMT := (RX5, yX5_readClose, cX5_readClose, 2, none, 2, 45)
theorem zm_X5_readClose : zMthV mt_X5_readClose 1 := ⟨⟨(zcI_3_7 4 rfl rfl), (zcI_1_0 3 rfl rfl), ⟨by decide, by decide⟩, rfl⟩, (zcI_3_7 3 rfl rfl), (zpI_1 14 rfl rfl)⟩
abbrev mt_X5_readSign : zMT := (RX5, yX5_readSign, cX5_readSign, 3, none, 2, 45)
theorem zm_X5_readSign : zMthV mt_X5_readSign 2 := ⟨⟨(zcI_3_8 2 rfl rfl), (zcI_1_0 3 rfl rfl), ⟨by decide, by decide⟩, rfl⟩, (zcI_3_8 1 rfl rfl), (zpI_2 0 rfl rfl)⟩
abbrev mt_X5_await : zMT := (RX5, yX5_await, cX5_await, 2, none, 0, 0)
theorem zm_X5_await : zMthV mt_X5_await 1 := ⟨⟨(zcI_3_6 15 rfl rfl), (zcI_1_0 3 rfl rfl), ⟨by decide, by decide⟩, rfl⟩, (zcI_3_6 14 rfl rfl), (zpI_1 13 rfl rfl)⟩
abbrev mt_X5_putSigns : zMT := (RX5, yX5_putSigns, cX5_putSigns, 4, none, 1, 22)
theorem zm_X5_putSigns : zMthV mt_X5_putSigns 2 := ⟨⟨(zcI_3_7 8 rfl rfl), (zcI_1_0 3 rfl rfl), ⟨by decide, by decide⟩, rfl⟩, (zcI_3_7 7 rfl rfl), (zpI_1 15 rfl rfl)⟩
abbrev mt_X5_bond : zMT := (RX5, yX5_bond, cX5_bond, 1, (some .int), 0, 0)
theorem zm_X5_bond : zMthS mt_X5_bond 1 := ⟨⟨(zcI_3_7 14 rfl rfl), (zcI_1_0 3 rfl rfl), ⟨by decide, by decide⟩, rfl⟩, (zcI_3_7 13 rfl rfl)⟩
abbrev mt_X5_take : zMT := (RX5, yX5_take, cX5_take, 3, (some .boolean), 1, 21)
theorem zm_X5_take : zMthV mt_X5_take 1 := ⟨⟨(zcI_3_4 14 rfl rfl), (zcI_1_0 3 rfl rfl), ⟨by decide, by decide⟩, rfl⟩, (zcI_3_4 13 rfl rfl), (zpI_1 7 rfl rfl)⟩
abbrev mt_X5_failAt : zMT := (RX5, yX5_failAt, cX5_failAt, 3, none, 1, 21)
theorem zm_X5_failAt : zMthV mt_X5_failAt 2 := ⟨⟨(zcI_3_4 6 rfl rfl), (zcI_1_0 3 rfl rfl), ⟨by decide, by decide⟩, rfl⟩, (zcI_3_4 5 rfl rfl), (zpI_1 6 rfl rfl)⟩
abbrev mt_X5_failLater : zMT := (RX5, yX5_failLater, cX5_failLater, 3, none, 1, 21)
theorem zm_X5_failLater : zMthV mt_X5_failLater 2 := ⟨⟨(zcI_3_5 6 rfl rfl), (zcI_1_0 3 rfl rfl), ⟨by decide, by decide⟩, rfl⟩, (zcI_3_5 5 rfl rfl), (zpI_1 8 rfl rfl)⟩
abbrev mt_X6_init : zMT := (RX6, yX6_init, cX6_init, 1, none, 1, 21)
theorem zm_X6_init : zMthI mt_X6_init 0 := ⟨⟨(zcI_1_10 4 rfl rfl), (zcI_1_0 9 rfl rfl), ⟨by decide, by decide⟩, rfl⟩, rfl, (zcI_1_10 3 rfl rfl), rfl⟩
abbrev mt_X6_begin : zMT := (RX6, yX6_begin, cX6_begin, 3, none, 2, 45)
theorem zm_X6_begin : zMthV mt_X6_begin 1 := ⟨⟨(zcI_2_12 11 rfl rfl), (zcI_1_0 9 rfl rfl), ⟨by decide, by decide⟩, rfl⟩, (zcI_2_12 9 rfl rfl), (zcI_2_12 10 rfl rfl)⟩
abbrev mt_X6_copy : zMT := (RX6, yX6_copy, cX6_copy, 3, none, 0, 0)
theorem zm_X6_copy : zMthV mt_X6_copy 1 := ⟨⟨(zcI_3_14 6 rfl rfl), (zcI_1_0 9 rfl rfl), ⟨by decide, by decide⟩, rfl⟩, (zcI_3_14 4 rfl rfl), (zcI_3_14 5 rfl rfl)⟩
abbrev mt_X6_has : zMT := (RX6, yX6_has, cX6_has, 2, (some .boolean), 0, 0)
theorem zm_X6_has : zMthV mt_X6_has 1 := ⟨⟨(zcI_3_11 2 rfl rfl), (zcI_1_0 9 rfl rfl), ⟨by decide, by decide⟩, rfl⟩, (zcI_3_11 0 rfl rfl), (zcI_3_11 1 rfl rfl)⟩
abbrev mt_X6_isFull : zMT := (RX6, yX6_isFull, cX6_isFull, 1, (some .boolean), 0, 0)
theorem zm_X6_isFull : zMthV mt_X6_isFull 0 := ⟨⟨(zcI_2_13 3 rfl rfl), (zcI_1_0 9 rfl rfl), ⟨by decide, by decide⟩, rfl⟩, (zcI_2_13 1 rfl rfl), (zcI_2_13 2 rfl rfl)⟩
abbrev mt_X6_purseOf : zMT := (RX6, yX6_purseOf, cX6_purseOf, 2, (some .int), 1, 21)
theorem zm_X6_purseOf : zMthV mt_X6_purseOf 1 := ⟨⟨(zcI_4_4 11 rfl rfl), (zcI_1_0 9 rfl rfl), ⟨by decide, by decide⟩, rfl⟩, (zcI_4_4 9 rfl rfl), (zcI_4_4 10 rfl rfl)⟩
abbrev mt_X6_paidBy : zMT := (RX6, yX6_paidBy, cX6_paidBy, 2, (some .int), 1, 21)
theorem zm_X6_paidBy : zMthV mt_X6_paidBy 1 := ⟨⟨(zcI_4_10 3 rfl rfl), (zcI_1_0 9 rfl rfl), ⟨by decide, by decide⟩, rfl⟩, (zcI_4_10 1 rfl rfl), (zcI_4_10 2 rfl rfl)⟩
abbrev mt_X6_shown : zMT := (RX6, yX6_shown, cX6_shown, 2, (some .int), 0, 0)
theorem zm_X6_shown : zMthV mt_X6_shown 1 := ⟨⟨(zcI_3_11 6 rfl rfl), (zcI_1_0 9 rfl rfl), ⟨by decide, by decide⟩, rfl⟩, (zcI_3_11 4 rfl rfl), (zcI_3_11 5 rfl rfl)⟩
abbrev mt_X6_total : zMT := (RX6, yX6_total, cX6_total, 3, (some .int), 1, 21)
theorem zm_X6_total : zMthV mt_X6_total 0 := ⟨⟨(zcI_5_5 6 rfl rfl), (zcI_1_0 9 rfl rfl), ⟨by decide, by decide⟩, rfl⟩, (zcI_5_5 4 rfl rfl), (zcI_5_5 5 rfl rfl)⟩
abbrev mt_X6_spread : zMT := (RX6, yX6_spread, cX6_spread, 4, (some .int), 1, 21)
theorem zm_X6_spread : zMthV mt_X6_spread 0 := ⟨⟨(zcI_4_7 3 rfl rfl), (zcI_1_0 9 rfl rfl), ⟨by decide, by decide⟩, rfl⟩, (zcI_4_7 1 rfl rfl), (zcI_4_7 2 rfl rfl)⟩
abbrev mt_X6_move : zMT := (RX6, yX6_move, cX6_move, 4, none, 1, 21)
theorem zm_X6_move : zMthV mt_X6_move 3 := ⟨⟨(zcI_4_2 5 rfl rfl), (zcI_1_0 9 rfl rfl), ⟨by decide, by decide⟩, rfl⟩, (zcI_4_2 3 rfl rfl), (zcI_4_2 4 rfl rfl)⟩
abbrev mt_X6_earn : zMT := (RX6, yX6_earn, cX6_earn, 3, none, 1, 21)
theorem zm_X6_earn : zMthV mt_X6_earn 2 := ⟨⟨(zcI_4_0 6 rfl rfl), (zcI_1_0 9 rfl rfl), ⟨by decide, by decide⟩, rfl⟩, (zcI_4_0 4 rfl rfl), (zcI_4_0 5 rfl rfl)⟩
abbrev mt_X6_pay : zMT := (RX6, yX6_pay, cX6_pay, 3, none, 1, 21)
theorem zm_X6_pay : zMthV mt_X6_pay 2 := ⟨⟨(zcI_4_1 0 rfl rfl), (zcI_1_0 9 rfl rfl), ⟨by decide, by decide⟩, rfl⟩, (zcI_4_0 14 rfl rfl), (zcI_4_0 15 rfl rfl)⟩
abbrev mt_X6_sharePot : zMT := (RX6, yX6_sharePot, cX6_sharePot, 4, none, 2, 43)
theorem zm_X6_sharePot : zMthV mt_X6_sharePot 1 := ⟨⟨(zcI_4_1 8 rfl rfl), (zcI_1_0 9 rfl rfl), ⟨by decide, by decide⟩, rfl⟩, (zcI_4_1 6 rfl rfl), (zcI_4_1 7 rfl rfl)⟩
abbrev mt_X6_mostPaying : zMT := (RX6, yX6_mostPaying, cX6_mostPaying, 3, (some .int), 1, 21)
theorem zm_X6_mostPaying : zMthV mt_X6_mostPaying 0 := ⟨⟨(zcI_4_1 12 rfl rfl), (zcI_1_0 9 rfl rfl), ⟨by decide, by decide⟩, rfl⟩, (zcI_4_1 11 rfl rfl), (zpI_2 8 rfl rfl)⟩
abbrev mt_X6_insert : zMT := (RX6, yX6_insert, cX6_insert, 4, none, 1, 22)
theorem zm_X6_insert : zMthV mt_X6_insert 2 := ⟨⟨(zcI_2_12 15 rfl rfl), (zcI_1_0 9 rfl rfl), ⟨by decide, by decide⟩, rfl⟩, (zcI_2_12 13 rfl rfl), (zcI_2_12 14 rfl rfl)⟩
abbrev mt_X6_remove : zMT := (RX6, yX6_remove, cX6_remove, 3, none, 1, 22)
theorem zm_X6_remove : zMthV mt_X6_remove 1 := ⟨⟨(zcI_4_3 14 rfl rfl), (zcI_1_0 9 rfl rfl), ⟨by decide, by decide⟩, rfl⟩, (zcI_4_3 12 rfl rfl), (zcI_4_3 13 rfl rfl)⟩
abbrev mt_X6_merge : zMT := (RX6, yX6_merge, cX6_merge, 3, none, 2, 44)
theorem zm_X6_merge : zMthV mt_X6_merge 2 := ⟨⟨(zcI_4_4 6 rfl rfl), (zcI_1_0 9 rfl rfl), ⟨by decide, by decide⟩, rfl⟩, (zcI_4_4 4 rfl rfl), (zcI_4_4 5 rfl rfl)⟩
abbrev mt_X6_copyHouse : zMT := (RX6, yX6_copyHouse, cX6_copyHouse, 3, none, 0, 0)
theorem zm_X6_copyHouse : zMthV mt_X6_copyHouse 2 := ⟨⟨(zcI_2_13 7 rfl rfl), (zcI_1_0 9 rfl rfl), ⟨by decide, by decide⟩, rfl⟩, (zcI_2_13 6 rfl rfl), (zpI_1 0 rfl rfl)⟩
abbrev mt_X7_init : zMT := (RX7, yX7_init, cX7_init, 1, none, 3, 63)
theorem zm_X7_init : zMthI mt_X7_init 0 := ⟨⟨(zcI_2_6 8 rfl rfl), (zcI_1_0 15 rfl rfl), ⟨by decide, by decide⟩, rfl⟩, rfl, (zcI_2_6 7 rfl rfl), rfl⟩
abbrev mt_X7_clear : zMT := (RX7, yX7_clear, cX7_clear, 1, none, 2, 43)
theorem zm_X7_clear : zMthV mt_X7_clear 0 := ⟨⟨(zcI_2_8 5 rfl rfl), (zcI_1_0 15 rfl rfl), ⟨by decide, by decide⟩, rfl⟩, (zcI_2_8 3 rfl rfl), (zcI_2_8 4 rfl rfl)⟩
abbrev mt_X7_addHouse : zMT := (RX7, yX7_addHouse, cX7_addHouse, 2, none, 0, 0)
theorem zm_X7_addHouse : zMthV mt_X7_addHouse 1 := ⟨⟨(zcI_3_5 10 rfl rfl), (zcI_1_0 15 rfl rfl), ⟨by decide, by decide⟩, rfl⟩, (zcI_3_5 8 rfl rfl), (zcI_3_5 9 rfl rfl)⟩
abbrev mt_X7_share : zMT := (RX7, yX7_share, cX7_share, 3, none, 0, 0)
theorem zm_X7_share : zMthV mt_X7_share 2 := ⟨⟨(zcI_3_8 14 rfl rfl), (zcI_1_0 15 rfl rfl), ⟨by decide, by decide⟩, rfl⟩, (zcI_3_8 12 rfl rfl), (zcI_3_8 13 rfl rfl)⟩
abbrev mt_X7_gapOf : zMT := (RX7, yX7_gapOf, cX7_gapOf, 3, (some .int), 2, 51)
theorem zm_X7_gapOf : zMthV mt_X7_gapOf 2 := ⟨⟨(zcI_3_11 10 rfl rfl), (zcI_1_0 15 rfl rfl), ⟨by decide, by decide⟩, rfl⟩, (zcI_3_11 8 rfl rfl), (zcI_3_11 9 rfl rfl)⟩
abbrev mt_X7_wanted : zMT := (RX7, yX7_wanted, cX7_wanted, 3, (some .int), 2, 51)
theorem zm_X7_wanted : zMthV mt_X7_wanted 2 := ⟨⟨(zcI_3_12 12 rfl rfl), (zcI_1_0 15 rfl rfl), ⟨by decide, by decide⟩, rfl⟩, (zcI_3_12 10 rfl rfl), (zcI_3_12 11 rfl rfl)⟩
abbrev mt_X7_look : zMT := (RX7, yX7_look, cX7_look, 9, none, 1, 23)
theorem zm_X7_look : zMthV mt_X7_look 3 := ⟨⟨(zcI_3_11 15 rfl rfl), (zcI_1_0 15 rfl rfl), ⟨by decide, by decide⟩, rfl⟩, (zcI_3_11 14 rfl rfl), (zpI_2 4 rfl rfl)⟩
abbrev mt_X7_lot : zMT := (RX7, yX7_lot, cX7_lot, 4, (some .int), 0, 0)
theorem zm_X7_lot : zMthV mt_X7_lot 1 := ⟨⟨(zcI_3_12 7 rfl rfl), (zcI_1_0 15 rfl rfl), ⟨by decide, by decide⟩, rfl⟩, (zcI_3_12 6 rfl rfl), (zpI_2 5 rfl rfl)⟩
abbrev mt_X7_evenings : zMT := (RX7, yX7_evenings, cX7_evenings, 5, none, 5, 118)
theorem zm_X7_evenings : zMthV mt_X7_evenings 3 := ⟨⟨(zcI_3_14 10 rfl rfl), (zcI_1_0 15 rfl rfl), ⟨by decide, by decide⟩, rfl⟩, (zcI_3_14 8 rfl rfl), (zcI_3_14 9 rfl rfl)⟩
abbrev mt_X7_evening : zMT := (RX7, yX7_evening, cX7_evening, 3, none, 4, 96)
theorem zm_X7_evening : zMthV mt_X7_evening 2 := ⟨⟨(zcI_3_14 14 rfl rfl), (zcI_1_0 15 rfl rfl), ⟨by decide, by decide⟩, rfl⟩, (zcI_3_14 12 rfl rfl), (zcI_3_14 13 rfl rfl)⟩
abbrev mt_X7_earn : zMT := (RX7, yX7_earn, cX7_earn, 3, none, 2, 51)
theorem zm_X7_earn : zMthV mt_X7_earn 1 := ⟨⟨(zcI_4_0 2 rfl rfl), (zcI_1_0 15 rfl rfl), ⟨by decide, by decide⟩, rfl⟩, (zcI_4_0 1 rfl rfl), (zpI_2 6 rfl rfl)⟩
abbrev mt_X7_payAtOnce : zMT := (RX7, yX7_payAtOnce, cX7_payAtOnce, 3, none, 3, 73)
theorem zm_X7_payAtOnce : zMthV mt_X7_payAtOnce 1 := ⟨⟨(zcI_4_1 4 rfl rfl), (zcI_1_0 15 rfl rfl), ⟨by decide, by decide⟩, rfl⟩, (zcI_4_1 3 rfl rfl), (zpI_2 7 rfl rfl)⟩
abbrev mt_X7_payByTurns : zMT := (RX7, yX7_payByTurns, cX7_payByTurns, 4, none, 3, 73)
theorem zm_X7_payByTurns : zMthV mt_X7_payByTurns 2 := ⟨⟨(zcI_4_0 11 rfl rfl), (zcI_1_0 15 rfl rfl), ⟨by decide, by decide⟩, rfl⟩, (zcI_4_0 9 rfl rfl), (zcI_4_0 10 rfl rfl)⟩
abbrev mt_X8_init : zMT := (RX8, yX8_init, cX8_init, 1, none, 1, 21)
theorem zm_X8_init : zMthI mt_X8_init 0 := ⟨⟨(zcI_1_1 15 rfl rfl), (zcI_1_0 2 rfl rfl), ⟨by decide, by decide⟩, rfl⟩, rfl, (zcI_1_1 14 rfl rfl), rfl⟩
abbrev mt_X8_put : zMT := (RX8, yX8_put, cX8_put, 3, none, 0, 0)
theorem zm_X8_put : zMthV mt_X8_put 1 := ⟨⟨(zcI_3_1 1 rfl rfl), (zcI_1_0 2 rfl rfl), ⟨by decide, by decide⟩, rfl⟩, (zcI_3_0 15 rfl rfl), (zcI_3_1 0 rfl rfl)⟩
abbrev mt_X8_byteAt : zMT := (RX8, yX8_byteAt, cX8_byteAt, 2, (some .int), 0, 0)
theorem zm_X8_byteAt : zMthV mt_X8_byteAt 1 := ⟨⟨(zcI_3_2 5 rfl rfl), (zcI_1_0 2 rfl rfl), ⟨by decide, by decide⟩, rfl⟩, (zcI_3_2 3 rfl rfl), (zcI_3_2 4 rfl rfl)⟩
abbrev mt_X9_init : zMT := (RX9, yX9_init, cX9_init, 3, none, 4, 150)
theorem zm_X9_init : zMthI mt_X9_init 0 := ⟨⟨(zcI_1_3 5 rfl rfl), (zcI_1_0 4 rfl rfl), ⟨by decide, by decide⟩, rfl⟩, rfl, (zcI_1_3 4 rfl rfl), rfl⟩
abbrev mt_X9_kindAt : zMT := (RX9, yX9_kindAt, cX9_kindAt, 2, (some .int), 0, 0)
theorem zm_X9_kindAt : zMthV mt_X9_kindAt 1 := ⟨⟨(zcI_3_3 14 rfl rfl), (zcI_1_0 4 rfl rfl), ⟨by decide, by decide⟩, rfl⟩, (zcI_3_3 12 rfl rfl), (zcI_3_3 13 rfl rfl)⟩
abbrev mt_X9_placeOf : zMT := (RX9, yX9_placeOf, cX9_placeOf, 2, (some .int), 0, 0)
theorem zm_X9_placeOf : zMthV mt_X9_placeOf 1 := ⟨⟨(zcI_3_4 10 rfl rfl), (zcI_1_0 4 rfl rfl), ⟨by decide, by decide⟩, rfl⟩, (zcI_3_4 8 rfl rfl), (zcI_3_4 9 rfl rfl)⟩
abbrev mt_X9_valueOf : zMT := (RX9, yX9_valueOf, cX9_valueOf, 2, (some .long), 0, 0)
theorem zm_X9_valueOf : zMthV mt_X9_valueOf 1 := ⟨⟨(zcI_3_5 2 rfl rfl), (zcI_1_0 4 rfl rfl), ⟨by decide, by decide⟩, rfl⟩, (zcI_3_5 0 rfl rfl), (zcI_3_5 1 rfl rfl)⟩
abbrev mt_X9_scan : zMT := (RX9, yX9_scan, cX9_scan, 7, none, 2, 45)
theorem zm_X9_scan : zMthV mt_X9_scan 1 := ⟨⟨(zcI_3_2 1 rfl rfl), (zcI_1_0 4 rfl rfl), ⟨by decide, by decide⟩, rfl⟩, (zcI_3_1 15 rfl rfl), (zcI_3_2 0 rfl rfl)⟩
abbrev mt_X9_open : zMT := (RX9, yX9_open, cX9_open, 3, (some .boolean), 0, 0)
theorem zm_X9_open : zMthV mt_X9_open 2 := ⟨⟨(zcI_3_2 12 rfl rfl), (zcI_1_0 4 rfl rfl), ⟨by decide, by decide⟩, rfl⟩, (zcI_3_2 11 rfl rfl), (zpI_1 1 rfl rfl)⟩
abbrev mt_X9_grow : zMT := (RX9, yX9_grow, cX9_grow, 4, none, 1, 22)
theorem zm_X9_grow : zMthV mt_X9_grow 2 := ⟨⟨(zcI_3_3 0 rfl rfl), (zcI_1_0 4 rfl rfl), ⟨by decide, by decide⟩, rfl⟩, (zcI_3_2 15 rfl rfl), (zpI_1 2 rfl rfl)⟩
abbrev mt_X9_close : zMT := (RX9, yX9_close, cX9_close, 3, none, 1, 23)
theorem zm_X9_close : zMthV mt_X9_close 1 := ⟨⟨(zcI_3_3 5 rfl rfl), (zcI_1_0 4 rfl rfl), ⟨by decide, by decide⟩, rfl⟩, (zcI_3_3 4 rfl rfl), (zpI_1 3 rfl rfl)⟩
abbrev mt_X9_wordOrName : zMT := (RX9, yX9_wordOrName, cX9_wordOrName, 4, (some .int), 0, 0)
theorem zm_X9_wordOrName : zMthV mt_X9_wordOrName 1 := ⟨⟨(zcI_3_3 9 rfl rfl), (zcI_1_0 4 rfl rfl), ⟨by decide, by decide⟩, rfl⟩, (zcI_3_3 8 rfl rfl), (zpI_1 4 rfl rfl)⟩
abbrev mt_X9_spelled : zMT := (RX9, yX9_spelled, cX9_spelled, 3, (some .long), 0, 0)
theorem zm_X9_spelled : zMthS mt_X9_spelled 2 := ⟨⟨(zcI_1_6 10 rfl rfl), (zcI_1_0 4 rfl rfl), ⟨by decide, by decide⟩, rfl⟩, (zcI_1_6 9 rfl rfl)⟩
abbrev mt_X9_kindOf : zMT := (RX9, yX9_kindOf, cX9_kindOf, 1, (some .int), 0, 0)
theorem zm_X9_kindOf : zMthS mt_X9_kindOf 1 := ⟨⟨(zcI_3_2 8 rfl rfl), (zcI_1_0 4 rfl rfl), ⟨by decide, by decide⟩, rfl⟩, (zcI_3_2 7 rfl rfl)⟩
abbrev mt_X10_init : zMT := (RX10, yX10_init, cX10_init, 1, none, 2, 41)
theorem zm_X10_init : zMthI mt_X10_init 0 := ⟨⟨(zcI_2_3 10 rfl rfl), (zcI_1_0 14 rfl rfl), ⟨by decide, by decide⟩, rfl⟩, rfl, (zcI_2_3 9 rfl rfl), rfl⟩
abbrev mt_X10_clear : zMT := (RX10, yX10_clear, cX10_clear, 1, none, 0, 0)
theorem zm_X10_clear : zMthV mt_X10_clear 0 := ⟨⟨(zcI_3_10 6 rfl rfl), (zcI_1_0 14 rfl rfl), ⟨by decide, by decide⟩, rfl⟩, (zcI_3_10 4 rfl rfl), (zcI_3_10 5 rfl rfl)⟩
abbrev mt_X10_add : zMT := (RX10, yX10_add, cX10_add, 3, (some .int), 0, 0)
theorem zm_X10_add : zMthV mt_X10_add 2 := ⟨⟨(zcI_4_14 14 rfl rfl), (zcI_1_0 14 rfl rfl), ⟨by decide, by decide⟩, rfl⟩, (zcI_4_14 12 rfl rfl), (zcI_4_14 13 rfl rfl)⟩
abbrev mt_X10_rowsUpTo : zMT := (RX10, yX10_rowsUpTo, cX10_rowsUpTo, 5, (some .int), 0, 0)
theorem zm_X10_rowsUpTo : zMthV mt_X10_rowsUpTo 2 := ⟨⟨(zcI_5_0 13 rfl rfl), (zcI_1_0 14 rfl rfl), ⟨by decide, by decide⟩, rfl⟩, (zcI_5_0 11 rfl rfl), (zcI_5_0 12 rfl rfl)⟩
abbrev mt_X10_goThroughFits : zMT := (RX10, yX10_goThroughFits, cX10_goThroughFits, 7, none, 5, 124)
theorem zm_X10_goThroughFits : zMthV mt_X10_goThroughFits 5 := ⟨⟨(zcI_5_1 3 rfl rfl), (zcI_1_0 14 rfl rfl), ⟨by decide, by decide⟩, rfl⟩, (zcI_5_1 1 rfl rfl), (zcI_5_1 2 rfl rfl)⟩
abbrev mt_X10_goThroughAgo : zMT := (RX10, yX10_goThroughAgo, cX10_goThroughAgo, 5, none, 5, 124)
theorem zm_X10_goThroughAgo : zMthV mt_X10_goThroughAgo 3 := ⟨⟨(zcI_5_3 9 rfl rfl), (zcI_1_0 14 rfl rfl), ⟨by decide, by decide⟩, rfl⟩, (zcI_5_3 7 rfl rfl), (zcI_5_3 8 rfl rfl)⟩
abbrev mt_X10_goThrough : zMT := (RX10, yX10_goThrough, cX10_goThrough, 9, none, 4, 96)
theorem zm_X10_goThrough : zMthV mt_X10_goThrough 5 := ⟨⟨(zcI_5_1 9 rfl rfl), (zcI_1_0 14 rfl rfl), ⟨by decide, by decide⟩, rfl⟩, (zcI_5_1 8 rfl rfl), (zpI_2 15 rfl rfl)⟩
abbrev mt_X10_startRows : zMT := (RX10, yX10_startRows, cX10_startRows, 3, (some .boolean), 1, 21)
theorem zm_X10_startRows : zMthV mt_X10_startRows 1 := ⟨⟨(zcI_5_1 14 rfl rfl), (zcI_1_0 14 rfl rfl), ⟨by decide, by decide⟩, rfl⟩, (zcI_5_1 13 rfl rfl), (zpI_3 0 rfl rfl)⟩
abbrev mt_X10_stepRow : zMT := (RX10, yX10_stepRow, cX10_stepRow, 3, (some .boolean), 1, 21)
theorem zm_X10_stepRow : zMthV mt_X10_stepRow 1 := ⟨⟨(zcI_5_2 13 rfl rfl), (zcI_1_0 14 rfl rfl), ⟨by decide, by decide⟩, rfl⟩, (zcI_5_2 12 rfl rfl), (zpI_3 3 rfl rfl)⟩
abbrev mt_X10_paysAsKnown : zMT := (RX10, yX10_paysAsKnown, cX10_paysAsKnown, 4, (some .boolean), 3, 73)
theorem zm_X10_paysAsKnown : zMthV mt_X10_paysAsKnown 1 := ⟨⟨(zcI_5_2 2 rfl rfl), (zcI_1_0 14 rfl rfl), ⟨by decide, by decide⟩, rfl⟩, (zcI_5_2 1 rfl rfl), (zpI_3 1 rfl rfl)⟩
abbrev mt_X10_note : zMT := (RX10, yX10_note, cX10_note, 2, none, 1, 21)
theorem zm_X10_note : zMthV mt_X10_note 1 := ⟨⟨(zcI_5_2 8 rfl rfl), (zcI_1_0 14 rfl rfl), ⟨by decide, by decide⟩, rfl⟩, (zcI_5_2 7 rfl rfl), (zpI_3 2 rfl rfl)⟩
abbrev mt_X11_init : zMT := (RX11, yX11_init, cX11_init, 1, none, 6, 192)
theorem zm_X11_init : zMthI mt_X11_init 0 := ⟨⟨(zcI_1_1 7 rfl rfl), (zcI_1_0 1 rfl rfl), ⟨by decide, by decide⟩, rfl⟩, rfl, (zcI_1_1 6 rfl rfl), rfl⟩
abbrev mt_X11_feed : zMT := (RX11, yX11_feed, cX11_feed, 6, (some .int), 1, 22)
theorem zm_X11_feed : zMthV mt_X11_feed 5 := ⟨⟨(zcI_3_0 13 rfl rfl), (zcI_1_0 1 rfl rfl), ⟨by decide, by decide⟩, rfl⟩, (zcI_3_0 11 rfl rfl), (zcI_3_0 12 rfl rfl)⟩
abbrev mt_X11_back : zMT := (RX11, yX11_back, cX11_back, 2, (some .int), 0, 0)
theorem zm_X11_back : zMthV mt_X11_back 1 := ⟨⟨(zcI_3_1 5 rfl rfl), (zcI_1_0 1 rfl rfl), ⟨by decide, by decide⟩, rfl⟩, (zcI_3_1 3 rfl rfl), (zcI_3_1 4 rfl rfl)⟩
abbrev mt_X11_read : zMT := (RX11, yX11_read, cX11_read, 2, (some .int), 7, 159)
theorem zm_X11_read : zMthV mt_X11_read 0 := ⟨⟨(zcI_3_1 9 rfl rfl), (zcI_1_0 1 rfl rfl), ⟨by decide, by decide⟩, rfl⟩, (zcI_3_1 7 rfl rfl), (zcI_3_1 8 rfl rfl)⟩
abbrev mt_X11_goOnFromSpare : zMT := (RX11, yX11_goOnFromSpare, cX11_goOnFromSpare, 2, none, 3, 67)
theorem zm_X11_goOnFromSpare : zMthV mt_X11_goOnFromSpare 0 := ⟨⟨(zcI_3_9 10 rfl rfl), (zcI_1_0 1 rfl rfl), ⟨by decide, by decide⟩, rfl⟩, (zcI_3_9 9 rfl rfl), (zpI_2 3 rfl rfl)⟩
abbrev mt_X11_place : zMT := (RX11, yX11_place, cX11_place, 1, (some .int), 0, 0)
theorem zm_X11_place : zMthV mt_X11_place 0 := ⟨⟨(zcI_3_10 10 rfl rfl), (zcI_1_0 1 rfl rfl), ⟨by decide, by decide⟩, rfl⟩, (zcI_3_10 8 rfl rfl), (zcI_3_10 9 rfl rfl)⟩
abbrev mt_X11_house : zMT := (RX11, yX11_house, cX11_house, 3, (some .int), 3, 73)
theorem zm_X11_house : zMthV mt_X11_house 2 := ⟨⟨(zcI_3_10 14 rfl rfl), (zcI_1_0 1 rfl rfl), ⟨by decide, by decide⟩, rfl⟩, (zcI_3_10 12 rfl rfl), (zcI_3_10 13 rfl rfl)⟩
abbrev mt_X11_run : zMT := (RX11, yX11_run, cX11_run, 2, (some .int), 6, 142)
theorem zm_X11_run : zMthV mt_X11_run 1 := ⟨⟨(zcI_3_13 11 rfl rfl), (zcI_1_0 1 rfl rfl), ⟨by decide, by decide⟩, rfl⟩, (zcI_3_13 9 rfl rfl), (zcI_3_13 10 rfl rfl)⟩
abbrev mt_X11_give : zMT := (RX11, yX11_give, cX11_give, 4, (some .boolean), 2, 44)
theorem zm_X11_give : zMthV mt_X11_give 3 := ⟨⟨(zcI_4_2 1 rfl rfl), (zcI_1_0 1 rfl rfl), ⟨by decide, by decide⟩, rfl⟩, (zcI_4_1 15 rfl rfl), (zcI_4_2 0 rfl rfl)⟩
abbrev mt_X11_hide : zMT := (RX11, yX11_hide, cX11_hide, 3, (some .boolean), 2, 43)
theorem zm_X11_hide : zMthV mt_X11_hide 2 := ⟨⟨(zcI_4_2 9 rfl rfl), (zcI_1_0 1 rfl rfl), ⟨by decide, by decide⟩, rfl⟩, (zcI_4_2 7 rfl rfl), (zcI_4_2 8 rfl rfl)⟩
abbrev mt_X11_grab : zMT := (RX11, yX11_grab, cX11_grab, 3, (some .int), 2, 43)
theorem zm_X11_grab : zMthV mt_X11_grab 1 := ⟨⟨(zcI_4_2 13 rfl rfl), (zcI_1_0 1 rfl rfl), ⟨by decide, by decide⟩, rfl⟩, (zcI_4_2 11 rfl rfl), (zcI_4_2 12 rfl rfl)⟩
abbrev mt_X11_build : zMT := (RX11, yX11_build, cX11_build, 3, (some .int), 2, 45)
theorem zm_X11_build : zMthV mt_X11_build 2 := ⟨⟨(zcI_4_3 1 rfl rfl), (zcI_1_0 1 rfl rfl), ⟨by decide, by decide⟩, rfl⟩, (zcI_4_2 15 rfl rfl), (zcI_4_3 0 rfl rfl)⟩
abbrev mt_X11_burn : zMT := (RX11, yX11_burn, cX11_burn, 3, (some .int), 2, 44)
theorem zm_X11_burn : zMthV mt_X11_burn 1 := ⟨⟨(zcI_4_3 10 rfl rfl), (zcI_1_0 1 rfl rfl), ⟨by decide, by decide⟩, rfl⟩, (zcI_4_3 8 rfl rfl), (zcI_4_3 9 rfl rfl)⟩
abbrev mt_X11_join : zMT := (RX11, yX11_join, cX11_join, 4, (some .int), 3, 66)
theorem zm_X11_join : zMthV mt_X11_join 1 := ⟨⟨(zcI_4_4 2 rfl rfl), (zcI_1_0 1 rfl rfl), ⟨by decide, by decide⟩, rfl⟩, (zcI_4_4 0 rfl rfl), (zcI_4_4 1 rfl rfl)⟩
abbrev mt_X11_undo : zMT := (RX11, yX11_undo, cX11_undo, 1, (some .boolean), 2, 44)
theorem zm_X11_undo : zMthV mt_X11_undo 0 := ⟨⟨(zcI_4_4 15 rfl rfl), (zcI_1_0 1 rfl rfl), ⟨by decide, by decide⟩, rfl⟩, (zcI_4_4 13 rfl rfl), (zcI_4_4 14 rfl rfl)⟩
abbrev mt_X11_becomes : zMT := (RX11, yX11_becomes, cX11_becomes, 2, (some .int), 7, 168)
theorem zm_X11_becomes : zMthV mt_X11_becomes 1 := ⟨⟨(zcI_4_5 7 rfl rfl), (zcI_1_0 1 rfl rfl), ⟨by decide, by decide⟩, rfl⟩, (zcI_4_5 5 rfl rfl), (zcI_4_5 6 rfl rfl)⟩
abbrev mt_X11_apart : zMT := (RX11, yX11_apart, cX11_apart, 2, (some .int), 7, 165)
theorem zm_X11_apart : zMthV mt_X11_apart 1 := ⟨⟨(zcI_4_6 10 rfl rfl), (zcI_1_0 1 rfl rfl), ⟨by decide, by decide⟩, rfl⟩, (zcI_4_6 8 rfl rfl), (zcI_4_6 9 rfl rfl)⟩
abbrev mt_X11_even : zMT := (RX11, yX11_even, cX11_even, 3, (some .int), 6, 143)
theorem zm_X11_even : zMthV mt_X11_even 2 := ⟨⟨(zcI_4_7 9 rfl rfl), (zcI_1_0 1 rfl rfl), ⟨by decide, by decide⟩, rfl⟩, (zcI_4_7 7 rfl rfl), (zcI_4_7 8 rfl rfl)⟩
abbrev mt_X11_soonest : zMT := (RX11, yX11_soonest, cX11_soonest, 2, (some .int), 7, 170)
theorem zm_X11_soonest : zMthV mt_X11_soonest 1 := ⟨⟨(zcI_4_8 1 rfl rfl), (zcI_1_0 1 rfl rfl), ⟨by decide, by decide⟩, rfl⟩, (zcI_4_7 15 rfl rfl), (zcI_4_8 0 rfl rfl)⟩
abbrev mt_X11_start : zMT := (RX11, yX11_start, cX11_start, 3, (some .int), 5, 120)
theorem zm_X11_start : zMthV mt_X11_start 2 := ⟨⟨(zcI_4_8 10 rfl rfl), (zcI_1_0 1 rfl rfl), ⟨by decide, by decide⟩, rfl⟩, (zcI_4_8 8 rfl rfl), (zcI_4_8 9 rfl rfl)⟩
abbrev mt_X11_wealth : zMT := (RX11, yX11_wealth, cX11_wealth, 4, (some .int), 6, 144)
theorem zm_X11_wealth : zMthV mt_X11_wealth 3 := ⟨⟨(zcI_4_9 9 rfl rfl), (zcI_1_0 1 rfl rfl), ⟨by decide, by decide⟩, rfl⟩, (zcI_4_9 7 rfl rfl), (zcI_4_9 8 rfl rfl)⟩
abbrev mt_X11_free : zMT := (RX11, yX11_free, cX11_free, 3, (some .int), 5, 124)
theorem zm_X11_free : zMthV mt_X11_free 2 := ⟨⟨(zcI_4_10 8 rfl rfl), (zcI_1_0 1 rfl rfl), ⟨by decide, by decide⟩, rfl⟩, (zcI_4_10 6 rfl rfl), (zcI_4_10 7 rfl rfl)⟩
abbrev mt_X11_best : zMT := (RX11, yX11_best, cX11_best, 5, (some .int), 7, 169)
theorem zm_X11_best : zMthV mt_X11_best 4 := ⟨⟨(zcI_4_11 8 rfl rfl), (zcI_1_0 1 rfl rfl), ⟨by decide, by decide⟩, rfl⟩, (zcI_4_11 6 rfl rfl), (zcI_4_11 7 rfl rfl)⟩
abbrev mt_X11_loan : zMT := (RX11, yX11_loan, cX11_loan, 5, (some .int), 6, 145)
theorem zm_X11_loan : zMthV mt_X11_loan 4 := ⟨⟨(zcI_4_12 4 rfl rfl), (zcI_1_0 1 rfl rfl), ⟨by decide, by decide⟩, rfl⟩, (zcI_4_12 2 rfl rfl), (zcI_4_12 3 rfl rfl)⟩
abbrev mt_X11_site : zMT := (RX11, yX11_site, cX11_site, 2, (some .int), 4, 103)
theorem zm_X11_site : zMthV mt_X11_site 1 := ⟨⟨(zcI_4_12 12 rfl rfl), (zcI_1_0 1 rfl rfl), ⟨by decide, by decide⟩, rfl⟩, (zcI_4_12 10 rfl rfl), (zcI_4_12 11 rfl rfl)⟩
abbrev mt_X11_rests : zMT := (RX11, yX11_rests, cX11_rests, 3, (some .int), 7, 170)
theorem zm_X11_rests : zMthV mt_X11_rests 2 := ⟨⟨(zcI_4_13 6 rfl rfl), (zcI_1_0 1 rfl rfl), ⟨by decide, by decide⟩, rfl⟩, (zcI_4_13 4 rfl rfl), (zcI_4_13 5 rfl rfl)⟩
abbrev mt_X11_tell : zMT := (RX11, yX11_tell, cX11_tell, 3, (some .int), 1, 22)
theorem zm_X11_tell : zMthV mt_X11_tell 2 := ⟨⟨(zcI_4_14 10 rfl rfl), (zcI_1_0 1 rfl rfl), ⟨by decide, by decide⟩, rfl⟩, (zcI_4_14 8 rfl rfl), (zcI_4_14 9 rfl rfl)⟩
abbrev mt_X11_forget : zMT := (RX11, yX11_forget, cX11_forget, 2, (some .int), 1, 20)
theorem zm_X11_forget : zMthV mt_X11_forget 0 := ⟨⟨(zcI_5_0 2 rfl rfl), (zcI_1_0 1 rfl rfl), ⟨by decide, by decide⟩, rfl⟩, (zcI_5_0 0 rfl rfl), (zcI_5_0 1 rfl rfl)⟩
abbrev mt_X11_fits : zMT := (RX11, yX11_fits, cX11_fits, 3, (some .int), 6, 150)
theorem zm_X11_fits : zMthV mt_X11_fits 2 := ⟨⟨(zcI_5_0 6 rfl rfl), (zcI_1_0 1 rfl rfl), ⟨by decide, by decide⟩, rfl⟩, (zcI_5_0 4 rfl rfl), (zcI_5_0 5 rfl rfl)⟩
abbrev mt_X11_span : zMT := (RX11, yX11_span, cX11_span, 4, (some .int), 6, 150)
theorem zm_X11_span : zMthV mt_X11_span 3 := ⟨⟨(zcI_5_3 1 rfl rfl), (zcI_1_0 1 rfl rfl), ⟨by decide, by decide⟩, rfl⟩, (zcI_5_2 15 rfl rfl), (zcI_5_3 0 rfl rfl)⟩
abbrev mt_X11_ago : zMT := (RX11, yX11_ago, cX11_ago, 2, (some .int), 6, 148)
theorem zm_X11_ago : zMthV mt_X11_ago 1 := ⟨⟨(zcI_5_3 5 rfl rfl), (zcI_1_0 1 rfl rfl), ⟨by decide, by decide⟩, rfl⟩, (zcI_5_3 3 rfl rfl), (zcI_5_3 4 rfl rfl)⟩
abbrev mt_X11_hold : zMT := (RX11, yX11_hold, cX11_hold, 2, (some .boolean), 2, 44)
theorem zm_X11_hold : zMthV mt_X11_hold 1 := ⟨⟨(zcI_5_3 13 rfl rfl), (zcI_1_0 1 rfl rfl), ⟨by decide, by decide⟩, rfl⟩, (zcI_5_3 11 rfl rfl), (zcI_5_3 12 rfl rfl)⟩
abbrev mt_X11_restore : zMT := (RX11, yX11_restore, cX11_restore, 2, (some .boolean), 2, 44)
theorem zm_X11_restore : zMthV mt_X11_restore 1 := ⟨⟨(zcI_5_4 5 rfl rfl), (zcI_1_0 1 rfl rfl), ⟨by decide, by decide⟩, rfl⟩, (zcI_5_4 3 rfl rfl), (zcI_5_4 4 rfl rfl)⟩
abbrev mt_X11_count : zMT := (RX11, yX11_count, cX11_count, 2, (some .int), 2, 43)
theorem zm_X11_count : zMthV mt_X11_count 1 := ⟨⟨(zcI_5_5 2 rfl rfl), (zcI_1_0 1 rfl rfl), ⟨by decide, by decide⟩, rfl⟩, (zcI_5_5 0 rfl rfl), (zcI_5_5 1 rfl rfl)⟩
abbrev mt_X11_isEvenings : zMT := (RX11, yX11_isEvenings, cX11_isEvenings, 1, (some .boolean), 0, 0)
theorem zm_X11_isEvenings : zMthS mt_X11_isEvenings 1 := ⟨⟨(zcI_3_13 14 rfl rfl), (zcI_1_0 1 rfl rfl), ⟨by decide, by decide⟩, rfl⟩, (zcI_3_13 13 rfl rfl)⟩
abbrev mt_X11_isPurse : zMT := (RX11, yX11_isPurse, cX11_isPurse, 1, (some .boolean), 0, 0)
theorem zm_X11_isPurse : zMthS mt_X11_isPurse 1 := ⟨⟨(zcI_4_3 5 rfl rfl), (zcI_1_0 1 rfl rfl), ⟨by decide, by decide⟩, rfl⟩, (zcI_4_3 4 rfl rfl)⟩
abbrev mt_X11_isUnit : zMT := (RX11, yX11_isUnit, cX11_isUnit, 1, (some .boolean), 0, 0)
theorem zm_X11_isUnit : zMthS mt_X11_isUnit 1 := ⟨⟨(zcI_4_11 11 rfl rfl), (zcI_1_0 1 rfl rfl), ⟨by decide, by decide⟩, rfl⟩, (zcI_4_11 10 rfl rfl)⟩
abbrev mt_X11_isInRow : zMT := (RX11, yX11_isInRow, cX11_isInRow, 1, (some .boolean), 0, 0)
theorem zm_X11_isInRow : zMthS mt_X11_isInRow 1 := ⟨⟨(zcI_5_0 9 rfl rfl), (zcI_1_0 1 rfl rfl), ⟨by decide, by decide⟩, rfl⟩, (zcI_5_0 8 rfl rfl)⟩
abbrev mt_X12_init : zMT := (RX12, yX12_init, cX12_init, 1, none, 2, 48)
theorem zm_X12_init : zMthI mt_X12_init 0 := ⟨⟨(zcI_5_5 15 rfl rfl), (zcI_1_1 1 rfl rfl), ⟨by decide, by decide⟩, rfl⟩, rfl, (zcI_5_5 14 rfl rfl), rfl⟩
abbrev mt_X12_feed : zMT := (RX12, yX12_feed, cX12_feed, 6, (some .int), 1, 22)
theorem zm_X12_feed : zMthV mt_X12_feed 5 := ⟨⟨(zcI_6_3 2 rfl rfl), (zcI_1_1 1 rfl rfl), ⟨by decide, by decide⟩, rfl⟩, (zcI_6_3 0 rfl rfl), (zcI_6_3 1 rfl rfl)⟩
abbrev mt_X12_put : zMT := (RX12, yX12_put, cX12_put, 3, none, 0, 0)
theorem zm_X12_put : zMthV mt_X12_put 1 := ⟨⟨(zcI_6_3 6 rfl rfl), (zcI_1_1 1 rfl rfl), ⟨by decide, by decide⟩, rfl⟩, (zcI_6_3 5 rfl rfl), (zpI_3 5 rfl rfl)⟩
abbrev mt_X12_back : zMT := (RX12, yX12_back, cX12_back, 2, (some .int), 0, 0)
theorem zm_X12_back : zMthV mt_X12_back 1 := ⟨⟨(zcI_6_3 10 rfl rfl), (zcI_1_1 1 rfl rfl), ⟨by decide, by decide⟩, rfl⟩, (zcI_6_3 8 rfl rfl), (zcI_6_3 9 rfl rfl)⟩
abbrev mt_X12_byteAt : zMT := (RX12, yX12_byteAt, cX12_byteAt, 2, (some .int), 0, 0)
theorem zm_X12_byteAt : zMthV mt_X12_byteAt 1 := ⟨⟨(zcI_6_4 6 rfl rfl), (zcI_1_1 1 rfl rfl), ⟨by decide, by decide⟩, rfl⟩, (zcI_6_4 5 rfl rfl), (zpI_3 7 rfl rfl)⟩
abbrev mt_X12_isDigit : zMT := (RX12, yX12_isDigit, cX12_isDigit, 1, (some .boolean), 0, 0)
theorem zm_X12_isDigit : zMthS mt_X12_isDigit 1 := ⟨⟨(zcI_6_5 0 rfl rfl), (zcI_1_1 1 rfl rfl), ⟨by decide, by decide⟩, rfl⟩, (zcI_6_4 15 rfl rfl)⟩
abbrev mt_X12_isLetter : zMT := (RX12, yX12_isLetter, cX12_isLetter, 1, (some .boolean), 0, 0)
theorem zm_X12_isLetter : zMthS mt_X12_isLetter 1 := ⟨⟨(zcI_6_4 13 rfl rfl), (zcI_1_1 1 rfl rfl), ⟨by decide, by decide⟩, rfl⟩, (zcI_6_4 12 rfl rfl)⟩
abbrev mt_X12_appends : zMT := (RX12, yX12_appends, cX12_appends, 3, (some .long), 0, 0)
theorem zm_X12_appends : zMthS mt_X12_appends 2 := ⟨⟨(zcI_5_6 6 rfl rfl), (zcI_1_1 1 rfl rfl), ⟨by decide, by decide⟩, rfl⟩, (zcI_5_6 5 rfl rfl)⟩
abbrev mt_X12_word : zMT := (RX12, yX12_word, cX12_word, 7, (some .long), 1, 22)
theorem zm_X12_word : zMthS mt_X12_word 7 := ⟨⟨(zcI_5_6 3 rfl rfl), (zcI_1_1 1 rfl rfl), ⟨by decide, by decide⟩, rfl⟩, (zcI_5_6 2 rfl rfl)⟩
abbrev mt_X12_token : zMT := (RX12, yX12_token, cX12_token, 6, none, 0, 0)
theorem zm_X12_token : zMthV mt_X12_token 4 := ⟨⟨(zcI_6_4 10 rfl rfl), (zcI_1_1 1 rfl rfl), ⟨by decide, by decide⟩, rfl⟩, (zcI_6_4 9 rfl rfl), (zpI_3 8 rfl rfl)⟩
abbrev mt_X12_cut : zMT := (RX12, yX12_cut, cX12_cut, 8, none, 2, 49)
theorem zm_X12_cut : zMthV mt_X12_cut 0 := ⟨⟨(zcI_6_4 2 rfl rfl), (zcI_1_1 1 rfl rfl), ⟨by decide, by decide⟩, rfl⟩, (zcI_6_4 1 rfl rfl), (zpI_3 6 rfl rfl)⟩
abbrev mt_X12_sign : zMT := (RX12, yX12_sign, cX12_sign, 5, (some .int), 1, 25)
theorem zm_X12_sign : zMthV mt_X12_sign 3 := ⟨⟨(zcI_6_5 4 rfl rfl), (zcI_1_1 1 rfl rfl), ⟨by decide, by decide⟩, rfl⟩, (zcI_6_5 3 rfl rfl), (zpI_3 9 rfl rfl)⟩
abbrev mt_X12_is : zMT := (RX12, yX12_is, cX12_is, 2, (some .boolean), 0, 0)
theorem zm_X12_is : zMthV mt_X12_is 1 := ⟨⟨(zcI_6_5 8 rfl rfl), (zcI_1_1 1 rfl rfl), ⟨by decide, by decide⟩, rfl⟩, (zcI_6_5 7 rfl rfl), (zpI_3 10 rfl rfl)⟩
abbrev mt_X12_fail : zMT := (RX12, yX12_fail, cX12_fail, 2, none, 0, 0)
theorem zm_X12_fail : zMthV mt_X12_fail 1 := ⟨⟨(zcI_6_6 0 rfl rfl), (zcI_1_1 1 rfl rfl), ⟨by decide, by decide⟩, rfl⟩, (zcI_6_5 15 rfl rfl), (zpI_3 12 rfl rfl)⟩
abbrev mt_X12_wrong : zMT := (RX12, yX12_wrong, cX12_wrong, 4, none, 0, 0)
theorem zm_X12_wrong : zMthV mt_X12_wrong 2 := ⟨⟨(zcI_6_7 0 rfl rfl), (zcI_1_1 1 rfl rfl), ⟨by decide, by decide⟩, rfl⟩, (zcI_6_6 15 rfl rfl), (zpI_4 0 rfl rfl)⟩
abbrev mt_X12_goesOn : zMT := (RX12, yX12_goesOn, cX12_goesOn, 1, none, 1, 21)
theorem zm_X12_goesOn : zMthV mt_X12_goesOn 0 := ⟨⟨(zcI_6_6 8 rfl rfl), (zcI_1_1 1 rfl rfl), ⟨by decide, by decide⟩, rfl⟩, (zcI_6_6 7 rfl rfl), (zpI_3 14 rfl rfl)⟩
abbrev mt_X12_must : zMT := (RX12, yX12_must, cX12_must, 2, none, 2, 41)
theorem zm_X12_must : zMthV mt_X12_must 1 := ⟨⟨(zcI_6_6 12 rfl rfl), (zcI_1_1 1 rfl rfl), ⟨by decide, by decide⟩, rfl⟩, (zcI_6_6 11 rfl rfl), (zpI_3 15 rfl rfl)⟩
abbrev mt_X12_read : zMT := (RX12, yX12_read, cX12_read, 2, (some .int), 7, 147)
theorem zm_X12_read : zMthV mt_X12_read 0 := ⟨⟨(zcI_6_3 14 rfl rfl), (zcI_1_1 1 rfl rfl), ⟨by decide, by decide⟩, rfl⟩, (zcI_6_3 12 rfl rfl), (zcI_6_3 13 rfl rfl)⟩
abbrev mt_X12_place : zMT := (RX12, yX12_place, cX12_place, 1, (some .int), 0, 0)
theorem zm_X12_place : zMthV mt_X12_place 0 := ⟨⟨(zcI_6_9 0 rfl rfl), (zcI_1_1 1 rfl rfl), ⟨by decide, by decide⟩, rfl⟩, (zcI_6_8 14 rfl rfl), (zcI_6_8 15 rfl rfl)⟩
abbrev mt_X12_tell : zMT := (RX12, yX12_tell, cX12_tell, 2, none, 6, 126)
theorem zm_X12_tell : zMthV mt_X12_tell 0 := ⟨⟨(zcI_6_5 12 rfl rfl), (zcI_1_1 1 rfl rfl), ⟨by decide, by decide⟩, rfl⟩, (zcI_6_5 11 rfl rfl), (zpI_3 11 rfl rfl)⟩
abbrev mt_X12_bounded : zMT := (RX12, yX12_bounded, cX12_bounded, 4, (some .int), 2, 41)
theorem zm_X12_bounded : zMthV mt_X12_bounded 2 := ⟨⟨(zcI_6_7 4 rfl rfl), (zcI_1_1 1 rfl rfl), ⟨by decide, by decide⟩, rfl⟩, (zcI_6_7 3 rfl rfl), (zpI_4 1 rfl rfl)⟩
abbrev mt_X12_tellHouse : zMT := (RX12, yX12_tellHouse, cX12_tellHouse, 3, none, 3, 64)
theorem zm_X12_tellHouse : zMthV mt_X12_tellHouse 0 := ⟨⟨(zcI_6_6 4 rfl rfl), (zcI_1_1 1 rfl rfl), ⟨by decide, by decide⟩, rfl⟩, (zcI_6_6 3 rfl rfl), (zpI_3 13 rfl rfl)⟩
abbrev mt_X12_tellLaw : zMT := (RX12, yX12_tellLaw, cX12_tellLaw, 4, none, 5, 103)
theorem zm_X12_tellLaw : zMthV mt_X12_tellLaw 1 := ⟨⟨(zcI_6_7 8 rfl rfl), (zcI_1_1 1 rfl rfl), ⟨by decide, by decide⟩, rfl⟩, (zcI_6_7 7 rfl rfl), (zpI_4 2 rfl rfl)⟩
abbrev mt_X12_term : zMT := (RX12, yX12_term, cX12_term, 1, none, 4, 83)
theorem zm_X12_term : zMthV mt_X12_term 0 := ⟨⟨(zcI_6_8 12 rfl rfl), (zcI_1_1 1 rfl rfl), ⟨by decide, by decide⟩, rfl⟩, (zcI_6_8 11 rfl rfl), (zpI_4 7 rfl rfl)⟩
abbrev mt_X12_emit : zMT := (RX12, yX12_emit, cX12_emit, 3, none, 0, 0)
theorem zm_X12_emit : zMthV mt_X12_emit 2 := ⟨⟨(zcI_6_8 4 rfl rfl), (zcI_1_1 1 rfl rfl), ⟨by decide, by decide⟩, rfl⟩, (zcI_6_8 3 rfl rfl), (zpI_4 5 rfl rfl)⟩
abbrev mt_X12_comesOut : zMT := (RX12, yX12_comesOut, cX12_comesOut, 3, none, 1, 22)
theorem zm_X12_comesOut : zMthV mt_X12_comesOut 1 := ⟨⟨(zcI_6_8 8 rfl rfl), (zcI_1_1 1 rfl rfl), ⟨by decide, by decide⟩, rfl⟩, (zcI_6_8 7 rfl rfl), (zpI_4 6 rfl rfl)⟩
abbrev mt_X12_expression : zMT := (RX12, yX12_expression, cX12_expression, 3, none, 3, 61)
theorem zm_X12_expression : zMthV mt_X12_expression 0 := ⟨⟨(zcI_6_7 12 rfl rfl), (zcI_1_1 1 rfl rfl), ⟨by decide, by decide⟩, rfl⟩, (zcI_6_7 11 rfl rfl), (zpI_4 3 rfl rfl)⟩
abbrev mt_X12_unit : zMT := (RX12, yX12_unit, cX12_unit, 1, none, 2, 41)
theorem zm_X12_unit : zMthV mt_X12_unit 0 := ⟨⟨(zcI_6_8 0 rfl rfl), (zcI_1_1 1 rfl rfl), ⟨by decide, by decide⟩, rfl⟩, (zcI_6_7 15 rfl rfl), (zpI_4 4 rfl rfl)⟩
abbrev mt_X12_termOf : zMT := (RX12, yX12_termOf, cX12_termOf, 8, (some .int), 0, 0)
theorem zm_X12_termOf : zMthV mt_X12_termOf 2 := ⟨⟨(zcI_6_11 14 rfl rfl), (zcI_1_1 1 rfl rfl), ⟨by decide, by decide⟩, rfl⟩, (zcI_6_11 13 rfl rfl), (zpI_4 15 rfl rfl)⟩
abbrev mt_X12_in : zMT := (RX12, yX12_in, cX12_in, 3, (some .boolean), 0, 0)
theorem zm_X12_in : zMthS mt_X12_in 3 := ⟨⟨(zcI_6_9 11 rfl rfl), (zcI_1_1 1 rfl rfl), ⟨by decide, by decide⟩, rfl⟩, (zcI_6_9 10 rfl rfl)⟩
abbrev mt_X12_copies : zMT := (RX12, yX12_copies, cX12_copies, 2, none, 0, 0)
theorem zm_X12_copies : zMthV mt_X12_copies 0 := ⟨⟨(zcI_6_9 15 rfl rfl), (zcI_1_1 1 rfl rfl), ⟨by decide, by decide⟩, rfl⟩, (zcI_6_9 14 rfl rfl), (zpI_4 9 rfl rfl)⟩
abbrev mt_X12_isHouse : zMT := (RX12, yX12_isHouse, cX12_isHouse, 2, (some .boolean), 1, 22)
theorem zm_X12_isHouse : zMthV mt_X12_isHouse 1 := ⟨⟨(zcI_6_9 8 rfl rfl), (zcI_1_1 1 rfl rfl), ⟨by decide, by decide⟩, rfl⟩, (zcI_6_9 7 rfl rfl), (zpI_4 8 rfl rfl)⟩
abbrev mt_X12_shownOf : zMT := (RX12, yX12_shownOf, cX12_shownOf, 2, (some .int), 0, 0)
theorem zm_X12_shownOf : zMthV mt_X12_shownOf 1 := ⟨⟨(zcI_6_10 3 rfl rfl), (zcI_1_1 1 rfl rfl), ⟨by decide, by decide⟩, rfl⟩, (zcI_6_10 2 rfl rfl), (zpI_4 10 rfl rfl)⟩
abbrev mt_X12_beside : zMT := (RX12, yX12_beside, cX12_beside, 5, (some .int), 1, 21)
theorem zm_X12_beside : zMthV mt_X12_beside 2 := ⟨⟨(zcI_6_10 11 rfl rfl), (zcI_1_1 1 rfl rfl), ⟨by decide, by decide⟩, rfl⟩, (zcI_6_10 10 rfl rfl), (zpI_4 12 rfl rfl)⟩
abbrev mt_X12_mixed : zMT := (RX12, yX12_mixed, cX12_mixed, 3, (some .int), 0, 0)
theorem zm_X12_mixed : zMthS mt_X12_mixed 2 := ⟨⟨(zcI_6_11 9 rfl rfl), (zcI_1_1 1 rfl rfl), ⟨by decide, by decide⟩, rfl⟩, (zcI_6_11 8 rfl rfl)⟩
abbrev mt_X12_lot : zMT := (RX12, yX12_lot, cX12_lot, 3, (some .int), 1, 22)
theorem zm_X12_lot : zMthS mt_X12_lot 3 := ⟨⟨(zcI_6_11 6 rfl rfl), (zcI_1_1 1 rfl rfl), ⟨by decide, by decide⟩, rfl⟩, (zcI_6_11 5 rfl rfl)⟩
abbrev mt_X12_gapOf : zMT := (RX12, yX12_gapOf, cX12_gapOf, 3, (some .int), 2, 45)
theorem zm_X12_gapOf : zMthV mt_X12_gapOf 1 := ⟨⟨(zcI_6_10 7 rfl rfl), (zcI_1_1 1 rfl rfl), ⟨by decide, by decide⟩, rfl⟩, (zcI_6_10 6 rfl rfl), (zpI_4 11 rfl rfl)⟩
abbrev mt_X12_tellsBy : zMT := (RX12, yX12_tellsBy, cX12_tellsBy, 10, (some .int), 3, 67)
theorem zm_X12_tellsBy : zMthV mt_X12_tellsBy 4 := ⟨⟨(zcI_6_11 3 rfl rfl), (zcI_1_1 1 rfl rfl), ⟨by decide, by decide⟩, rfl⟩, (zcI_6_11 2 rfl rfl), (zpI_4 14 rfl rfl)⟩
abbrev mt_X12_wanted : zMT := (RX12, yX12_wanted, cX12_wanted, 2, (some .int), 4, 96)
theorem zm_X12_wanted : zMthV mt_X12_wanted 1 := ⟨⟨(zcI_6_10 15 rfl rfl), (zcI_1_1 1 rfl rfl), ⟨by decide, by decide⟩, rfl⟩, (zcI_6_10 14 rfl rfl), (zpI_4 13 rfl rfl)⟩
abbrev mt_X12_earnAll : zMT := (RX12, yX12_earnAll, cX12_earnAll, 2, none, 4, 96)
theorem zm_X12_earnAll : zMthV mt_X12_earnAll 0 := ⟨⟨(zcI_6_12 14 rfl rfl), (zcI_1_1 1 rfl rfl), ⟨by decide, by decide⟩, rfl⟩, (zcI_6_12 13 rfl rfl), (zpI_5 2 rfl rfl)⟩
abbrev mt_X12_pays : zMT := (RX12, yX12_pays, cX12_pays, 3, none, 0, 0)
theorem zm_X12_pays : zMthV mt_X12_pays 2 := ⟨⟨(zcI_6_13 6 rfl rfl), (zcI_1_1 1 rfl rfl), ⟨by decide, by decide⟩, rfl⟩, (zcI_6_13 5 rfl rfl), (zpI_5 4 rfl rfl)⟩
abbrev mt_X12_payAll : zMT := (RX12, yX12_payAll, cX12_payAll, 5, none, 5, 117)
theorem zm_X12_payAll : zMthV mt_X12_payAll 2 := ⟨⟨(zcI_6_13 2 rfl rfl), (zcI_1_1 1 rfl rfl), ⟨by decide, by decide⟩, rfl⟩, (zcI_6_13 1 rfl rfl), (zpI_5 3 rfl rfl)⟩
abbrev mt_X12_shares : zMT := (RX12, yX12_shares, cX12_shares, 6, none, 0, 0)
theorem zm_X12_shares : zMthV mt_X12_shares 1 := ⟨⟨(zcI_6_13 14 rfl rfl), (zcI_1_1 1 rfl rfl), ⟨by decide, by decide⟩, rfl⟩, (zcI_6_13 13 rfl rfl), (zpI_5 6 rfl rfl)⟩
abbrev mt_X12_ends : zMT := (RX12, yX12_ends, cX12_ends, 2, none, 1, 25)
theorem zm_X12_ends : zMthV mt_X12_ends 1 := ⟨⟨(zcI_6_13 10 rfl rfl), (zcI_1_1 1 rfl rfl), ⟨by decide, by decide⟩, rfl⟩, (zcI_6_13 9 rfl rfl), (zpI_5 5 rfl rfl)⟩
abbrev mt_X12_evening : zMT := (RX12, yX12_evening, cX12_evening, 2, none, 6, 141)
theorem zm_X12_evening : zMthV mt_X12_evening 1 := ⟨⟨(zcI_6_12 10 rfl rfl), (zcI_1_1 1 rfl rfl), ⟨by decide, by decide⟩, rfl⟩, (zcI_6_12 9 rfl rfl), (zpI_5 1 rfl rfl)⟩
abbrev mt_X12_evenings : zMT := (RX12, yX12_evenings, cX12_evenings, 3, none, 7, 162)
theorem zm_X12_evenings : zMthV mt_X12_evenings 1 := ⟨⟨(zcI_6_12 6 rfl rfl), (zcI_1_1 1 rfl rfl), ⟨by decide, by decide⟩, rfl⟩, (zcI_6_12 5 rfl rfl), (zpI_5 0 rfl rfl)⟩
abbrev mt_X12_house : zMT := (RX12, yX12_house, cX12_house, 3, (some .int), 5, 117)
theorem zm_X12_house : zMthV mt_X12_house 2 := ⟨⟨(zcI_6_9 4 rfl rfl), (zcI_1_1 1 rfl rfl), ⟨by decide, by decide⟩, rfl⟩, (zcI_6_9 2 rfl rfl), (zcI_6_9 3 rfl rfl)⟩
abbrev mt_X12_keeps : zMT := (RX12, yX12_keeps, cX12_keeps, 2, none, 0, 0)
theorem zm_X12_keeps : zMthV mt_X12_keeps 0 := ⟨⟨(zcI_6_14 2 rfl rfl), (zcI_1_1 1 rfl rfl), ⟨by decide, by decide⟩, rfl⟩, (zcI_6_14 1 rfl rfl), (zpI_5 7 rfl rfl)⟩
abbrev mt_X12_run : zMT := (RX12, yX12_run, cX12_run, 2, (some .int), 8, 184)
theorem zm_X12_run : zMthV mt_X12_run 1 := ⟨⟨(zcI_6_12 2 rfl rfl), (zcI_1_1 1 rfl rfl), ⟨by decide, by decide⟩, rfl⟩, (zcI_6_12 0 rfl rfl), (zcI_6_12 1 rfl rfl)⟩
abbrev mt_X12_give : zMT := (RX12, yX12_give, cX12_give, 4, (some .boolean), 2, 43)
theorem zm_X12_give : zMthV mt_X12_give 3 := ⟨⟨(zcI_6_14 6 rfl rfl), (zcI_1_1 1 rfl rfl), ⟨by decide, by decide⟩, rfl⟩, (zcI_6_14 4 rfl rfl), (zcI_6_14 5 rfl rfl)⟩
abbrev mt_X12_hide : zMT := (RX12, yX12_hide, cX12_hide, 3, (some .boolean), 2, 43)
theorem zm_X12_hide : zMthV mt_X12_hide 2 := ⟨⟨(zcI_6_14 10 rfl rfl), (zcI_1_1 1 rfl rfl), ⟨by decide, by decide⟩, rfl⟩, (zcI_6_14 8 rfl rfl), (zcI_6_14 9 rfl rfl)⟩
abbrev mt_X12_grab : zMT := (RX12, yX12_grab, cX12_grab, 3, (some .int), 2, 43)
theorem zm_X12_grab : zMthV mt_X12_grab 1 := ⟨⟨(zcI_6_14 14 rfl rfl), (zcI_1_1 1 rfl rfl), ⟨by decide, by decide⟩, rfl⟩, (zcI_6_14 12 rfl rfl), (zcI_6_14 13 rfl rfl)⟩
abbrev mt_X12_builds : zMT := (RX12, yX12_builds, cX12_builds, 5, none, 0, 0)
theorem zm_X12_builds : zMthV mt_X12_builds 2 := ⟨⟨(zcI_7_0 6 rfl rfl), (zcI_1_1 1 rfl rfl), ⟨by decide, by decide⟩, rfl⟩, (zcI_7_0 5 rfl rfl), (zpI_5 8 rfl rfl)⟩
abbrev mt_X12_goes : zMT := (RX12, yX12_goes, cX12_goes, 4, none, 0, 0)
theorem zm_X12_goes : zMthV mt_X12_goes 1 := ⟨⟨(zcI_7_0 14 rfl rfl), (zcI_1_1 1 rfl rfl), ⟨by decide, by decide⟩, rfl⟩, (zcI_7_0 13 rfl rfl), (zpI_5 9 rfl rfl)⟩
abbrev mt_X12_build : zMT := (RX12, yX12_build, cX12_build, 3, (some .int), 1, 24)
theorem zm_X12_build : zMthV mt_X12_build 2 := ⟨⟨(zcI_7_0 2 rfl rfl), (zcI_1_1 1 rfl rfl), ⟨by decide, by decide⟩, rfl⟩, (zcI_7_0 0 rfl rfl), (zcI_7_0 1 rfl rfl)⟩
abbrev mt_X12_burn : zMT := (RX12, yX12_burn, cX12_burn, 3, (some .int), 2, 43)
theorem zm_X12_burn : zMthV mt_X12_burn 1 := ⟨⟨(zcI_7_0 10 rfl rfl), (zcI_1_1 1 rfl rfl), ⟨by decide, by decide⟩, rfl⟩, (zcI_7_0 8 rfl rfl), (zcI_7_0 9 rfl rfl)⟩
abbrev mt_X12_join : zMT := (RX12, yX12_join, cX12_join, 5, (some .int), 2, 43)
theorem zm_X12_join : zMthV mt_X12_join 1 := ⟨⟨(zcI_7_1 2 rfl rfl), (zcI_1_1 1 rfl rfl), ⟨by decide, by decide⟩, rfl⟩, (zcI_7_1 0 rfl rfl), (zcI_7_1 1 rfl rfl)⟩
abbrev mt_X12_undo : zMT := (RX12, yX12_undo, cX12_undo, 2, (some .boolean), 0, 0)
theorem zm_X12_undo : zMthV mt_X12_undo 0 := ⟨⟨(zcI_7_1 6 rfl rfl), (zcI_1_1 1 rfl rfl), ⟨by decide, by decide⟩, rfl⟩, (zcI_7_1 4 rfl rfl), (zcI_7_1 5 rfl rfl)⟩
abbrev mt_X12_isAlike : zMT := (RX12, yX12_isAlike, cX12_isAlike, 4, (some .boolean), 0, 0)
theorem zm_X12_isAlike : zMthV mt_X12_isAlike 2 := ⟨⟨(zcI_7_1 14 rfl rfl), (zcI_1_1 1 rfl rfl), ⟨by decide, by decide⟩, rfl⟩, (zcI_7_1 13 rfl rfl), (zpI_5 10 rfl rfl)⟩
abbrev mt_X12_becomes : zMT := (RX12, yX12_becomes, cX12_becomes, 4, (some .int), 7, 162)
theorem zm_X12_becomes : zMthV mt_X12_becomes 1 := ⟨⟨(zcI_7_1 10 rfl rfl), (zcI_1_1 1 rfl rfl), ⟨by decide, by decide⟩, rfl⟩, (zcI_7_1 8 rfl rfl), (zcI_7_1 9 rfl rfl)⟩
abbrev mt_X12_apartNow : zMT := (RX12, yX12_apartNow, cX12_apartNow, 4, (some .int), 0, 0)
theorem zm_X12_apartNow : zMthV mt_X12_apartNow 0 := ⟨⟨(zcI_7_2 6 rfl rfl), (zcI_1_1 1 rfl rfl), ⟨by decide, by decide⟩, rfl⟩, (zcI_7_2 5 rfl rfl), (zpI_5 11 rfl rfl)⟩
abbrev mt_X12_apart : zMT := (RX12, yX12_apart, cX12_apart, 2, (some .int), 8, 184)
theorem zm_X12_apart : zMthV mt_X12_apart 1 := ⟨⟨(zcI_7_2 2 rfl rfl), (zcI_1_1 1 rfl rfl), ⟨by decide, by decide⟩, rfl⟩, (zcI_7_2 0 rfl rfl), (zcI_7_2 1 rfl rfl)⟩
abbrev mt_X12_evenBy : zMT := (RX12, yX12_evenBy, cX12_evenBy, 4, (some .int), 7, 162)
theorem zm_X12_evenBy : zMthV mt_X12_evenBy 2 := ⟨⟨(zcI_7_2 14 rfl rfl), (zcI_1_1 1 rfl rfl), ⟨by decide, by decide⟩, rfl⟩, (zcI_7_2 13 rfl rfl), (zpI_5 12 rfl rfl)⟩
abbrev mt_X12_even : zMT := (RX12, yX12_even, cX12_even, 3, (some .int), 8, 185)
theorem zm_X12_even : zMthV mt_X12_even 2 := ⟨⟨(zcI_7_2 10 rfl rfl), (zcI_1_1 1 rfl rfl), ⟨by decide, by decide⟩, rfl⟩, (zcI_7_2 8 rfl rfl), (zcI_7_2 9 rfl rfl)⟩
abbrev mt_X12_soonest : zMT := (RX12, yX12_soonest, cX12_soonest, 6, (some .int), 8, 185)
theorem zm_X12_soonest : zMthV mt_X12_soonest 1 := ⟨⟨(zcI_7_3 2 rfl rfl), (zcI_1_1 1 rfl rfl), ⟨by decide, by decide⟩, rfl⟩, (zcI_7_3 0 rfl rfl), (zcI_7_3 1 rfl rfl)⟩
abbrev mt_X12_start : zMT := (RX12, yX12_start, cX12_start, 6, (some .int), 6, 141)
theorem zm_X12_start : zMthV mt_X12_start 2 := ⟨⟨(zcI_7_3 6 rfl rfl), (zcI_1_1 1 rfl rfl), ⟨by decide, by decide⟩, rfl⟩, (zcI_7_3 4 rfl rfl), (zcI_7_3 5 rfl rfl)⟩
abbrev mt_X12_paidBy : zMT := (RX12, yX12_paidBy, cX12_paidBy, 2, (some .int), 7, 162)
theorem zm_X12_paidBy : zMthV mt_X12_paidBy 1 := ⟨⟨(zcI_7_3 15 rfl rfl), (zcI_1_1 1 rfl rfl), ⟨by decide, by decide⟩, rfl⟩, (zcI_7_3 14 rfl rfl), (zpI_5 13 rfl rfl)⟩
abbrev mt_X12_wealth : zMT := (RX12, yX12_wealth, cX12_wealth, 5, (some .int), 8, 183)
theorem zm_X12_wealth : zMthV mt_X12_wealth 3 := ⟨⟨(zcI_7_3 10 rfl rfl), (zcI_1_1 1 rfl rfl), ⟨by decide, by decide⟩, rfl⟩, (zcI_7_3 8 rfl rfl), (zcI_7_3 9 rfl rfl)⟩
abbrev mt_X12_frees : zMT := (RX12, yX12_frees, cX12_frees, 6, (some .int), 5, 117)
theorem zm_X12_frees : zMthV mt_X12_frees 1 := ⟨⟨(zcI_7_4 7 rfl rfl), (zcI_1_1 1 rfl rfl), ⟨by decide, by decide⟩, rfl⟩, (zcI_7_4 6 rfl rfl), (zpI_5 14 rfl rfl)⟩
abbrev mt_X12_free : zMT := (RX12, yX12_free, cX12_free, 4, (some .int), 6, 142)
theorem zm_X12_free : zMthV mt_X12_free 2 := ⟨⟨(zcI_7_4 3 rfl rfl), (zcI_1_1 1 rfl rfl), ⟨by decide, by decide⟩, rfl⟩, (zcI_7_4 1 rfl rfl), (zcI_7_4 2 rfl rfl)⟩
abbrev mt_X12_best : zMT := (RX12, yX12_best, cX12_best, 11, (some .int), 8, 184)
theorem zm_X12_best : zMthV mt_X12_best 4 := ⟨⟨(zcI_7_4 11 rfl rfl), (zcI_1_1 1 rfl rfl), ⟨by decide, by decide⟩, rfl⟩, (zcI_7_4 9 rfl rfl), (zcI_7_4 10 rfl rfl)⟩
abbrev mt_X12_loan : zMT := (RX12, yX12_loan, cX12_loan, 8, (some .int), 8, 184)
theorem zm_X12_loan : zMthV mt_X12_loan 4 := ⟨⟨(zcI_7_4 15 rfl rfl), (zcI_1_1 1 rfl rfl), ⟨by decide, by decide⟩, rfl⟩, (zcI_7_4 13 rfl rfl), (zcI_7_4 14 rfl rfl)⟩
abbrev mt_X12_site : zMT := (RX12, yX12_site, cX12_site, 7, (some .int), 5, 117)
theorem zm_X12_site : zMthV mt_X12_site 1 := ⟨⟨(zcI_7_5 3 rfl rfl), (zcI_1_1 1 rfl rfl), ⟨by decide, by decide⟩, rfl⟩, (zcI_7_5 1 rfl rfl), (zcI_7_5 2 rfl rfl)⟩
abbrev mt_X12_hides : zMT := (RX12, yX12_hides, cX12_hides, 4, none, 1, 21)
theorem zm_X12_hides : zMthV mt_X12_hides 2 := ⟨⟨(zcI_7_5 11 rfl rfl), (zcI_1_1 1 rfl rfl), ⟨by decide, by decide⟩, rfl⟩, (zcI_7_5 10 rfl rfl), (zpI_5 15 rfl rfl)⟩
abbrev mt_X12_isResting : zMT := (RX12, yX12_isResting, cX12_isResting, 3, (some .boolean), 0, 0)
theorem zm_X12_isResting : zMthV mt_X12_isResting 1 := ⟨⟨(zcI_7_5 15 rfl rfl), (zcI_1_1 1 rfl rfl), ⟨by decide, by decide⟩, rfl⟩, (zcI_7_5 14 rfl rfl), (zpI_6 0 rfl rfl)⟩
abbrev mt_X12_rests : zMT := (RX12, yX12_rests, cX12_rests, 5, (some .int), 8, 184)
theorem zm_X12_rests : zMthV mt_X12_rests 2 := ⟨⟨(zcI_7_5 7 rfl rfl), (zcI_1_1 1 rfl rfl), ⟨by decide, by decide⟩, rfl⟩, (zcI_7_5 5 rfl rfl), (zcI_7_5 6 rfl rfl)⟩
abbrev mt_X12_tell_ : zMT := (RX12, yX12_tell_, cX12_tell_, 3, (some .int), 2, 43)
theorem zm_X12_tell_ : zMthV mt_X12_tell_ 2 := ⟨⟨(zcI_7_6 3 rfl rfl), (zcI_1_1 1 rfl rfl), ⟨by decide, by decide⟩, rfl⟩, (zcI_7_6 1 rfl rfl), (zcI_7_6 2 rfl rfl)⟩
abbrev mt_X12_forget : zMT := (RX12, yX12_forget, cX12_forget, 2, (some .int), 0, 0)
theorem zm_X12_forget : zMthV mt_X12_forget 0 := ⟨⟨(zcI_7_6 7 rfl rfl), (zcI_1_1 1 rfl rfl), ⟨by decide, by decide⟩, rfl⟩, (zcI_7_6 5 rfl rfl), (zcI_7_6 6 rfl rfl)⟩
abbrev mt_X12_rowsOf : zMT := (RX12, yX12_rowsOf, cX12_rowsOf, 4, (some .int), 0, 0)
theorem zm_X12_rowsOf : zMthV mt_X12_rowsOf 1 := ⟨⟨(zcI_7_7 3 rfl rfl), (zcI_1_1 1 rfl rfl), ⟨by decide, by decide⟩, rfl⟩, (zcI_7_7 2 rfl rfl), (zpI_6 2 rfl rfl)⟩
abbrev mt_X12_takesRow : zMT := (RX12, yX12_takesRow, cX12_takesRow, 5, none, 1, 21)
theorem zm_X12_takesRow : zMthV mt_X12_takesRow 2 := ⟨⟨(zcI_7_7 8 rfl rfl), (zcI_1_1 1 rfl rfl), ⟨by decide, by decide⟩, rfl⟩, (zcI_7_7 7 rfl rfl), (zpI_6 3 rfl rfl)⟩
abbrev mt_X12_fillsFits : zMT := (RX12, yX12_fillsFits, cX12_fillsFits, 8, (some .int), 6, 141)
theorem zm_X12_fillsFits : zMthV mt_X12_fillsFits 2 := ⟨⟨(zcI_7_6 15 rfl rfl), (zcI_1_1 1 rfl rfl), ⟨by decide, by decide⟩, rfl⟩, (zcI_7_6 14 rfl rfl), (zpI_6 1 rfl rfl)⟩
abbrev mt_X12_fits : zMT := (RX12, yX12_fits, cX12_fits, 3, (some .int), 7, 168)
theorem zm_X12_fits : zMthV mt_X12_fits 2 := ⟨⟨(zcI_7_6 11 rfl rfl), (zcI_1_1 1 rfl rfl), ⟨by decide, by decide⟩, rfl⟩, (zcI_7_6 9 rfl rfl), (zcI_7_6 10 rfl rfl)⟩
abbrev mt_X12_span : zMT := (RX12, yX12_span, cX12_span, 4, (some .int), 7, 168)
theorem zm_X12_span : zMthV mt_X12_span 3 := ⟨⟨(zcI_7_7 12 rfl rfl), (zcI_1_1 1 rfl rfl), ⟨by decide, by decide⟩, rfl⟩, (zcI_7_7 10 rfl rfl), (zcI_7_7 11 rfl rfl)⟩
abbrev mt_X12_ago : zMT := (RX12, yX12_ago, cX12_ago, 7, (some .int), 6, 141)
theorem zm_X12_ago : zMthV mt_X12_ago 1 := ⟨⟨(zcI_7_8 0 rfl rfl), (zcI_1_1 1 rfl rfl), ⟨by decide, by decide⟩, rfl⟩, (zcI_7_7 14 rfl rfl), (zcI_7_7 15 rfl rfl)⟩
abbrev mt_X12_hold : zMT := (RX12, yX12_hold, cX12_hold, 3, (some .boolean), 1, 22)
theorem zm_X12_hold : zMthV mt_X12_hold 1 := ⟨⟨(zcI_7_8 4 rfl rfl), (zcI_1_1 1 rfl rfl), ⟨by decide, by decide⟩, rfl⟩, (zcI_7_8 2 rfl rfl), (zcI_7_8 3 rfl rfl)⟩
abbrev mt_X12_restore : zMT := (RX12, yX12_restore, cX12_restore, 3, (some .boolean), 1, 22)
theorem zm_X12_restore : zMthV mt_X12_restore 1 := ⟨⟨(zcI_7_8 8 rfl rfl), (zcI_1_1 1 rfl rfl), ⟨by decide, by decide⟩, rfl⟩, (zcI_7_8 6 rfl rfl), (zcI_7_8 7 rfl rfl)⟩
abbrev mt_X12_count : zMT := (RX12, yX12_count, cX12_count, 4, (some .int), 0, 0)
theorem zm_X12_count : zMthV mt_X12_count 1 := ⟨⟨(zcI_7_8 12 rfl rfl), (zcI_1_1 1 rfl rfl), ⟨by decide, by decide⟩, rfl⟩, (zcI_7_8 10 rfl rfl), (zcI_7_8 11 rfl rfl)⟩
theorem zl_L_9 : zLnk RL 9 yX11_init false := Or.inl ⟨rfl, (zcI_1_1 5 rfl rfl)⟩
theorem zl_X11_9 : zLnk RX11 9 yX8_init true := Or.inr ⟨rfl, "RingPurses", (zcI_1_1 13 rfl rfl)⟩
theorem zl_X11_18 : zLnk RX11 18 yX5_init true := Or.inr ⟨rfl, "RingPurses", (zcI_1_2 13 rfl rfl)⟩
theorem zl_X5_11 : zLnk RX5 11 yX9_init false := Or.inl ⟨rfl, (zcI_1_3 3 rfl rfl)⟩
theorem zl_X9_37 : zLnk RX9 37 yX9_spelled false := Or.inl ⟨rfl, (zcI_1_6 8 rfl rfl)⟩
theorem zl_X11_25 : zLnk RX11 25 yX6_init true := Or.inr ⟨rfl, "RingPurses", (zcI_1_10 2 rfl rfl)⟩
theorem zl_X11_32 : zLnk RX11 32 yX2_init false := Or.inl ⟨rfl, (zcI_1_13 7 rfl rfl)⟩
theorem zl_X2_24 : zLnk RX2 24 yX6_init true := Or.inr ⟨rfl, "RingPurses", (zcI_1_13 13 rfl rfl)⟩
theorem zl_X11_39 : zLnk RX11 39 yX1_init true := Or.inr ⟨rfl, "RingPurses", (zcI_2_0 2 rfl rfl)⟩
theorem zl_X1_11 : zLnk RX1 11 yX6_init true := Or.inr ⟨rfl, "RingPurses", (zcI_2_0 7 rfl rfl)⟩
theorem zl_X11_46 : zLnk RX11 46 yX0_init true := Or.inr ⟨rfl, "RingPurses", (zcI_2_1 1 rfl rfl)⟩
theorem zl_X0_11 : zLnk RX0 11 yX6_init true := Or.inr ⟨rfl, "RingPurses", (zcI_2_1 6 rfl rfl)⟩
theorem zl_X11_53 : zLnk RX11 53 yX4_init true := Or.inr ⟨rfl, "RingPurses", (zcI_2_2 9 rfl rfl)⟩
theorem zl_X4_11 : zLnk RX4 11 yX6_init true := Or.inr ⟨rfl, "RingPurses", (zcI_2_2 14 rfl rfl)⟩
theorem zl_X11_60 : zLnk RX11 60 yX10_init true := Or.inr ⟨rfl, "RingPurses", (zcI_2_3 8 rfl rfl)⟩
theorem zl_X10_29 : zLnk RX10 29 yX6_init true := Or.inr ⟨rfl, "RingPurses", (zcI_2_3 13 rfl rfl)⟩
theorem zl_X11_67 : zLnk RX11 67 yX7_init false := Or.inl ⟨rfl, (zcI_2_6 6 rfl rfl)⟩
theorem zl_X7_11 : zLnk RX7 11 yX3_init true := Or.inr ⟨rfl, "RingPurses", (zcI_2_6 12 rfl rfl)⟩
theorem zl_X7_31 : zLnk RX7 31 yX7_clear false := Or.inl ⟨rfl, (zcI_2_8 2 rfl rfl)⟩
theorem zl_X7_34 : zLnk RX7 34 yX3_beSeen false := Or.inl ⟨rfl, (zcI_2_8 6 rfl rfl)⟩
theorem zl_X3_29 : zLnk RX3 29 yX3_clear false := Or.inl ⟨rfl, (zcI_2_8 10 rfl rfl)⟩
theorem zl_X3_32 : zLnk RX3 32 yX3_add false := Or.inl ⟨rfl, (zcI_2_8 14 rfl rfl)⟩
theorem zl_X7_38 : zLnk RX7 38 yX3_beNumber false := Or.inl ⟨rfl, (zcI_2_9 2 rfl rfl)⟩
theorem zl_X11_79 : zLnk RX11 79 yX6_begin false := Or.inl ⟨rfl, (zcI_2_12 8 rfl rfl)⟩
theorem zl_X6_44 : zLnk RX6 44 yX6_insert false := Or.inl ⟨rfl, (zcI_2_12 12 rfl rfl)⟩
theorem zl_X6_68 : zLnk RX6 68 yX6_isFull false := Or.inl ⟨rfl, (zcI_2_13 0 rfl rfl)⟩
theorem zl_X6_72 : zLnk RX6 72 yX6_copyHouse false := Or.inl ⟨rfl, (zcI_2_13 4 rfl rfl)⟩
theorem zl_L_13 : zLnk RL 13 yX11_feed false := Or.inl ⟨rfl, (zcI_3_0 10 rfl rfl)⟩
theorem zl_X11_86 : zLnk RX11 86 yX8_put false := Or.inl ⟨rfl, (zcI_3_0 14 rfl rfl)⟩
theorem zl_L_18 : zLnk RL 18 yX11_back false := Or.inl ⟨rfl, (zcI_3_1 2 rfl rfl)⟩
theorem zl_L_23 : zLnk RL 23 yX11_read false := Or.inl ⟨rfl, (zcI_3_1 6 rfl rfl)⟩
theorem zl_X11_90 : zLnk RX11 90 yX5_parse false := Or.inl ⟨rfl, (zcI_3_1 10 rfl rfl)⟩
theorem zl_X5_30 : zLnk RX5 30 yX9_scan false := Or.inl ⟨rfl, (zcI_3_1 14 rfl rfl)⟩
theorem zl_X9_49 : zLnk RX9 49 yX8_byteAt false := Or.inl ⟨rfl, (zcI_3_2 2 rfl rfl)⟩
theorem zl_X9_53 : zLnk RX9 53 yX9_kindOf false := Or.inl ⟨rfl, (zcI_3_2 6 rfl rfl)⟩
theorem zl_X9_56 : zLnk RX9 56 yX9_open false := Or.inl ⟨rfl, (zcI_3_2 9 rfl rfl)⟩
theorem zl_X9_60 : zLnk RX9 60 yX9_grow false := Or.inl ⟨rfl, (zcI_3_2 13 rfl rfl)⟩
theorem zl_X9_64 : zLnk RX9 64 yX9_close false := Or.inl ⟨rfl, (zcI_3_3 2 rfl rfl)⟩
theorem zl_X9_73 : zLnk RX9 73 yX9_wordOrName false := Or.inl ⟨rfl, (zcI_3_3 6 rfl rfl)⟩
theorem zl_X5_34 : zLnk RX5 34 yX7_clear false := Or.inl ⟨rfl, (zcI_3_3 10 rfl rfl)⟩
theorem zl_X5_51 : zLnk RX5 51 yX9_kindAt false := Or.inl ⟨rfl, (zcI_3_3 11 rfl rfl)⟩
theorem zl_X5_55 : zLnk RX5 55 yX5_tellHouse false := Or.inl ⟨rfl, (zcI_3_3 15 rfl rfl)⟩
theorem zl_X5_87 : zLnk RX5 87 yX5_failAt false := Or.inl ⟨rfl, (zcI_3_4 3 rfl rfl)⟩
theorem zl_X5_161 : zLnk RX5 161 yX9_placeOf false := Or.inl ⟨rfl, (zcI_3_4 7 rfl rfl)⟩
theorem zl_X5_59 : zLnk RX5 59 yX5_take false := Or.inl ⟨rfl, (zcI_3_4 11 rfl rfl)⟩
theorem zl_X5_94 : zLnk RX5 94 yX9_valueOf false := Or.inl ⟨rfl, (zcI_3_4 15 rfl rfl)⟩
theorem zl_X5_98 : zLnk RX5 98 yX5_failLater false := Or.inl ⟨rfl, (zcI_3_5 3 rfl rfl)⟩
theorem zl_X5_101 : zLnk RX5 101 yX7_addHouse false := Or.inl ⟨rfl, (zcI_3_5 7 rfl rfl)⟩
theorem zl_X5_74 : zLnk RX5 74 yX5_tellLaw false := Or.inl ⟨rfl, (zcI_3_5 11 rfl rfl)⟩
theorem zl_X5_111 : zLnk RX5 111 yX3_clear false := Or.inl ⟨rfl, (zcI_3_5 15 rfl rfl)⟩
theorem zl_X5_114 : zLnk RX5 114 yX5_readBranch false := Or.inl ⟨rfl, (zcI_3_6 0 rfl rfl)⟩
theorem zl_X5_118 : zLnk RX5 118 yX5_readSum false := Or.inl ⟨rfl, (zcI_3_6 4 rfl rfl)⟩
theorem zl_X5_136 : zLnk RX5 136 yX5_readUnit false := Or.inl ⟨rfl, (zcI_3_6 8 rfl rfl)⟩
theorem zl_X5_152 : zLnk RX5 152 yX5_await false := Or.inl ⟨rfl, (zcI_3_6 12 rfl rfl)⟩
theorem zl_X5_121 : zLnk RX5 121 yX3_add false := Or.inl ⟨rfl, (zcI_3_7 0 rfl rfl)⟩
theorem zl_X5_140 : zLnk RX5 140 yX5_readClose false := Or.inl ⟨rfl, (zcI_3_7 1 rfl rfl)⟩
theorem zl_X5_149 : zLnk RX5 149 yX5_putSigns false := Or.inl ⟨rfl, (zcI_3_7 5 rfl rfl)⟩
theorem zl_X5_143 : zLnk RX5 143 yX5_bond false := Or.inl ⟨rfl, (zcI_3_7 12 rfl rfl)⟩
theorem zl_X5_146 : zLnk RX5 146 yX5_readSign false := Or.inl ⟨rfl, (zcI_3_7 15 rfl rfl)⟩
theorem zl_X5_127 : zLnk RX5 127 yX3_leadHere false := Or.inl ⟨rfl, (zcI_3_8 3 rfl rfl)⟩
theorem zl_X5_81 : zLnk RX5 81 yX5_tellShared false := Or.inl ⟨rfl, (zcI_3_8 7 rfl rfl)⟩
theorem zl_X5_105 : zLnk RX5 105 yX7_share false := Or.inl ⟨rfl, (zcI_3_8 11 rfl rfl)⟩
theorem zl_X5_84 : zLnk RX5 84 yX5_tellSeed false := Or.inl ⟨rfl, (zcI_3_8 15 rfl rfl)⟩
theorem zl_X11_94 : zLnk RX11 94 yX5_faultPlace false := Or.inl ⟨rfl, (zcI_3_9 3 rfl rfl)⟩
theorem zl_X11_97 : zLnk RX11 97 yX11_goOnFromSpare false := Or.inl ⟨rfl, (zcI_3_9 7 rfl rfl)⟩
theorem zl_X11_100 : zLnk RX11 100 yX2_clear false := Or.inl ⟨rfl, (zcI_3_9 11 rfl rfl)⟩
theorem zl_X2_25 : zLnk RX2 25 yX2_forgetPast false := Or.inl ⟨rfl, (zcI_3_9 15 rfl rfl)⟩
theorem zl_X11_103 : zLnk RX11 103 yX10_clear false := Or.inl ⟨rfl, (zcI_3_10 3 rfl rfl)⟩
theorem zl_L_28 : zLnk RL 28 yX11_place false := Or.inl ⟨rfl, (zcI_3_10 7 rfl rfl)⟩
theorem zl_L_32 : zLnk RL 32 yX11_house false := Or.inl ⟨rfl, (zcI_3_10 11 rfl rfl)⟩
theorem zl_X11_104 : zLnk RX11 104 yX6_has false := Or.inl ⟨rfl, (zcI_3_10 15 rfl rfl)⟩
theorem zl_X11_115 : zLnk RX11 115 yX6_shown false := Or.inl ⟨rfl, (zcI_3_11 3 rfl rfl)⟩
theorem zl_X11_119 : zLnk RX11 119 yX7_gapOf false := Or.inl ⟨rfl, (zcI_3_11 7 rfl rfl)⟩
theorem zl_X7_61 : zLnk RX7 61 yX6_has false := Or.inl ⟨rfl, (zcI_3_11 11 rfl rfl)⟩
theorem zl_X7_67 : zLnk RX7 67 yX7_look false := Or.inl ⟨rfl, (zcI_3_11 12 rfl rfl)⟩
theorem zl_X7_88 : zLnk RX7 88 yX6_shown false := Or.inl ⟨rfl, (zcI_3_12 0 rfl rfl)⟩
theorem zl_X7_101 : zLnk RX7 101 yX7_lot false := Or.inl ⟨rfl, (zcI_3_12 4 rfl rfl)⟩
theorem zl_X11_123 : zLnk RX11 123 yX7_wanted false := Or.inl ⟨rfl, (zcI_3_12 9 rfl rfl)⟩
theorem zl_X7_74 : zLnk RX7 74 yX3_value false := Or.inl ⟨rfl, (zcI_3_12 13 rfl rfl)⟩
theorem zl_X3_36 : zLnk RX3 36 yX3_combined false := Or.inl ⟨rfl, (zcI_3_13 1 rfl rfl)⟩
theorem zl_L_37 : zLnk RL 37 yX11_run false := Or.inl ⟨rfl, (zcI_3_13 8 rfl rfl)⟩
theorem zl_X11_133 : zLnk RX11 133 yX11_isEvenings false := Or.inl ⟨rfl, (zcI_3_13 12 rfl rfl)⟩
theorem zl_X11_136 : zLnk RX11 136 yX2_note false := Or.inl ⟨rfl, (zcI_3_13 15 rfl rfl)⟩
theorem zl_X2_35 : zLnk RX2 35 yX6_copy false := Or.inl ⟨rfl, (zcI_3_14 3 rfl rfl)⟩
theorem zl_X11_143 : zLnk RX11 143 yX7_evenings false := Or.inl ⟨rfl, (zcI_3_14 7 rfl rfl)⟩
theorem zl_X7_105 : zLnk RX7 105 yX7_evening false := Or.inl ⟨rfl, (zcI_3_14 11 rfl rfl)⟩
theorem zl_X7_108 : zLnk RX7 108 yX7_earn false := Or.inl ⟨rfl, (zcI_3_14 15 rfl rfl)⟩
theorem zl_X7_121 : zLnk RX7 121 yX6_earn false := Or.inl ⟨rfl, (zcI_4_0 3 rfl rfl)⟩
theorem zl_X6_48 : zLnk RX6 48 yX6_has false := Or.inl ⟨rfl, (zcI_4_0 7 rfl rfl)⟩
theorem zl_X7_112 : zLnk RX7 112 yX7_payByTurns false := Or.inl ⟨rfl, (zcI_4_0 8 rfl rfl)⟩
theorem zl_X7_124 : zLnk RX7 124 yX7_wanted false := Or.inl ⟨rfl, (zcI_4_0 12 rfl rfl)⟩
theorem zl_X7_128 : zLnk RX7 128 yX6_pay false := Or.inl ⟨rfl, (zcI_4_0 13 rfl rfl)⟩
theorem zl_X7_115 : zLnk RX7 115 yX7_payAtOnce false := Or.inl ⟨rfl, (zcI_4_1 1 rfl rfl)⟩
theorem zl_X7_118 : zLnk RX7 118 yX6_sharePot false := Or.inl ⟨rfl, (zcI_4_1 5 rfl rfl)⟩
theorem zl_X6_61 : zLnk RX6 61 yX6_mostPaying false := Or.inl ⟨rfl, (zcI_4_1 9 rfl rfl)⟩
theorem zl_X6_65 : zLnk RX6 65 yX6_earn false := Or.inl ⟨rfl, (zcI_4_1 13 rfl rfl)⟩
theorem zl_L_41 : zLnk RL 41 yX11_give false := Or.inl ⟨rfl, (zcI_4_1 14 rfl rfl)⟩
theorem zl_X11_150 : zLnk RX11 150 yX6_move false := Or.inl ⟨rfl, (zcI_4_2 2 rfl rfl)⟩
theorem zl_L_46 : zLnk RL 46 yX11_hide false := Or.inl ⟨rfl, (zcI_4_2 6 rfl rfl)⟩
theorem zl_L_51 : zLnk RL 51 yX11_grab false := Or.inl ⟨rfl, (zcI_4_2 10 rfl rfl)⟩
theorem zl_L_55 : zLnk RL 55 yX11_build false := Or.inl ⟨rfl, (zcI_4_2 14 rfl rfl)⟩
theorem zl_X11_160 : zLnk RX11 160 yX6_isFull false := Or.inl ⟨rfl, (zcI_4_3 2 rfl rfl)⟩
theorem zl_X11_164 : zLnk RX11 164 yX11_isPurse false := Or.inl ⟨rfl, (zcI_4_3 3 rfl rfl)⟩
theorem zl_X11_167 : zLnk RX11 167 yX6_insert false := Or.inl ⟨rfl, (zcI_4_3 6 rfl rfl)⟩
theorem zl_L_59 : zLnk RL 59 yX11_burn false := Or.inl ⟨rfl, (zcI_4_3 7 rfl rfl)⟩
theorem zl_X11_171 : zLnk RX11 171 yX6_remove false := Or.inl ⟨rfl, (zcI_4_3 11 rfl rfl)⟩
theorem zl_L_63 : zLnk RL 63 yX11_join false := Or.inl ⟨rfl, (zcI_4_3 15 rfl rfl)⟩
theorem zl_X11_178 : zLnk RX11 178 yX6_merge false := Or.inl ⟨rfl, (zcI_4_4 3 rfl rfl)⟩
theorem zl_X6_75 : zLnk RX6 75 yX6_remove false := Or.inl ⟨rfl, (zcI_4_4 7 rfl rfl)⟩
theorem zl_X11_181 : zLnk RX11 181 yX6_purseOf false := Or.inl ⟨rfl, (zcI_4_4 8 rfl rfl)⟩
theorem zl_L_67 : zLnk RL 67 yX11_undo false := Or.inl ⟨rfl, (zcI_4_4 12 rfl rfl)⟩
theorem zl_X11_184 : zLnk RX11 184 yX2_takeBack false := Or.inl ⟨rfl, (zcI_4_5 0 rfl rfl)⟩
theorem zl_L_72 : zLnk RL 72 yX11_becomes false := Or.inl ⟨rfl, (zcI_4_5 4 rfl rfl)⟩
theorem zl_X11_188 : zLnk RX11 188 yX1_period false := Or.inl ⟨rfl, (zcI_4_5 8 rfl rfl)⟩
theorem zl_X1_22 : zLnk RX1 22 yX1_walk false := Or.inl ⟨rfl, (zcI_4_5 12 rfl rfl)⟩
theorem zl_X1_30 : zLnk RX1 30 yX6_copy false := Or.inl ⟨rfl, (zcI_4_6 0 rfl rfl)⟩
theorem zl_X1_38 : zLnk RX1 38 yX6_has false := Or.inl ⟨rfl, (zcI_4_6 1 rfl rfl)⟩
theorem zl_X1_50 : zLnk RX1 50 yX7_evening false := Or.inl ⟨rfl, (zcI_4_6 2 rfl rfl)⟩
theorem zl_X1_26 : zLnk RX1 26 yX1_isSame false := Or.inl ⟨rfl, (zcI_4_6 3 rfl rfl)⟩
theorem zl_L_76 : zLnk RL 76 yX11_apart false := Or.inl ⟨rfl, (zcI_4_6 7 rfl rfl)⟩
theorem zl_X11_192 : zLnk RX11 192 yX1_spreadAfter false := Or.inl ⟨rfl, (zcI_4_6 11 rfl rfl)⟩
theorem zl_X1_57 : zLnk RX1 57 yX7_evenings false := Or.inl ⟨rfl, (zcI_4_6 15 rfl rfl)⟩
theorem zl_X1_61 : zLnk RX1 61 yX6_spread false := Or.inl ⟨rfl, (zcI_4_7 0 rfl rfl)⟩
theorem zl_L_80 : zLnk RL 80 yX11_even false := Or.inl ⟨rfl, (zcI_4_7 6 rfl rfl)⟩
theorem zl_X11_196 : zLnk RX11 196 yX1_evenAfter false := Or.inl ⟨rfl, (zcI_4_7 10 rfl rfl)⟩
theorem zl_L_84 : zLnk RL 84 yX11_soonest false := Or.inl ⟨rfl, (zcI_4_7 14 rfl rfl)⟩
theorem zl_X11_200 : zLnk RX11 200 yX1_soonestSharing false := Or.inl ⟨rfl, (zcI_4_8 2 rfl rfl)⟩
theorem zl_X1_65 : zLnk RX1 65 yX1_evenAfter false := Or.inl ⟨rfl, (zcI_4_8 6 rfl rfl)⟩
theorem zl_L_88 : zLnk RL 88 yX11_start false := Or.inl ⟨rfl, (zcI_4_8 7 rfl rfl)⟩
theorem zl_X11_203 : zLnk RX11 203 yX0_findStart false := Or.inl ⟨rfl, (zcI_4_8 11 rfl rfl)⟩
theorem zl_X0_25 : zLnk RX0 25 yX6_copy false := Or.inl ⟨rfl, (zcI_4_8 15 rfl rfl)⟩
theorem zl_X0_29 : zLnk RX0 29 yX7_payByTurns false := Or.inl ⟨rfl, (zcI_4_9 0 rfl rfl)⟩
theorem zl_X0_35 : zLnk RX0 35 yX6_purseOf false := Or.inl ⟨rfl, (zcI_4_9 1 rfl rfl)⟩
theorem zl_X0_39 : zLnk RX0 39 yX0_better false := Or.inl ⟨rfl, (zcI_4_9 2 rfl rfl)⟩
theorem zl_L_92 : zLnk RL 92 yX11_wealth false := Or.inl ⟨rfl, (zcI_4_9 6 rfl rfl)⟩
theorem zl_X11_214 : zLnk RX11 214 yX0_lessPaid false := Or.inl ⟨rfl, (zcI_4_9 11 rfl rfl)⟩
theorem zl_X0_52 : zLnk RX0 52 yX7_evening false := Or.inl ⟨rfl, (zcI_4_9 15 rfl rfl)⟩
theorem zl_X0_55 : zLnk RX0 55 yX6_paidBy false := Or.inl ⟨rfl, (zcI_4_10 0 rfl rfl)⟩
theorem zl_X0_58 : zLnk RX0 58 yX6_earn false := Or.inl ⟨rfl, (zcI_4_10 4 rfl rfl)⟩
theorem zl_L_97 : zLnk RL 97 yX11_free false := Or.inl ⟨rfl, (zcI_4_10 5 rfl rfl)⟩
theorem zl_X11_218 : zLnk RX11 218 yX0_findLeastGift false := Or.inl ⟨rfl, (zcI_4_10 9 rfl rfl)⟩
theorem zl_X0_62 : zLnk RX0 62 yX7_wanted false := Or.inl ⟨rfl, (zcI_4_10 13 rfl rfl)⟩
theorem zl_X0_66 : zLnk RX0 66 yX6_shown false := Or.inl ⟨rfl, (zcI_4_10 14 rfl rfl)⟩
theorem zl_X0_75 : zLnk RX0 75 yX0_isFreeBy false := Or.inl ⟨rfl, (zcI_4_11 0 rfl rfl)⟩
theorem zl_X0_79 : zLnk RX0 79 yX6_move false := Or.inl ⟨rfl, (zcI_4_11 4 rfl rfl)⟩
theorem zl_L_101 : zLnk RL 101 yX11_best false := Or.inl ⟨rfl, (zcI_4_11 5 rfl rfl)⟩
theorem zl_X11_224 : zLnk RX11 224 yX11_isUnit false := Or.inl ⟨rfl, (zcI_4_11 9 rfl rfl)⟩
theorem zl_X11_227 : zLnk RX11 227 yX0_findBestGift false := Or.inl ⟨rfl, (zcI_4_11 12 rfl rfl)⟩
theorem zl_X0_82 : zLnk RX0 82 yX7_evenings false := Or.inl ⟨rfl, (zcI_4_12 0 rfl rfl)⟩
theorem zl_L_106 : zLnk RL 106 yX11_loan false := Or.inl ⟨rfl, (zcI_4_12 1 rfl rfl)⟩
theorem zl_X11_231 : zLnk RX11 231 yX0_rate false := Or.inl ⟨rfl, (zcI_4_12 5 rfl rfl)⟩
theorem zl_L_111 : zLnk RL 111 yX11_site false := Or.inl ⟨rfl, (zcI_4_12 9 rfl rfl)⟩
theorem zl_X11_235 : zLnk RX11 235 yX0_bestSite false := Or.inl ⟨rfl, (zcI_4_12 13 rfl rfl)⟩
theorem zl_X0_90 : zLnk RX0 90 yX6_insert false := Or.inl ⟨rfl, (zcI_4_13 2 rfl rfl)⟩
theorem zl_L_115 : zLnk RL 115 yX11_rests false := Or.inl ⟨rfl, (zcI_4_13 3 rfl rfl)⟩
theorem zl_X11_238 : zLnk RX11 238 yX4_restAt false := Or.inl ⟨rfl, (zcI_4_13 7 rfl rfl)⟩
theorem zl_X4_26 : zLnk RX4 26 yX4_follow false := Or.inl ⟨rfl, (zcI_4_13 11 rfl rfl)⟩
theorem zl_X4_34 : zLnk RX4 34 yX6_copy false := Or.inl ⟨rfl, (zcI_4_13 15 rfl rfl)⟩
theorem zl_X4_38 : zLnk RX4 38 yX6_has false := Or.inl ⟨rfl, (zcI_4_14 0 rfl rfl)⟩
theorem zl_X4_59 : zLnk RX4 59 yX7_evening false := Or.inl ⟨rfl, (zcI_4_14 2 rfl rfl)⟩
theorem zl_X4_30 : zLnk RX4 30 yX4_isRest false := Or.inl ⟨rfl, (zcI_4_14 3 rfl rfl)⟩
theorem zl_L_119 : zLnk RL 119 yX11_tell false := Or.inl ⟨rfl, (zcI_4_14 7 rfl rfl)⟩
theorem zl_X11_241 : zLnk RX11 241 yX10_add false := Or.inl ⟨rfl, (zcI_4_14 11 rfl rfl)⟩
theorem zl_L_123 : zLnk RL 123 yX11_forget false := Or.inl ⟨rfl, (zcI_4_14 15 rfl rfl)⟩
theorem zl_L_127 : zLnk RL 127 yX11_fits false := Or.inl ⟨rfl, (zcI_5_0 3 rfl rfl)⟩
theorem zl_X11_248 : zLnk RX11 248 yX11_isInRow false := Or.inl ⟨rfl, (zcI_5_0 7 rfl rfl)⟩
theorem zl_X11_251 : zLnk RX11 251 yX10_rowsUpTo false := Or.inl ⟨rfl, (zcI_5_0 10 rfl rfl)⟩
theorem zl_X11_255 : zLnk RX11 255 yX10_goThroughFits false := Or.inl ⟨rfl, (zcI_5_1 0 rfl rfl)⟩
theorem zl_X10_42 : zLnk RX10 42 yX6_has false := Or.inl ⟨rfl, (zcI_5_1 4 rfl rfl)⟩
theorem zl_X10_52 : zLnk RX10 52 yX10_goThrough false := Or.inl ⟨rfl, (zcI_5_1 6 rfl rfl)⟩
theorem zl_X10_70 : zLnk RX10 70 yX6_copy false := Or.inl ⟨rfl, (zcI_5_1 10 rfl rfl)⟩
theorem zl_X10_77 : zLnk RX10 77 yX10_startRows false := Or.inl ⟨rfl, (zcI_5_1 11 rfl rfl)⟩
theorem zl_X10_83 : zLnk RX10 83 yX10_paysAsKnown false := Or.inl ⟨rfl, (zcI_5_1 15 rfl rfl)⟩
theorem zl_X10_100 : zLnk RX10 100 yX7_wanted false := Or.inl ⟨rfl, (zcI_5_2 3 rfl rfl)⟩
theorem zl_X10_104 : zLnk RX10 104 yX6_pay false := Or.inl ⟨rfl, (zcI_5_2 4 rfl rfl)⟩
theorem zl_X10_87 : zLnk RX10 87 yX10_note false := Or.inl ⟨rfl, (zcI_5_2 5 rfl rfl)⟩
theorem zl_X10_91 : zLnk RX10 91 yX10_stepRow false := Or.inl ⟨rfl, (zcI_5_2 10 rfl rfl)⟩
theorem zl_L_131 : zLnk RL 131 yX11_span false := Or.inl ⟨rfl, (zcI_5_2 14 rfl rfl)⟩
theorem zl_L_135 : zLnk RL 135 yX11_ago false := Or.inl ⟨rfl, (zcI_5_3 2 rfl rfl)⟩
theorem zl_X11_267 : zLnk RX11 267 yX10_goThroughAgo false := Or.inl ⟨rfl, (zcI_5_3 6 rfl rfl)⟩
theorem zl_L_139 : zLnk RL 139 yX11_hold false := Or.inl ⟨rfl, (zcI_5_3 10 rfl rfl)⟩
theorem zl_X11_270 : zLnk RX11 270 yX2_holdIn false := Or.inl ⟨rfl, (zcI_5_3 14 rfl rfl)⟩
theorem zl_L_144 : zLnk RL 144 yX11_restore false := Or.inl ⟨rfl, (zcI_5_4 2 rfl rfl)⟩
theorem zl_X11_274 : zLnk RX11 274 yX2_bringBack false := Or.inl ⟨rfl, (zcI_5_4 6 rfl rfl)⟩
theorem zl_X2_39 : zLnk RX2 39 yX2_isHeld false := Or.inl ⟨rfl, (zcI_5_4 10 rfl rfl)⟩
theorem zl_X11_277 : zLnk RX11 277 yX2_forgetPast false := Or.inl ⟨rfl, (zcI_5_4 14 rfl rfl)⟩
theorem zl_L_148 : zLnk RL 148 yX11_count false := Or.inl ⟨rfl, (zcI_5_4 15 rfl rfl)⟩
theorem zl_X11_286 : zLnk RX11 286 yX6_total false := Or.inl ⟨rfl, (zcI_5_5 3 rfl rfl)⟩
theorem zl_X11_295 : zLnk RX11 295 yX2_heldSlots false := Or.inl ⟨rfl, (zcI_5_5 7 rfl rfl)⟩
theorem zl_L_12 : zLnk RL 12 yX12_init false := Or.inl ⟨rfl, (zcI_5_5 13 rfl rfl)⟩
theorem zl_X12_140 : zLnk RX12 140 yX12_word false := Or.inl ⟨rfl, (zcI_5_6 1 rfl rfl)⟩
theorem zl_X12_156 : zLnk RX12 156 yX12_appends false := Or.inl ⟨rfl, (zcI_5_6 4 rfl rfl)⟩
theorem zl_L_17 : zLnk RL 17 yX12_feed false := Or.inl ⟨rfl, (zcI_6_2 15 rfl rfl)⟩
theorem zl_X12_147 : zLnk RX12 147 yX12_put false := Or.inl ⟨rfl, (zcI_6_3 3 rfl rfl)⟩
theorem zl_L_22 : zLnk RL 22 yX12_back false := Or.inl ⟨rfl, (zcI_6_3 7 rfl rfl)⟩
theorem zl_L_27 : zLnk RL 27 yX12_read false := Or.inl ⟨rfl, (zcI_6_3 11 rfl rfl)⟩
theorem zl_X12_206 : zLnk RX12 206 yX12_cut false := Or.inl ⟨rfl, (zcI_6_3 15 rfl rfl)⟩
theorem zl_X12_163 : zLnk RX12 163 yX12_byteAt false := Or.inl ⟨rfl, (zcI_6_4 3 rfl rfl)⟩
theorem zl_X12_167 : zLnk RX12 167 yX12_token false := Or.inl ⟨rfl, (zcI_6_4 7 rfl rfl)⟩
theorem zl_X12_171 : zLnk RX12 171 yX12_isLetter false := Or.inl ⟨rfl, (zcI_6_4 11 rfl rfl)⟩
theorem zl_X12_175 : zLnk RX12 175 yX12_isDigit false := Or.inl ⟨rfl, (zcI_6_4 14 rfl rfl)⟩
theorem zl_X12_178 : zLnk RX12 178 yX12_sign false := Or.inl ⟨rfl, (zcI_6_5 1 rfl rfl)⟩
theorem zl_X12_200 : zLnk RX12 200 yX12_is false := Or.inl ⟨rfl, (zcI_6_5 5 rfl rfl)⟩
theorem zl_X12_227 : zLnk RX12 227 yX12_tell false := Or.inl ⟨rfl, (zcI_6_5 9 rfl rfl)⟩
theorem zl_X12_197 : zLnk RX12 197 yX12_fail false := Or.inl ⟨rfl, (zcI_6_5 13 rfl rfl)⟩
theorem zl_X12_236 : zLnk RX12 236 yX12_tellHouse false := Or.inl ⟨rfl, (zcI_6_6 1 rfl rfl)⟩
theorem zl_X12_203 : zLnk RX12 203 yX12_goesOn false := Or.inl ⟨rfl, (zcI_6_6 5 rfl rfl)⟩
theorem zl_X12_239 : zLnk RX12 239 yX12_must false := Or.inl ⟨rfl, (zcI_6_6 9 rfl rfl)⟩
theorem zl_X12_249 : zLnk RX12 249 yX12_wrong false := Or.inl ⟨rfl, (zcI_6_6 13 rfl rfl)⟩
theorem zl_X12_245 : zLnk RX12 245 yX12_bounded false := Or.inl ⟨rfl, (zcI_6_7 1 rfl rfl)⟩
theorem zl_X12_242 : zLnk RX12 242 yX12_tellLaw false := Or.inl ⟨rfl, (zcI_6_7 5 rfl rfl)⟩
theorem zl_X12_253 : zLnk RX12 253 yX12_expression false := Or.inl ⟨rfl, (zcI_6_7 9 rfl rfl)⟩
theorem zl_X12_265 : zLnk RX12 265 yX12_unit false := Or.inl ⟨rfl, (zcI_6_7 13 rfl rfl)⟩
theorem zl_X12_262 : zLnk RX12 262 yX12_emit false := Or.inl ⟨rfl, (zcI_6_8 1 rfl rfl)⟩
theorem zl_X12_268 : zLnk RX12 268 yX12_comesOut false := Or.inl ⟨rfl, (zcI_6_8 5 rfl rfl)⟩
theorem zl_X12_256 : zLnk RX12 256 yX12_term false := Or.inl ⟨rfl, (zcI_6_8 9 rfl rfl)⟩
theorem zl_L_31 : zLnk RL 31 yX12_place false := Or.inl ⟨rfl, (zcI_6_8 13 rfl rfl)⟩
theorem zl_L_36 : zLnk RL 36 yX12_house false := Or.inl ⟨rfl, (zcI_6_9 1 rfl rfl)⟩
theorem zl_X12_325 : zLnk RX12 325 yX12_isHouse false := Or.inl ⟨rfl, (zcI_6_9 5 rfl rfl)⟩
theorem zl_X12_276 : zLnk RX12 276 yX12_in false := Or.inl ⟨rfl, (zcI_6_9 9 rfl rfl)⟩
theorem zl_X12_328 : zLnk RX12 328 yX12_copies false := Or.inl ⟨rfl, (zcI_6_9 12 rfl rfl)⟩
theorem zl_X12_280 : zLnk RX12 280 yX12_shownOf false := Or.inl ⟨rfl, (zcI_6_10 0 rfl rfl)⟩
theorem zl_X12_290 : zLnk RX12 290 yX12_gapOf false := Or.inl ⟨rfl, (zcI_6_10 4 rfl rfl)⟩
theorem zl_X12_287 : zLnk RX12 287 yX12_beside false := Or.inl ⟨rfl, (zcI_6_10 8 rfl rfl)⟩
theorem zl_X12_303 : zLnk RX12 303 yX12_wanted false := Or.inl ⟨rfl, (zcI_6_10 12 rfl rfl)⟩
theorem zl_X12_299 : zLnk RX12 299 yX12_tellsBy false := Or.inl ⟨rfl, (zcI_6_11 0 rfl rfl)⟩
theorem zl_X12_293 : zLnk RX12 293 yX12_lot false := Or.inl ⟨rfl, (zcI_6_11 4 rfl rfl)⟩
theorem zl_X12_284 : zLnk RX12 284 yX12_mixed false := Or.inl ⟨rfl, (zcI_6_11 7 rfl rfl)⟩
theorem zl_X12_296 : zLnk RX12 296 yX12_termOf false := Or.inl ⟨rfl, (zcI_6_11 11 rfl rfl)⟩
theorem zl_L_40 : zLnk RL 40 yX12_run false := Or.inl ⟨rfl, (zcI_6_11 15 rfl rfl)⟩
theorem zl_X12_331 : zLnk RX12 331 yX12_evenings false := Or.inl ⟨rfl, (zcI_6_12 3 rfl rfl)⟩
theorem zl_X12_322 : zLnk RX12 322 yX12_evening false := Or.inl ⟨rfl, (zcI_6_12 7 rfl rfl)⟩
theorem zl_X12_312 : zLnk RX12 312 yX12_earnAll false := Or.inl ⟨rfl, (zcI_6_12 11 rfl rfl)⟩
theorem zl_X12_315 : zLnk RX12 315 yX12_payAll false := Or.inl ⟨rfl, (zcI_6_12 15 rfl rfl)⟩
theorem zl_X12_306 : zLnk RX12 306 yX12_pays false := Or.inl ⟨rfl, (zcI_6_13 3 rfl rfl)⟩
theorem zl_X12_319 : zLnk RX12 319 yX12_ends false := Or.inl ⟨rfl, (zcI_6_13 7 rfl rfl)⟩
theorem zl_X12_309 : zLnk RX12 309 yX12_shares false := Or.inl ⟨rfl, (zcI_6_13 11 rfl rfl)⟩
theorem zl_X12_334 : zLnk RX12 334 yX12_keeps false := Or.inl ⟨rfl, (zcI_6_13 15 rfl rfl)⟩
theorem zl_L_45 : zLnk RL 45 yX12_give false := Or.inl ⟨rfl, (zcI_6_14 3 rfl rfl)⟩
theorem zl_L_50 : zLnk RL 50 yX12_hide false := Or.inl ⟨rfl, (zcI_6_14 7 rfl rfl)⟩
theorem zl_L_54 : zLnk RL 54 yX12_grab false := Or.inl ⟨rfl, (zcI_6_14 11 rfl rfl)⟩
theorem zl_L_58 : zLnk RL 58 yX12_build false := Or.inl ⟨rfl, (zcI_6_14 15 rfl rfl)⟩
theorem zl_X12_337 : zLnk RX12 337 yX12_builds false := Or.inl ⟨rfl, (zcI_7_0 3 rfl rfl)⟩
theorem zl_L_62 : zLnk RL 62 yX12_burn false := Or.inl ⟨rfl, (zcI_7_0 7 rfl rfl)⟩
theorem zl_X12_340 : zLnk RX12 340 yX12_goes false := Or.inl ⟨rfl, (zcI_7_0 11 rfl rfl)⟩
theorem zl_L_66 : zLnk RL 66 yX12_join false := Or.inl ⟨rfl, (zcI_7_0 15 rfl rfl)⟩
theorem zl_L_71 : zLnk RL 71 yX12_undo false := Or.inl ⟨rfl, (zcI_7_1 3 rfl rfl)⟩
theorem zl_L_75 : zLnk RL 75 yX12_becomes false := Or.inl ⟨rfl, (zcI_7_1 7 rfl rfl)⟩
theorem zl_X12_343 : zLnk RX12 343 yX12_isAlike false := Or.inl ⟨rfl, (zcI_7_1 11 rfl rfl)⟩
theorem zl_L_79 : zLnk RL 79 yX12_apart false := Or.inl ⟨rfl, (zcI_7_1 15 rfl rfl)⟩
theorem zl_X12_347 : zLnk RX12 347 yX12_apartNow false := Or.inl ⟨rfl, (zcI_7_2 3 rfl rfl)⟩
theorem zl_L_83 : zLnk RL 83 yX12_even false := Or.inl ⟨rfl, (zcI_7_2 7 rfl rfl)⟩
theorem zl_X12_351 : zLnk RX12 351 yX12_evenBy false := Or.inl ⟨rfl, (zcI_7_2 11 rfl rfl)⟩
theorem zl_L_87 : zLnk RL 87 yX12_soonest false := Or.inl ⟨rfl, (zcI_7_2 15 rfl rfl)⟩
theorem zl_L_91 : zLnk RL 91 yX12_start false := Or.inl ⟨rfl, (zcI_7_3 3 rfl rfl)⟩
theorem zl_L_96 : zLnk RL 96 yX12_wealth false := Or.inl ⟨rfl, (zcI_7_3 7 rfl rfl)⟩
theorem zl_X12_355 : zLnk RX12 355 yX12_paidBy false := Or.inl ⟨rfl, (zcI_7_3 12 rfl rfl)⟩
theorem zl_L_100 : zLnk RL 100 yX12_free false := Or.inl ⟨rfl, (zcI_7_4 0 rfl rfl)⟩
theorem zl_X12_361 : zLnk RX12 361 yX12_frees false := Or.inl ⟨rfl, (zcI_7_4 4 rfl rfl)⟩
theorem zl_L_105 : zLnk RL 105 yX12_best false := Or.inl ⟨rfl, (zcI_7_4 8 rfl rfl)⟩
theorem zl_L_110 : zLnk RL 110 yX12_loan false := Or.inl ⟨rfl, (zcI_7_4 12 rfl rfl)⟩
theorem zl_L_114 : zLnk RL 114 yX12_site false := Or.inl ⟨rfl, (zcI_7_5 0 rfl rfl)⟩
theorem zl_L_118 : zLnk RL 118 yX12_rests false := Or.inl ⟨rfl, (zcI_7_5 4 rfl rfl)⟩
theorem zl_X12_364 : zLnk RX12 364 yX12_hides false := Or.inl ⟨rfl, (zcI_7_5 8 rfl rfl)⟩
theorem zl_X12_367 : zLnk RX12 367 yX12_isResting false := Or.inl ⟨rfl, (zcI_7_5 12 rfl rfl)⟩
theorem zl_L_122 : zLnk RL 122 yX12_tell_ false := Or.inl ⟨rfl, (zcI_7_6 0 rfl rfl)⟩
theorem zl_L_126 : zLnk RL 126 yX12_forget false := Or.inl ⟨rfl, (zcI_7_6 4 rfl rfl)⟩
theorem zl_L_130 : zLnk RL 130 yX12_fits false := Or.inl ⟨rfl, (zcI_7_6 8 rfl rfl)⟩
theorem zl_X12_377 : zLnk RX12 377 yX12_fillsFits false := Or.inl ⟨rfl, (zcI_7_6 12 rfl rfl)⟩
theorem zl_X12_371 : zLnk RX12 371 yX12_rowsOf false := Or.inl ⟨rfl, (zcI_7_7 0 rfl rfl)⟩
theorem zl_X12_374 : zLnk RX12 374 yX12_takesRow false := Or.inl ⟨rfl, (zcI_7_7 5 rfl rfl)⟩
theorem zl_L_134 : zLnk RL 134 yX12_span false := Or.inl ⟨rfl, (zcI_7_7 9 rfl rfl)⟩
theorem zl_L_138 : zLnk RL 138 yX12_ago false := Or.inl ⟨rfl, (zcI_7_7 13 rfl rfl)⟩
theorem zl_L_143 : zLnk RL 143 yX12_hold false := Or.inl ⟨rfl, (zcI_7_8 1 rfl rfl)⟩
theorem zl_L_147 : zLnk RL 147 yX12_restore false := Or.inl ⟨rfl, (zcI_7_8 5 rfl rfl)⟩
theorem zl_L_151 : zLnk RL 151 yX12_count false := Or.inl ⟨rfl, (zcI_7_8 9 rfl rfl)⟩
theorem zqn_L : zIn (.initialized RL) := (zcI_1_0 0 rfl rfl)
theorem zqn_X11 : zIn (.initialized RX11) := (zcI_1_0 1 rfl rfl)
theorem zqn_X8 : zIn (.initialized RX8) := (zcI_1_0 2 rfl rfl)
theorem zqn_X5 : zIn (.initialized RX5) := (zcI_1_0 3 rfl rfl)
theorem zqn_X9 : zIn (.initialized RX9) := (zcI_1_0 4 rfl rfl)
theorem zqn_X6 : zIn (.initialized RX6) := (zcI_1_0 9 rfl rfl)
theorem zqn_X2 : zIn (.initialized RX2) := (zcI_1_0 10 rfl rfl)
theorem zqn_X1 : zIn (.initialized RX1) := (zcI_1_0 11 rfl rfl)
theorem zqn_X0 : zIn (.initialized RX0) := (zcI_1_0 12 rfl rfl)
theorem zqn_X4 : zIn (.initialized RX4) := (zcI_1_0 13 rfl rfl)
theorem zqn_X10 : zIn (.initialized RX10) := (zcI_1_0 14 rfl rfl)
theorem zqn_X7 : zIn (.initialized RX7) := (zcI_1_0 15 rfl rfl)
theorem zqn_X3 : zIn (.initialized RX3) := (zcI_1_1 0 rfl rfl)
theorem zqn_X12 : zIn (.initialized RX12) := (zcI_1_1 1 rfl rfl)
theorem zq_L_7 : zIn (.classLink RL 7 RX11) := (zcI_1_1 3 rfl rfl)
theorem zqi_X11 : zIn (.instantiable RX11 11) := (zcI_1_1 4 rfl rfl)
theorem zb_X11_1 : zIn (.methodLink RX11 1 Lib.objectInit) := (zcI_1_1 8 rfl rfl)
theorem zq_X11_7 : zIn (.classLink RX11 7 RX8) := (zcI_1_1 11 rfl rfl)
theorem zqi_X8 : zIn (.instantiable RX8 2) := (zcI_1_1 12 rfl rfl)
theorem zb_X8_3 : zIn (.methodLink RX8 3 Lib.objectInit) := (zcI_1_2 0 rfl rfl)
theorem zqa_byte : zIn (.arrayClass .byte) := (zcI_1_2 10 rfl rfl)
theorem zq_X11_16 : zIn (.classLink RX11 16 RX5) := (zcI_1_2 11 rfl rfl)
theorem zqi_X5 : zIn (.instantiable RX5 10) := (zcI_1_2 12 rfl rfl)
theorem zb_X5_3 : zIn (.methodLink RX5 3 Lib.objectInit) := (zcI_1_3 0 rfl rfl)
theorem zq_X5_9 : zIn (.classLink RX5 9 RX9) := (zcI_1_3 1 rfl rfl)
theorem zqi_X9 : zIn (.instantiable RX9 6) := (zcI_1_3 2 rfl rfl)
theorem zb_X9_3 : zIn (.methodLink RX9 3 Lib.objectInit) := (zcI_1_3 6 rfl rfl)
theorem zk_X9_77 : zIn (.constantLong RX9 77 (32)) := (zcI_1_6 11 rfl rfl)
theorem zqa_int : zIn (.arrayClass .int) := (zcI_1_7 15 rfl rfl)
theorem zqa_long : zIn (.arrayClass .long) := (zcI_1_8 0 rfl rfl)
theorem zq_X11_23 : zIn (.classLink RX11 23 RX6) := (zcI_1_10 0 rfl rfl)
theorem zqi_X6 : zIn (.instantiable RX6 8) := (zcI_1_10 1 rfl rfl)
theorem zb_X6_3 : zIn (.methodLink RX6 3 Lib.objectInit) := (zcI_1_10 5 rfl rfl)
theorem zq_X11_30 : zIn (.classLink RX11 30 RX2) := (zcI_1_13 5 rfl rfl)
theorem zqi_X2 : zIn (.instantiable RX2 5) := (zcI_1_13 6 rfl rfl)
theorem zb_X2_3 : zIn (.methodLink RX2 3 Lib.objectInit) := (zcI_1_13 10 rfl rfl)
theorem zq_X2_9 : zIn (.classLink RX2 9 RX6) := (zcI_1_13 11 rfl rfl)
theorem zqo : zIn (.arrayOver (.object RX6)) := (zcI_1_13 12 rfl rfl)
theorem zqa_boolean : zIn (.arrayClass .boolean) := (zcI_1_14 15 rfl rfl)
theorem zq_X11_37 : zIn (.classLink RX11 37 RX1) := (zcI_2_0 0 rfl rfl)
theorem zqi_X1 : zIn (.instantiable RX1 2) := (zcI_2_0 1 rfl rfl)
theorem zb_X1_3 : zIn (.methodLink RX1 3 Lib.objectInit) := (zcI_2_0 5 rfl rfl)
theorem zq_X1_9 : zIn (.classLink RX1 9 RX6) := (zcI_2_0 6 rfl rfl)
theorem zq_X11_44 : zIn (.classLink RX11 44 RX0) := (zcI_2_0 15 rfl rfl)
theorem zqi_X0 : zIn (.instantiable RX0 4) := (zcI_2_1 0 rfl rfl)
theorem zb_X0_3 : zIn (.methodLink RX0 3 Lib.objectInit) := (zcI_2_1 4 rfl rfl)
theorem zq_X0_9 : zIn (.classLink RX0 9 RX6) := (zcI_2_1 5 rfl rfl)
theorem zq_X11_51 : zIn (.classLink RX11 51 RX4) := (zcI_2_2 7 rfl rfl)
theorem zqi_X4 : zIn (.instantiable RX4 2) := (zcI_2_2 8 rfl rfl)
theorem zb_X4_3 : zIn (.methodLink RX4 3 Lib.objectInit) := (zcI_2_2 12 rfl rfl)
theorem zq_X4_9 : zIn (.classLink RX4 9 RX6) := (zcI_2_2 13 rfl rfl)
theorem zq_X11_58 : zIn (.classLink RX11 58 RX10) := (zcI_2_3 6 rfl rfl)
theorem zqi_X10 : zIn (.instantiable RX10 11) := (zcI_2_3 7 rfl rfl)
theorem zb_X10_3 : zIn (.methodLink RX10 3 Lib.objectInit) := (zcI_2_3 11 rfl rfl)
theorem zq_X10_27 : zIn (.classLink RX10 27 RX6) := (zcI_2_3 12 rfl rfl)
theorem zq_X11_65 : zIn (.classLink RX11 65 RX7) := (zcI_2_6 4 rfl rfl)
theorem zqi_X7 : zIn (.instantiable RX7 11) := (zcI_2_6 5 rfl rfl)
theorem zb_X7_3 : zIn (.methodLink RX7 3 Lib.objectInit) := (zcI_2_6 9 rfl rfl)
theorem zq_X7_9 : zIn (.classLink RX7 9 RX3) := (zcI_2_6 10 rfl rfl)
theorem zqi_X3 : zIn (.instantiable RX3 5) := (zcI_2_6 11 rfl rfl)
theorem zb_X3_3 : zIn (.methodLink RX3 3 Lib.objectInit) := (zcI_2_6 15 rfl rfl)
theorem zk_X9_71 : zIn (.constantLong RX9 71 (10)) := (zcI_3_3 1 rfl rfl)
theorem zb_X5_155 : zIn (.methodLink RX5 155 Lib.Math.min.name) := (zcI_3_7 9 rfl rfl)
theorem zb_X7_92 : zIn (.methodLink RX7 92 Lib.Math.abs.name) := (zcI_3_12 1 rfl rfl)
theorem zk_X7_104 : zIn (.constant RX7 104 (1103515245)) := (zcI_3_12 8 rfl rfl)
theorem zb_X7_78 : zIn (.methodLink RX7 78 Lib.Math.min.name) := (zcI_3_13 4 rfl rfl)
theorem zb_X7_84 : zIn (.methodLink RX7 84 Lib.Math.max.name) := (zcI_3_13 5 rfl rfl)
theorem zb_X6_52 : zIn (.methodLink RX6 52 Lib.Math.min.name) := (zcI_4_7 4 rfl rfl)
theorem zb_X6_58 : zIn (.methodLink RX6 58 Lib.Math.max.name) := (zcI_4_7 5 rfl rfl)
theorem zk_X11_213 : zIn (.constant RX11 213 (-1000000)) := (zcI_4_9 10 rfl rfl)
theorem zb_X0_69 : zIn (.methodLink RX0 69 Lib.Math.min.name) := (zcI_4_10 15 rfl rfl)
theorem zk_X0_88 : zIn (.constantLong RX0 88 (9223372036854775807)) := (zcI_4_13 1 rfl rfl)
theorem zb_X4_48 : zIn (.methodLink RX4 48 Lib.Math.min.name) := (zcI_4_14 1 rfl rfl)
theorem zk_X10_38 : zIn (.constant RX10 38 (200000)) := (zcI_5_0 14 rfl rfl)
theorem zk_X11_254 : zIn (.constant RX11 254 (200000)) := (zcI_5_0 15 rfl rfl)
theorem zb_X10_46 : zIn (.methodLink RX10 46 Lib.Math.max.name) := (zcI_5_1 5 rfl rfl)
theorem zb_X10_108 : zIn (.methodLink RX10 108 Lib.Math.min.name) := (zcI_5_2 9 rfl rfl)
theorem zq_L_10 : zIn (.classLink RL 10 RX12) := (zcI_5_5 11 rfl rfl)
theorem zqi_X12 : zIn (.instantiable RX12 61) := (zcI_5_5 12 rfl rfl)
theorem zb_X12_7 : zIn (.methodLink RX12 7 Lib.objectInit) := (zcI_5_6 0 rfl rfl)
theorem zk_X12_154 : zIn (.constantLong RX12 154 (27)) := (zcI_5_6 7 rfl rfl)
theorem zk_X12_283 : zIn (.constant RX12 283 (1103515245)) := (zcI_6_11 10 rfl rfl)
theorem zk_X12_354 : zIn (.constant RX12 354 (-1000000)) := (zcI_7_3 11 rfl rfl)
theorem zk_X12_370 : zIn (.constant RX12 370 (200000)) := (zcI_7_7 4 rfl rfl)
theorem zms_max : zIn (.static Lib.Math.max.name) := (zcI_3_13 6 rfl rfl)
theorem zmc_max : zIn (.code Lib.Math.max.name Lib.Math.max.code 2 (some .int)) := (zcI_3_13 7 rfl rfl)
theorem zms_min : zIn (.static Lib.Math.min.name) := (zcI_3_7 10 rfl rfl)
theorem zmc_min : zIn (.code Lib.Math.min.name Lib.Math.min.code 2 (some .int)) := (zcI_3_7 11 rfl rfl)
theorem zms_abs : zIn (.static Lib.Math.abs.name) := (zcI_3_12 2 rfl rfl)
theorem zmc_abs : zIn (.code Lib.Math.abs.name Lib.Math.abs.code 1 (some .int)) := (zcI_3_12 3 rfl rfl)
theorem zmi : zIn (.initialized "java/lang/Math") := (zcI_1_1 2 rfl rfl)
theorem zoi : zIn (.instanceMethod Lib.objectInit) := (zcI_1_1 9 rfl rfl)
theorem zoc : zIn (.code Lib.objectInit ⟨#[0xb1]⟩ 1 none) := (zcI_1_1 10 rfl rfl)
def zfk (tg k : Nat) : Option (Nat × Nat) := match tg, k with
  | 0, 0 => some (6, 8)
  | 1, 0 => some (6, 8)
  | 1, 1 => some (20, 3311)
  | 2, 0 => some (24, 30)
  | 2, 1 => some (24, 3)
  | 2, 2 => some (22, 3)
  | 3, 0 => some (20, 400)
  | 3, 1 => some (20, 400)
  | 3, 2 => some (20, 16)
  | 4, 0 => some (6, 8)
  | 4, 1 => some (20, 2048)
  | 5, 0 => some (9, 6)
  | 5, 1 => some (23, 10)
  | 5, 2 => some (20, 21)
  | 6, 0 => some (20, 10)
  | 6, 1 => some (20, 10)
  | 6, 2 => some (20, 10)
  | 6, 3 => some (23, 10)
  | 7, 0 => some (3, 5)
  | 7, 1 => some (3, 5)
  | 7, 2 => some (20, 10)
  | 7, 3 => some (20, 7)
  | 7, 4 => some (20, 10)
  | 8, 0 => some (21, 2000)
  | 9, 0 => some (20, 402)
  | 9, 1 => some (20, 402)
  | 9, 2 => some (23, 402)
  | 9, 3 => some (23, 20)
  | 10, 0 => some (20, 20)
  | 10, 1 => some (20, 20)
  | 10, 2 => some (20, 10)
  | 10, 3 => some (20, 10)
  | 10, 4 => some (20, 10)
  | 10, 5 => some (6, 8)
  | 11, 0 => some (8, 2)
  | 11, 1 => some (5, 10)
  | 11, 2 => some (6, 8)
  | 11, 3 => some (2, 5)
  | 11, 4 => some (1, 2)
  | 11, 5 => some (0, 4)
  | 11, 6 => some (4, 2)
  | 11, 7 => some (10, 11)
  | 11, 8 => some (7, 11)
  | 11, 9 => some (7, 11)
  | 12, 1 => some (21, 2000)
  | 12, 3 => some (21, 2000)
  | 12, 5 => some (20, 403)
  | 12, 6 => some (20, 403)
  | 12, 7 => some (20, 403)
  | 12, 8 => some (23, 403)
  | 12, 9 => some (23, 20)
  | 12, 21 => some (23, 10)
  | 12, 22 => some (20, 2)
  | 12, 23 => some (20, 20)
  | 12, 24 => some (22, 2)
  | 12, 25 => some (22, 2)
  | 12, 26 => some (20, 2)
  | 12, 27 => some (20, 2)
  | 12, 28 => some (20, 2)
  | 12, 29 => some (20, 4)
  | 12, 30 => some (20, 4)
  | 12, 32 => some (22, 260)
  | 12, 33 => some (20, 260)
  | 12, 34 => some (20, 260)
  | 12, 35 => some (20, 260)
  | 12, 36 => some (20, 260)
  | 12, 38 => some (20, 840)
  | 12, 39 => some (20, 840)
  | 12, 40 => some (20, 64)
  | 12, 42 => some (20, 7)
  | 12, 43 => some (20, 400)
  | 12, 45 => some (20, 60)
  | 12, 46 => some (20, 60)
  | 12, 47 => some (20, 10)
  | 12, 49 => some (20, 1800)
  | 12, 50 => some (20, 6321)
  | 12, 52 => some (20, 2560)
  | 12, 54 => some (20, 20)
  | 12, 55 => some (20, 20)
  | 12, 56 => some (20, 10)
  | 12, 57 => some (20, 10)
  | 12, 58 => some (20, 10)
  | 12, 59 => some (22, 3)
  | 12, 60 => some (20, 180)
  | _, _ => none
def zWT (R : zR) (K : zK) : Prop := zK0 K ∧ (∀ a tg n, K[a]? = some (tg, n) → ∀ k kd, zfk tg k = some kd → K[R a k]? = some kd) ∧ (∀ a n, K[a]? = some (24, n) → ∀ j, j < n → K[R a j]? = some (6, 8))
theorem zne0 {K : zK} (h0 : zK0 K) {b : Nat} {kd : Nat × Nat} (h : K[b]? = some kd) (ht : kd.1 < 90) : b ≠ 0 := fun e => by
  have := h0.two h ht
  omega
theorem zwq {R : zR} {K : zK} (hW : zWT R K) {a n : Nat} {i : Int32} (h : K[a]? = some (24, n)) (hi : zin i n = true) : K[R a i.toNatClampNeg]? = some (6, 8) := by
  refine hW.2.2 a n h _ ?_
  have := zin_vp hi
  exact Nat.not_le.mp fun q => this (Or.inr q)
theorem zwt_up {R R1 : zR} {K : zK} (hW : zWT R K) {a k b tg n : Nat} {kd : Nat × Nat} (h : K[a]? = some (tg, n)) (ht : tg ≠ 24) (hf : zfk tg k = some kd) (hb : K[b]? = some kd) (hR : R1 = zupR R a k b) : zWT R1 K := by
  subst hR
  refine ⟨hW.1, fun a1 tg1 n1 h1 k1 kd1 hf1 => ?_, fun a1 n1 h1 j hj => ?_⟩
  · unfold zupR
    by_cases e : a1 = a
    · subst e
      rw [h] at h1
      cases h1
      by_cases e2 : k1 = k
      · subst e2
        rw [hf] at hf1
        cases hf1
        simp [hb]
      · simp only [if_pos rfl, if_neg e2]
        exact hW.2.1 _ _ _ h _ _ hf1
    · rw [if_neg e]
      exact hW.2.1 _ _ _ h1 _ _ hf1
  · unfold zupR
    have e : a1 ≠ a := fun e => by
      subst e
      rw [h] at h1
      cases h1
      exact ht rfl
    rw [if_neg e]
    exact hW.2.2 _ _ h1 j hj
theorem zw_0_0 {R : zR} {K : zK} (hW : zWT R K) {a : Nat} (h : K[a]? = some (0, 4)) : K[R a 0]? = some (6, 8) := hW.2.1 _ _ _ h 0 _ rfl
theorem zx_0_0 {R : zR} {K : zK} (hW : zWT R K) {a : Nat} (h : K[a]? = some (0, 4)) : R a 0 ≠ 0 := zne0 hW.1 (zw_0_0 hW h) (by decide)
theorem zw_1_0 {R : zR} {K : zK} (hW : zWT R K) {a : Nat} (h : K[a]? = some (1, 2)) : K[R a 0]? = some (6, 8) := hW.2.1 _ _ _ h 0 _ rfl
theorem zx_1_0 {R : zR} {K : zK} (hW : zWT R K) {a : Nat} (h : K[a]? = some (1, 2)) : R a 0 ≠ 0 := zne0 hW.1 (zw_1_0 hW h) (by decide)
theorem zw_1_1 {R : zR} {K : zK} (hW : zWT R K) {a : Nat} (h : K[a]? = some (1, 2)) : K[R a 1]? = some (20, 3311) := hW.2.1 _ _ _ h 1 _ rfl
theorem zx_1_1 {R : zR} {K : zK} (hW : zWT R K) {a : Nat} (h : K[a]? = some (1, 2)) : R a 1 ≠ 0 := zne0 hW.1 (zw_1_1 hW h) (by decide)
theorem zw_2_0 {R : zR} {K : zK} (hW : zWT R K) {a : Nat} (h : K[a]? = some (2, 5)) : K[R a 0]? = some (24, 30) := hW.2.1 _ _ _ h 0 _ rfl
theorem zx_2_0 {R : zR} {K : zK} (hW : zWT R K) {a : Nat} (h : K[a]? = some (2, 5)) : R a 0 ≠ 0 := zne0 hW.1 (zw_2_0 hW h) (by decide)
theorem zw_2_1 {R : zR} {K : zK} (hW : zWT R K) {a : Nat} (h : K[a]? = some (2, 5)) : K[R a 1]? = some (24, 3) := hW.2.1 _ _ _ h 1 _ rfl
theorem zx_2_1 {R : zR} {K : zK} (hW : zWT R K) {a : Nat} (h : K[a]? = some (2, 5)) : R a 1 ≠ 0 := zne0 hW.1 (zw_2_1 hW h) (by decide)
theorem zw_2_2 {R : zR} {K : zK} (hW : zWT R K) {a : Nat} (h : K[a]? = some (2, 5)) : K[R a 2]? = some (22, 3) := hW.2.1 _ _ _ h 2 _ rfl
theorem zx_2_2 {R : zR} {K : zK} (hW : zWT R K) {a : Nat} (h : K[a]? = some (2, 5)) : R a 2 ≠ 0 := zne0 hW.1 (zw_2_2 hW h) (by decide)
theorem zw_3_0 {R : zR} {K : zK} (hW : zWT R K) {a : Nat} (h : K[a]? = some (3, 5)) : K[R a 0]? = some (20, 400) := hW.2.1 _ _ _ h 0 _ rfl
theorem zx_3_0 {R : zR} {K : zK} (hW : zWT R K) {a : Nat} (h : K[a]? = some (3, 5)) : R a 0 ≠ 0 := zne0 hW.1 (zw_3_0 hW h) (by decide)
theorem zw_3_1 {R : zR} {K : zK} (hW : zWT R K) {a : Nat} (h : K[a]? = some (3, 5)) : K[R a 1]? = some (20, 400) := hW.2.1 _ _ _ h 1 _ rfl
theorem zx_3_1 {R : zR} {K : zK} (hW : zWT R K) {a : Nat} (h : K[a]? = some (3, 5)) : R a 1 ≠ 0 := zne0 hW.1 (zw_3_1 hW h) (by decide)
theorem zw_3_2 {R : zR} {K : zK} (hW : zWT R K) {a : Nat} (h : K[a]? = some (3, 5)) : K[R a 2]? = some (20, 16) := hW.2.1 _ _ _ h 2 _ rfl
theorem zx_3_2 {R : zR} {K : zK} (hW : zWT R K) {a : Nat} (h : K[a]? = some (3, 5)) : R a 2 ≠ 0 := zne0 hW.1 (zw_3_2 hW h) (by decide)
theorem zw_4_0 {R : zR} {K : zK} (hW : zWT R K) {a : Nat} (h : K[a]? = some (4, 2)) : K[R a 0]? = some (6, 8) := hW.2.1 _ _ _ h 0 _ rfl
theorem zx_4_0 {R : zR} {K : zK} (hW : zWT R K) {a : Nat} (h : K[a]? = some (4, 2)) : R a 0 ≠ 0 := zne0 hW.1 (zw_4_0 hW h) (by decide)
theorem zw_4_1 {R : zR} {K : zK} (hW : zWT R K) {a : Nat} (h : K[a]? = some (4, 2)) : K[R a 1]? = some (20, 2048) := hW.2.1 _ _ _ h 1 _ rfl
theorem zx_4_1 {R : zR} {K : zK} (hW : zWT R K) {a : Nat} (h : K[a]? = some (4, 2)) : R a 1 ≠ 0 := zne0 hW.1 (zw_4_1 hW h) (by decide)
theorem zw_5_0 {R : zR} {K : zK} (hW : zWT R K) {a : Nat} (h : K[a]? = some (5, 10)) : K[R a 0]? = some (9, 6) := hW.2.1 _ _ _ h 0 _ rfl
theorem zx_5_0 {R : zR} {K : zK} (hW : zWT R K) {a : Nat} (h : K[a]? = some (5, 10)) : R a 0 ≠ 0 := zne0 hW.1 (zw_5_0 hW h) (by decide)
theorem zw_5_1 {R : zR} {K : zK} (hW : zWT R K) {a : Nat} (h : K[a]? = some (5, 10)) : K[R a 1]? = some (23, 10) := hW.2.1 _ _ _ h 1 _ rfl
theorem zx_5_1 {R : zR} {K : zK} (hW : zWT R K) {a : Nat} (h : K[a]? = some (5, 10)) : R a 1 ≠ 0 := zne0 hW.1 (zw_5_1 hW h) (by decide)
theorem zw_5_2 {R : zR} {K : zK} (hW : zWT R K) {a : Nat} (h : K[a]? = some (5, 10)) : K[R a 2]? = some (20, 21) := hW.2.1 _ _ _ h 2 _ rfl
theorem zx_5_2 {R : zR} {K : zK} (hW : zWT R K) {a : Nat} (h : K[a]? = some (5, 10)) : R a 2 ≠ 0 := zne0 hW.1 (zw_5_2 hW h) (by decide)
theorem zw_6_0 {R : zR} {K : zK} (hW : zWT R K) {a : Nat} (h : K[a]? = some (6, 8)) : K[R a 0]? = some (20, 10) := hW.2.1 _ _ _ h 0 _ rfl
theorem zx_6_0 {R : zR} {K : zK} (hW : zWT R K) {a : Nat} (h : K[a]? = some (6, 8)) : R a 0 ≠ 0 := zne0 hW.1 (zw_6_0 hW h) (by decide)
theorem zw_6_1 {R : zR} {K : zK} (hW : zWT R K) {a : Nat} (h : K[a]? = some (6, 8)) : K[R a 1]? = some (20, 10) := hW.2.1 _ _ _ h 1 _ rfl
theorem zx_6_1 {R : zR} {K : zK} (hW : zWT R K) {a : Nat} (h : K[a]? = some (6, 8)) : R a 1 ≠ 0 := zne0 hW.1 (zw_6_1 hW h) (by decide)
theorem zw_6_2 {R : zR} {K : zK} (hW : zWT R K) {a : Nat} (h : K[a]? = some (6, 8)) : K[R a 2]? = some (20, 10) := hW.2.1 _ _ _ h 2 _ rfl
theorem zx_6_2 {R : zR} {K : zK} (hW : zWT R K) {a : Nat} (h : K[a]? = some (6, 8)) : R a 2 ≠ 0 := zne0 hW.1 (zw_6_2 hW h) (by decide)
theorem zw_6_3 {R : zR} {K : zK} (hW : zWT R K) {a : Nat} (h : K[a]? = some (6, 8)) : K[R a 3]? = some (23, 10) := hW.2.1 _ _ _ h 3 _ rfl
theorem zx_6_3 {R : zR} {K : zK} (hW : zWT R K) {a : Nat} (h : K[a]? = some (6, 8)) : R a 3 ≠ 0 := zne0 hW.1 (zw_6_3 hW h) (by decide)
theorem zw_7_0 {R : zR} {K : zK} (hW : zWT R K) {a : Nat} (h : K[a]? = some (7, 11)) : K[R a 0]? = some (3, 5) := hW.2.1 _ _ _ h 0 _ rfl
theorem zx_7_0 {R : zR} {K : zK} (hW : zWT R K) {a : Nat} (h : K[a]? = some (7, 11)) : R a 0 ≠ 0 := zne0 hW.1 (zw_7_0 hW h) (by decide)
theorem zw_7_1 {R : zR} {K : zK} (hW : zWT R K) {a : Nat} (h : K[a]? = some (7, 11)) : K[R a 1]? = some (3, 5) := hW.2.1 _ _ _ h 1 _ rfl
theorem zx_7_1 {R : zR} {K : zK} (hW : zWT R K) {a : Nat} (h : K[a]? = some (7, 11)) : R a 1 ≠ 0 := zne0 hW.1 (zw_7_1 hW h) (by decide)
theorem zw_7_2 {R : zR} {K : zK} (hW : zWT R K) {a : Nat} (h : K[a]? = some (7, 11)) : K[R a 2]? = some (20, 10) := hW.2.1 _ _ _ h 2 _ rfl
theorem zx_7_2 {R : zR} {K : zK} (hW : zWT R K) {a : Nat} (h : K[a]? = some (7, 11)) : R a 2 ≠ 0 := zne0 hW.1 (zw_7_2 hW h) (by decide)
theorem zw_7_3 {R : zR} {K : zK} (hW : zWT R K) {a : Nat} (h : K[a]? = some (7, 11)) : K[R a 3]? = some (20, 7) := hW.2.1 _ _ _ h 3 _ rfl
theorem zx_7_3 {R : zR} {K : zK} (hW : zWT R K) {a : Nat} (h : K[a]? = some (7, 11)) : R a 3 ≠ 0 := zne0 hW.1 (zw_7_3 hW h) (by decide)
theorem zw_7_4 {R : zR} {K : zK} (hW : zWT R K) {a : Nat} (h : K[a]? = some (7, 11)) : K[R a 4]? = some (20, 10) := hW.2.1 _ _ _ h 4 _ rfl
theorem zx_7_4 {R : zR} {K : zK} (hW : zWT R K) {a : Nat} (h : K[a]? = some (7, 11)) : R a 4 ≠ 0 := zne0 hW.1 (zw_7_4 hW h) (by decide)
theorem zw_8_0 {R : zR} {K : zK} (hW : zWT R K) {a : Nat} (h : K[a]? = some (8, 2)) : K[R a 0]? = some (21, 2000) := hW.2.1 _ _ _ h 0 _ rfl
theorem zx_8_0 {R : zR} {K : zK} (hW : zWT R K) {a : Nat} (h : K[a]? = some (8, 2)) : R a 0 ≠ 0 := zne0 hW.1 (zw_8_0 hW h) (by decide)
theorem zw_9_0 {R : zR} {K : zK} (hW : zWT R K) {a : Nat} (h : K[a]? = some (9, 6)) : K[R a 0]? = some (20, 402) := hW.2.1 _ _ _ h 0 _ rfl
theorem zx_9_0 {R : zR} {K : zK} (hW : zWT R K) {a : Nat} (h : K[a]? = some (9, 6)) : R a 0 ≠ 0 := zne0 hW.1 (zw_9_0 hW h) (by decide)
theorem zw_9_1 {R : zR} {K : zK} (hW : zWT R K) {a : Nat} (h : K[a]? = some (9, 6)) : K[R a 1]? = some (20, 402) := hW.2.1 _ _ _ h 1 _ rfl
theorem zx_9_1 {R : zR} {K : zK} (hW : zWT R K) {a : Nat} (h : K[a]? = some (9, 6)) : R a 1 ≠ 0 := zne0 hW.1 (zw_9_1 hW h) (by decide)
theorem zw_9_2 {R : zR} {K : zK} (hW : zWT R K) {a : Nat} (h : K[a]? = some (9, 6)) : K[R a 2]? = some (23, 402) := hW.2.1 _ _ _ h 2 _ rfl
theorem zx_9_2 {R : zR} {K : zK} (hW : zWT R K) {a : Nat} (h : K[a]? = some (9, 6)) : R a 2 ≠ 0 := zne0 hW.1 (zw_9_2 hW h) (by decide)
theorem zw_9_3 {R : zR} {K : zK} (hW : zWT R K) {a : Nat} (h : K[a]? = some (9, 6)) : K[R a 3]? = some (23, 20) := hW.2.1 _ _ _ h 3 _ rfl
theorem zx_9_3 {R : zR} {K : zK} (hW : zWT R K) {a : Nat} (h : K[a]? = some (9, 6)) : R a 3 ≠ 0 := zne0 hW.1 (zw_9_3 hW h) (by decide)
theorem zw_10_0 {R : zR} {K : zK} (hW : zWT R K) {a : Nat} (h : K[a]? = some (10, 11)) : K[R a 0]? = some (20, 20) := hW.2.1 _ _ _ h 0 _ rfl
theorem zx_10_0 {R : zR} {K : zK} (hW : zWT R K) {a : Nat} (h : K[a]? = some (10, 11)) : R a 0 ≠ 0 := zne0 hW.1 (zw_10_0 hW h) (by decide)
theorem zw_10_1 {R : zR} {K : zK} (hW : zWT R K) {a : Nat} (h : K[a]? = some (10, 11)) : K[R a 1]? = some (20, 20) := hW.2.1 _ _ _ h 1 _ rfl
theorem zx_10_1 {R : zR} {K : zK} (hW : zWT R K) {a : Nat} (h : K[a]? = some (10, 11)) : R a 1 ≠ 0 := zne0 hW.1 (zw_10_1 hW h) (by decide)
theorem zw_10_2 {R : zR} {K : zK} (hW : zWT R K) {a : Nat} (h : K[a]? = some (10, 11)) : K[R a 2]? = some (20, 10) := hW.2.1 _ _ _ h 2 _ rfl
theorem zx_10_2 {R : zR} {K : zK} (hW : zWT R K) {a : Nat} (h : K[a]? = some (10, 11)) : R a 2 ≠ 0 := zne0 hW.1 (zw_10_2 hW h) (by decide)
theorem zw_10_3 {R : zR} {K : zK} (hW : zWT R K) {a : Nat} (h : K[a]? = some (10, 11)) : K[R a 3]? = some (20, 10) := hW.2.1 _ _ _ h 3 _ rfl
theorem zx_10_3 {R : zR} {K : zK} (hW : zWT R K) {a : Nat} (h : K[a]? = some (10, 11)) : R a 3 ≠ 0 := zne0 hW.1 (zw_10_3 hW h) (by decide)
theorem zw_10_4 {R : zR} {K : zK} (hW : zWT R K) {a : Nat} (h : K[a]? = some (10, 11)) : K[R a 4]? = some (20, 10) := hW.2.1 _ _ _ h 4 _ rfl
theorem zx_10_4 {R : zR} {K : zK} (hW : zWT R K) {a : Nat} (h : K[a]? = some (10, 11)) : R a 4 ≠ 0 := zne0 hW.1 (zw_10_4 hW h) (by decide)
theorem zw_10_5 {R : zR} {K : zK} (hW : zWT R K) {a : Nat} (h : K[a]? = some (10, 11)) : K[R a 5]? = some (6, 8) := hW.2.1 _ _ _ h 5 _ rfl
theorem zx_10_5 {R : zR} {K : zK} (hW : zWT R K) {a : Nat} (h : K[a]? = some (10, 11)) : R a 5 ≠ 0 := zne0 hW.1 (zw_10_5 hW h) (by decide)
theorem zw_11_0 {R : zR} {K : zK} (hW : zWT R K) {a : Nat} (h : K[a]? = some (11, 11)) : K[R a 0]? = some (8, 2) := hW.2.1 _ _ _ h 0 _ rfl
theorem zx_11_0 {R : zR} {K : zK} (hW : zWT R K) {a : Nat} (h : K[a]? = some (11, 11)) : R a 0 ≠ 0 := zne0 hW.1 (zw_11_0 hW h) (by decide)
theorem zw_11_1 {R : zR} {K : zK} (hW : zWT R K) {a : Nat} (h : K[a]? = some (11, 11)) : K[R a 1]? = some (5, 10) := hW.2.1 _ _ _ h 1 _ rfl
theorem zx_11_1 {R : zR} {K : zK} (hW : zWT R K) {a : Nat} (h : K[a]? = some (11, 11)) : R a 1 ≠ 0 := zne0 hW.1 (zw_11_1 hW h) (by decide)
theorem zw_11_2 {R : zR} {K : zK} (hW : zWT R K) {a : Nat} (h : K[a]? = some (11, 11)) : K[R a 2]? = some (6, 8) := hW.2.1 _ _ _ h 2 _ rfl
theorem zx_11_2 {R : zR} {K : zK} (hW : zWT R K) {a : Nat} (h : K[a]? = some (11, 11)) : R a 2 ≠ 0 := zne0 hW.1 (zw_11_2 hW h) (by decide)
theorem zw_11_3 {R : zR} {K : zK} (hW : zWT R K) {a : Nat} (h : K[a]? = some (11, 11)) : K[R a 3]? = some (2, 5) := hW.2.1 _ _ _ h 3 _ rfl
theorem zx_11_3 {R : zR} {K : zK} (hW : zWT R K) {a : Nat} (h : K[a]? = some (11, 11)) : R a 3 ≠ 0 := zne0 hW.1 (zw_11_3 hW h) (by decide)
theorem zw_11_4 {R : zR} {K : zK} (hW : zWT R K) {a : Nat} (h : K[a]? = some (11, 11)) : K[R a 4]? = some (1, 2) := hW.2.1 _ _ _ h 4 _ rfl
theorem zx_11_4 {R : zR} {K : zK} (hW : zWT R K) {a : Nat} (h : K[a]? = some (11, 11)) : R a 4 ≠ 0 := zne0 hW.1 (zw_11_4 hW h) (by decide)
theorem zw_11_5 {R : zR} {K : zK} (hW : zWT R K) {a : Nat} (h : K[a]? = some (11, 11)) : K[R a 5]? = some (0, 4) := hW.2.1 _ _ _ h 5 _ rfl
theorem zx_11_5 {R : zR} {K : zK} (hW : zWT R K) {a : Nat} (h : K[a]? = some (11, 11)) : R a 5 ≠ 0 := zne0 hW.1 (zw_11_5 hW h) (by decide)
theorem zw_11_6 {R : zR} {K : zK} (hW : zWT R K) {a : Nat} (h : K[a]? = some (11, 11)) : K[R a 6]? = some (4, 2) := hW.2.1 _ _ _ h 6 _ rfl
theorem zx_11_6 {R : zR} {K : zK} (hW : zWT R K) {a : Nat} (h : K[a]? = some (11, 11)) : R a 6 ≠ 0 := zne0 hW.1 (zw_11_6 hW h) (by decide)
theorem zw_11_7 {R : zR} {K : zK} (hW : zWT R K) {a : Nat} (h : K[a]? = some (11, 11)) : K[R a 7]? = some (10, 11) := hW.2.1 _ _ _ h 7 _ rfl
theorem zx_11_7 {R : zR} {K : zK} (hW : zWT R K) {a : Nat} (h : K[a]? = some (11, 11)) : R a 7 ≠ 0 := zne0 hW.1 (zw_11_7 hW h) (by decide)
theorem zw_11_8 {R : zR} {K : zK} (hW : zWT R K) {a : Nat} (h : K[a]? = some (11, 11)) : K[R a 8]? = some (7, 11) := hW.2.1 _ _ _ h 8 _ rfl
theorem zx_11_8 {R : zR} {K : zK} (hW : zWT R K) {a : Nat} (h : K[a]? = some (11, 11)) : R a 8 ≠ 0 := zne0 hW.1 (zw_11_8 hW h) (by decide)
theorem zw_11_9 {R : zR} {K : zK} (hW : zWT R K) {a : Nat} (h : K[a]? = some (11, 11)) : K[R a 9]? = some (7, 11) := hW.2.1 _ _ _ h 9 _ rfl
theorem zx_11_9 {R : zR} {K : zK} (hW : zWT R K) {a : Nat} (h : K[a]? = some (11, 11)) : R a 9 ≠ 0 := zne0 hW.1 (zw_11_9 hW h) (by decide)
theorem zw_12_1 {R : zR} {K : zK} (hW : zWT R K) {a : Nat} (h : K[a]? = some (12, 61)) : K[R a 1]? = some (21, 2000) := hW.2.1 _ _ _ h 1 _ rfl
theorem zx_12_1 {R : zR} {K : zK} (hW : zWT R K) {a : Nat} (h : K[a]? = some (12, 61)) : R a 1 ≠ 0 := zne0 hW.1 (zw_12_1 hW h) (by decide)
theorem zw_12_3 {R : zR} {K : zK} (hW : zWT R K) {a : Nat} (h : K[a]? = some (12, 61)) : K[R a 3]? = some (21, 2000) := hW.2.1 _ _ _ h 3 _ rfl
theorem zx_12_3 {R : zR} {K : zK} (hW : zWT R K) {a : Nat} (h : K[a]? = some (12, 61)) : R a 3 ≠ 0 := zne0 hW.1 (zw_12_3 hW h) (by decide)
theorem zw_12_5 {R : zR} {K : zK} (hW : zWT R K) {a : Nat} (h : K[a]? = some (12, 61)) : K[R a 5]? = some (20, 403) := hW.2.1 _ _ _ h 5 _ rfl
theorem zx_12_5 {R : zR} {K : zK} (hW : zWT R K) {a : Nat} (h : K[a]? = some (12, 61)) : R a 5 ≠ 0 := zne0 hW.1 (zw_12_5 hW h) (by decide)
theorem zw_12_6 {R : zR} {K : zK} (hW : zWT R K) {a : Nat} (h : K[a]? = some (12, 61)) : K[R a 6]? = some (20, 403) := hW.2.1 _ _ _ h 6 _ rfl
theorem zx_12_6 {R : zR} {K : zK} (hW : zWT R K) {a : Nat} (h : K[a]? = some (12, 61)) : R a 6 ≠ 0 := zne0 hW.1 (zw_12_6 hW h) (by decide)
theorem zw_12_7 {R : zR} {K : zK} (hW : zWT R K) {a : Nat} (h : K[a]? = some (12, 61)) : K[R a 7]? = some (20, 403) := hW.2.1 _ _ _ h 7 _ rfl
theorem zx_12_7 {R : zR} {K : zK} (hW : zWT R K) {a : Nat} (h : K[a]? = some (12, 61)) : R a 7 ≠ 0 := zne0 hW.1 (zw_12_7 hW h) (by decide)
theorem zw_12_8 {R : zR} {K : zK} (hW : zWT R K) {a : Nat} (h : K[a]? = some (12, 61)) : K[R a 8]? = some (23, 403) := hW.2.1 _ _ _ h 8 _ rfl
theorem zx_12_8 {R : zR} {K : zK} (hW : zWT R K) {a : Nat} (h : K[a]? = some (12, 61)) : R a 8 ≠ 0 := zne0 hW.1 (zw_12_8 hW h) (by decide)
theorem zw_12_9 {R : zR} {K : zK} (hW : zWT R K) {a : Nat} (h : K[a]? = some (12, 61)) : K[R a 9]? = some (23, 20) := hW.2.1 _ _ _ h 9 _ rfl
theorem zx_12_9 {R : zR} {K : zK} (hW : zWT R K) {a : Nat} (h : K[a]? = some (12, 61)) : R a 9 ≠ 0 := zne0 hW.1 (zw_12_9 hW h) (by decide)
theorem zw_12_21 {R : zR} {K : zK} (hW : zWT R K) {a : Nat} (h : K[a]? = some (12, 61)) : K[R a 21]? = some (23, 10) := hW.2.1 _ _ _ h 21 _ rfl
theorem zx_12_21 {R : zR} {K : zK} (hW : zWT R K) {a : Nat} (h : K[a]? = some (12, 61)) : R a 21 ≠ 0 := zne0 hW.1 (zw_12_21 hW h) (by decide)
theorem zw_12_22 {R : zR} {K : zK} (hW : zWT R K) {a : Nat} (h : K[a]? = some (12, 61)) : K[R a 22]? = some (20, 2) := hW.2.1 _ _ _ h 22 _ rfl
theorem zx_12_22 {R : zR} {K : zK} (hW : zWT R K) {a : Nat} (h : K[a]? = some (12, 61)) : R a 22 ≠ 0 := zne0 hW.1 (zw_12_22 hW h) (by decide)
theorem zw_12_23 {R : zR} {K : zK} (hW : zWT R K) {a : Nat} (h : K[a]? = some (12, 61)) : K[R a 23]? = some (20, 20) := hW.2.1 _ _ _ h 23 _ rfl
theorem zx_12_23 {R : zR} {K : zK} (hW : zWT R K) {a : Nat} (h : K[a]? = some (12, 61)) : R a 23 ≠ 0 := zne0 hW.1 (zw_12_23 hW h) (by decide)
theorem zw_12_24 {R : zR} {K : zK} (hW : zWT R K) {a : Nat} (h : K[a]? = some (12, 61)) : K[R a 24]? = some (22, 2) := hW.2.1 _ _ _ h 24 _ rfl
theorem zx_12_24 {R : zR} {K : zK} (hW : zWT R K) {a : Nat} (h : K[a]? = some (12, 61)) : R a 24 ≠ 0 := zne0 hW.1 (zw_12_24 hW h) (by decide)
theorem zw_12_25 {R : zR} {K : zK} (hW : zWT R K) {a : Nat} (h : K[a]? = some (12, 61)) : K[R a 25]? = some (22, 2) := hW.2.1 _ _ _ h 25 _ rfl
theorem zx_12_25 {R : zR} {K : zK} (hW : zWT R K) {a : Nat} (h : K[a]? = some (12, 61)) : R a 25 ≠ 0 := zne0 hW.1 (zw_12_25 hW h) (by decide)
theorem zw_12_26 {R : zR} {K : zK} (hW : zWT R K) {a : Nat} (h : K[a]? = some (12, 61)) : K[R a 26]? = some (20, 2) := hW.2.1 _ _ _ h 26 _ rfl
theorem zx_12_26 {R : zR} {K : zK} (hW : zWT R K) {a : Nat} (h : K[a]? = some (12, 61)) : R a 26 ≠ 0 := zne0 hW.1 (zw_12_26 hW h) (by decide)
theorem zw_12_27 {R : zR} {K : zK} (hW : zWT R K) {a : Nat} (h : K[a]? = some (12, 61)) : K[R a 27]? = some (20, 2) := hW.2.1 _ _ _ h 27 _ rfl
theorem zx_12_27 {R : zR} {K : zK} (hW : zWT R K) {a : Nat} (h : K[a]? = some (12, 61)) : R a 27 ≠ 0 := zne0 hW.1 (zw_12_27 hW h) (by decide)
theorem zw_12_28 {R : zR} {K : zK} (hW : zWT R K) {a : Nat} (h : K[a]? = some (12, 61)) : K[R a 28]? = some (20, 2) := hW.2.1 _ _ _ h 28 _ rfl
theorem zx_12_28 {R : zR} {K : zK} (hW : zWT R K) {a : Nat} (h : K[a]? = some (12, 61)) : R a 28 ≠ 0 := zne0 hW.1 (zw_12_28 hW h) (by decide)
theorem zw_12_29 {R : zR} {K : zK} (hW : zWT R K) {a : Nat} (h : K[a]? = some (12, 61)) : K[R a 29]? = some (20, 4) := hW.2.1 _ _ _ h 29 _ rfl
theorem zx_12_29 {R : zR} {K : zK} (hW : zWT R K) {a : Nat} (h : K[a]? = some (12, 61)) : R a 29 ≠ 0 := zne0 hW.1 (zw_12_29 hW h) (by decide)
theorem zw_12_30 {R : zR} {K : zK} (hW : zWT R K) {a : Nat} (h : K[a]? = some (12, 61)) : K[R a 30]? = some (20, 4) := hW.2.1 _ _ _ h 30 _ rfl
theorem zx_12_30 {R : zR} {K : zK} (hW : zWT R K) {a : Nat} (h : K[a]? = some (12, 61)) : R a 30 ≠ 0 := zne0 hW.1 (zw_12_30 hW h) (by decide)
theorem zw_12_32 {R : zR} {K : zK} (hW : zWT R K) {a : Nat} (h : K[a]? = some (12, 61)) : K[R a 32]? = some (22, 260) := hW.2.1 _ _ _ h 32 _ rfl
theorem zx_12_32 {R : zR} {K : zK} (hW : zWT R K) {a : Nat} (h : K[a]? = some (12, 61)) : R a 32 ≠ 0 := zne0 hW.1 (zw_12_32 hW h) (by decide)
theorem zw_12_33 {R : zR} {K : zK} (hW : zWT R K) {a : Nat} (h : K[a]? = some (12, 61)) : K[R a 33]? = some (20, 260) := hW.2.1 _ _ _ h 33 _ rfl
theorem zx_12_33 {R : zR} {K : zK} (hW : zWT R K) {a : Nat} (h : K[a]? = some (12, 61)) : R a 33 ≠ 0 := zne0 hW.1 (zw_12_33 hW h) (by decide)
theorem zw_12_34 {R : zR} {K : zK} (hW : zWT R K) {a : Nat} (h : K[a]? = some (12, 61)) : K[R a 34]? = some (20, 260) := hW.2.1 _ _ _ h 34 _ rfl
theorem zx_12_34 {R : zR} {K : zK} (hW : zWT R K) {a : Nat} (h : K[a]? = some (12, 61)) : R a 34 ≠ 0 := zne0 hW.1 (zw_12_34 hW h) (by decide)
theorem zw_12_35 {R : zR} {K : zK} (hW : zWT R K) {a : Nat} (h : K[a]? = some (12, 61)) : K[R a 35]? = some (20, 260) := hW.2.1 _ _ _ h 35 _ rfl
theorem zx_12_35 {R : zR} {K : zK} (hW : zWT R K) {a : Nat} (h : K[a]? = some (12, 61)) : R a 35 ≠ 0 := zne0 hW.1 (zw_12_35 hW h) (by decide)
theorem zw_12_36 {R : zR} {K : zK} (hW : zWT R K) {a : Nat} (h : K[a]? = some (12, 61)) : K[R a 36]? = some (20, 260) := hW.2.1 _ _ _ h 36 _ rfl
theorem zx_12_36 {R : zR} {K : zK} (hW : zWT R K) {a : Nat} (h : K[a]? = some (12, 61)) : R a 36 ≠ 0 := zne0 hW.1 (zw_12_36 hW h) (by decide)
theorem zw_12_38 {R : zR} {K : zK} (hW : zWT R K) {a : Nat} (h : K[a]? = some (12, 61)) : K[R a 38]? = some (20, 840) := hW.2.1 _ _ _ h 38 _ rfl
theorem zx_12_38 {R : zR} {K : zK} (hW : zWT R K) {a : Nat} (h : K[a]? = some (12, 61)) : R a 38 ≠ 0 := zne0 hW.1 (zw_12_38 hW h) (by decide)
theorem zw_12_39 {R : zR} {K : zK} (hW : zWT R K) {a : Nat} (h : K[a]? = some (12, 61)) : K[R a 39]? = some (20, 840) := hW.2.1 _ _ _ h 39 _ rfl
theorem zx_12_39 {R : zR} {K : zK} (hW : zWT R K) {a : Nat} (h : K[a]? = some (12, 61)) : R a 39 ≠ 0 := zne0 hW.1 (zw_12_39 hW h) (by decide)
theorem zw_12_40 {R : zR} {K : zK} (hW : zWT R K) {a : Nat} (h : K[a]? = some (12, 61)) : K[R a 40]? = some (20, 64) := hW.2.1 _ _ _ h 40 _ rfl
theorem zx_12_40 {R : zR} {K : zK} (hW : zWT R K) {a : Nat} (h : K[a]? = some (12, 61)) : R a 40 ≠ 0 := zne0 hW.1 (zw_12_40 hW h) (by decide)
theorem zw_12_42 {R : zR} {K : zK} (hW : zWT R K) {a : Nat} (h : K[a]? = some (12, 61)) : K[R a 42]? = some (20, 7) := hW.2.1 _ _ _ h 42 _ rfl
theorem zx_12_42 {R : zR} {K : zK} (hW : zWT R K) {a : Nat} (h : K[a]? = some (12, 61)) : R a 42 ≠ 0 := zne0 hW.1 (zw_12_42 hW h) (by decide)
theorem zw_12_43 {R : zR} {K : zK} (hW : zWT R K) {a : Nat} (h : K[a]? = some (12, 61)) : K[R a 43]? = some (20, 400) := hW.2.1 _ _ _ h 43 _ rfl
theorem zx_12_43 {R : zR} {K : zK} (hW : zWT R K) {a : Nat} (h : K[a]? = some (12, 61)) : R a 43 ≠ 0 := zne0 hW.1 (zw_12_43 hW h) (by decide)
theorem zw_12_45 {R : zR} {K : zK} (hW : zWT R K) {a : Nat} (h : K[a]? = some (12, 61)) : K[R a 45]? = some (20, 60) := hW.2.1 _ _ _ h 45 _ rfl
theorem zx_12_45 {R : zR} {K : zK} (hW : zWT R K) {a : Nat} (h : K[a]? = some (12, 61)) : R a 45 ≠ 0 := zne0 hW.1 (zw_12_45 hW h) (by decide)
theorem zw_12_46 {R : zR} {K : zK} (hW : zWT R K) {a : Nat} (h : K[a]? = some (12, 61)) : K[R a 46]? = some (20, 60) := hW.2.1 _ _ _ h 46 _ rfl
theorem zx_12_46 {R : zR} {K : zK} (hW : zWT R K) {a : Nat} (h : K[a]? = some (12, 61)) : R a 46 ≠ 0 := zne0 hW.1 (zw_12_46 hW h) (by decide)
theorem zw_12_47 {R : zR} {K : zK} (hW : zWT R K) {a : Nat} (h : K[a]? = some (12, 61)) : K[R a 47]? = some (20, 10) := hW.2.1 _ _ _ h 47 _ rfl
theorem zx_12_47 {R : zR} {K : zK} (hW : zWT R K) {a : Nat} (h : K[a]? = some (12, 61)) : R a 47 ≠ 0 := zne0 hW.1 (zw_12_47 hW h) (by decide)
theorem zw_12_49 {R : zR} {K : zK} (hW : zWT R K) {a : Nat} (h : K[a]? = some (12, 61)) : K[R a 49]? = some (20, 1800) := hW.2.1 _ _ _ h 49 _ rfl
theorem zx_12_49 {R : zR} {K : zK} (hW : zWT R K) {a : Nat} (h : K[a]? = some (12, 61)) : R a 49 ≠ 0 := zne0 hW.1 (zw_12_49 hW h) (by decide)
theorem zw_12_50 {R : zR} {K : zK} (hW : zWT R K) {a : Nat} (h : K[a]? = some (12, 61)) : K[R a 50]? = some (20, 6321) := hW.2.1 _ _ _ h 50 _ rfl
theorem zx_12_50 {R : zR} {K : zK} (hW : zWT R K) {a : Nat} (h : K[a]? = some (12, 61)) : R a 50 ≠ 0 := zne0 hW.1 (zw_12_50 hW h) (by decide)
theorem zw_12_52 {R : zR} {K : zK} (hW : zWT R K) {a : Nat} (h : K[a]? = some (12, 61)) : K[R a 52]? = some (20, 2560) := hW.2.1 _ _ _ h 52 _ rfl
theorem zx_12_52 {R : zR} {K : zK} (hW : zWT R K) {a : Nat} (h : K[a]? = some (12, 61)) : R a 52 ≠ 0 := zne0 hW.1 (zw_12_52 hW h) (by decide)
theorem zw_12_54 {R : zR} {K : zK} (hW : zWT R K) {a : Nat} (h : K[a]? = some (12, 61)) : K[R a 54]? = some (20, 20) := hW.2.1 _ _ _ h 54 _ rfl
theorem zx_12_54 {R : zR} {K : zK} (hW : zWT R K) {a : Nat} (h : K[a]? = some (12, 61)) : R a 54 ≠ 0 := zne0 hW.1 (zw_12_54 hW h) (by decide)
theorem zw_12_55 {R : zR} {K : zK} (hW : zWT R K) {a : Nat} (h : K[a]? = some (12, 61)) : K[R a 55]? = some (20, 20) := hW.2.1 _ _ _ h 55 _ rfl
theorem zx_12_55 {R : zR} {K : zK} (hW : zWT R K) {a : Nat} (h : K[a]? = some (12, 61)) : R a 55 ≠ 0 := zne0 hW.1 (zw_12_55 hW h) (by decide)
theorem zw_12_56 {R : zR} {K : zK} (hW : zWT R K) {a : Nat} (h : K[a]? = some (12, 61)) : K[R a 56]? = some (20, 10) := hW.2.1 _ _ _ h 56 _ rfl
theorem zx_12_56 {R : zR} {K : zK} (hW : zWT R K) {a : Nat} (h : K[a]? = some (12, 61)) : R a 56 ≠ 0 := zne0 hW.1 (zw_12_56 hW h) (by decide)
theorem zw_12_57 {R : zR} {K : zK} (hW : zWT R K) {a : Nat} (h : K[a]? = some (12, 61)) : K[R a 57]? = some (20, 10) := hW.2.1 _ _ _ h 57 _ rfl
theorem zx_12_57 {R : zR} {K : zK} (hW : zWT R K) {a : Nat} (h : K[a]? = some (12, 61)) : R a 57 ≠ 0 := zne0 hW.1 (zw_12_57 hW h) (by decide)
theorem zw_12_58 {R : zR} {K : zK} (hW : zWT R K) {a : Nat} (h : K[a]? = some (12, 61)) : K[R a 58]? = some (20, 10) := hW.2.1 _ _ _ h 58 _ rfl
theorem zx_12_58 {R : zR} {K : zK} (hW : zWT R K) {a : Nat} (h : K[a]? = some (12, 61)) : R a 58 ≠ 0 := zne0 hW.1 (zw_12_58 hW h) (by decide)
theorem zw_12_59 {R : zR} {K : zK} (hW : zWT R K) {a : Nat} (h : K[a]? = some (12, 61)) : K[R a 59]? = some (22, 3) := hW.2.1 _ _ _ h 59 _ rfl
theorem zx_12_59 {R : zR} {K : zK} (hW : zWT R K) {a : Nat} (h : K[a]? = some (12, 61)) : R a 59 ≠ 0 := zne0 hW.1 (zw_12_59 hW h) (by decide)
theorem zw_12_60 {R : zR} {K : zK} (hW : zWT R K) {a : Nat} (h : K[a]? = some (12, 61)) : K[R a 60]? = some (20, 180) := hW.2.1 _ _ _ h 60 _ rfl
theorem zx_12_60 {R : zR} {K : zK} (hW : zWT R K) {a : Nat} (h : K[a]? = some (12, 61)) : R a 60 ≠ 0 := zne0 hW.1 (zw_12_60 hW h) (by decide)
