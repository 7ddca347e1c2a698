/-- a method: its name, its class' number, its locals, its result, its parameters, its kind (0 of an object, 1 static, 2 constructor) -/
abbrev pMr : Type := MethodName × Nat × Nat × Option FieldType × Nat × Nat
/-- where the words on a method stand in lw_tbl -/
abbrev okM (q : pMr × Nat × Nat × Nat × Nat) : Prop := (pW q.2.1).bind pCw = some (q.1.1, q.1.2.2.1, q.1.2.2.2.1) ∧ pW q.2.2.1 = some (if q.1.2.2.2.2.2 = 1 then .static q.1.1 else .instanceMethod q.1.1) ∧ (q.1.2.2.2.2.2 = 0 → pW q.2.2.2.1 = some (.selects q.1.1.cls q.1.1 q.1.1)) ∧ pW q.2.2.2.2 = some (.initialized q.1.1.cls) ∧ pCn[q.1.2.1]? = some q.1.1.cls ∧ plainName q.1.1.cls = true ∧ (q.1.1.cls ≠ "java/lang/invoke/MethodHandle" ∧ q.1.1.cls ≠ "java/lang/invoke/VarHandle") ∧ (parseMethodDescriptor q.1.1.desc).map (fun d => d.parameters.length) = some q.1.2.2.2.2.1 ∧ (q.1.2.2.2.2.2 = 2 ↔ q.1.1.name = "<init>") ∧ q.1.2.2.1 ≤ 45 ∧ (q.1.2.2.2.2.2 = 2 → q.1.2.2.2.1 = none)
def pMq_0 : List (pMr × Nat × Nat × Nat × Nat) := [
  ((⟨"ClassHouse", "<init>", "()V"⟩, 11, 3, none, 0, 2), 1026, 1025, 0, 1001),
  ((⟨"ClassHouse$Words", "<init>", "()V"⟩, 10, 1, none, 0, 2), 1034, 1033, 0, 1002),
  ((⟨"java/lang/String", "length", "()I"⟩, 13, 1, some .int, 0, 0), 1040, 1038, 1039, 1003),
  ((⟨"java/lang/String", "coder", "()B"⟩, 13, 1, some .byte, 0, 0), 1044, 1042, 1043, 1003),
  ((⟨"ClassHouse$Classes", "<init>", "()V"⟩, 1, 1, none, 0, 2), 1091, 1090, 0, 1004),
  ((⟨"ClassHouse$Members", "<init>", "(LClassHouse$Classes;)V"⟩, 6, 2, none, 1, 2), 1138, 1137, 0, 1005),
  ((⟨"ClassHouse$Code", "<init>", "()V"⟩, 2, 1, none, 0, 2), 1207, 1206, 0, 1006),
  ((⟨"ClassHouse$Reader", "<init>", "(LClassHouse$Words;LClassHouse$Classes;LClassHouse$Members;LClassHouse$Code;)V"⟩, 7, 5, none, 4, 2), 2021, 2020, 0, 1007),
  ((⟨"ClassHouse$Checker", "<init>", "(LClassHouse$Classes;LClassHouse$Members;)V"⟩, 0, 3, none, 2, 2), 2064, 2063, 0, 1008),
  ((⟨"ClassHouse$Typer", "<init>", "(LClassHouse$Classes;LClassHouse$Members;LClassHouse$Code;)V"⟩, 9, 4, none, 3, 2), 2077, 2076, 0, 1009),
  ((⟨"ClassHouse$Scope", "<init>", "()V"⟩, 8, 1, none, 0, 2), 2083, 2082, 0, 1010),
  ((⟨"ClassHouse$Input", "<init>", "()V"⟩, 4, 1, none, 0, 2), 2160, 2159, 0, 1011)]
def pMq_1 : List (pMr × Nat × Nat × Nat × Nat) := [
  ((⟨"ClassHouse$Machine", "<init>", "(LClassHouse$Classes;LClassHouse$Members;LClassHouse$Code;LClassHouse$Input;)V"⟩, 5, 5, none, 4, 2), 2177, 2176, 0, 1012),
  ((⟨"ClassHouse$Heap", "<init>", "()V"⟩, 3, 2, none, 0, 2), 2183, 2182, 0, 1013),
  ((⟨"ClassHouse", "feed", "(IIIII)I"⟩, 11, 6, some .int, 5, 0), 3062, 3060, 3061, 1001),
  ((⟨"ClassHouse", "putFour", "(I)V"⟩, 11, 3, none, 1, 0), 3066, 3065, 0, 1001),
  ((⟨"ClassHouse", "end", "(I)I"⟩, 11, 2, some .int, 1, 0), 3070, 3068, 3069, 1001),
  ((⟨"ClassHouse", "program", "()I"⟩, 11, 4, some .int, 0, 0), 3074, 3072, 3073, 1001),
  ((⟨"ClassHouse$Machine", "forget", "()V"⟩, 5, 1, none, 0, 0), 3078, 3076, 3077, 1012),
  ((⟨"ClassHouse$Words", "split", "([II)V"⟩, 10, 5, none, 2, 0), 3082, 3080, 3081, 1002),
  ((⟨"ClassHouse$Words", "nameFixedWords", "()V"⟩, 10, 4, none, 0, 0), 3086, 3085, 1, 1002),
  ((⟨"java/util/Arrays", "fill", "([II)V"⟩, 16, 4, none, 2, 1), 3089, 3088, 0, 1015),
  ((⟨"java/lang/String", "charAt", "(I)C"⟩, 13, 2, some .char, 1, 0), 3093, 3091, 3092, 1003),
  ((⟨"java/lang/String", "isLatin1", "()Z"⟩, 13, 1, some .boolean, 0, 0), 3097, 3095, 3096, 1003)]
def pMq_2 : List (pMr × Nat × Nat × Nat × Nat) := [
  ((⟨"java/lang/StringLatin1", "charAt", "([BI)C"⟩, 14, 2, some .char, 2, 1), 3100, 3099, 0, 1016),
  ((⟨"java/lang/String", "checkIndex", "(II)V"⟩, 13, 2, none, 2, 1), 3103, 3102, 0, 1003),
  ((⟨"jdk/internal/util/Preconditions", "checkIndex", "(IILjava/util/function/BiFunction;)I"⟩, 17, 3, some .int, 3, 1), 3108, 3107, 0, 1017),
  ((⟨"java/lang/StringUTF16", "charAt", "([BI)C"⟩, 15, 2, some .char, 2, 1), 3111, 3110, 0, 1018),
  ((⟨"java/lang/StringUTF16", "checkIndex", "(I[B)V"⟩, 15, 2, none, 2, 1), 3114, 3113, 0, 1018),
  ((⟨"java/lang/StringUTF16", "length", "([B)I"⟩, 15, 1, some .int, 1, 1), 3117, 3116, 0, 1018),
  ((⟨"java/lang/StringUTF16", "getChar", "([BI)C"⟩, 15, 2, some .char, 2, 1), 3121, 3120, 0, 1018),
  ((⟨"ClassHouse$Words", "nameOfLetters", "(I)I"⟩, 10, 5, some .int, 1, 0), 3131, 3130, 2, 1002),
  ((⟨"ClassHouse$Words", "hasLetters", "(II)Z"⟩, 10, 5, some .boolean, 2, 0), 3135, 3134, 3, 1002),
  ((⟨"ClassHouse$Words", "addLetter", "(I)V"⟩, 10, 2, none, 1, 0), 3139, 3138, 4, 1002),
  ((⟨"ClassHouse$Words", "takeWord", "([III)I"⟩, 10, 6, some .int, 3, 0), 3143, 3142, 5, 1002),
  ((⟨"ClassHouse$Words", "isLetter", "(I)Z"⟩, 10, 1, some .boolean, 1, 1), 3146, 3145, 0, 1002)]
def pMq_3 : List (pMr × Nat × Nat × Nat × Nat) := [
  ((⟨"ClassHouse$Words", "takeName", "([III)I"⟩, 10, 7, some .int, 3, 0), 3150, 3149, 6, 1002),
  ((⟨"ClassHouse$Words", "isDigit", "(I)Z"⟩, 10, 1, some .boolean, 1, 1), 3153, 3152, 0, 1002),
  ((⟨"ClassHouse$Words", "addWord", "(III)V"⟩, 10, 4, none, 3, 0), 3157, 3156, 7, 1002),
  ((⟨"ClassHouse$Words", "takeNumber", "([III)I"⟩, 10, 6, some .int, 3, 0), 3161, 3160, 8, 1002),
  ((⟨"ClassHouse$Words", "signOfTwo", "(II)I"⟩, 10, 2, some .int, 2, 1), 3164, 3163, 0, 1002),
  ((⟨"java/lang/String", "indexOf", "(I)I"⟩, 13, 2, some .int, 1, 0), 3169, 3167, 3168, 1003),
  ((⟨"java/lang/String", "indexOf", "(II)I"⟩, 13, 3, some .int, 2, 0), 3173, 3171, 3172, 1003),
  ((⟨"java/lang/StringLatin1", "indexOf", "([BIII)I"⟩, 14, 4, some .int, 4, 1), 3177, 3176, 0, 1016),
  ((⟨"java/lang/StringLatin1", "canEncode", "(I)Z"⟩, 14, 1, some .boolean, 1, 1), 3180, 3179, 0, 1016),
  ((⟨"java/lang/StringLatin1", "indexOfChar", "([BIII)I"⟩, 14, 6, some .int, 4, 1), 3189, 3188, 0, 1016),
  ((⟨"java/lang/StringUTF16", "indexOf", "([BIII)I"⟩, 15, 4, some .int, 4, 1), 3192, 3191, 0, 1018),
  ((⟨"java/lang/StringUTF16", "indexOfChar", "([BIII)I"⟩, 15, 4, some .int, 4, 1), 3198, 3197, 0, 1018)]
def pMq_4 : List (pMr × Nat × Nat × Nat × Nat) := [
  ((⟨"java/lang/StringUTF16", "checkBoundsBeginEnd", "(II[B)V"⟩, 15, 3, none, 3, 1), 3201, 3200, 0, 1018),
  ((⟨"java/lang/String", "checkBoundsBeginEnd", "(III)V"⟩, 13, 3, none, 3, 1), 3204, 3203, 0, 1003),
  ((⟨"jdk/internal/util/Preconditions", "checkFromToIndex", "(IIILjava/util/function/BiFunction;)I"⟩, 17, 4, some .int, 4, 1), 3207, 3206, 0, 1017),
  ((⟨"java/lang/StringUTF16", "indexOfCharUnsafe", "([BIII)I"⟩, 15, 5, some .int, 4, 1), 3210, 3209, 0, 1018),
  ((⟨"java/lang/StringUTF16", "indexOfSupplementary", "([BIII)I"⟩, 15, 7, some .int, 4, 1), 3213, 3212, 0, 1018),
  ((⟨"ClassHouse$Reader", "read", "()I"⟩, 7, 6, some .int, 0, 0), 3228, 3226, 3227, 1007),
  ((⟨"ClassHouse$Reader", "begin", "()V"⟩, 7, 1, none, 0, 0), 3232, 3231, 9, 1007),
  ((⟨"ClassHouse$Classes", "clear", "()V"⟩, 1, 2, none, 0, 0), 3236, 3234, 3235, 1004),
  ((⟨"ClassHouse$Classes", "add", "(IIII)V"⟩, 1, 5, none, 4, 0), 4000, 3238, 3239, 1004),
  ((⟨"ClassHouse$Members", "clear", "()V"⟩, 6, 1, none, 0, 0), 4004, 4002, 4003, 1005),
  ((⟨"ClassHouse$Code", "clear", "()V"⟩, 2, 1, none, 0, 0), 4008, 4006, 4007, 1006),
  ((⟨"ClassHouse$Reader", "take", "(I)V"⟩, 7, 2, none, 1, 0), 4012, 4011, 10, 1007)]
def pMq_5 : List (pMr × Nat × Nat × Nat × Nat) := [
  ((⟨"ClassHouse$Reader", "advance", "()V"⟩, 7, 1, none, 0, 0), 4016, 4015, 11, 1007),
  ((⟨"ClassHouse$Reader", "fail", "()V"⟩, 7, 1, none, 0, 0), 4020, 4019, 12, 1007),
  ((⟨"ClassHouse$Reader", "takeName", "()I"⟩, 7, 2, some .int, 0, 0), 4024, 4023, 13, 1007),
  ((⟨"ClassHouse$Reader", "readMembers", "()V"⟩, 7, 7, none, 0, 0), 4029, 4028, 14, 1007),
  ((⟨"ClassHouse$Reader", "open", "(I)V"⟩, 7, 2, none, 1, 0), 4033, 4032, 15, 1007),
  ((⟨"ClassHouse$Reader", "takeType", "()I"⟩, 7, 2, some .int, 0, 0), 4037, 4036, 16, 1007),
  ((⟨"ClassHouse$Members", "add", "(IIIZ)V"⟩, 6, 5, none, 4, 0), 4041, 4039, 4040, 1005),
  ((⟨"ClassHouse$Reader", "readParameters", "()V"⟩, 7, 2, none, 0, 0), 4045, 4044, 17, 1007),
  ((⟨"ClassHouse$Reader", "readParameter", "()V"⟩, 7, 2, none, 0, 0), 4049, 4048, 18, 1007),
  ((⟨"ClassHouse$Members", "addParameter", "(II)V"⟩, 6, 3, none, 2, 0), 4053, 4051, 4052, 1005),
  ((⟨"ClassHouse$Reader", "close", "(I)V"⟩, 7, 2, none, 1, 0), 4057, 4056, 19, 1007),
  ((⟨"ClassHouse$Members", "codeOfLast", "(I)V"⟩, 6, 2, none, 1, 0), 4061, 4059, 4060, 1005)]
def pMq_6 : List (pMr × Nat × Nat × Nat × Nat) := [
  ((⟨"ClassHouse$Reader", "readBlock", "()I"⟩, 7, 2, some .int, 0, 0), 4065, 4064, 20, 1007),
  ((⟨"ClassHouse$Reader", "readStatement", "()V"⟩, 7, 1, none, 0, 0), 4069, 4068, 21, 1007),
  ((⟨"ClassHouse$Reader", "readIf", "()V"⟩, 7, 3, none, 0, 0), 4073, 4072, 22, 1007),
  ((⟨"ClassHouse$Reader", "readBracketed", "()V"⟩, 7, 1, none, 0, 0), 4077, 4076, 23, 1007),
  ((⟨"ClassHouse$Reader", "readExpression", "()V"⟩, 7, 4, none, 0, 0), 4081, 4080, 24, 1007),
  ((⟨"ClassHouse$Reader", "readOne", "()V"⟩, 7, 3, none, 0, 0), 4085, 4084, 25, 1007),
  ((⟨"ClassHouse$Reader", "await", "(III)V"⟩, 7, 4, none, 3, 0), 4089, 4088, 26, 1007),
  ((⟨"ClassHouse$Reader", "readFirst", "()V"⟩, 7, 1, none, 0, 0), 4093, 4092, 27, 1007),
  ((⟨"ClassHouse$Reader", "readSingle", "(II)V"⟩, 7, 3, none, 2, 0), 4097, 4096, 28, 1007),
  ((⟨"ClassHouse$Code", "emit", "(III)I"⟩, 2, 4, some .int, 3, 0), 4101, 4099, 4100, 1006),
  ((⟨"ClassHouse$Reader", "readNamed", "()V"⟩, 7, 3, none, 0, 0), 4105, 4104, 29, 1007),
  ((⟨"ClassHouse$Reader", "readArguments", "()I"⟩, 7, 3, some .int, 0, 0), 4109, 4108, 30, 1007)]
def pMq_7 : List (pMr × Nat × Nat × Nat × Nat) := [
  ((⟨"ClassHouse$Reader", "readNew", "()V"⟩, 7, 1, none, 0, 0), 4113, 4112, 31, 1007),
  ((⟨"ClassHouse$Reader", "readIndex", "()V"⟩, 7, 1, none, 0, 0), 4117, 4116, 32, 1007),
  ((⟨"ClassHouse$Reader", "isBehindFirst", "(I)Z"⟩, 7, 1, some .boolean, 1, 1), 4120, 4119, 0, 1007),
  ((⟨"ClassHouse$Reader", "readBehind", "()V"⟩, 7, 4, none, 0, 0), 4124, 4123, 33, 1007),
  ((⟨"ClassHouse$Reader", "release", "(II)V"⟩, 7, 5, none, 2, 0), 4128, 4127, 34, 1007),
  ((⟨"ClassHouse$Reader", "levelOf", "(I)I"⟩, 7, 1, some .int, 1, 1), 4131, 4130, 0, 1007),
  ((⟨"ClassHouse$Reader", "leastReleased", "(I)I"⟩, 7, 1, some .int, 1, 1), 4134, 4133, 0, 1007),
  ((⟨"ClassHouse$Reader", "fits", "(II)Z"⟩, 7, 3, some .boolean, 2, 0), 4138, 4137, 35, 1007),
  ((⟨"ClassHouse$Reader", "readSign", "(I)V"⟩, 7, 5, none, 1, 0), 4142, 4141, 36, 1007),
  ((⟨"ClassHouse$Reader", "opOf", "(I)I"⟩, 7, 1, some .int, 1, 1), 4145, 4144, 0, 1007),
  ((⟨"ClassHouse$Reader", "readWhile", "()V"⟩, 7, 4, none, 0, 0), 4149, 4148, 37, 1007),
  ((⟨"ClassHouse$Reader", "readTry", "()V"⟩, 7, 7, none, 0, 0), 4153, 4152, 38, 1007)]
def pMq_8 : List (pMr × Nat × Nat × Nat × Nat) := [
  ((⟨"ClassHouse$Reader", "readReturn", "()V"⟩, 7, 1, none, 0, 0), 4157, 4156, 39, 1007),
  ((⟨"ClassHouse$Reader", "readWork", "(I)V"⟩, 7, 2, none, 1, 0), 4161, 4160, 40, 1007),
  ((⟨"ClassHouse$Reader", "tellsVariable", "()Z"⟩, 7, 1, some .boolean, 0, 0), 4165, 4164, 41, 1007),
  ((⟨"ClassHouse$Reader", "readVariable", "()V"⟩, 7, 3, none, 0, 0), 4169, 4168, 42, 1007),
  ((⟨"ClassHouse$Reader", "readCallOrGift", "()V"⟩, 7, 5, none, 0, 0), 4173, 4172, 43, 1007),
  ((⟨"ClassHouse$Code", "lastOp", "(I)I"⟩, 2, 2, some .int, 1, 0), 4177, 4175, 4176, 1006),
  ((⟨"ClassHouse$Reader", "giftOf", "(I)I"⟩, 7, 1, some .int, 1, 1), 4180, 4179, 0, 1007),
  ((⟨"ClassHouse$Code", "takeBackLast", "()I"⟩, 2, 1, some .int, 0, 0), 4184, 4182, 4183, 1006),
  ((⟨"ClassHouse$Classes", "closeLast", "(I)V"⟩, 1, 2, none, 1, 0), 4188, 4186, 4187, 1004),
  ((⟨"ClassHouse$Checker", "check", "(I)I"⟩, 0, 3, some .int, 1, 0), 4192, 4190, 4191, 1008),
  ((⟨"ClassHouse$Checker", "badClass", "()I"⟩, 0, 3, some .int, 0, 0), 4196, 4195, 44, 1008),
  ((⟨"ClassHouse$Classes", "find", "(I)I"⟩, 1, 3, some .int, 1, 0), 4200, 4198, 4199, 1004)]
def pMq_9 : List (pMr × Nat × Nat × Nat × Nat) := [
  ((⟨"ClassHouse$Checker", "isOnOwnWay", "(I)Z"⟩, 0, 4, some .boolean, 1, 0), 4204, 4203, 45, 1008),
  ((⟨"ClassHouse$Classes", "parentOf", "(I)I"⟩, 1, 2, some .int, 1, 0), 4208, 4206, 4207, 1004),
  ((⟨"ClassHouse$Members", "resolveTypes", "()V"⟩, 6, 2, none, 0, 0), 4212, 4210, 4211, 1005),
  ((⟨"ClassHouse$Members", "resolved", "(I)I"⟩, 6, 2, some .int, 1, 0), 4216, 4215, 46, 1005),
  ((⟨"ClassHouse$Checker", "badMember", "()I"⟩, 0, 4, some .int, 0, 0), 4221, 4220, 47, 1008),
  ((⟨"ClassHouse$Checker", "isMethodFine", "(II)Z"⟩, 0, 5, some .boolean, 2, 0), 4225, 4224, 48, 1008),
  ((⟨"ClassHouse$Checker", "areParametersFine", "(I)Z"⟩, 0, 4, some .boolean, 1, 0), 4229, 4228, 49, 1008),
  ((⟨"ClassHouse$Members", "parameterTypeOf", "(II)I"⟩, 6, 4, some .int, 2, 0), 4233, 4231, 4232, 1005),
  ((⟨"ClassHouse$Members", "parameterNameOf", "(II)I"⟩, 6, 4, some .int, 2, 0), 4237, 4235, 4236, 1005),
  ((⟨"ClassHouse$Members", "among", "(IIZI)I"⟩, 6, 6, some .int, 4, 0), 5001, 4239, 5000, 1005),
  ((⟨"ClassHouse$Members", "had", "(IZI)I"⟩, 6, 7, some .int, 3, 0), 5005, 5003, 5004, 1005),
  ((⟨"ClassHouse$Checker", "haveSameTypes", "(II)Z"⟩, 0, 4, some .boolean, 2, 0), 5010, 5009, 50, 1008)]
def pMq_10 : List (pMr × Nat × Nat × Nat × Nat) := [
  ((⟨"ClassHouse$Checker", "isFieldFine", "(II)Z"⟩, 0, 4, some .boolean, 2, 0), 5014, 5013, 51, 1008),
  ((⟨"ClassHouse$Members", "layOutFields", "()V"⟩, 6, 4, none, 0, 0), 5018, 5016, 5017, 1005),
  ((⟨"ClassHouse$Members", "fieldsAbove", "(I)I"⟩, 6, 5, some .int, 1, 0), 5022, 5021, 52, 1005),
  ((⟨"ClassHouse$Members", "ownFields", "(I)I"⟩, 6, 4, some .int, 1, 0), 5027, 5026, 53, 1005),
  ((⟨"ClassHouse$Checker", "hasMain", "()Z"⟩, 0, 3, some .boolean, 0, 0), 5031, 5030, 54, 1008),
  ((⟨"ClassHouse$Typer", "check", "()I"⟩, 9, 5, some .int, 0, 0), 5035, 5033, 5034, 1009),
  ((⟨"ClassHouse$Typer", "enter", "(II)V"⟩, 9, 4, none, 2, 0), 5039, 5038, 55, 1009),
  ((⟨"ClassHouse$Scope", "clear", "()V"⟩, 8, 1, none, 0, 0), 5043, 5041, 5042, 1010),
  ((⟨"ClassHouse$Scope", "add", "(IIZ)I"⟩, 8, 4, some .int, 3, 0), 5049, 5047, 5048, 1010),
  ((⟨"ClassHouse$Scope", "give", "(I)V"⟩, 8, 2, none, 1, 0), 5053, 5051, 5052, 1010),
  ((⟨"ClassHouse$Typer", "codeEnd", "(I)I"⟩, 9, 3, some .int, 1, 0), 5058, 5057, 56, 1009),
  ((⟨"ClassHouse$Typer", "isFine", "(II)Z"⟩, 9, 3, some .boolean, 2, 0), 5062, 5061, 57, 1009)]
def pMq_11 : List (pMr × Nat × Nat × Nat × Nat) := [
  ((⟨"ClassHouse$Typer", "isValueFine", "(II)Z"⟩, 9, 3, some .boolean, 2, 0), 5066, 5065, 58, 1009),
  ((⟨"ClassHouse$Typer", "push", "(I)Z"⟩, 9, 2, some .boolean, 1, 0), 5070, 5069, 59, 1009),
  ((⟨"ClassHouse$Typer", "isNameFine", "(I)Z"⟩, 9, 3, some .boolean, 1, 0), 5075, 5074, 60, 1009),
  ((⟨"ClassHouse$Scope", "find", "(I)I"⟩, 8, 3, some .int, 1, 0), 5079, 5077, 5078, 1010),
  ((⟨"ClassHouse$Typer", "fieldType", "(III)I"⟩, 9, 5, some .int, 3, 0), 5083, 5082, 61, 1009),
  ((⟨"ClassHouse$Scope", "isSet", "(I)Z"⟩, 8, 2, some .boolean, 1, 0), 5088, 5086, 5087, 1010),
  ((⟨"ClassHouse$Typer", "isPartFine", "(II)Z"⟩, 9, 3, some .boolean, 2, 0), 5092, 5091, 62, 1009),
  ((⟨"ClassHouse$Typer", "isDotFine", "(I)Z"⟩, 9, 3, some .boolean, 1, 0), 5096, 5095, 63, 1009),
  ((⟨"ClassHouse$Typer", "pop", "()I"⟩, 9, 1, some .int, 0, 0), 5100, 5099, 64, 1009),
  ((⟨"ClassHouse$Typer", "classNamed", "(I)I"⟩, 9, 2, some .int, 1, 0), 5104, 5103, 65, 1009),
  ((⟨"ClassHouse$Typer", "isObject", "(I)Z"⟩, 9, 1, some .boolean, 1, 1), 5108, 5107, 0, 1009),
  ((⟨"ClassHouse$Typer", "isSignFine", "(I)Z"⟩, 9, 2, some .boolean, 1, 0), 5112, 5111, 66, 1009)]
def pMq_12 : List (pMr × Nat × Nat × Nat × Nat) := [
  ((⟨"ClassHouse$Typer", "areComparable", "(II)Z"⟩, 9, 3, some .boolean, 2, 0), 5116, 5115, 67, 1009),
  ((⟨"ClassHouse$Typer", "isReference", "(I)Z"⟩, 9, 1, some .boolean, 1, 1), 5119, 5118, 0, 1009),
  ((⟨"ClassHouse$Classes", "isSub", "(II)Z"⟩, 1, 5, some .boolean, 2, 0), 5123, 5121, 5122, 1004),
  ((⟨"ClassHouse$Typer", "areNumbers", "(II)Z"⟩, 9, 2, some .boolean, 2, 1), 5127, 5126, 0, 1009),
  ((⟨"ClassHouse$Typer", "isGiftFine", "(II)Z"⟩, 9, 4, some .boolean, 2, 0), 5131, 5130, 68, 1009),
  ((⟨"ClassHouse$Typer", "isCallFine", "(I)Z"⟩, 9, 6, some .boolean, 1, 0), 5135, 5134, 69, 1009),
  ((⟨"ClassHouse$Typer", "isGivenNameFine", "(II)Z"⟩, 9, 4, some .boolean, 2, 0), 5139, 5138, 70, 1009),
  ((⟨"ClassHouse$Typer", "fits", "(II)Z"⟩, 9, 3, some .boolean, 2, 0), 5143, 5142, 71, 1009),
  ((⟨"ClassHouse$Typer", "variableType", "(I)I"⟩, 9, 3, some .int, 1, 0), 5148, 5147, 72, 1009),
  ((⟨"ClassHouse$Typer", "tell", "(IZ)Z"⟩, 9, 4, some .boolean, 2, 0), 5152, 5151, 73, 1009),
  ((⟨"ClassHouse$Typer", "isWorkFine", "(I)Z"⟩, 9, 3, some .boolean, 1, 0), 5156, 5155, 74, 1009),
  ((⟨"ClassHouse$Scope", "open", "()V"⟩, 8, 1, none, 0, 0), 5160, 5158, 5159, 1010)]
def pMq_13 : List (pMr × Nat × Nat × Nat × Nat) := [
  ((⟨"ClassHouse$Scope", "stop", "()V"⟩, 8, 1, none, 0, 0), 5167, 5165, 5166, 1010),
  ((⟨"ClassHouse$Typer", "isSilentFine", "(II)Z"⟩, 9, 3, some .boolean, 2, 0), 5171, 5170, 75, 1009),
  ((⟨"ClassHouse$Scope", "turn", "()V"⟩, 8, 1, none, 0, 0), 5175, 5173, 5174, 1010),
  ((⟨"ClassHouse$Scope", "restore", "()V"⟩, 8, 1, none, 0, 0), 5179, 5178, 76, 1010),
  ((⟨"ClassHouse$Scope", "leave", "()V"⟩, 8, 1, none, 0, 0), 5183, 5181, 5182, 1010),
  ((⟨"ClassHouse$Scope", "merge", "()V"⟩, 8, 2, none, 0, 0), 5187, 5185, 5186, 1010),
  ((⟨"ClassHouse$Typer", "isCatchFine", "(I)Z"⟩, 9, 2, some .boolean, 1, 0), 5191, 5190, 77, 1009),
  ((⟨"ClassHouse$Classes", "told", "()I"⟩, 1, 1, some .int, 0, 0), 5195, 5193, 5194, 1004),
  ((⟨"ClassHouse", "heap", "(I)I"⟩, 11, 2, some .int, 1, 0), 5199, 5197, 5198, 1001),
  ((⟨"ClassHouse", "input", "(III)I"⟩, 11, 4, some .int, 3, 0), 5203, 5201, 5202, 1001),
  ((⟨"ClassHouse$Input", "addThree", "(III)I"⟩, 4, 4, some .int, 3, 0), 5207, 5205, 5206, 1011),
  ((⟨"ClassHouse$Input", "add", "(I)V"⟩, 4, 2, none, 1, 0), 5211, 5210, 78, 1011)]
def pMq_14 : List (pMr × Nat × Nat × Nat × Nat) := [
  ((⟨"ClassHouse", "start", "()I"⟩, 11, 1, some .int, 0, 0), 5215, 5213, 5214, 1001),
  ((⟨"ClassHouse$Machine", "begin", "(I)V"⟩, 5, 4, none, 1, 0), 5219, 5217, 5218, 1012),
  ((⟨"ClassHouse$Heap", "clear", "(I)V"⟩, 3, 2, none, 1, 0), 5227, 5225, 5226, 1013),
  ((⟨"ClassHouse$Heap", "makeObject", "(II)J"⟩, 3, 4, some .long, 2, 0), 5232, 5230, 5231, 1013),
  ((⟨"java/util/Arrays", "fill", "([JIIJ)V"⟩, 16, 6, none, 4, 1), 5235, 5234, 0, 1015),
  ((⟨"java/util/Arrays", "rangeCheck", "(III)V"⟩, 16, 3, none, 3, 1), 5238, 5237, 0, 1015),
  ((⟨"ClassHouse$Machine", "push", "(J)V"⟩, 5, 3, none, 1, 0), 6003, 6002, 79, 1012),
  ((⟨"ClassHouse$Machine", "openMethod", "(II)V"⟩, 5, 5, none, 2, 0), 6007, 6006, 80, 1012),
  ((⟨"ClassHouse$Machine", "growPile", "(I)V"⟩, 5, 2, none, 1, 0), 6011, 6010, 81, 1012),
  ((⟨"java/util/Arrays", "copyOf", "([JI)[J"⟩, 16, 3, some (.array .long), 2, 1), 6016, 6015, 0, 1015),
  ((⟨"ClassHouse$Machine", "settle", "()V"⟩, 5, 2, none, 0, 0), 6029, 6028, 82, 1012),
  ((⟨"ClassHouse$Code", "isSilent", "(I)Z"⟩, 2, 2, some .boolean, 1, 0), 6034, 6032, 6033, 1006)]
def pMq_15 : List (pMr × Nat × Nat × Nat × Nat) := [
  ((⟨"ClassHouse$Code", "has", "(I)Z"⟩, 2, 2, some .boolean, 1, 0), 6038, 6036, 6037, 1006),
  ((⟨"ClassHouse$Machine", "actSilent", "(II)V"⟩, 5, 3, none, 2, 0), 6042, 6041, 83, 1012),
  ((⟨"ClassHouse$Machine", "pop", "()J"⟩, 5, 1, some .long, 0, 0), 6046, 6045, 84, 1012),
  ((⟨"ClassHouse$Machine", "slot", "(I)I"⟩, 5, 2, some .int, 1, 0), 6050, 6049, 85, 1012),
  ((⟨"ClassHouse$Machine", "closeMethod", "(J)V"⟩, 5, 3, none, 1, 0), 6054, 6053, 86, 1012),
  ((⟨"ClassHouse", "step", "(I)I"⟩, 11, 2, some .int, 1, 0), 6058, 6056, 6057, 1001),
  ((⟨"ClassHouse$Machine", "run", "(I)I"⟩, 5, 5, some .int, 1, 0), 6062, 6060, 6061, 1012),
  ((⟨"ClassHouse$Machine", "act", "()J"⟩, 5, 3, some .long, 0, 0), 6067, 6066, 87, 1012),
  ((⟨"ClassHouse$Machine", "actValue", "(II)J"⟩, 5, 3, some .long, 2, 0), 6071, 6070, 88, 1012),
  ((⟨"ClassHouse$Heap", "number", "(I)J"⟩, 3, 1, some .long, 1, 1), 6074, 6073, 0, 1013),
  ((⟨"ClassHouse$Input", "next", "()I"⟩, 4, 2, some .int, 0, 0), 6079, 6077, 6078, 1011),
  ((⟨"ClassHouse$Heap", "at", "(JI)J"⟩, 3, 4, some .long, 2, 0), 6083, 6081, 6082, 1013)]
def pMq_16 : List (pMr × Nat × Nat × Nat × Nat) := [
  ((⟨"ClassHouse$Heap", "has", "(JI)Z"⟩, 3, 4, some .boolean, 2, 0), 6087, 6085, 6086, 1013),
  ((⟨"ClassHouse$Heap", "lengthOf", "(J)I"⟩, 3, 4, some .int, 1, 0), 6091, 6089, 6090, 1013),
  ((⟨"ClassHouse$Machine", "make", "(II)J"⟩, 5, 6, some .long, 2, 0), 6095, 6094, 89, 1012),
  ((⟨"ClassHouse$Heap", "faultObject", "(I)J"⟩, 3, 1, some .long, 1, 1), 6098, 6097, 0, 1013),
  ((⟨"ClassHouse$Heap", "hasRoom", "(J)Z"⟩, 3, 3, some .boolean, 1, 0), 6103, 6101, 6102, 1013),
  ((⟨"ClassHouse$Heap", "cellsUsed", "()I"⟩, 3, 1, some .int, 0, 0), 6107, 6105, 6106, 1013),
  ((⟨"ClassHouse$Machine", "moveReached", "()V"⟩, 5, 5, none, 0, 0), 6111, 6110, 90, 1012),
  ((⟨"ClassHouse$Heap", "beginMoving", "()V"⟩, 3, 2, none, 0, 0), 6115, 6113, 6114, 1013),
  ((⟨"ClassHouse$Heap", "moved", "(J)J"⟩, 3, 7, some .long, 1, 0), 6119, 6117, 6118, 1013),
  ((⟨"ClassHouse$Heap", "finishMoving", "()V"⟩, 3, 5, none, 0, 0), 6125, 6123, 6124, 1013),
  ((⟨"ClassHouse$Machine", "actPart", "(II)J"⟩, 5, 3, some .long, 2, 0), 6131, 6130, 91, 1012),
  ((⟨"ClassHouse$Machine", "takeField", "(JI)J"⟩, 5, 4, some .long, 2, 0), 6135, 6134, 92, 1012)]
def pMq_17 : List (pMr × Nat × Nat × Nat × Nat) := [
  ((⟨"ClassHouse$Machine", "takeLength", "(J)J"⟩, 5, 3, some .long, 1, 0), 6139, 6138, 93, 1012),
  ((⟨"ClassHouse$Machine", "pushNumber", "(I)J"⟩, 5, 2, some .long, 1, 0), 6144, 6143, 94, 1012),
  ((⟨"ClassHouse$Machine", "takeElement", "(IJ)J"⟩, 5, 6, some .long, 2, 0), 6148, 6147, 95, 1012),
  ((⟨"ClassHouse$Machine", "elementFault", "(IJ)J"⟩, 5, 4, some .long, 2, 0), 6152, 6151, 96, 1012),
  ((⟨"ClassHouse$Machine", "cast", "(JI)J"⟩, 5, 4, some .long, 2, 0), 6157, 6156, 97, 1012),
  ((⟨"ClassHouse$Machine", "isOfClass", "(JI)Z"⟩, 5, 4, some .boolean, 2, 0), 6161, 6160, 98, 1012),
  ((⟨"ClassHouse$Heap", "classOf", "(J)I"⟩, 3, 4, some .int, 1, 0), 6165, 6163, 6164, 1013),
  ((⟨"ClassHouse$Machine", "pushTruth", "(Z)J"⟩, 5, 2, some .long, 1, 0), 6170, 6169, 99, 1012),
  ((⟨"ClassHouse$Machine", "actSign", "(IJ)J"⟩, 5, 8, some .long, 2, 0), 6174, 6173, 100, 1012),
  ((⟨"ClassHouse$Machine", "actJoin", "(II)J"⟩, 5, 4, some .long, 2, 0), 6178, 6177, 101, 1012),
  ((⟨"ClassHouse$Machine", "call", "(II)J"⟩, 5, 6, some .long, 2, 0), 6182, 6181, 102, 1012),
  ((⟨"ClassHouse$Machine", "actGift", "(IIJ)J"⟩, 5, 5, some .long, 3, 0), 6186, 6185, 103, 1012)]
def pMq_18 : List (pMr × Nat × Nat × Nat × Nat) := [
  ((⟨"ClassHouse$Machine", "giveField", "(JIJ)J"⟩, 5, 6, some .long, 3, 0), 6190, 6189, 104, 1012),
  ((⟨"ClassHouse$Heap", "put", "(JIJ)V"⟩, 3, 6, none, 3, 0), 6194, 6192, 6193, 1013),
  ((⟨"ClassHouse$Machine", "giveElement", "(IJJ)J"⟩, 5, 8, some .long, 3, 0), 6198, 6197, 105, 1012),
  ((⟨"ClassHouse$Machine", "actWork", "(II)J"⟩, 5, 5, some .long, 2, 0), 6202, 6201, 106, 1012),
  ((⟨"ClassHouse$Machine", "print", "(I)V"⟩, 5, 2, none, 1, 0), 6206, 6205, 107, 1012),
  ((⟨"ClassHouse$Machine", "throwObject", "(J)V"⟩, 5, 8, none, 1, 0), 6210, 6209, 108, 1012),
  ((⟨"ClassHouse$Machine", "land", "(IIJ)V"⟩, 5, 5, none, 3, 0), 6214, 6213, 109, 1012),
  ((⟨"ClassHouse", "result", "()I"⟩, 11, 1, some .int, 0, 0), 6218, 6216, 6217, 1001),
  ((⟨"ClassHouse", "output", "(I)I"⟩, 11, 2, some .int, 1, 0), 6222, 6220, 6221, 1001),
  ((⟨"ClassHouse$Machine", "printedAt", "(I)I"⟩, 5, 2, some .int, 1, 0), 6226, 6224, 6225, 1012),
  ((⟨"ClassHouse", "count", "(I)I"⟩, 11, 2, some .int, 1, 0), 6230, 6228, 6229, 1001),
  ((⟨"ClassHouse$Machine", "cellsReached", "()I"⟩, 5, 1, some .int, 0, 0), 6234, 6232, 6233, 1012)]
def pMq_19 : List (pMr × Nat × Nat × Nat × Nat) := [
  ((⟨"ClassHouse$Machine", "methodsOpen", "()I"⟩, 5, 1, some .int, 0, 0), 6239, 6237, 6238, 1012),
  ((⟨"ClassHouseModel", "<init>", "()V"⟩, 12, 1, none, 0, 2), 7004, 7003, 0, 1014),
  ((⟨"ClassHouseModel", "text", "(IIIIIII)V"⟩, 12, 8, none, 7, 0), 7013, 7012, 110, 1014),
  ((⟨"ClassHouseModel", "program", "()I"⟩, 12, 5, some .int, 0, 0), 8105, 8103, 8104, 1014),
  ((⟨"ClassHouseModel", "knownNames", "()V"⟩, 12, 5, none, 0, 0), 8109, 8108, 111, 1014),
  ((⟨"ClassHouseModel", "next", "()V"⟩, 12, 4, none, 0, 0), 8113, 8112, 112, 1014),
  ((⟨"ClassHouseModel", "byteAt", "(I)I"⟩, 12, 2, some .int, 1, 0), 8117, 8116, 113, 1014),
  ((⟨"ClassHouseModel", "isLetter", "(I)Z"⟩, 12, 1, some .boolean, 1, 1), 8120, 8119, 0, 1014),
  ((⟨"ClassHouseModel", "isIn", "(JJJ)Z"⟩, 12, 6, some .boolean, 3, 1), 8125, 8124, 0, 1014),
  ((⟨"ClassHouseModel", "isDigit", "(I)Z"⟩, 12, 1, some .boolean, 1, 1), 8130, 8129, 0, 1014),
  ((⟨"ClassHouseModel", "keyOf", "()I"⟩, 12, 1, some .int, 0, 0), 8136, 8135, 114, 1014),
  ((⟨"ClassHouseModel", "isText", "(IIIIII)Z"⟩, 12, 9, some .boolean, 6, 0), 8140, 8139, 115, 1014)]
def pMq_20 : List (pMr × Nat × Nat × Nat × Nat) := [
  ((⟨"ClassHouseModel", "nameOf", "()I"⟩, 12, 4, some .int, 0, 0), 8144, 8143, 116, 1014),
  ((⟨"ClassHouseModel", "isSignByte", "(I)Z"⟩, 12, 1, some .boolean, 1, 1), 8147, 8146, 0, 1014),
  ((⟨"ClassHouseModel", "isKey", "(I)Z"⟩, 12, 2, some .boolean, 1, 0), 8151, 8150, 117, 1014),
  ((⟨"ClassHouseModel", "passes", "(Z)Z"⟩, 12, 3, some .boolean, 1, 0), 8155, 8154, 118, 1014),
  ((⟨"ClassHouseModel", "fails", "(I)I"⟩, 12, 2, some .int, 1, 0), 8159, 8158, 119, 1014),
  ((⟨"ClassHouseModel", "readClass", "()V"⟩, 12, 2, none, 0, 0), 8163, 8162, 120, 1014),
  ((⟨"ClassHouseModel", "name", "()I"⟩, 12, 2, some .int, 0, 0), 8167, 8166, 121, 1014),
  ((⟨"ClassHouseModel", "isSign", "(I)Z"⟩, 12, 2, some .boolean, 1, 0), 8171, 8170, 122, 1014),
  ((⟨"ClassHouseModel", "opens", "(Z)Z"⟩, 12, 3, some .boolean, 1, 0), 8175, 8174, 123, 1014),
  ((⟨"ClassHouseModel", "member", "()V"⟩, 12, 4, none, 0, 0), 8179, 8178, 124, 1014),
  ((⟨"ClassHouseModel", "type", "()I"⟩, 12, 3, some .int, 0, 0), 8183, 8182, 125, 1014),
  ((⟨"ClassHouseModel", "isType", "()Z"⟩, 12, 1, some .boolean, 0, 0), 8187, 8186, 126, 1014)]
def pMq_21 : List (pMr × Nat × Nat × Nat × Nat) := [
  ((⟨"ClassHouseModel", "closes", "(I)V"⟩, 12, 2, none, 1, 0), 8191, 8190, 127, 1014),
  ((⟨"ClassHouseModel", "block", "()I"⟩, 12, 4, some .int, 0, 0), 8195, 8194, 128, 1014),
  ((⟨"ClassHouseModel", "statement", "()I"⟩, 12, 4, some .int, 0, 0), 8199, 8198, 129, 1014),
  ((⟨"ClassHouseModel", "isNameAhead", "()Z"⟩, 12, 8, some .boolean, 0, 0), 8203, 8202, 130, 1014),
  ((⟨"ClassHouseModel", "begun", "(I)I"⟩, 12, 3, some .int, 1, 0), 8207, 8206, 131, 1014),
  ((⟨"ClassHouseModel", "expression", "()I"⟩, 12, 3, some .int, 0, 0), 8211, 8210, 132, 1014),
  ((⟨"ClassHouseModel", "both", "()I"⟩, 12, 3, some .int, 0, 0), 8215, 8214, 133, 1014),
  ((⟨"ClassHouseModel", "equal", "()I"⟩, 12, 2, some .int, 0, 0), 8219, 8218, 134, 1014),
  ((⟨"ClassHouseModel", "related", "()I"⟩, 12, 3, some .int, 0, 0), 8223, 8222, 135, 1014),
  ((⟨"ClassHouseModel", "sum", "()I"⟩, 12, 2, some .int, 0, 0), 8227, 8226, 136, 1014),
  ((⟨"ClassHouseModel", "product", "()I"⟩, 12, 2, some .int, 0, 0), 8231, 8230, 137, 1014),
  ((⟨"ClassHouseModel", "single", "()I"⟩, 12, 3, some .int, 0, 0), 8235, 8234, 138, 1014)]
def pMq_22 : List (pMr × Nat × Nat × Nat × Nat) := [
  ((⟨"ClassHouseModel", "chain", "()I"⟩, 12, 4, some .int, 0, 0), 8239, 8238, 139, 1014),
  ((⟨"ClassHouseModel", "first", "()I"⟩, 12, 3, some .int, 0, 0), 9003, 9002, 140, 1014),
  ((⟨"ClassHouseModel", "node", "(IIII)I"⟩, 12, 5, some .int, 4, 0), 9007, 9006, 141, 1014),
  ((⟨"ClassHouseModel", "called", "(III)I"⟩, 12, 9, some .int, 3, 0), 9011, 9010, 142, 1014),
  ((⟨"ClassHouseModel", "signed", "(I)I"⟩, 12, 4, some .int, 1, 0), 9017, 9016, 143, 1014),
  ((⟨"ClassHouseModel", "inParentheses", "()I"⟩, 12, 2, some .int, 0, 0), 9021, 9020, 144, 1014),
  ((⟨"ClassHouseModel", "placed", "()I"⟩, 12, 4, some .int, 0, 0), 9025, 9024, 145, 1014),
  ((⟨"ClassHouseModel", "checkClasses", "()V"⟩, 12, 4, none, 0, 0), 9029, 9028, 146, 1014),
  ((⟨"ClassHouseModel", "classOf", "(I)I"⟩, 12, 3, some .int, 1, 0), 9033, 9032, 147, 1014),
  ((⟨"ClassHouseModel", "isBad", "(I)V"⟩, 12, 2, none, 1, 0), 9037, 9036, 148, 1014),
  ((⟨"ClassHouseModel", "checkMembers", "()V"⟩, 12, 4, none, 0, 0), 9041, 9040, 149, 1014),
  ((⟨"ClassHouseModel", "meant", "(I)I"⟩, 12, 3, some .int, 1, 0), 9045, 9044, 150, 1014)]
def pMq_23 : List (pMr × Nat × Nat × Nat × Nat) := [
  ((⟨"ClassHouseModel", "isRightMethod", "(II)Z"⟩, 12, 7, some .boolean, 2, 0), 9049, 9048, 151, 1014),
  ((⟨"ClassHouseModel", "memberOf", "(IIZ)I"⟩, 12, 6, some .int, 3, 0), 9053, 9052, 152, 1014),
  ((⟨"ClassHouseModel", "isField", "(II)Z"⟩, 12, 4, some .boolean, 2, 0), 9057, 9056, 153, 1014),
  ((⟨"ClassHouseModel", "setSlots", "(I)I"⟩, 12, 5, some .int, 1, 0), 9061, 9060, 154, 1014),
  ((⟨"ClassHouseModel", "checkMethod", "(II)V"⟩, 12, 4, none, 2, 0), 9065, 9064, 155, 1014),
  ((⟨"ClassHouseModel", "addVariable", "(IIZ)V"⟩, 12, 4, none, 3, 0), 9069, 9068, 156, 1014),
  ((⟨"ClassHouseModel", "checkBlock", "(II)V"⟩, 12, 5, none, 2, 0), 9073, 9072, 157, 1014),
  ((⟨"ClassHouseModel", "checkOne", "(II)V"⟩, 12, 8, none, 2, 0), 9077, 9076, 158, 1014),
  ((⟨"ClassHouseModel", "checkNodes", "(III)Z"⟩, 12, 6, some .boolean, 3, 0), 9081, 9080, 159, 1014),
  ((⟨"ClassHouseModel", "checkNode", "(II)Z"⟩, 12, 8, some .boolean, 2, 0), 9085, 9084, 160, 1014),
  ((⟨"ClassHouseModel", "named", "(II)I"⟩, 12, 5, some .int, 2, 0), 9089, 9088, 161, 1014),
  ((⟨"ClassHouseModel", "variableOf", "(I)I"⟩, 12, 3, some .int, 1, 0), 9093, 9092, 162, 1014)]
def pMq_24 : List (pMr × Nat × Nat × Nat × Nat) := [
  ((⟨"ClassHouseModel", "meantClass", "(I)I"⟩, 12, 3, some .int, 1, 0), 9097, 9096, 163, 1014),
  ((⟨"ClassHouseModel", "field", "(II)I"⟩, 12, 5, some .int, 2, 0), 9101, 9100, 164, 1014),
  ((⟨"ClassHouseModel", "call", "(II)I"⟩, 12, 8, some .int, 2, 0), 9105, 9104, 165, 1014),
  ((⟨"ClassHouseModel", "isSub", "(II)Z"⟩, 12, 3, some .boolean, 2, 0), 9109, 9108, 166, 1014),
  ((⟨"ClassHouseModel", "isUnder", "(II)Z"⟩, 12, 4, some .boolean, 2, 0), 9113, 9112, 167, 1014),
  ((⟨"ClassHouseModel", "compared", "(III)I"⟩, 12, 5, some .int, 3, 0), 9117, 9116, 168, 1014),
  ((⟨"ClassHouseModel", "isObject", "(I)Z"⟩, 12, 1, some .boolean, 1, 1), 9120, 9119, 0, 1014),
  ((⟨"ClassHouseModel", "typeOfValue", "(I)I"⟩, 12, 2, some .int, 1, 0), 9124, 9123, 169, 1014),
  ((⟨"ClassHouseModel", "isPlain", "(I)Z"⟩, 12, 2, some .boolean, 1, 0), 9128, 9127, 170, 1014),
  ((⟨"ClassHouseModel", "checkPlace", "(II)Z"⟩, 12, 4, some .boolean, 2, 0), 9132, 9131, 171, 1014),
  ((⟨"ClassHouseModel", "checkIf", "(II)V"⟩, 12, 5, none, 2, 0), 9136, 9135, 172, 1014),
  ((⟨"ClassHouseModel", "keepSets", "(I)V"⟩, 12, 3, none, 1, 0), 9140, 9139, 173, 1014)]
def pMq_25 : List (pMr × Nat × Nat × Nat × Nat) := [
  ((⟨"ClassHouseModel", "backSets", "(I)V"⟩, 12, 3, none, 1, 0), 9144, 9143, 174, 1014),
  ((⟨"ClassHouseModel", "joinSets", "(IZ)V"⟩, 12, 4, none, 2, 0), 9148, 9147, 175, 1014),
  ((⟨"ClassHouseModel", "checkWhile", "(II)V"⟩, 12, 4, none, 2, 0), 9152, 9151, 176, 1014),
  ((⟨"ClassHouseModel", "checkTry", "(II)V"⟩, 12, 6, none, 2, 0), 9156, 9155, 177, 1014),
  ((⟨"ClassHouseModel", "feed", "(IIIII)I"⟩, 12, 8, some .int, 5, 0), 9160, 9158, 9159, 1014),
  ((⟨"ClassHouseModel", "end", "(I)I"⟩, 12, 2, some .int, 1, 0), 9164, 9162, 9163, 1014),
  ((⟨"ClassHouseModel", "heap", "(I)I"⟩, 12, 2, some .int, 1, 0), 9168, 9166, 9167, 1014),
  ((⟨"ClassHouseModel", "input", "(III)I"⟩, 12, 4, some .int, 3, 0), 9174, 9172, 9173, 1014),
  ((⟨"ClassHouseModel", "start", "()I"⟩, 12, 3, some .int, 0, 0), 9178, 9176, 9177, 1014),
  ((⟨"ClassHouseModel", "object", "(II)I"⟩, 12, 6, some .int, 2, 0), 9183, 9182, 178, 1014),
  ((⟨"ClassHouseModel", "begin", "(IIII)V"⟩, 12, 7, none, 4, 0), 9187, 9186, 179, 1014),
  ((⟨"ClassHouseModel", "setLocal", "(IIIZ)V"⟩, 12, 5, none, 4, 0), 9191, 9190, 180, 1014)]
def pMq_26 : List (pMr × Nat × Nat × Nat × Nat) := [
  ((⟨"ClassHouseModel", "todo", "(II)V"⟩, 12, 3, none, 2, 0), 9195, 9194, 181, 1014),
  ((⟨"ClassHouseModel", "settle", "()V"⟩, 12, 2, none, 0, 0), 9199, 9198, 182, 1014),
  ((⟨"ClassHouseModel", "isStep", "()Z"⟩, 12, 2, some .boolean, 0, 0), 9203, 9202, 183, 1014),
  ((⟨"ClassHouseModel", "isLeaf", "(I)Z"⟩, 12, 2, some .boolean, 1, 0), 9207, 9206, 184, 1014),
  ((⟨"ClassHouseModel", "unfold", "(I)V"⟩, 12, 4, none, 1, 0), 9211, 9210, 185, 1014),
  ((⟨"ClassHouseModel", "begins", "(I)V"⟩, 12, 4, none, 1, 0), 9215, 9214, 186, 1014),
  ((⟨"ClassHouseModel", "step", "(I)I"⟩, 12, 3, some .int, 1, 0), 9219, 9217, 9218, 1014),
  ((⟨"ClassHouseModel", "stepOnce", "()V"⟩, 12, 2, none, 0, 0), 9224, 9223, 187, 1014),
  ((⟨"ClassHouseModel", "leaf", "(I)V"⟩, 12, 4, none, 1, 0), 9228, 9227, 188, 1014),
  ((⟨"ClassHouseModel", "push", "(IZ)V"⟩, 12, 3, none, 2, 0), 9232, 9231, 189, 1014),
  ((⟨"ClassHouseModel", "nextInput", "()I"⟩, 12, 3, some .int, 0, 0), 9236, 9235, 190, 1014),
  ((⟨"ClassHouseModel", "hasRoom", "(I)Z"⟩, 12, 2, some .boolean, 1, 0), 10000, 9239, 191, 1014)]
def pMq_27 : List (pMr × Nat × Nat × Nat × Nat) := [
  ((⟨"ClassHouseModel", "marked", "()I"⟩, 12, 4, some .int, 0, 0), 10004, 10003, 192, 1014),
  ((⟨"ClassHouseModel", "reach", "(I)V"⟩, 12, 2, none, 1, 0), 10008, 10007, 193, 1014),
  ((⟨"ClassHouseModel", "sweep", "()V"⟩, 12, 8, none, 0, 0), 10012, 10011, 194, 1014),
  ((⟨"ClassHouseModel", "moved", "(I)I"⟩, 12, 2, some .int, 1, 0), 10016, 10015, 195, 1014),
  ((⟨"ClassHouseModel", "ends", "(I)V"⟩, 12, 2, none, 1, 0), 10020, 10019, 196, 1014),
  ((⟨"ClassHouseModel", "work", "(I)V"⟩, 12, 5, none, 1, 0), 10024, 10023, 197, 1014),
  ((⟨"ClassHouseModel", "faults", "(I)V"⟩, 12, 2, none, 1, 0), 10028, 10027, 198, 1014),
  ((⟨"ClassHouseModel", "throwsObject", "(I)V"⟩, 12, 5, none, 1, 0), 10032, 10031, 199, 1014),
  ((⟨"ClassHouseModel", "isPlace", "(II)Z"⟩, 12, 3, some .boolean, 2, 0), 10036, 10035, 200, 1014),
  ((⟨"ClassHouseModel", "calls", "(I)V"⟩, 12, 7, none, 1, 0), 10040, 10039, 201, 1014),
  ((⟨"ClassHouseModel", "worked", "(III)I"⟩, 12, 3, some .int, 3, 1), 10043, 10042, 0, 1014),
  ((⟨"ClassHouseModel", "half", "(I)V"⟩, 12, 3, none, 1, 0), 10047, 10046, 202, 1014)]
def pMq_28 : List (pMr × Nat × Nat × Nat × Nat) := [
  ((⟨"ClassHouseModel", "done", "(I)V"⟩, 12, 4, none, 1, 0), 10051, 10050, 203, 1014),
  ((⟨"ClassHouseModel", "returns", "(I)V"⟩, 12, 5, none, 1, 0), 10055, 10054, 204, 1014),
  ((⟨"ClassHouseModel", "sets", "(I)V"⟩, 12, 8, none, 1, 0), 10059, 10058, 205, 1014),
  ((⟨"ClassHouseModel", "result", "()I"⟩, 12, 1, some .int, 0, 0), 10063, 10061, 10062, 1014),
  ((⟨"ClassHouseModel", "output", "(I)I"⟩, 12, 2, some .int, 1, 0), 10067, 10065, 10066, 1014),
  ((⟨"ClassHouseModel", "count", "(I)I"⟩, 12, 2, some .int, 1, 0), 10072, 10070, 10071, 1014)]
set_option maxRecDepth 100000 in
theorem pMq_0_ok : ∀ q ∈ pMq_0, okM q := by decide +kernel
set_option maxRecDepth 100000 in
theorem pMq_1_ok : ∀ q ∈ pMq_1, okM q := by decide +kernel
set_option maxRecDepth 100000 in
theorem pMq_2_ok : ∀ q ∈ pMq_2, okM q := by decide +kernel
set_option maxRecDepth 100000 in
theorem pMq_3_ok : ∀ q ∈ pMq_3, okM q := by decide +kernel
set_option maxRecDepth 100000 in
theorem pMq_4_ok : ∀ q ∈ pMq_4, okM q := by decide +kernel
set_option maxRecDepth 100000 in
theorem pMq_5_ok : ∀ q ∈ pMq_5, okM q := by decide +kernel
set_option maxRecDepth 100000 in
theorem pMq_6_ok : ∀ q ∈ pMq_6, okM q := by decide +kernel
set_option maxRecDepth 100000 in
theorem pMq_7_ok : ∀ q ∈ pMq_7, okM q := by decide +kernel
set_option maxRecDepth 100000 in
theorem pMq_8_ok : ∀ q ∈ pMq_8, okM q := by decide +kernel
set_option maxRecDepth 100000 in
theorem pMq_9_ok : ∀ q ∈ pMq_9, okM q := by decide +kernel
set_option maxRecDepth 100000 in
theorem pMq_10_ok : ∀ q ∈ pMq_10, okM q := by decide +kernel
set_option maxRecDepth 100000 in
theorem pMq_11_ok : ∀ q ∈ pMq_11, okM q := by decide +kernel
set_option maxRecDepth 100000 in
theorem pMq_12_ok : ∀ q ∈ pMq_12, okM q := by decide +kernel
set_option maxRecDepth 100000 in
theorem pMq_13_ok : ∀ q ∈ pMq_13, okM q := by decide +kernel
set_option maxRecDepth 100000 in
theorem pMq_14_ok : ∀ q ∈ pMq_14, okM q := by decide +kernel
set_option maxRecDepth 100000 in
theorem pMq_15_ok : ∀ q ∈ pMq_15, okM q := by decide +kernel
set_option maxRecDepth 100000 in
theorem pMq_16_ok : ∀ q ∈ pMq_16, okM q := by decide +kernel
set_option maxRecDepth 100000 in
theorem pMq_17_ok : ∀ q ∈ pMq_17, okM q := by decide +kernel
set_option maxRecDepth 100000 in
theorem pMq_18_ok : ∀ q ∈ pMq_18, okM q := by decide +kernel
set_option maxRecDepth 100000 in
theorem pMq_19_ok : ∀ q ∈ pMq_19, okM q := by decide +kernel
set_option maxRecDepth 100000 in
theorem pMq_20_ok : ∀ q ∈ pMq_20, okM q := by decide +kernel
set_option maxRecDepth 100000 in
theorem pMq_21_ok : ∀ q ∈ pMq_21, okM q := by decide +kernel
set_option maxRecDepth 100000 in
theorem pMq_22_ok : ∀ q ∈ pMq_22, okM q := by decide +kernel
set_option maxRecDepth 100000 in
theorem pMq_23_ok : ∀ q ∈ pMq_23, okM q := by decide +kernel
set_option maxRecDepth 100000 in
theorem pMq_24_ok : ∀ q ∈ pMq_24, okM q := by decide +kernel
set_option maxRecDepth 100000 in
theorem pMq_25_ok : ∀ q ∈ pMq_25, okM q := by decide +kernel
set_option maxRecDepth 100000 in
theorem pMq_26_ok : ∀ q ∈ pMq_26, okM q := by decide +kernel
set_option maxRecDepth 100000 in
theorem pMq_27_ok : ∀ q ∈ pMq_27, okM q := by decide +kernel
set_option maxRecDepth 100000 in
theorem pMq_28_ok : ∀ q ∈ pMq_28, okM q := by decide +kernel
def pMq : List (pMr × Nat × Nat × Nat × Nat) := pMq_0 ++ (pMq_1 ++ (pMq_2 ++ (pMq_3 ++ (pMq_4 ++ (pMq_5 ++ (pMq_6 ++ (pMq_7 ++ (pMq_8 ++ (pMq_9 ++ (pMq_10 ++ (pMq_11 ++ (pMq_12 ++ (pMq_13 ++ (pMq_14 ++ (pMq_15 ++ (pMq_16 ++ (pMq_17 ++ (pMq_18 ++ (pMq_19 ++ (pMq_20 ++ (pMq_21 ++ (pMq_22 ++ (pMq_23 ++ (pMq_24 ++ (pMq_25 ++ (pMq_26 ++ (pMq_27 ++ (pMq_28))))))))))))))))))))))))))))
theorem pMq_ok : ∀ q ∈ pMq, okM q := List.forall_mem_append.mpr ⟨pMq_0_ok, List.forall_mem_append.mpr ⟨pMq_1_ok, List.forall_mem_append.mpr ⟨pMq_2_ok, List.forall_mem_append.mpr ⟨pMq_3_ok, List.forall_mem_append.mpr ⟨pMq_4_ok, List.forall_mem_append.mpr ⟨pMq_5_ok, List.forall_mem_append.mpr ⟨pMq_6_ok, List.forall_mem_append.mpr ⟨pMq_7_ok, List.forall_mem_append.mpr ⟨pMq_8_ok, List.forall_mem_append.mpr ⟨pMq_9_ok, List.forall_mem_append.mpr ⟨pMq_10_ok, List.forall_mem_append.mpr ⟨pMq_11_ok, List.forall_mem_append.mpr ⟨pMq_12_ok, List.forall_mem_append.mpr ⟨pMq_13_ok, List.forall_mem_append.mpr ⟨pMq_14_ok, List.forall_mem_append.mpr ⟨pMq_15_ok, List.forall_mem_append.mpr ⟨pMq_16_ok, List.forall_mem_append.mpr ⟨pMq_17_ok, List.forall_mem_append.mpr ⟨pMq_18_ok, List.forall_mem_append.mpr ⟨pMq_19_ok, List.forall_mem_append.mpr ⟨pMq_20_ok, List.forall_mem_append.mpr ⟨pMq_21_ok, List.forall_mem_append.mpr ⟨pMq_22_ok, List.forall_mem_append.mpr ⟨pMq_23_ok, List.forall_mem_append.mpr ⟨pMq_24_ok, List.forall_mem_append.mpr ⟨pMq_25_ok, List.forall_mem_append.mpr ⟨pMq_26_ok, List.forall_mem_append.mpr ⟨pMq_27_ok, pMq_28_ok⟩⟩⟩⟩⟩⟩⟩⟩⟩⟩⟩⟩⟩⟩⟩⟩⟩⟩⟩⟩⟩⟩⟩⟩⟩⟩⟩⟩
/-- links of methods, by class: index, method, place in lw_tbl -/
def pMl : List (List (Nat × Nat × Nat)) := [
  [(17, 106, 4193), (46, 107, 4197), (59, 108, 4201), (63, 109, 4205), (21, 110, 4209), (26, 112, 4218), (76, 113, 4222), (96, 114, 4226), (105, 115, 4230), (109, 116, 4234), (88, 117, 4238), (92, 118, 5002), (99, 119, 5007), (80, 120, 5011), (29, 121, 5015), (32, 124, 5028)],
  [(37, 56, 3237), (41, 109, 5124)],
  [(41, 180, 6035)],
  [(41, 172, 5233), (51, 192, 6084), (47, 193, 6088), (37, 197, 6104), (65, 200, 6127)],
  [(20, 167, 5208)],
  [(27, 13, 2181), (87, 18, 5220), (92, 107, 5221), (98, 118, 5222), (113, 170, 5224), (117, 171, 5229), (121, 174, 6000), (125, 175, 6004), (291, 176, 6008), (298, 177, 6014), (129, 178, 6026), (194, 179, 6031), (197, 181, 6039), (167, 182, 6043), (200, 183, 6047), (203, 184, 6051), (132, 180, 6063), (138, 187, 6064), (158, 188, 6068), (145, 189, 6072), (206, 190, 6076), (210, 191, 6080), (161, 194, 6092), (234, 195, 6096), (258, 196, 6100), (80, 198, 6108), (262, 199, 6112), (265, 200, 6116), (274, 201, 6122), (164, 202, 6128), (213, 203, 6132), (216, 204, 6136), (237, 193, 6140), (241, 205, 6141), (220, 206, 6145), (244, 207, 6149), (247, 192, 6153), (223, 208, 6154), (226, 209, 6158), (249, 210, 6162), (252, 146, 6166), (230, 211, 6167), (170, 212, 6171), (177, 213, 6175), (183, 214, 6179), (186, 215, 6183), (277, 216, 6187), (285, 217, 6191), (281, 218, 6195), (190, 219, 6199), (304, 220, 6203), (142, 221, 6207), (310, 222, 6211), (83, 197, 6235)],
  [(60, 111, 4213), (64, 107, 4217), (74, 117, 5006), (81, 122, 5019), (87, 109, 5023), (90, 123, 5024)],
  [(35, 54, 3229), (90, 55, 3233), (93, 57, 4001), (94, 58, 4005), (40, 59, 4009), (60, 60, 4013), (98, 61, 4017), (51, 62, 4021), (68, 56, 4025), (72, 63, 4026), (104, 64, 4030), (107, 65, 4034), (110, 66, 4038), (113, 67, 4042), (133, 68, 4046), (136, 69, 4050), (130, 70, 4054), (117, 71, 4058), (120, 72, 4062), (140, 73, 4066), (143, 74, 4070), (171, 75, 4074), (168, 76, 4078), (193, 77, 4082), (215, 78, 4086), (219, 79, 4090), (235, 80, 4094), (126, 81, 4098), (238, 82, 4102), (232, 83, 4106), (241, 84, 4110), (229, 85, 4114), (222, 86, 4118), (226, 87, 4121), (202, 88, 4125), (196, 89, 4129), (199, 90, 4132), (205, 91, 4135), (209, 92, 4139), (212, 93, 4143), (146, 94, 4146), (149, 95, 4150), (152, 96, 4154), (155, 97, 4158), (158, 98, 4162), (162, 99, 4166), (165, 100, 4170), (183, 101, 4174), (187, 102, 4178), (190, 103, 4181), (75, 104, 4185)],
  [(53, 129, 5050), (69, 159, 5176)],
  [(23, 10, 2081), (52, 126, 5036), (101, 127, 5040), (107, 116, 5044), (111, 115, 5045), (114, 128, 5046), (59, 130, 5055), (70, 131, 5059), (119, 132, 5063), (143, 133, 5067), (146, 134, 5072), (152, 135, 5076), (155, 136, 5080), (163, 118, 5084), (159, 137, 5085), (122, 138, 5089), (170, 139, 5093), (173, 140, 5097), (177, 141, 5101), (185, 107, 5105), (180, 142, 5106), (125, 143, 5109), (186, 144, 5113), (192, 145, 5117), (195, 146, 5120), (189, 147, 5125), (129, 148, 5128), (198, 149, 5132), (201, 150, 5136), (204, 151, 5140), (217, 129, 5144), (207, 152, 5145), (210, 153, 5149), (132, 154, 5153), (221, 155, 5157), (224, 156, 5164), (135, 157, 5168), (227, 158, 5172), (230, 160, 5180), (233, 161, 5184), (236, 162, 5188)],
  [(21, 2, 1037), (46, 20, 3083), (63, 21, 3087), (69, 22, 3090), (73, 31, 3128), (103, 32, 3132), (77, 33, 3136), (49, 34, 3140), (81, 35, 3144), (85, 36, 3147), (88, 37, 3151), (53, 38, 3154), (91, 39, 3158), (94, 40, 3162), (100, 41, 3166)],
  [(15, 1, 1032), (22, 4, 1089), (29, 5, 1136), (34, 6, 1205), (37, 7, 2019), (46, 8, 2062), (55, 9, 2075), (64, 11, 2158), (71, 12, 2175), (89, 15, 3063), (93, 18, 3075), (96, 19, 3079), (100, 53, 3225), (104, 105, 4189), (108, 125, 5032), (110, 163, 5192), (113, 166, 5204), (117, 169, 5216), (120, 186, 6059), (126, 225, 6223), (135, 227, 6231), (138, 228, 6236)],
  [(217, 230, 7010), (445, 232, 8106), (289, 233, 8110), (259, 234, 8114), (266, 235, 8118), (228, 236, 8123), (270, 237, 8128), (273, 238, 8133), (249, 239, 8137), (277, 240, 8141), (280, 241, 8145), (330, 242, 8148), (298, 243, 8152), (286, 244, 8156), (448, 245, 8160), (333, 246, 8164), (295, 247, 8168), (339, 248, 8172), (400, 249, 8176), (385, 250, 8180), (375, 251, 8184), (352, 252, 8188), (391, 253, 8192), (369, 254, 8196), (379, 255, 8200), (382, 256, 8204), (349, 257, 8208), (305, 258, 8212), (312, 259, 8216), (315, 260, 8220), (318, 261, 8224), (321, 262, 8228), (324, 263, 8232), (336, 264, 8236), (342, 265, 9000), (308, 266, 9004), (345, 267, 9008), (327, 268, 9014), (388, 269, 9018), (394, 270, 9022), (451, 271, 9026), (412, 272, 9030), (419, 273, 9034), (454, 274, 9038), (426, 275, 9042), (429, 276, 9046), (422, 277, 9050), (432, 278, 9054), (460, 279, 9058), (463, 280, 9062), (479, 281, 9066), (483, 282, 9070), (486, 283, 9074), (489, 284, 9078), (527, 285, 9082), (530, 286, 9086), (496, 287, 9090), (534, 288, 9094), (537, 289, 9098), (540, 290, 9102), (499, 291, 9106), (415, 292, 9110), (543, 293, 9114), (546, 294, 9118), (493, 295, 9121), (502, 296, 9125), (505, 297, 9129), (508, 298, 9133), (517, 299, 9137), (520, 300, 9141), (523, 301, 9145), (511, 302, 9149), (514, 303, 9153), (632, 309, 9180), (650, 310, 9184), (598, 311, 9188), (596, 312, 9192), (677, 313, 9196), (611, 314, 9200), (620, 315, 9204), (614, 316, 9208), (617, 317, 9212), (691, 319, 9221), (665, 320, 9225), (623, 321, 9229), (626, 322, 9233), (629, 323, 9237), (575, 324, 10001), (557, 325, 10005), (578, 326, 10009), (563, 327, 10013), (605, 328, 10017), (668, 329, 10021), (638, 330, 10025), (608, 331, 10029), (641, 332, 10033), (644, 333, 10037), (647, 334, 10041), (671, 335, 10044), (674, 336, 10048), (654, 337, 10052), (660, 338, 10056)],
  [(335, 3, 1041), (492, 23, 3094), (495, 24, 3098), (1059, 26, 3106), (498, 27, 3109), (633, 42, 3170), (505, 2, 3174), (637, 43, 3175), (640, 46, 3190), (1062, 50, 3205)],
  [(9, 25, 3101), (88, 44, 3178), (95, 45, 3187)],
  [(67, 28, 3112), (48, 29, 3115), (414, 25, 3118), (71, 30, 3119), (228, 47, 3196), (96, 48, 3199), (241, 49, 3202), (244, 51, 3208), (232, 52, 3211)],
  [(13, 173, 5236)],
  [],
  [],
  [],
  [],
  [(9, 0, 1024), (13, 14, 3059), (18, 16, 3067), (23, 17, 3071), (28, 164, 5196), (32, 165, 5200), (37, 168, 5212), (41, 185, 6055), (45, 223, 6215), (49, 224, 6219), (53, 226, 6227), (12, 229, 7002), (27, 231, 8102), (17, 304, 9157), (22, 305, 9161), (31, 306, 9165), (36, 307, 9171), (40, 308, 9175), (44, 318, 9216), (48, 339, 10060), (52, 340, 10064), (56, 341, 10069)]]
/-- links of Object's constructor -/
def pOb : List (List (Nat × Nat)) := [
  [(1, 2065)],
  [(1, 1092)],
  [(1, 1208)],
  [(7, 2184)],
  [(1, 2161)],
  [(1, 2178)],
  [(1, 1139)],
  [(1, 2022)],
  [(3, 2084)],
  [(1, 2078)],
  [(1, 1035)],
  [(1, 1027)],
  [(1, 7005)],
  [],
  [],
  [],
  [],
  [],
  [],
  [],
  [],
  []]
/-- links of Math.max (0) and Math.min (1) -/
def pMx : List (List (Nat × Nat × Nat)) := [
  [],
  [],
  [],
  [(27, 1, 5228)],
  [],
  [(107, 0, 5223), (149, 1, 6013)],
  [],
  [],
  [(57, 0, 5054)],
  [(138, 0, 5071)],
  [],
  [],
  [(684, 0, 9179), (694, 1, 10068)],
  [],
  [(92, 0, 3181), (38, 1, 3184)],
  [(224, 0, 3193), (183, 1, 3194)],
  [(304, 1, 6024)],
  [],
  [],
  [],
  [],
  []]
/-- links of System.arraycopy -/
def pAc : List (List (Nat × Nat)) := [
  [],
  [],
  [],
  [(57, 6121)],
  [],
  [],
  [],
  [],
  [(63, 5161)],
  [],
  [],
  [],
  [],
  [],
  [],
  [],
  [(150, 6025)],
  [],
  [],
  [],
  [],
  []]
/-- links of fields, by class: index, class, slot, of a nest mate, place -/
def pFl : List (List (Nat × Nat × Nat × Nat × Nat)) := [
  [(42, 1, 0, 1, 1094), (50, 1, 1, 1, 1096), (53, 1, 2, 1, 1098), (56, 1, 3, 1, 1100), (66, 1, 4, 1, 1104), (69, 1, 5, 1, 1108), (38, 1, 7, 1, 1115), (84, 6, 1, 1, 1142), (83, 6, 2, 1, 1144), (85, 6, 3, 1, 1147), (72, 6, 4, 1, 1150), (102, 6, 7, 1, 1156), (7, 0, 0, 0, 2066), (13, 0, 1, 0, 2067)],
  [(9, 1, 0, 0, 1093), (13, 1, 1, 0, 1095), (16, 1, 2, 0, 1097), (19, 1, 3, 0, 1099), (22, 1, 4, 0, 1102), (25, 1, 5, 0, 1106), (28, 1, 6, 0, 1110), (31, 1, 7, 0, 1113)],
  [(9, 2, 0, 0, 1209), (13, 2, 1, 0, 1212), (16, 2, 2, 0, 1216), (19, 2, 3, 0, 1219), (22, 2, 4, 0, 1222), (25, 2, 5, 0, 1224), (28, 2, 6, 0, 1227), (31, 2, 7, 0, 1229), (35, 2, 8, 0, 1232), (38, 2, 9, 0, 1234)],
  [(13, 3, 0, 0, 2185), (17, 3, 1, 0, 2186), (20, 3, 2, 0, 2187), (24, 3, 3, 0, 2188)],
  [(9, 4, 0, 0, 2162), (13, 4, 1, 0, 2163), (17, 4, 2, 0, 2164)],
  [(104, 1, 6, 1, 1111), (294, 6, 8, 1, 1159), (271, 6, 9, 1, 1162), (289, 6, 10, 1, 1165), (152, 2, 0, 1, 1211), (155, 2, 1, 1, 1214), (180, 2, 2, 1, 1217), (174, 2, 3, 1, 1220), (268, 2, 5, 1, 1226), (307, 2, 6, 1, 1228), (7, 5, 0, 0, 2199), (13, 5, 1, 0, 2200), (17, 5, 2, 0, 2201), (21, 5, 3, 0, 2202), (28, 5, 4, 0, 2203), (32, 5, 5, 0, 2204), (74, 5, 6, 0, 2205), (36, 5, 7, 0, 2206), (40, 5, 8, 0, 2207), (43, 5, 9, 0, 2208), (46, 5, 10, 0, 2209), (71, 5, 11, 0, 2210), (77, 5, 12, 0, 2211), (52, 5, 13, 0, 2212), (56, 5, 14, 0, 2213), (59, 5, 15, 0, 2215), (62, 5, 16, 0, 2217), (65, 5, 17, 0, 2219), (49, 5, 18, 0, 2221), (68, 5, 19, 0, 2222)],
  [(78, 1, 3, 1, 1101), (68, 1, 4, 1, 1105), (71, 1, 5, 1, 1109), (84, 1, 6, 1, 1112), (67, 1, 7, 1, 1116), (7, 6, 0, 0, 1140), (13, 6, 1, 0, 1141), (17, 6, 2, 0, 1143), (20, 6, 3, 0, 1145), (23, 6, 4, 0, 1148), (27, 6, 5, 0, 1151), (30, 6, 6, 0, 1153), (33, 6, 7, 0, 1154), (36, 6, 8, 0, 1157), (39, 6, 9, 0, 1160), (42, 6, 10, 0, 1163), (51, 6, 11, 0, 1166), (45, 6, 12, 0, 1168), (48, 6, 13, 0, 1169), (55, 6, 14, 0, 1170)],
  [(81, 10, 0, 1, 1048), (101, 10, 1, 1, 1050), (44, 10, 2, 1, 1052), (97, 10, 3, 1, 1054), (63, 6, 11, 1, 1167), (180, 2, 1, 1, 1215), (174, 2, 3, 1, 1221), (116, 2, 7, 1, 1231), (123, 2, 8, 1, 1233), (177, 2, 9, 1, 1235), (7, 7, 0, 0, 2023), (13, 7, 1, 0, 2024), (17, 7, 2, 0, 2025), (21, 7, 3, 0, 2026), (25, 7, 4, 0, 2027), (29, 7, 5, 0, 2028), (32, 7, 6, 0, 2029), (87, 7, 7, 0, 2030), (47, 7, 8, 0, 2031), (57, 7, 9, 0, 2032), (84, 7, 10, 0, 2033), (78, 7, 11, 0, 2034)],
  [(9, 8, 0, 0, 2087), (13, 8, 1, 0, 2088), (37, 8, 2, 0, 2090), (41, 8, 3, 0, 2092), (16, 8, 4, 0, 2094), (47, 8, 5, 0, 2095), (21, 8, 6, 0, 2097), (24, 8, 7, 0, 2098), (27, 8, 8, 0, 2099), (31, 8, 9, 0, 2100), (34, 8, 10, 0, 2101), (44, 8, 11, 0, 2102)],
  [(40, 1, 4, 1, 1103), (43, 1, 5, 1, 1107), (36, 1, 7, 1, 1114), (92, 6, 3, 1, 1146), (46, 6, 4, 1, 1149), (167, 6, 5, 1, 1152), (104, 6, 7, 1, 1155), (56, 6, 8, 1, 1158), (77, 6, 9, 1, 1161), (83, 6, 10, 1, 1164), (67, 2, 0, 1, 1210), (149, 2, 1, 1, 1213), (214, 2, 2, 1, 1218), (74, 2, 4, 1, 1223), (63, 2, 5, 1, 1225), (118, 2, 7, 1, 1230), (162, 8, 1, 1, 2089), (66, 8, 2, 1, 2091), (80, 8, 3, 1, 2093), (239, 8, 5, 1, 2096), (7, 9, 0, 0, 2128), (13, 9, 1, 0, 2129), (17, 9, 2, 0, 2130), (24, 9, 3, 0, 2131), (30, 9, 4, 0, 2132), (98, 9, 5, 0, 2133), (86, 9, 6, 0, 2134), (89, 9, 7, 0, 2135), (95, 9, 8, 0, 2136)],
  [(9, 10, 0, 0, 1047), (13, 10, 1, 0, 1049), (16, 10, 2, 0, 1051), (42, 10, 3, 0, 1053), (27, 10, 4, 0, 1055), (60, 10, 5, 0, 1056), (30, 10, 6, 0, 1057), (33, 10, 7, 0, 1058), (36, 10, 8, 0, 1059), (39, 10, 9, 0, 1060), (57, 10, 10, 0, 1061)],
  [(147, 4, 2, 1, 2165), (123, 5, 14, 1, 2214), (129, 5, 15, 1, 2216), (132, 5, 16, 1, 2218), (144, 5, 17, 1, 2220), (141, 5, 19, 1, 2223), (9, 11, 0, 0, 3025), (16, 11, 1, 0, 3026), (23, 11, 2, 0, 3027), (40, 11, 3, 0, 3028), (49, 11, 4, 0, 3029), (58, 11, 5, 0, 3030), (65, 11, 6, 0, 3031), (74, 11, 7, 0, 3032), (78, 11, 8, 0, 3033), (82, 11, 9, 0, 3034), (85, 11, 10, 0, 3035)],
  [(7, 12, 0, 0, 7014), (435, 12, 1, 0, 7015), (13, 12, 2, 0, 7016), (240, 12, 3, 0, 7017), (253, 12, 4, 0, 7018), (263, 12, 5, 0, 7019), (246, 12, 6, 0, 7020), (243, 12, 7, 0, 7021), (256, 12, 8, 0, 7022), (283, 12, 9, 0, 7023), (292, 12, 10, 0, 7024), (221, 12, 11, 0, 7025), (16, 12, 12, 0, 7026), (19, 12, 13, 0, 7027), (22, 12, 14, 0, 7028), (302, 12, 15, 0, 7029), (25, 12, 16, 0, 7030), (28, 12, 17, 0, 7031), (31, 12, 18, 0, 7032), (34, 12, 19, 0, 7033), (37, 12, 20, 0, 7034), (359, 12, 21, 0, 7035), (40, 12, 22, 0, 7036), (356, 12, 23, 0, 7037), (43, 12, 24, 0, 7038), (366, 12, 25, 0, 7039), (46, 12, 26, 0, 7040), (49, 12, 27, 0, 7041), (52, 12, 28, 0, 7042), (55, 12, 29, 0, 7043), (58, 12, 30, 0, 7044), (61, 12, 31, 0, 7045), (64, 12, 32, 0, 7046), (67, 12, 33, 0, 7047), (70, 12, 34, 0, 7048), (73, 12, 35, 0, 7049), (76, 12, 36, 0, 7050), (397, 12, 37, 0, 7051), (79, 12, 38, 0, 7052), (82, 12, 39, 0, 7053), (85, 12, 40, 0, 7054), (88, 12, 41, 0, 7055), (91, 12, 42, 0, 7056), (94, 12, 43, 0, 7057), (403, 12, 44, 0, 7058), (97, 12, 45, 0, 7059), (100, 12, 46, 0, 7060), (103, 12, 47, 0, 7061), (106, 12, 48, 0, 7062), (110, 12, 49, 0, 7063), (113, 12, 50, 0, 7064), (116, 12, 51, 0, 7065), (119, 12, 52, 0, 7066), (406, 12, 53, 0, 7067), (122, 12, 54, 0, 7068), (125, 12, 55, 0, 7069), (438, 12, 56, 0, 7070), (372, 12, 57, 0, 7071), (409, 12, 58, 0, 7072), (457, 12, 59, 0, 7073), (470, 12, 60, 0, 7074), (473, 12, 61, 0, 7075), (467, 12, 62, 0, 7076), (128, 12, 63, 0, 7077), (131, 12, 64, 0, 7078), (134, 12, 65, 0, 7079), (476, 12, 66, 0, 7080), (138, 12, 67, 0, 7081), (141, 12, 68, 0, 7082), (442, 12, 69, 0, 7083), (587, 12, 70, 0, 7084), (144, 12, 71, 0, 7085), (569, 12, 72, 0, 7086), (572, 12, 73, 0, 7087), (581, 12, 74, 0, 7088), (662, 12, 75, 0, 7089), (590, 12, 76, 0, 7090), (602, 12, 77, 0, 7091), (657, 12, 78, 0, 7092), (148, 12, 79, 0, 7093), (635, 12, 80, 0, 7094), (151, 12, 81, 0, 7095), (551, 12, 82, 0, 7096), (154, 12, 83, 0, 7097), (157, 12, 84, 0, 7098), (160, 12, 85, 0, 7099), (163, 12, 86, 0, 7100), (166, 12, 87, 0, 7101), (169, 12, 88, 0, 7102), (548, 12, 89, 0, 7103), (566, 12, 90, 0, 7104), (172, 12, 91, 0, 7105), (175, 12, 92, 0, 7106), (554, 12, 93, 0, 7107), (178, 12, 94, 0, 7108), (181, 12, 95, 0, 7109), (184, 12, 96, 0, 7110), (187, 12, 97, 0, 7111), (191, 12, 98, 0, 7112), (194, 12, 99, 0, 7113), (560, 12, 100, 0, 7114), (198, 12, 101, 0, 7115), (201, 12, 102, 0, 7116), (584, 12, 103, 0, 7117), (205, 12, 104, 0, 7118), (208, 12, 105, 0, 7119), (593, 12, 106, 0, 7120), (211, 12, 107, 0, 7121), (214, 12, 108, 0, 7122)],
  [],
  [],
  [],
  [],
  [],
  [],
  [],
  [],
  []]
/-- links of String's fields: 0 value, 1 coder -/
def pFS : List (List (Nat × Nat × Nat)) := [
  [],
  [],
  [],
  [],
  [],
  [],
  [],
  [],
  [],
  [],
  [],
  [],
  [],
  [(9, 0, 10074), (15, 1, 10075)],
  [],
  [],
  [],
  [],
  [],
  [],
  [],
  []]
/-- links of statics: 0 COMPACT_STRINGS, 1 SIOOBE_FORMATTER -/
def pGs : List (List (Nat × Nat × Nat)) := [
  [],
  [],
  [],
  [],
  [],
  [],
  [],
  [],
  [],
  [],
  [],
  [],
  [],
  [(38, 0, 1045), (1053, 1, 3104)],
  [],
  [],
  [],
  [],
  [],
  [],
  [],
  []]
/-- constants -/
def pKi : List (List (Nat × Int32 × Nat)) := [
  [],
  [],
  [],
  [],
  [],
  [(297, 400000, 6012), (193, 1000000, 6030)],
  [],
  [],
  [],
  [],
  [],
  [],
  [(137, 100000, 7006), (190, 90000, 7007), (197, 200000, 7008), (204, 400000, 7009)],
  [],
  [],
  [(227, 65536, 3195)],
  [],
  [],
  [],
  [(110, 55232, 3220), (76, 56320, 3224)],
  [],
  []]
/-- constants -/
def pKl : List (List (Nat × Int64 × Nat)) := [
  [],
  [],
  [],
  [(33, 4294967296, 5239), (35, 4294967295, 6075), (55, (-2), 6120), (63, (-1), 6126)],
  [],
  [(256, 2, 6099)],
  [],
  [],
  [],
  [],
  [],
  [],
  [(232, 97, 8121), (234, 122, 8122), (236, 65, 8126), (238, 90, 8127), (224, 48, 8131), (226, 57, 8132), (362, 14, 9012), (364, 19, 9013), (680, 10, 9169), (682, 10000, 9170), (689, 20000, 9220), (697, 5, 10073)],
  [],
  [],
  [],
  [],
  [],
  [],
  [],
  [],
  []]
/-- links of classes for new -/
def pNw : List (List (Nat × Nat × Nat × Nat × Nat)) := [
  [],
  [],
  [],
  [],
  [],
  [(25, 3, 2179, 2180, 1013)],
  [],
  [],
  [],
  [(21, 8, 2079, 2080, 1010)],
  [],
  [(13, 10, 1030, 1031, 1002), (20, 1, 1087, 1088, 1004), (27, 6, 1134, 1135, 1005), (32, 2, 1203, 1204, 1006), (35, 7, 2017, 2018, 1007), (44, 0, 2060, 2061, 1008), (53, 9, 2073, 2074, 1009), (62, 4, 2156, 2157, 1011), (69, 5, 2173, 2174, 1012)],
  [],
  [],
  [],
  [],
  [],
  [],
  [],
  [],
  [],
  [(7, 11, 1022, 1023, 1001), (10, 12, 7000, 7001, 1014)]]
/-- links of int[][] -/
def pMn : List (List (Nat × Nat)) := [
  [],
  [],
  [],
  [],
  [],
  [],
  [],
  [],
  [(19, 2085)],
  [],
  [],
  [],
  [],
  [],
  [],
  [],
  [],
  [],
  [],
  [],
  [],
  []]
/-- links of string constants: index, which, place -/
def pSt : List (List (Nat × Nat × Nat)) := [
  [],
  [],
  [],
  [],
  [],
  [],
  [],
  [],
  [],
  [],
  [(19, 0, 1036), (98, 1, 3165)],
  [],
  [],
  [],
  [],
  [],
  [],
  [],
  [],
  [],
  [],
  []]
def pTx : List String := ["class int bool ints void if else while return throw try catch print new null true false this read as is Null Bounds Zero Cast Size Main main size ", "{}()[];,.:=<+-*/%!"]
def pSown : List (String × Nat) := [("ClassHouse$Words", 19), ("ClassHouse$Words", 98)]
def pLen1 : List Nat := [146, 18]
def pByt : List (List Int32) := [[99, 108, 97, 115, 115, 32, 105, 110, 116, 32, 98, 111, 111, 108, 32, 105, 110, 116, 115, 32, 118, 111, 105, 100, 32, 105, 102, 32, 101, 108, 115, 101, 32, 119, 104, 105, 108, 101, 32, 114, 101, 116, 117, 114, 110, 32, 116, 104, 114, 111, 119, 32, 116, 114, 121, 32, 99, 97, 116, 99, 104, 32, 112, 114, 105, 110, 116, 32, 110, 101, 119, 32, 110, 117, 108, 108, 32, 116, 114, 117, 101, 32, 102, 97, 108, 115, 101, 32, 116, 104, 105, 115, 32, 114, 101, 97, 100, 32, 97, 115, 32, 105, 115, 32, 78, 117, 108, 108, 32, 66, 111, 117, 110, 100, 115, 32, 90, 101, 114, 111, 32, 67, 97, 115, 116, 32, 83, 105, 122, 101, 32, 77, 97, 105, 110, 32, 109, 97, 105, 110, 32, 115, 105, 122, 101, 32], [123, 125, 40, 41, 91, 93, 59, 44, 46, 58, 61, 60, 43, 45, 42, 47, 37, 33]]
theorem pMl_ok : ∀ c, c < 22 → ∀ e ∈ pMl.getD c [], pW e.2.2 = (pMq[e.2.1]?).map (fun q => .methodLink (pCn.getD c "") e.1 q.1.1) ∧ e.2.1 < 342 := by decide +kernel
theorem pOb_ok : ∀ c, c < 22 → ∀ e ∈ pOb.getD c [], pW e.2 = some (.methodLink (pCn.getD c "") e.1 objectInit) := by decide +kernel
theorem pAc_ok : ∀ c, c < 22 → ∀ e ∈ pAc.getD c [], pW e.2 = some (.methodLink (pCn.getD c "") e.1 arraycopyName) := by decide +kernel
theorem pMx_ok : ∀ c, c < 22 → ∀ e ∈ pMx.getD c [], pW e.2.2 = some (if e.2.1 = 0 then .methodLink (pCn.getD c "") e.1 Lib.Math.max.name else .methodLink (pCn.getD c "") e.1 Lib.Math.min.name) := by decide +kernel
theorem pFl_ok : ∀ c, c < 22 → ∀ e ∈ pFl.getD c [], e.2.1 < 13 ∧ e.2.2.1 < (vwCl.getD e.2.1 ("", TX0, 0)).2.2 ∧ ((vwCl.getD e.2.1 ("", TX0, 0)).2.1 e.2.2.1).1 = (vwCl.getD e.2.1 ("", TX0, 0)).1 ∧ pW e.2.2.2.2 = some (if e.2.2.2.1 = 0 then .fieldLink (pCn.getD c "") e.1 (vwCl.getD e.2.1 ("", TX0, 0)).1 ((vwCl.getD e.2.1 ("", TX0, 0)).2.1 e.2.2.1).2.1 ((vwCl.getD e.2.1 ("", TX0, 0)).2.1 e.2.2.1).2.2.1 else .fieldLinkNest (pCn.getD c "") e.1 (vwCl.getD e.2.1 ("", TX0, 0)).1 ((vwCl.getD e.2.1 ("", TX0, 0)).2.1 e.2.2.1).2.1 ((vwCl.getD e.2.1 ("", TX0, 0)).2.1 e.2.2.1).2.2.1 "ClassHouse") := by decide +kernel
theorem pFS_ok : ∀ c, c < 22 → ∀ e ∈ pFS.getD c [], pW e.2.2 = some (if e.2.1 = 0 then .fieldLink (pCn.getD c "") e.1 "java/lang/String" "value" "[B" else .fieldLink (pCn.getD c "") e.1 "java/lang/String" "coder" "B") := by decide +kernel
theorem pGs_ok : ∀ c, c < 22 → ∀ e ∈ pGs.getD c [], pW e.2.2 = some (if e.2.1 = 0 then .fieldLink (pCn.getD c "") e.1 "java/lang/String" "COMPACT_STRINGS" "Z" else .fieldLink (pCn.getD c "") e.1 "jdk/internal/util/Preconditions" "SIOOBE_FORMATTER" "Ljava/util/function/BiFunction;") := by decide +kernel
theorem pKi_ok : ∀ c, c < 22 → ∀ e ∈ pKi.getD c [], pW e.2.2 = some (.constant (pCn.getD c "") e.1 e.2.1) := by decide +kernel
theorem pKl_ok : ∀ c, c < 22 → ∀ e ∈ pKl.getD c [], pW e.2.2 = some (.constantLong (pCn.getD c "") e.1 e.2.1) := by decide +kernel
theorem pNw_ok : ∀ c, c < 22 → ∀ e ∈ pNw.getD c [], e.2.1 < 13 ∧ pW e.2.2.1 = some (.classLink (pCn.getD c "") e.1 (vwCl.getD e.2.1 ("", TX0, 0)).1) ∧ pW e.2.2.2.1 = some (.instantiable (vwCl.getD e.2.1 ("", TX0, 0)).1 (vwCl.getD e.2.1 ("", TX0, 0)).2.2) ∧ pW e.2.2.2.2 = some (.initialized (vwCl.getD e.2.1 ("", TX0, 0)).1) := by decide +kernel
theorem pMn_ok : ∀ c, c < 22 → ∀ e ∈ pMn.getD c [], pW e.2 = some (.classLink (pCn.getD c "") e.1 "[[I") := by decide +kernel
theorem pSt_ok : ∀ c, c < 22 → ∀ e ∈ pSt.getD c [], e.2.1 < 2 ∧ pSown.getD e.2.1 ("", 0) = (pCn.getD c "", e.1) := by decide +kernel
theorem pa_int : (Cond.arrayClass .int) ∈ pT := pT_in (n := 1085) (by decide +kernel) rfl
theorem pa_long : (Cond.arrayClass .long) ∈ pT := pT_in (n := 2198) (by decide +kernel) rfl
theorem pa_boolean : (Cond.arrayClass .boolean) ∈ pT := pT_in (n := 1202) (by decide +kernel) rfl
theorem pa_over : (Cond.arrayOver (.array .int)) ∈ lw_tbl := pW_in (n := 2086) (by decide +kernel)
theorem pa_cn : (Cond.native arraycopyName) ∈ pT := pT_in (n := 5163) (by decide +kernel) rfl
theorem pa_cs : (Cond.static arraycopyName) ∈ pT := pT_in (n := 5162) (by decide +kernel) rfl
theorem pa_ci : (Cond.initialized "java/lang/System") ∈ pT := pT_in (n := 1021) (by decide +kernel) rfl
theorem pa_oi : (Cond.instanceMethod objectInit) ∈ pT := pT_in (n := 1028) (by decide +kernel) rfl
theorem pa_oc : (Cond.code objectInit ⟨#[0xb1]⟩ 1 none) ∈ pT := pT_in (n := 1029) (by decide +kernel) rfl
theorem pa_maxs : (Cond.static Lib.Math.max.name) ∈ pT := pT_in (n := 3182) (by decide +kernel) rfl
theorem pa_maxc : (Cond.code Lib.Math.max.name Lib.Math.max.code 2 (some .int)) ∈ pT := pT_in (n := 3183) (by decide +kernel) rfl
theorem pa_mins : (Cond.static Lib.Math.min.name) ∈ pT := pT_in (n := 3185) (by decide +kernel) rfl
theorem pa_minc : (Cond.code Lib.Math.min.name Lib.Math.min.code 2 (some .int)) ∈ pT := pT_in (n := 3186) (by decide +kernel) rfl
theorem pa_mi : (Cond.initialized "java/lang/Math") ∈ pT := pT_in (n := 1019) (by decide +kernel) rfl
