/-! methods: names, code, links -/
def pg_mn0 : List (MethodName × ByteArray × Nat × Option FieldType × Nat × Nat) := [
  (⟨"LinkHouse", "<init>", "()V"⟩, prog_1_method_1_code, 2, none, 0, 0),
  (⟨"LinkHouse", "link", "(Z)I"⟩, prog_1_method_5_code, 2, (some .int), 1, 0),
  (⟨"LinkHouse", "runLink", "(Z)I"⟩, prog_1_method_27_code, 3, (some .int), 1, 0),
  (⟨"LinkHouse", "up", "(JJ)J"⟩, prog_1_method_37_code, 4, (some .long), 2, 0),
  (⟨"LinkHouse", "siteWidth", "(J)I"⟩, prog_1_method_39_code, 2, (some .int), 1, 0),
  (⟨"LinkHouse", "merge", "()I"⟩, prog_1_method_6_code, 2, (some .int), 0, 0),
  (⟨"LinkHouse", "publishDraft", "()I"⟩, prog_1_method_28_code, 2, (some .int), 0, 0),
  (⟨"LinkHouse", "forget", "()V"⟩, prog_1_method_9_code, 1, none, 0, 0),
  (⟨"LinkHouse", "pack", "()I"⟩, prog_1_method_10_code, 1, (some .int), 0, 0),
  (⟨"LinkHouse", "near", "(J)J"⟩, prog_1_method_12_code, 4, (some .long), 1, 0),
  (⟨"LinkHouse", "above", "(JJ)Z"⟩, prog_1_method_36_code, 4, (some .boolean), 2, 0),
  (⟨"LinkHouse", "boot", "(Z)I"⟩, prog_1_method_21_code, 3, (some .int), 1, 0),
  (⟨"LinkHouse", "peek", "(J)I"⟩, prog_1_method_22_code, 3, (some .int), 1, 0),
  (⟨"LinkHouse", "flags", "(J)J"⟩, prog_1_method_23_code, 3, (some .long), 1, 0),
  (⟨"LinkHouse", "feed", "(IJ)I"⟩, prog_1_method_2_code, 4, (some .int), 2, 0),
  (⟨"LinkHouse", "add", "()I"⟩, prog_1_method_3_code, 2, (some .int), 0, 0)]
def pg_mn1 : List (MethodName × ByteArray × Nat × Option FieldType × Nat × Nat) := [
  (⟨"LinkHouse", "readFile", "(I)I"⟩, prog_1_method_33_code, 3, (some .int), 1, 0),
  (⟨"LinkHouse", "readArchive", "(II)I"⟩, prog_1_method_34_code, 7, (some .int), 2, 0),
  (⟨"LinkHouse", "memberSize", "(I)I"⟩, prog_1_method_35_code, 7, (some .int), 1, 0),
  (⟨"LinkHouse", "isPower", "(J)Z"⟩, prog_1_method_38_code, 2, (some .boolean), 1, 0),
  (⟨"LinkHouse", "clearFile", "(I)V"⟩, prog_1_method_32_code, 3, none, 1, 0),
  (⟨"LinkHouse", "drop", "()I"⟩, prog_1_method_4_code, 1, (some .int), 0, 0),
  (⟨"LinkHouse", "give", "(J)I"⟩, prog_1_method_7_code, 4, (some .int), 1, 0),
  (⟨"LinkHouse", "readTapeName", "()Z"⟩, prog_1_method_29_code, 4, (some .boolean), 0, 0),
  (⟨"LinkHouse", "wish", "()I"⟩, prog_1_method_8_code, 2, (some .int), 0, 0),
  (⟨"LinkHouse", "named", "()I"⟩, prog_1_method_11_code, 1, (some .int), 0, 0),
  (⟨"LinkHouse", "list", "(II)I"⟩, prog_1_method_13_code, 4, (some .int), 2, 0),
  (⟨"LinkHouse", "objectAt", "(II)LLinkHouse$ObjectFile;"⟩, prog_1_method_31_code, 4, (some (.object "LinkHouse$ObjectFile")), 2, 0),
  (⟨"LinkHouse", "memberAt", "(II)LLinkHouse$ObjectFile;"⟩, prog_1_method_30_code, 4, (some (.object "LinkHouse$ObjectFile")), 2, 0),
  (⟨"LinkHouse", "sum", "(III)J"⟩, prog_1_method_14_code, 8, (some .long), 3, 0),
  (⟨"LinkHouse", "map", "()I"⟩, prog_1_method_15_code, 1, (some .int), 0, 0),
  (⟨"LinkHouse", "address", "()J"⟩, prog_1_method_16_code, 2, (some .long), 0, 0)]
def pg_mn2 : List (MethodName × ByteArray × Nat × Option FieldType × Nat × Nat) := [
  (⟨"LinkHouse", "taken", "(II)Z"⟩, prog_1_method_17_code, 4, (some .boolean), 2, 0),
  (⟨"LinkHouse", "cause", "(II)I"⟩, prog_1_method_18_code, 4, (some .int), 2, 0),
  (⟨"LinkHouse", "section", "(II)I"⟩, prog_1_method_19_code, 4, (some .int), 2, 0),
  (⟨"LinkHouse", "place", "(I)J"⟩, prog_1_method_20_code, 2, (some .long), 1, 0),
  (⟨"LinkHouse", "out", "(I)J"⟩, prog_1_method_24_code, 2, (some .long), 1, 0),
  (⟨"LinkHouse", "look", "(I)J"⟩, prog_1_method_25_code, 2, (some .long), 1, 0),
  (⟨"LinkHouse", "lookAtLink", "(I)J"⟩, prog_1_method_26_code, 4, (some .long), 1, 0),
  (⟨"LinkHouse$Filler", "<init>", "(LLinkHouse$Link;LLinkHouse$Layout;LLinkHouse$Pool;LLinkHouse$Row;)V"⟩, prog_2_method_1_code, 5, none, 4, 1),
  (⟨"LinkHouse$Filler", "write", "()V"⟩, prog_2_method_2_code, 3, none, 0, 1),
  (⟨"LinkHouse$Filler", "writeHead", "()V"⟩, prog_2_method_3_code, 2, none, 0, 1),
  (⟨"LinkHouse$Filler", "writeRow", "(IIIJ)V"⟩, prog_2_method_4_code, 6, none, 4, 1),
  (⟨"LinkHouse$Filler", "spotOf", "(LLinkHouse$Part;)I"⟩, prog_2_method_5_code, 3, (some .int), 1, 1),
  (⟨"LinkHouse$Filler", "fillSites", "()Z"⟩, prog_2_method_6_code, 8, (some .boolean), 0, 1),
  (⟨"LinkHouse$Filler", "fillSite", "(IILLinkHouse$Part;)Z"⟩, prog_2_method_7_code, 15, (some .boolean), 3, 1),
  (⟨"LinkHouse$Filler", "fillShort", "(IILLinkHouse$Part;)Z"⟩, prog_2_method_10_code, 12, (some .boolean), 3, 1),
  (⟨"LinkHouse$Filler", "slotAddress", "(IIZ)J"⟩, prog_2_method_8_code, 4, (some .long), 3, 1)]
def pg_mn3 : List (MethodName × ByteArray × Nat × Option FieldType × Nat × Nat) := [
  (⟨"LinkHouse$Filler", "sumFor", "(IIIJ)J"⟩, prog_2_method_9_code, 9, (some .long), 4, 1),
  (⟨"LinkHouse$Layout", "<init>", "(LLinkHouse$Link;LLinkHouse$Pool;)V"⟩, prog_3_method_1_code, 3, none, 2, 2),
  (⟨"LinkHouse$Layout", "lay", "()V"⟩, prog_3_method_6_code, 3, none, 0, 2),
  (⟨"LinkHouse$Layout", "gather", "()V"⟩, prog_3_method_7_code, 4, none, 0, 2),
  (⟨"LinkHouse$Layout", "findSlots", "()V"⟩, prog_3_method_8_code, 8, none, 0, 2),
  (⟨"LinkHouse$Layout", "findSlot", "(IILLinkHouse$Part;)V"⟩, prog_3_method_9_code, 11, none, 3, 2),
  (⟨"LinkHouse$Layout", "slotOf", "(IIZ)I"⟩, prog_3_method_11_code, 5, (some .int), 3, 2),
  (⟨"LinkHouse$Layout", "slotKey", "(IIZ)I"⟩, prog_3_method_10_code, 5, (some .int), 3, 2),
  (⟨"LinkHouse$Layout", "findSegments", "()V"⟩, prog_3_method_13_code, 3, none, 0, 2),
  (⟨"LinkHouse$Layout", "partAt", "(I)LLinkHouse$Part;"⟩, prog_3_method_2_code, 3, (some (.object "LinkHouse$Part")), 1, 2),
  (⟨"LinkHouse$Layout", "segmentOf", "(LLinkHouse$Part;)I"⟩, prog_3_method_3_code, 2, (some .int), 1, 2),
  (⟨"LinkHouse$Layout", "isLaidCommon", "(LLinkHouse$Name;)Z"⟩, prog_3_method_14_code, 1, (some .boolean), 1, 2),
  (⟨"LinkHouse$Layout", "layText", "()V"⟩, prog_3_method_15_code, 8, none, 0, 2),
  (⟨"LinkHouse$Layout", "countSegments", "()I"⟩, prog_3_method_4_code, 3, (some .int), 0, 2),
  (⟨"LinkHouse$Layout", "layData", "()V"⟩, prog_3_method_16_code, 6, none, 0, 2),
  (⟨"LinkHouse$Layout", "layGroup", "(IJ)J"⟩, prog_3_method_19_code, 8, (some .long), 2, 2)]
def pg_mn4 : List (MethodName × ByteArray × Nat × Option FieldType × Nat × Nat) := [
  (⟨"LinkHouse$Layout", "layTemplate", "(JJ)V"⟩, prog_3_method_17_code, 9, none, 2, 2),
  (⟨"LinkHouse$Layout", "firstOf", "(I)LLinkHouse$Part;"⟩, prog_3_method_18_code, 3, (some (.object "LinkHouse$Part")), 1, 2),
  (⟨"LinkHouse$Layout", "addressOf", "(LLinkHouse$Name;)J"⟩, prog_3_method_20_code, 2, (some .long), 1, 2),
  (⟨"LinkHouse$Layout", "ownAddress", "(I)J"⟩, prog_3_method_21_code, 2, (some .long), 1, 2),
  (⟨"LinkHouse$Layout", "isTooLarge", "()Z"⟩, prog_3_method_5_code, 2, (some .boolean), 0, 2),
  (⟨"LinkHouse$Layout", "slotValue", "(I)J"⟩, prog_3_method_12_code, 6, (some .long), 1, 2),
  (⟨"LinkHouse$Layout", "symbolAddress", "(II)J"⟩, prog_3_method_22_code, 8, (some .long), 2, 2),
  (⟨"LinkHouse$Link", "<init>", "([LLinkHouse$ObjectFile;LLinkHouse$Names;LLinkHouse$Names;LLinkHouse$Row;)V"⟩, prog_4_method_1_code, 6, none, 4, 3),
  (⟨"LinkHouse$Link", "resolve", "(Z)I"⟩, prog_4_method_9_code, 5, (some .int), 1, 3),
  (⟨"LinkHouse$Link", "begin", "()V"⟩, prog_4_method_10_code, 3, none, 0, 3),
  (⟨"LinkHouse$Link", "define", "(LLinkHouse$Name;IILLinkHouse$Part;JJI)V"⟩, prog_4_method_21_code, 10, none, 7, 3),
  (⟨"LinkHouse$Link", "takeObject", "(LLinkHouse$ObjectFile;)Z"⟩, prog_4_method_14_code, 3, (some .boolean), 1, 3),
  (⟨"LinkHouse$Link", "openParts", "(ILLinkHouse$ObjectFile;)V"⟩, prog_4_method_15_code, 6, none, 2, 3),
  (⟨"LinkHouse$Link", "part", "(II)LLinkHouse$Part;"⟩, prog_4_method_3_code, 4, (some (.object "LinkHouse$Part")), 2, 3),
  (⟨"LinkHouse$Link", "enterNames", "(ILLinkHouse$ObjectFile;)V"⟩, prog_4_method_16_code, 5, none, 2, 3),
  (⟨"LinkHouse$Link", "dropGroups", "(ILLinkHouse$ObjectFile;)V"⟩, prog_4_method_17_code, 6, none, 2, 3)]
def pg_mn5 : List (MethodName × ByteArray × Nat × Option FieldType × Nat × Nat) := [
  (⟨"LinkHouse$Link", "nameOf", "(II)LLinkHouse$Name;"⟩, prog_4_method_4_code, 5, (some (.object "LinkHouse$Name")), 2, 3),
  (⟨"LinkHouse$Link", "dropParts", "(ILLinkHouse$ObjectFile;II)V"⟩, prog_4_method_18_code, 7, none, 4, 3),
  (⟨"LinkHouse$Link", "defineNames", "(ILLinkHouse$ObjectFile;)Z"⟩, prog_4_method_19_code, 7, (some .boolean), 2, 3),
  (⟨"LinkHouse$Link", "settle", "(LLinkHouse$Name;ILLinkHouse$ObjectFile;I)Z"⟩, prog_4_method_20_code, 12, (some .boolean), 4, 3),
  (⟨"LinkHouse$Link", "takeMembers", "(I)Z"⟩, prog_4_method_12_code, 7, (some .boolean), 1, 3),
  (⟨"LinkHouse$Link", "firstWanted", "(LLinkHouse$ObjectFile;)I"⟩, prog_4_method_13_code, 4, (some .int), 1, 3),
  (⟨"LinkHouse$Link", "isWanted", "(LLinkHouse$Name;)Z"⟩, prog_4_method_11_code, 1, (some .boolean), 1, 3),
  (⟨"LinkHouse$Link", "defineOwn", "(Ljava/lang/String;I)V"⟩, prog_4_method_22_code, 4, none, 2, 3),
  (⟨"LinkHouse$Link", "isNameLeft", "()Z"⟩, prog_4_method_23_code, 4, (some .boolean), 0, 3),
  (⟨"LinkHouse$Link", "keepReached", "()V"⟩, prog_4_method_24_code, 3, none, 0, 3),
  (⟨"LinkHouse$Link", "definedAt", "(I)LLinkHouse$Name;"⟩, prog_4_method_5_code, 3, (some (.object "LinkHouse$Name")), 1, 3),
  (⟨"LinkHouse$Link", "reachName", "(LLinkHouse$Name;)V"⟩, prog_4_method_25_code, 2, none, 1, 3),
  (⟨"LinkHouse$Link", "reachPart", "(LLinkHouse$Part;)V"⟩, prog_4_method_26_code, 2, none, 1, 3),
  (⟨"LinkHouse$Link", "reachFrom", "(LLinkHouse$Part;)V"⟩, prog_4_method_27_code, 7, none, 1, 3),
  (⟨"LinkHouse$Link", "object", "(I)LLinkHouse$ObjectFile;"⟩, prog_4_method_2_code, 3, (some (.object "LinkHouse$ObjectFile")), 1, 3),
  (⟨"LinkHouse$Link", "reachSymbol", "(II)V"⟩, prog_4_method_28_code, 4, none, 2, 3)]
def pg_mn6 : List (MethodName × ByteArray × Nat × Option FieldType × Nat × Nat) := [
  (⟨"LinkHouse$Link", "partOf", "(II)LLinkHouse$Part;"⟩, prog_4_method_6_code, 8, (some (.object "LinkHouse$Part")), 2, 3),
  (⟨"LinkHouse$Link", "stayingTarget", "(II)LLinkHouse$Part;"⟩, prog_4_method_7_code, 5, (some (.object "LinkHouse$Part")), 2, 3),
  (⟨"LinkHouse$Link", "isShort", "(IILLinkHouse$Part;)Z"⟩, prog_4_method_29_code, 13, (some .boolean), 3, 3),
  (⟨"LinkHouse$Link", "countStaying", "()I"⟩, prog_4_method_8_code, 3, (some .int), 0, 3),
  (⟨"LinkHouse$Memory", "<init>", "()V"⟩, prog_5_method_1_code, 1, none, 0, 4),
  (⟨"LinkHouse$Memory", "rowAt", "(J)I"⟩, prog_5_method_10_code, 4, (some .int), 1, 4),
  (⟨"LinkHouse$Memory", "nearest", "(J)I"⟩, prog_5_method_9_code, 6, (some .int), 1, 4),
  (⟨"LinkHouse$Memory", "valueOf", "(I)J"⟩, prog_5_method_7_code, 2, (some .long), 1, 4),
  (⟨"LinkHouse$Memory", "isName", "(I)Z"⟩, prog_5_method_6_code, 6, (some .boolean), 1, 4),
  (⟨"LinkHouse$Memory", "nameStart", "(I)I"⟩, prog_5_method_8_code, 2, (some .int), 1, 4),
  (⟨"LinkHouse$Memory", "errorOf", "(LLinkHouse$Row;)I"⟩, prog_5_method_2_code, 16, (some .int), 1, 4),
  (⟨"LinkHouse$Memory", "rowError", "(LLinkHouse$Row;IJ)I"⟩, prog_5_method_3_code, 14, (some .int), 3, 4),
  (⟨"LinkHouse$Memory", "load", "(LLinkHouse$Row;)V"⟩, prog_5_method_4_code, 6, none, 1, 4),
  (⟨"LinkHouse$Memory", "findNames", "()V"⟩, prog_5_method_5_code, 11, none, 0, 4),
  (⟨"LinkHouse$Memory", "byteAt", "(J)I"⟩, prog_5_method_11_code, 6, (some .int), 1, 4),
  (⟨"LinkHouse$Memory", "flagsAt", "(J)J"⟩, prog_5_method_12_code, 4, (some .long), 1, 4)]
def pg_mn7 : List (MethodName × ByteArray × Nat × Option FieldType × Nat × Nat) := [
  (⟨"LinkHouse$Name", "<init>", "()V"⟩, prog_6_method_1_code, 1, none, 0, 5),
  (⟨"LinkHouse$Name", "setText", "(Ljava/lang/String;)V"⟩, prog_6_method_5_code, 3, none, 1, 5),
  (⟨"LinkHouse$Name", "wipe", "()V"⟩, prog_6_method_2_code, 1, none, 0, 5),
  (⟨"LinkHouse$Name", "append", "(I)V"⟩, prog_6_method_3_code, 4, none, 1, 5),
  (⟨"LinkHouse$Name", "renew", "(LLinkHouse$Name;)V"⟩, prog_6_method_6_code, 2, none, 1, 5),
  (⟨"LinkHouse$Name", "read", "(LLinkHouse$Row;I)V"⟩, prog_6_method_4_code, 4, none, 2, 5),
  (⟨"LinkHouse$Name", "isMissedOrWished", "()Z"⟩, prog_6_method_8_code, 1, (some .boolean), 0, 5),
  (⟨"LinkHouse$Name", "writeTo", "(LLinkHouse$Row;)V"⟩, prog_6_method_9_code, 5, none, 1, 5),
  (⟨"LinkHouse$Name", "isDefinedByInput", "()Z"⟩, prog_6_method_7_code, 1, (some .boolean), 0, 5),
  (⟨"LinkHouse$Names", "<init>", "(I)V"⟩, prog_7_method_1_code, 2, none, 1, 6),
  (⟨"LinkHouse$Names", "at", "(I)LLinkHouse$Name;"⟩, prog_7_method_2_code, 3, (some (.object "LinkHouse$Name")), 1, 6),
  (⟨"LinkHouse$Names", "enter", "(LLinkHouse$Name;)LLinkHouse$Name;"⟩, prog_7_method_4_code, 3, (some (.object "LinkHouse$Name")), 1, 6),
  (⟨"LinkHouse$Names", "find", "(LLinkHouse$Name;)LLinkHouse$Name;"⟩, prog_7_method_3_code, 4, (some (.object "LinkHouse$Name")), 1, 6),
  (⟨"LinkHouse$ObjectFile", "<init>", "(LLinkHouse$Row;II)V"⟩, prog_8_method_1_code, 4, none, 3, 7),
  (⟨"LinkHouse$ObjectFile", "groupOf", "(J)I"⟩, prog_8_method_12_code, 3, (some .int), 1, 7),
  (⟨"LinkHouse$ObjectFile", "lengthOf", "(I)J"⟩, prog_8_method_8_code, 2, (some .long), 1, 7)]
def pg_mn8 : List (MethodName × ByteArray × Nat × Option FieldType × Nat × Nat) := [
  (⟨"LinkHouse$ObjectFile", "num", "(II)J"⟩, prog_8_method_3_code, 7, (some .long), 2, 7),
  (⟨"LinkHouse$ObjectFile", "alignOf", "(I)J"⟩, prog_8_method_11_code, 2, (some .long), 1, 7),
  (⟨"LinkHouse$ObjectFile", "placeOf", "(I)J"⟩, prog_8_method_7_code, 2, (some .long), 1, 7),
  (⟨"LinkHouse$ObjectFile", "isStrings", "(I)Z"⟩, prog_8_method_34_code, 2, (some .boolean), 1, 7),
  (⟨"LinkHouse$ObjectFile", "bindOf", "(I)I"⟩, prog_8_method_15_code, 2, (some .int), 1, 7),
  (⟨"LinkHouse$ObjectFile", "nameStart", "(I)I"⟩, prog_8_method_20_code, 2, (some .int), 1, 7),
  (⟨"LinkHouse$ObjectFile", "typeOf", "(I)J"⟩, prog_8_method_5_code, 2, (some .long), 1, 7),
  (⟨"LinkHouse$ObjectFile", "infoOf", "(I)J"⟩, prog_8_method_10_code, 2, (some .long), 1, 7),
  (⟨"LinkHouse$ObjectFile", "whereOf", "(I)I"⟩, prog_8_method_17_code, 2, (some .int), 1, 7),
  (⟨"LinkHouse$ObjectFile", "isDefining", "(I)Z"⟩, prog_8_method_19_code, 2, (some .boolean), 1, 7),
  (⟨"LinkHouse$ObjectFile", "targetOf", "(I)I"⟩, prog_8_method_13_code, 4, (some .int), 1, 7),
  (⟨"LinkHouse$ObjectFile", "sitesOf", "(I)I"⟩, prog_8_method_14_code, 2, (some .int), 1, 7),
  (⟨"LinkHouse$ObjectFile", "valueOf", "(I)J"⟩, prog_8_method_18_code, 2, (some .long), 1, 7),
  (⟨"LinkHouse$ObjectFile", "kindOf", "(I)I"⟩, prog_8_method_16_code, 2, (some .int), 1, 7),
  (⟨"LinkHouse$ObjectFile", "flagsOf", "(I)J"⟩, prog_8_method_6_code, 2, (some .long), 1, 7),
  (⟨"LinkHouse$ObjectFile", "open", "(III)V"⟩, prog_8_method_2_code, 4, none, 3, 7)]
def pg_mn9 : List (MethodName × ByteArray × Nat × Option FieldType × Nat × Nat) := [
  (⟨"LinkHouse$ObjectFile", "readError", "([I)I"⟩, prog_8_method_21_code, 4, (some .int), 1, 7),
  (⟨"LinkHouse$ObjectFile", "isHeadGood", "()Z"⟩, prog_8_method_22_code, 2, (some .boolean), 0, 7),
  (⟨"LinkHouse$ObjectFile", "areRowsGood", "()Z"⟩, prog_8_method_23_code, 4, (some .boolean), 0, 7),
  (⟨"LinkHouse$ObjectFile", "holds", "(JJ)Z"⟩, prog_8_method_4_code, 5, (some .boolean), 2, 7),
  (⟨"LinkHouse$ObjectFile", "sectionsError", "()I"⟩, prog_8_method_24_code, 7, (some .int), 0, 7),
  (⟨"LinkHouse$ObjectFile", "findGroup", "(JJ)I"⟩, prog_8_method_25_code, 4, (some .int), 2, 7),
  (⟨"LinkHouse$ObjectFile", "findSymbols", "()Z"⟩, prog_8_method_26_code, 5, (some .boolean), 0, 7),
  (⟨"LinkHouse$ObjectFile", "linkOf", "(I)J"⟩, prog_8_method_9_code, 2, (some .long), 1, 7),
  (⟨"LinkHouse$ObjectFile", "isSymbolGood", "(I)Z"⟩, prog_8_method_27_code, 5, (some .boolean), 1, 7),
  (⟨"LinkHouse$ObjectFile", "isNameGood", "(I)Z"⟩, prog_8_method_28_code, 5, (some .boolean), 1, 7),
  (⟨"LinkHouse$ObjectFile", "areSitesGood", "([I)Z"⟩, prog_8_method_29_code, 7, (some .boolean), 1, 7),
  (⟨"LinkHouse$ObjectFile", "isSiteGood", "(II[I)Z"⟩, prog_8_method_30_code, 11, (some .boolean), 3, 7),
  (⟨"LinkHouse$ObjectFile", "areGroupsGood", "()Z"⟩, prog_8_method_31_code, 11, (some .boolean), 0, 7),
  (⟨"LinkHouse$ObjectFile", "findStrings", "()V"⟩, prog_8_method_32_code, 3, none, 0, 7),
  (⟨"LinkHouse$ObjectFile", "isStringRow", "(I)Z"⟩, prog_8_method_33_code, 4, (some .boolean), 1, 7),
  (⟨"LinkHouse$Part", "<init>", "()V"⟩, prog_9_method_1_code, 1, none, 0, 8)]
def pg_mn10 : List (MethodName × ByteArray × Nat × Option FieldType × Nat × Nat) := [
  (⟨"LinkHouse$Pool", "<init>", "(LLinkHouse$Row;)V"⟩, prog_10_method_1_code, 2, none, 1, 9),
  (⟨"LinkHouse$Pool", "clear", "()V"⟩, prog_10_method_2_code, 1, none, 0, 9),
  (⟨"LinkHouse$Pool", "collect", "(LLinkHouse$Part;)V"⟩, prog_10_method_3_code, 5, none, 1, 9),
  (⟨"LinkHouse$Pool", "\x61dmit", "(II)V"⟩, prog_10_method_4_code, 5, none, 2, 9),
  (⟨"LinkHouse$Pool", "isEnd", "(IIII)Z"⟩, prog_10_method_5_code, 8, (some .boolean), 4, 9),
  (⟨"LinkHouse$Pool", "addressIn", "(LLinkHouse$Part;J)J"⟩, prog_10_method_6_code, 11, (some .long), 2, 9),
  (⟨"LinkHouse$Row", "<init>", "(I)V"⟩, prog_11_method_1_code, 2, none, 1, 10),
  (⟨"LinkHouse$Row", "at", "(I)I"⟩, prog_11_method_3_code, 2, (some .int), 1, 10),
  (⟨"LinkHouse$Row", "clear", "()V"⟩, prog_11_method_2_code, 1, none, 0, 10),
  (⟨"LinkHouse$Row", "putAll", "([B)V"⟩, prog_11_method_10_code, 3, none, 1, 10),
  (⟨"LinkHouse$Row", "put", "(IJ)V"⟩, prog_11_method_8_code, 5, none, 2, 10),
  (⟨"LinkHouse$Row", "fillTo", "(JI)V"⟩, prog_11_method_14_code, 5, none, 2, 10),
  (⟨"LinkHouse$Row", "cover", "(I[BII)V"⟩, prog_11_method_16_code, 5, none, 4, 10),
  (⟨"LinkHouse$Row", "set", "(IIJ)V"⟩, prog_11_method_13_code, 7, none, 3, 10),
  (⟨"LinkHouse$Row", "copy", "([BII)V"⟩, prog_11_method_15_code, 4, none, 3, 10),
  (⟨"LinkHouse$Row", "putDecimal", "(I)V"⟩, prog_11_method_11_code, 3, none, 1, 10)]
def pg_mn11 : List (MethodName × ByteArray × Nat × Option FieldType × Nat × Nat) := [
  (⟨"LinkHouse$Row", "putHighestFirst", "(I)V"⟩, prog_11_method_9_code, 3, none, 1, 10),
  (⟨"LinkHouse$Row", "num", "(II)J"⟩, prog_11_method_4_code, 6, (some .long), 2, 10),
  (⟨"LinkHouse$Row", "nameLength", "(II)I"⟩, prog_11_method_6_code, 4, (some .int), 2, 10),
  (⟨"LinkHouse$Row", "begins", "([B)Z"⟩, prog_11_method_7_code, 3, (some .boolean), 1, 10),
  (⟨"LinkHouse$Row", "holds", "(JJ)Z"⟩, prog_11_method_5_code, 5, (some .boolean), 2, 10),
  (⟨"LinkHouse$Row", "putHex", "(J)V"⟩, prog_11_method_12_code, 5, none, 1, 10),
  (⟨"LinkHouse$Scribe", "<init>", "(LLinkHouse$Link;LLinkHouse$Layout;LLinkHouse$Row;)V"⟩, prog_12_method_1_code, 4, none, 3, 11),
  (⟨"LinkHouse$Scribe", "writeMerged", "(LLinkHouse$Row;)Z"⟩, prog_12_method_10_code, 4, (some .boolean), 1, 11),
  (⟨"LinkHouse$Scribe", "numberParts", "()I"⟩, prog_12_method_11_code, 5, (some .int), 0, 11),
  (⟨"LinkHouse$Scribe", "numberSymbols", "()I"⟩, prog_12_method_12_code, 6, (some .int), 0, 11),
  (⟨"LinkHouse$Scribe", "listName", "(LLinkHouse$Name;)V"⟩, prog_12_method_13_code, 2, none, 1, 11),
  (⟨"LinkHouse$Scribe", "mergeParts", "(LLinkHouse$Row;I)V"⟩, prog_12_method_14_code, 8, none, 2, 11),
  (⟨"LinkHouse$Scribe", "nextPlace", "(LLinkHouse$Row;)I"⟩, prog_12_method_17_code, 1, (some .int), 1, 11),
  (⟨"LinkHouse$Scribe", "putRow", "(JJJJII)V"⟩, prog_12_method_18_code, 11, none, 6, 11),
  (⟨"LinkHouse$Scribe", "endRow", "(JI)V"⟩, prog_12_method_19_code, 4, none, 2, 11),
  (⟨"LinkHouse$Scribe", "mergeSites", "(LLinkHouse$Row;I)V"⟩, prog_12_method_15_code, 9, none, 2, 11)]
def pg_mn12 : List (MethodName × ByteArray × Nat × Option FieldType × Nat × Nat) := [
  (⟨"LinkHouse$Scribe", "freshSymbol", "(II)I"⟩, prog_12_method_16_code, 5, (some .int), 2, 11),
  (⟨"LinkHouse$Scribe", "mergeSymbols", "(LLinkHouse$Row;)V"⟩, prog_12_method_20_code, 6, none, 1, 11),
  (⟨"LinkHouse$Scribe", "mergeLocal", "(LLinkHouse$Row;II)V"⟩, prog_12_method_21_code, 10, none, 3, 11),
  (⟨"LinkHouse$Scribe", "putSymbol", "(LLinkHouse$Row;IIIJJ)V"⟩, prog_12_method_23_code, 8, none, 6, 11),
  (⟨"LinkHouse$Scribe", "mergeName", "(LLinkHouse$Row;LLinkHouse$Name;I)V"⟩, prog_12_method_22_code, 5, none, 3, 11),
  (⟨"LinkHouse$Scribe", "mergeNames", "(LLinkHouse$Row;)V"⟩, prog_12_method_24_code, 4, none, 1, 11),
  (⟨"LinkHouse$Scribe", "writePacked", "(LLinkHouse$Row;[LLinkHouse$ObjectFile;)Z"⟩, prog_12_method_5_code, 9, (some .boolean), 2, 11),
  (⟨"LinkHouse$Scribe", "isObject", "(LLinkHouse$ObjectFile;)Z"⟩, prog_12_method_6_code, 1, (some .boolean), 1, 11),
  (⟨"LinkHouse$Scribe", "writeIndex", "(LLinkHouse$Row;[LLinkHouse$ObjectFile;II)V"⟩, prog_12_method_7_code, 10, none, 4, 11),
  (⟨"LinkHouse$Scribe", "writeAhead", "(LLinkHouse$Row;II)V"⟩, prog_12_method_9_code, 3, none, 3, 11),
  (⟨"LinkHouse$Scribe", "writeObjects", "(LLinkHouse$Row;[LLinkHouse$ObjectFile;)V"⟩, prog_12_method_8_code, 7, none, 2, 11),
  (⟨"LinkHouse$Scribe", "writeNamed", "(LLinkHouse$Row;LLinkHouse$Row;)Z"⟩, prog_12_method_25_code, 8, (some .boolean), 2, 11),
  (⟨"LinkHouse$Scribe", "rowOf", "(LLinkHouse$Name;)I"⟩, prog_12_method_26_code, 7, (some .int), 1, 11),
  (⟨"LinkHouse$Scribe", "writeSegmentRows", "()V"⟩, prog_12_method_27_code, 2, none, 0, 11),
  (⟨"LinkHouse$Scribe", "writeList", "(LLinkHouse$Row;LLinkHouse$ObjectFile;)V"⟩, prog_12_method_2_code, 4, none, 2, 11),
  (⟨"LinkHouse$Scribe", "letterOf", "(LLinkHouse$ObjectFile;I)I"⟩, prog_12_method_3_code, 6, (some .int), 2, 11)]
def pg_mn13 : List (MethodName × ByteArray × Nat × Option FieldType × Nat × Nat) := [
  (⟨"LinkHouse$Scribe", "writeMap", "(LLinkHouse$Row;)Z"⟩, prog_12_method_4_code, 4, (some .boolean), 1, 11),
  (⟨"LinkHouseModel", "<init>", "()V"⟩, prog_14_method_1_code, 1, none, 0, 12),
  (⟨"LinkHouseModel", "thrown", "()I"⟩, prog_14_method_2_code, 1, (some .int), 0, 12),
  (⟨"LinkHouseModel", "feed", "(IJ)I"⟩, prog_14_method_4_code, 6, (some .int), 2, 12),
  (⟨"LinkHouseModel", "throwing", "(ZZ)Z"⟩, prog_14_method_3_code, 3, (some .boolean), 2, 12),
  (⟨"LinkHouseModel", "add", "()I"⟩, prog_14_method_47_code, 3, (some .int), 0, 12),
  (⟨"LinkHouseModel", "fileError", "(II)I"⟩, prog_14_method_46_code, 6, (some .int), 2, 12),
  (⟨"LinkHouseModel", "num", "(II)J"⟩, prog_14_method_5_code, 6, (some .long), 2, 12),
  (⟨"LinkHouseModel", "objectError", "(II)I"⟩, prog_14_method_44_code, 6, (some .int), 2, 12),
  (⟨"LinkHouseModel", "isHeader", "(I)Z"⟩, prog_14_method_28_code, 3, (some .boolean), 1, 12),
  (⟨"LinkHouseModel", "sections", "(I)I"⟩, prog_14_method_6_code, 2, (some .int), 1, 12),
  (⟨"LinkHouseModel", "lies", "(JJJ)Z"⟩, prog_14_method_27_code, 6, (some .boolean), 3, 12),
  (⟨"LinkHouseModel", "type", "(II)J"⟩, prog_14_method_8_code, 3, (some .long), 2, 12),
  (⟨"LinkHouseModel", "row", "(II)I"⟩, prog_14_method_7_code, 3, (some .int), 2, 12),
  (⟨"LinkHouseModel", "sectionError", "(III)I"⟩, prog_14_method_29_code, 5, (some .int), 3, 12),
  (⟨"LinkHouseModel", "beginning", "(II)J"⟩, prog_14_method_10_code, 3, (some .long), 2, 12)]
def pg_mn14 : List (MethodName × ByteArray × Nat × Option FieldType × Nat × Nat) := [
  (⟨"LinkHouseModel", "size", "(II)J"⟩, prog_14_method_11_code, 3, (some .long), 2, 12),
  (⟨"LinkHouseModel", "isKept", "(II)Z"⟩, prog_14_method_15_code, 3, (some .boolean), 2, 12),
  (⟨"LinkHouseModel", "flagsOf", "(II)J"⟩, prog_14_method_9_code, 3, (some .long), 2, 12),
  (⟨"LinkHouseModel", "align", "(II)J"⟩, prog_14_method_14_code, 3, (some .long), 2, 12),
  (⟨"LinkHouseModel", "isPower", "(J)Z"⟩, prog_14_method_26_code, 2, (some .boolean), 1, 12),
  (⟨"LinkHouseModel", "symbolsError", "(I)I"⟩, prog_14_method_30_code, 7, (some .int), 1, 12),
  (⟨"LinkHouseModel", "symbols", "(I)I"⟩, prog_14_method_17_code, 3, (some .int), 1, 12),
  (⟨"LinkHouseModel", "linkOf", "(II)J"⟩, prog_14_method_12_code, 3, (some .long), 2, 12),
  (⟨"LinkHouseModel", "symbolMany", "(I)I"⟩, prog_14_method_18_code, 3, (some .int), 1, 12),
  (⟨"LinkHouseModel", "isSymbol", "(II)Z"⟩, prog_14_method_31_code, 6, (some .boolean), 2, 12),
  (⟨"LinkHouseModel", "where", "(II)I"⟩, prog_14_method_21_code, 3, (some .int), 2, 12),
  (⟨"LinkHouseModel", "symbol", "(II)I"⟩, prog_14_method_19_code, 3, (some .int), 2, 12),
  (⟨"LinkHouseModel", "bind", "(II)I"⟩, prog_14_method_20_code, 3, (some .int), 2, 12),
  (⟨"LinkHouseModel", "isName", "(II)Z"⟩, prog_14_method_32_code, 9, (some .boolean), 2, 12),
  (⟨"LinkHouseModel", "value", "(II)J"⟩, prog_14_method_22_code, 3, (some .long), 2, 12),
  (⟨"LinkHouseModel", "symbolSize", "(II)J"⟩, prog_14_method_23_code, 3, (some .long), 2, 12)]
def pg_mn15 : List (MethodName × ByteArray × Nat × Option FieldType × Nat × Nat) := [
  (⟨"LinkHouseModel", "sitesError", "(I)I"⟩, prog_14_method_39_code, 4, (some .int), 1, 12),
  (⟨"LinkHouseModel", "isSites", "(II)Z"⟩, prog_14_method_35_code, 3, (some .boolean), 2, 12),
  (⟨"LinkHouseModel", "info", "(II)J"⟩, prog_14_method_13_code, 3, (some .long), 2, 12),
  (⟨"LinkHouseModel", "siteMany", "(II)I"⟩, prog_14_method_36_code, 3, (some .int), 2, 12),
  (⟨"LinkHouseModel", "isSite", "(III)Z"⟩, prog_14_method_38_code, 12, (some .boolean), 3, 12),
  (⟨"LinkHouseModel", "site", "(III)I"⟩, prog_14_method_37_code, 4, (some .int), 3, 12),
  (⟨"LinkHouseModel", "width", "(J)I"⟩, prog_14_method_34_code, 2, (some .int), 1, 12),
  (⟨"LinkHouseModel", "isSlotted", "(J)Z"⟩, prog_14_method_33_code, 2, (some .boolean), 1, 12),
  (⟨"LinkHouseModel", "groupsError", "(I)I"⟩, prog_14_method_43_code, 3, (some .int), 1, 12),
  (⟨"LinkHouseModel", "isGroup", "(II)Z"⟩, prog_14_method_40_code, 3, (some .boolean), 2, 12),
  (⟨"LinkHouseModel", "isGroupRight", "(II)Z"⟩, prog_14_method_42_code, 7, (some .boolean), 2, 12),
  (⟨"LinkHouseModel", "groupNumber", "(III)J"⟩, prog_14_method_41_code, 4, (some .long), 3, 12),
  (⟨"LinkHouseModel", "isMembers", "(II)Z"⟩, prog_14_method_45_code, 9, (some .boolean), 2, 12),
  (⟨"LinkHouseModel", "drop", "()I"⟩, prog_14_method_48_code, 1, (some .int), 0, 12),
  (⟨"LinkHouseModel", "give", "(J)I"⟩, prog_14_method_57_code, 7, (some .int), 1, 12),
  (⟨"LinkHouseModel", "isTapeName", "()Z"⟩, prog_14_method_56_code, 3, (some .boolean), 0, 12)]
def pg_mn16 : List (MethodName × ByteArray × Nat × Option FieldType × Nat × Nat) := [
  (⟨"LinkHouseModel", "toldAt", "([B[II)I"⟩, prog_14_method_55_code, 7, (some .int), 3, 12),
  (⟨"LinkHouseModel", "wish", "()I"⟩, prog_14_method_58_code, 5, (some .int), 0, 12),
  (⟨"LinkHouseModel", "forget", "()V"⟩, prog_14_method_59_code, 1, none, 0, 12),
  (⟨"LinkHouseModel", "link", "(Z)I"⟩, prog_14_method_115_code, 3, (some .int), 1, 12),
  (⟨"LinkHouseModel", "tellNames", "()V"⟩, prog_14_method_53_code, 3, none, 0, 12),
  (⟨"LinkHouseModel", "entered", "([BII)I"⟩, prog_14_method_51_code, 6, (some .int), 3, 12),
  (⟨"LinkHouseModel", "find", "([BII)I"⟩, prog_14_method_49_code, 7, (some .int), 3, 12),
  (⟨"LinkHouseModel", "takeAll", "()V"⟩, prog_14_method_70_code, 2, none, 0, 12),
  (⟨"LinkHouseModel", "takeFrom", "(I)V"⟩, prog_14_method_69_code, 6, none, 1, 12),
  (⟨"LinkHouseModel", "helps", "(I)I"⟩, prog_14_method_68_code, 5, (some .int), 1, 12),
  (⟨"LinkHouseModel", "nameOf", "(II)I"⟩, prog_14_method_50_code, 3, (some .int), 2, 12),
  (⟨"LinkHouseModel", "nameAt", "(II)I"⟩, prog_14_method_24_code, 3, (some .int), 2, 12),
  (⟨"LinkHouseModel", "nameEnd", "(II)I"⟩, prog_14_method_25_code, 4, (some .int), 2, 12),
  (⟨"LinkHouseModel", "take", "(I)V"⟩, prog_14_method_67_code, 6, none, 1, 12),
  (⟨"LinkHouseModel", "dropGroups", "(I)V"⟩, prog_14_method_66_code, 5, none, 1, 12),
  (⟨"LinkHouseModel", "object", "(I)I"⟩, prog_14_method_71_code, 2, (some .int), 1, 12)]
def pg_mn17 : List (MethodName × ByteArray × Nat × Option FieldType × Nat × Nat) := [
  (⟨"LinkHouseModel", "isAgain", "(II)Z"⟩, prog_14_method_65_code, 8, (some .boolean), 2, 12),
  (⟨"LinkHouseModel", "enter", "(II)I"⟩, prog_14_method_52_code, 3, (some .int), 2, 12),
  (⟨"LinkHouseModel", "come", "(III)Z"⟩, prog_14_method_63_code, 6, (some .boolean), 3, 12),
  (⟨"LinkHouseModel", "strengthOf", "(II)I"⟩, prog_14_method_61_code, 3, (some .int), 2, 12),
  (⟨"LinkHouseModel", "whereNow", "(II)I"⟩, prog_14_method_60_code, 4, (some .int), 2, 12),
  (⟨"LinkHouseModel", "say", "([BII)V"⟩, prog_14_method_64_code, 5, none, 3, 12),
  (⟨"LinkHouseModel", "ownNames", "()V"⟩, prog_14_method_72_code, 4, none, 0, 12),
  (⟨"LinkHouseModel", "look2", "()V"⟩, prog_14_method_83_code, 5, none, 0, 12),
  (⟨"LinkHouseModel", "start", "()I"⟩, prog_14_method_84_code, 2, (some .int), 0, 12),
  (⟨"LinkHouseModel", "reach", "()V"⟩, prog_14_method_76_code, 3, none, 0, 12),
  (⟨"LinkHouseModel", "reachName", "(I)V"⟩, prog_14_method_74_code, 2, none, 1, 12),
  (⟨"LinkHouseModel", "isGiven", "(I)Z"⟩, prog_14_method_54_code, 2, (some .boolean), 1, 12),
  (⟨"LinkHouseModel", "reachSection", "(II)V"⟩, prog_14_method_73_code, 3, none, 2, 12),
  (⟨"LinkHouseModel", "reachSites", "(I)V"⟩, prog_14_method_75_code, 6, none, 1, 12),
  (⟨"LinkHouseModel", "lay", "()V"⟩, prog_14_method_86_code, 6, none, 0, 12),
  (⟨"LinkHouseModel", "stays", "(II)Z"⟩, prog_14_method_62_code, 3, (some .boolean), 2, 12)]
def pg_mn18 : List (MethodName × ByteArray × Nat × Option FieldType × Nat × Nat) := [
  (⟨"LinkHouseModel", "group", "(II)I"⟩, prog_14_method_16_code, 4, (some .int), 2, 12),
  (⟨"LinkHouseModel", "findPool", "()V"⟩, prog_14_method_93_code, 7, none, 0, 12),
  (⟨"LinkHouseModel", "isStrings", "(II)Z"⟩, prog_14_method_89_code, 5, (some .boolean), 2, 12),
  (⟨"LinkHouseModel", "nodeOf", "(IIZ)I"⟩, prog_14_method_91_code, 6, (some .int), 3, 12),
  (⟨"LinkHouseModel", "childOf", "(IBZ)I"⟩, prog_14_method_90_code, 5, (some .int), 3, 12),
  (⟨"LinkHouseModel", "toPool", "(II)V"⟩, prog_14_method_92_code, 6, none, 2, 12),
  (⟨"LinkHouseModel", "findSlots", "()V"⟩, prog_14_method_82_code, 8, none, 0, 12),
  (⟨"LinkHouseModel", "isShort", "(III)Z"⟩, prog_14_method_81_code, 4, (some .boolean), 3, 12),
  (⟨"LinkHouseModel", "shortKind", "(III)I"⟩, prog_14_method_80_code, 13, (some .int), 3, 12),
  (⟨"LinkHouseModel", "isInside", "(II)Z"⟩, prog_14_method_78_code, 5, (some .boolean), 2, 12),
  (⟨"LinkHouseModel", "isSectionNow", "(II)Z"⟩, prog_14_method_79_code, 3, (some .boolean), 2, 12),
  (⟨"LinkHouseModel", "slotOf", "(IIZ)I"⟩, prog_14_method_77_code, 7, (some .int), 3, 12),
  (⟨"LinkHouseModel", "layout", "()V"⟩, prog_14_method_102_code, 4, none, 0, 12),
  (⟨"LinkHouseModel", "findSegments", "()V"⟩, prog_14_method_95_code, 3, none, 0, 12),
  (⟨"LinkHouseModel", "segmentOf", "(I)I"⟩, prog_14_method_87_code, 1, (some .int), 1, 12),
  (⟨"LinkHouseModel", "isCommon", "(I)Z"⟩, prog_14_method_88_code, 2, (some .boolean), 1, 12)]
def pg_mn19 : List (MethodName × ByteArray × Nat × Option FieldType × Nat × Nat) := [
  (⟨"LinkHouseModel", "isThreaded", "()Z"⟩, prog_14_method_99_code, 3, (some .boolean), 0, 12),
  (⟨"LinkHouseModel", "placeSegment", "(IJ)V"⟩, prog_14_method_101_code, 10, none, 2, 12),
  (⟨"LinkHouseModel", "up", "(JJ)J"⟩, prog_14_method_85_code, 4, (some .long), 2, 12),
  (⟨"LinkHouseModel", "placeGroup", "(IJZ)J"⟩, prog_14_method_96_code, 10, (some .long), 3, 12),
  (⟨"LinkHouseModel", "placeStrings", "(J)J"⟩, prog_14_method_98_code, 5, (some .long), 1, 12),
  (⟨"LinkHouseModel", "byteAddress", "(IIJ)J"⟩, prog_14_method_94_code, 7, (some .long), 3, 12),
  (⟨"LinkHouseModel", "placeCommons", "(JZ)J"⟩, prog_14_method_97_code, 8, (some .long), 2, 12),
  (⟨"LinkHouseModel", "findTemplate", "()V"⟩, prog_14_method_100_code, 7, none, 0, 12),
  (⟨"LinkHouseModel", "ownAddress", "(I)J"⟩, prog_14_method_103_code, 2, (some .long), 1, 12),
  (⟨"LinkHouseModel", "own", "(II)J"⟩, prog_14_method_104_code, 5, (some .long), 2, 12),
  (⟨"LinkHouseModel", "sites", "(Z)V"⟩, prog_14_method_110_code, 6, none, 1, 12),
  (⟨"LinkHouseModel", "one", "(IIIZ)V"⟩, prog_14_method_111_code, 11, none, 4, 12),
  (⟨"LinkHouseModel", "siteValue", "(III)J"⟩, prog_14_method_108_code, 12, (some .long), 3, 12),
  (⟨"LinkHouseModel", "symbolAddress", "(II)J"⟩, prog_14_method_105_code, 3, (some .long), 2, 12),
  (⟨"LinkHouseModel", "siteAddress", "(III)J"⟩, prog_14_method_106_code, 4, (some .long), 3, 12),
  (⟨"LinkHouseModel", "isOfStrings", "(II)Z"⟩, prog_14_method_107_code, 5, (some .boolean), 2, 12)]
def pg_mn20 : List (MethodName × ByteArray × Nat × Option FieldType × Nat × Nat) := [
  (⟨"LinkHouseModel", "fillSite", "(IJII)V"⟩, prog_14_method_112_code, 6, none, 4, 12),
  (⟨"LinkHouseModel", "put", "(IJI)V"⟩, prog_14_method_113_code, 6, none, 3, 12),
  (⟨"LinkHouseModel", "runsOver", "(JJ)Z"⟩, prog_14_method_109_code, 5, (some .boolean), 2, 12),
  (⟨"LinkHouseModel", "write", "()V"⟩, prog_14_method_114_code, 7, none, 0, 12),
  (⟨"LinkHouseModel", "keepLink", "()V"⟩, prog_14_method_116_code, 6, none, 0, 12),
  (⟨"LinkHouseModel", "named", "()I"⟩, prog_14_method_118_code, 11, (some .int), 0, 12),
  (⟨"LinkHouseModel", "wider", "(I)I"⟩, prog_14_method_129_code, 2, (some .int), 1, 12),
  (⟨"LinkHouseModel", "numberOf", "(I)I"⟩, prog_14_method_117_code, 4, (some .int), 1, 12),
  (⟨"LinkHouseModel", "namedSegment", "(II)V"⟩, prog_14_method_119_code, 3, none, 2, 12),
  (⟨"LinkHouseModel", "cause", "(II)I"⟩, prog_14_method_120_code, 4, (some .int), 2, 12),
  (⟨"LinkHouseModel", "sum", "(III)J"⟩, prog_14_method_121_code, 9, (some .long), 3, 12),
  (⟨"LinkHouseModel", "merge", "()I"⟩, prog_14_method_140_code, 2, (some .int), 0, 12),
  (⟨"LinkHouseModel", "merges", "()Z"⟩, prog_14_method_132_code, 3, (some .boolean), 0, 12),
  (⟨"LinkHouseModel", "countParts", "()V"⟩, prog_14_method_123_code, 4, none, 0, 12),
  (⟨"LinkHouseModel", "part", "(II)V"⟩, prog_14_method_122_code, 3, none, 2, 12),
  (⟨"LinkHouseModel", "countSymbols", "()V"⟩, prog_14_method_125_code, 3, none, 0, 12)]
def pg_mn21 : List (MethodName × ByteArray × Nat × Option FieldType × Nat × Nat) := [
  (⟨"LinkHouseModel", "numberName", "(I)V"⟩, prog_14_method_124_code, 2, none, 1, 12),
  (⟨"LinkHouseModel", "mergedRow", "(I)I"⟩, prog_14_method_131_code, 2, (some .int), 1, 12),
  (⟨"LinkHouseModel", "placeOf", "(I)I"⟩, prog_14_method_130_code, 4, (some .int), 1, 12),
  (⟨"LinkHouseModel", "partSize", "(I)I"⟩, prog_14_method_127_code, 2, (some .int), 1, 12),
  (⟨"LinkHouseModel", "isPart", "(IJ)Z"⟩, prog_14_method_126_code, 4, (some .boolean), 2, 12),
  (⟨"LinkHouseModel", "textMany", "()I"⟩, prog_14_method_128_code, 3, (some .int), 0, 12),
  (⟨"LinkHouseModel", "mergedSites", "(I)V"⟩, prog_14_method_135_code, 7, none, 1, 12),
  (⟨"LinkHouseModel", "mergedRows", "(IJJIIJJ)V"⟩, prog_14_method_133_code, 13, none, 7, 12),
  (⟨"LinkHouseModel", "mergedSection", "(I)V"⟩, prog_14_method_134_code, 5, none, 1, 12),
  (⟨"LinkHouseModel", "mergedLocals", "()V"⟩, prog_14_method_137_code, 7, none, 0, 12),
  (⟨"LinkHouseModel", "mergedSymbol", "(IIIJJ)V"⟩, prog_14_method_136_code, 9, none, 5, 12),
  (⟨"LinkHouseModel", "mergedNames", "()V"⟩, prog_14_method_138_code, 5, none, 0, 12),
  (⟨"LinkHouseModel", "mergedDefinition", "(III)V"⟩, prog_14_method_139_code, 6, none, 3, 12),
  (⟨"LinkHouseModel", "pack", "()I"⟩, prog_14_method_146_code, 12, (some .int), 0, 12),
  (⟨"LinkHouseModel", "findObjects", "()V"⟩, prog_14_method_141_code, 3, none, 0, 12),
  (⟨"LinkHouseModel", "isDefining", "(II)Z"⟩, prog_14_method_142_code, 3, (some .boolean), 2, 12)]
def pg_mn22 : List (MethodName × ByteArray × Nat × Option FieldType × Nat × Nat) := [
  (⟨"LinkHouseModel", "ahead", "(II)V"⟩, prog_14_method_144_code, 4, none, 2, 12),
  (⟨"LinkHouseModel", "digits", "(II)V"⟩, prog_14_method_143_code, 5, none, 2, 12),
  (⟨"LinkHouseModel", "highFirst", "(II)V"⟩, prog_14_method_145_code, 4, none, 2, 12),
  (⟨"LinkHouseModel", "list", "(II)I"⟩, prog_14_method_149_code, 7, (some .int), 2, 12),
  (⟨"LinkHouseModel", "sixteen", "(IJ)V"⟩, prog_14_method_147_code, 6, none, 2, 12),
  (⟨"LinkHouseModel", "letterOf", "(II)I"⟩, prog_14_method_148_code, 6, (some .int), 2, 12),
  (⟨"LinkHouseModel", "map", "()I"⟩, prog_14_method_152_code, 5, (some .int), 0, 12),
  (⟨"LinkHouseModel", "wide", "(I)I"⟩, prog_14_method_150_code, 1, (some .int), 1, 12),
  (⟨"LinkHouseModel", "sayNumber", "(II)V"⟩, prog_14_method_151_code, 3, none, 2, 12),
  (⟨"LinkHouseModel", "boot", "(Z)I"⟩, prog_14_method_157_code, 3, (some .int), 1, 12),
  (⟨"LinkHouseModel", "triedError", "()I"⟩, prog_14_method_156_code, 7, (some .int), 0, 12),
  (⟨"LinkHouseModel", "isExecutable", "()Z"⟩, prog_14_method_154_code, 2, (some .boolean), 0, 12),
  (⟨"LinkHouseModel", "triedNum", "(II)J"⟩, prog_14_method_153_code, 6, (some .long), 2, 12),
  (⟨"LinkHouseModel", "rowError", "(I)I"⟩, prog_14_method_155_code, 13, (some .int), 1, 12),
  (⟨"LinkHouseModel", "findMemoryNames", "()V"⟩, prog_14_method_158_code, 18, none, 0, 12),
  (⟨"LinkHouseModel", "memorySymbol", "(IJJ)V"⟩, prog_14_method_159_code, 10, none, 3, 12)]
def pg_mn23 : List (MethodName × ByteArray × Nat × Option FieldType × Nat × Nat) := [
  (⟨"LinkHouseModel", "near", "(J)J"⟩, prog_14_method_160_code, 6, (some .long), 1, 12),
  (⟨"LinkHouseModel", "rowOf", "(J)I"⟩, prog_14_method_161_code, 4, (some .int), 1, 12),
  (⟨"LinkHouseModel", "peek", "(J)I"⟩, prog_14_method_162_code, 6, (some .int), 1, 12),
  (⟨"LinkHouseModel", "flags", "(J)J"⟩, prog_14_method_163_code, 4, (some .long), 1, 12),
  (⟨"LinkHouseModel", "address", "()J"⟩, prog_14_method_164_code, 2, (some .long), 0, 12),
  (⟨"LinkHouseModel", "taken", "(II)Z"⟩, prog_14_method_165_code, 3, (some .boolean), 2, 12),
  (⟨"LinkHouseModel", "section", "(II)I"⟩, prog_14_method_166_code, 3, (some .int), 2, 12),
  (⟨"LinkHouseModel", "place", "(I)J"⟩, prog_14_method_167_code, 2, (some .long), 1, 12),
  (⟨"LinkHouseModel", "out", "(I)J"⟩, prog_14_method_168_code, 5, (some .long), 1, 12),
  (⟨"LinkHouseModel", "look", "(I)J"⟩, prog_14_method_169_code, 2, (some .long), 1, 12),
  (⟨"java/util/Arrays", "fill", "([IIII)V"⟩, prog_29_method_104_code, 5, none, 4, 17),
  (⟨"java/util/Arrays", "rangeCheck", "(III)V"⟩, prog_29_method_30_code, 3, none, 3, 17),
  (⟨"java/util/Arrays", "fill", "([JJ)V"⟩, prog_29_method_101_code, 5, none, 2, 17),
  (⟨"java/util/Arrays", "fill", "([BIIB)V"⟩, prog_29_method_110_code, 5, none, 4, 17),
  (⟨"LinkHouseLaw", "feed", "(LLinkHouse;IJ[J)I"⟩, method_3_code, 6, (some .int), 4, 16),
  (⟨"LinkHouseLaw", "add", "(LLinkHouse;[J)I"⟩, method_4_code, 3, (some .int), 2, 16)]
def pg_mn24 : List (MethodName × ByteArray × Nat × Option FieldType × Nat × Nat) := [
  (⟨"LinkHouseLaw", "drop", "(LLinkHouse;[J)I"⟩, method_5_code, 3, (some .int), 2, 16),
  (⟨"LinkHouseLaw", "give", "(LLinkHouse;J[J)I"⟩, method_6_code, 5, (some .int), 3, 16),
  (⟨"LinkHouseLaw", "wish", "(LLinkHouse;[J)I"⟩, method_7_code, 3, (some .int), 2, 16),
  (⟨"LinkHouseLaw", "named", "(LLinkHouse;[J)I"⟩, method_8_code, 3, (some .int), 2, 16),
  (⟨"LinkHouseLaw", "list", "(LLinkHouse;II[J)I"⟩, method_9_code, 5, (some .int), 4, 16),
  (⟨"LinkHouseLaw", "sum", "(LLinkHouse;III[J)I"⟩, method_10_code, 6, (some .int), 5, 16),
  (⟨"LinkHouseLaw", "map", "(LLinkHouse;[J)I"⟩, method_11_code, 3, (some .int), 2, 16),
  (⟨"LinkHouseLaw", "address", "(LLinkHouse;[J)I"⟩, method_12_code, 3, (some .int), 2, 16),
  (⟨"LinkHouseLaw", "taken", "(LLinkHouse;II[J)I"⟩, method_13_code, 5, (some .int), 4, 16),
  (⟨"LinkHouseLaw", "cause", "(LLinkHouse;II[J)I"⟩, method_14_code, 5, (some .int), 4, 16),
  (⟨"LinkHouseLaw", "section", "(LLinkHouse;II[J)I"⟩, method_15_code, 5, (some .int), 4, 16),
  (⟨"LinkHouseLaw", "place", "(LLinkHouse;I[J)I"⟩, method_16_code, 4, (some .int), 3, 16),
  (⟨"LinkHouseLaw", "out", "(LLinkHouse;I[J)I"⟩, method_17_code, 4, (some .int), 3, 16),
  (⟨"LinkHouseLaw", "look", "(LLinkHouse;I[J)I"⟩, method_18_code, 4, (some .int), 3, 16),
  (⟨"LinkHouseLaw", "law", "([I)Z"⟩, code, 8, (some .boolean), 1, 16)]
def pg_mm : List (List (MethodName × ByteArray × Nat × Option FieldType × Nat × Nat)) := [pg_mn0, pg_mn1, pg_mn2, pg_mn3, pg_mn4, pg_mn5, pg_mn6, pg_mn7, pg_mn8, pg_mn9, pg_mn10, pg_mn11, pg_mn12, pg_mn13, pg_mn14, pg_mn15, pg_mn16, pg_mn17, pg_mn18, pg_mn19, pg_mn20, pg_mn21, pg_mn22, pg_mn23, pg_mn24]
def pg_mx (mi : Nat) : MethodName × ByteArray × Nat × Option FieldType × Nat × Nat := (pg_mm.getD (mi / 16) []).getD (mi % 16) (⟨"", "", ""⟩, ⟨#[]⟩, 0, none, 0, 0)
def pg_mn (mi : Nat) : MethodName := (pg_mx mi).1
def pg_by (mi : Nat) : ByteArray := (pg_mx mi).2.1
def pg_ml (mi : Nat) : Nat := (pg_mx mi).2.2.1
def pg_rt (mi : Nat) : Option FieldType := (pg_mx mi).2.2.2.1
def pg_np (mi : Nat) : Nat := (pg_mx mi).2.2.2.2.1
def pg_oc (mi : Nat) : Nat := (pg_mx mi).2.2.2.2.2
abbrev m_H_init : Nat := 0
abbrev m_H_link : Nat := 1
abbrev m_H_runLink : Nat := 2
abbrev m_H_up : Nat := 3
abbrev m_H_siteWidth : Nat := 4
abbrev m_H_merge : Nat := 5
abbrev m_H_publishDraft : Nat := 6
abbrev m_H_forget : Nat := 7
abbrev m_H_pack : Nat := 8
abbrev m_H_near : Nat := 9
abbrev m_H_above : Nat := 10
abbrev m_H_boot : Nat := 11
abbrev m_H_peek : Nat := 12
abbrev m_H_flags : Nat := 13
abbrev m_H_feed : Nat := 14
abbrev m_H_add : Nat := 15
abbrev m_H_readFile : Nat := 16
abbrev m_H_readArchive : Nat := 17
abbrev m_H_memberSize : Nat := 18
abbrev m_H_isPower : Nat := 19
abbrev m_H_clearFile : Nat := 20
abbrev m_H_drop : Nat := 21
abbrev m_H_give : Nat := 22
abbrev m_H_readTapeName : Nat := 23
abbrev m_H_wish : Nat := 24
abbrev m_H_named : Nat := 25
abbrev m_H_list : Nat := 26
abbrev m_H_objectAt : Nat := 27
abbrev m_H_memberAt : Nat := 28
abbrev m_H_sum : Nat := 29
abbrev m_H_map : Nat := 30
abbrev m_H_address : Nat := 31
abbrev m_H_taken : Nat := 32
abbrev m_H_cause : Nat := 33
abbrev m_H_section : Nat := 34
abbrev m_H_place : Nat := 35
abbrev m_H_out : Nat := 36
abbrev m_H_look : Nat := 37
abbrev m_H_lookAtLink : Nat := 38
abbrev m_Filler_init : Nat := 39
abbrev m_Filler_write : Nat := 40
abbrev m_Filler_writeHead : Nat := 41
abbrev m_Filler_writeRow : Nat := 42
abbrev m_Filler_spotOf : Nat := 43
abbrev m_Filler_fillSites : Nat := 44
abbrev m_Filler_fillSite : Nat := 45
abbrev m_Filler_fillShort : Nat := 46
abbrev m_Filler_slotAddress : Nat := 47
abbrev m_Filler_sumFor : Nat := 48
abbrev m_Layout_init : Nat := 49
abbrev m_Layout_lay : Nat := 50
abbrev m_Layout_gather : Nat := 51
abbrev m_Layout_findSlots : Nat := 52
abbrev m_Layout_findSlot : Nat := 53
abbrev m_Layout_slotOf : Nat := 54
abbrev m_Layout_slotKey : Nat := 55
abbrev m_Layout_findSegments : Nat := 56
abbrev m_Layout_partAt : Nat := 57
abbrev m_Layout_segmentOf : Nat := 58
abbrev m_Layout_isLaidCommon : Nat := 59
abbrev m_Layout_layText : Nat := 60
abbrev m_Layout_countSegments : Nat := 61
abbrev m_Layout_layData : Nat := 62
abbrev m_Layout_layGroup : Nat := 63
abbrev m_Layout_layTemplate : Nat := 64
abbrev m_Layout_firstOf : Nat := 65
abbrev m_Layout_addressOf : Nat := 66
abbrev m_Layout_ownAddress : Nat := 67
abbrev m_Layout_isTooLarge : Nat := 68
abbrev m_Layout_slotValue : Nat := 69
abbrev m_Layout_symbolAddress : Nat := 70
abbrev m_Link_init : Nat := 71
abbrev m_Link_resolve : Nat := 72
abbrev m_Link_begin : Nat := 73
abbrev m_Link_define : Nat := 74
abbrev m_Link_takeObject : Nat := 75
abbrev m_Link_openParts : Nat := 76
abbrev m_Link_part : Nat := 77
abbrev m_Link_enterNames : Nat := 78
abbrev m_Link_dropGroups : Nat := 79
abbrev m_Link_nameOf : Nat := 80
abbrev m_Link_dropParts : Nat := 81
abbrev m_Link_defineNames : Nat := 82
abbrev m_Link_settle : Nat := 83
abbrev m_Link_takeMembers : Nat := 84
abbrev m_Link_firstWanted : Nat := 85
abbrev m_Link_isWanted : Nat := 86
abbrev m_Link_defineOwn : Nat := 87
abbrev m_Link_isNameLeft : Nat := 88
abbrev m_Link_keepReached : Nat := 89
abbrev m_Link_definedAt : Nat := 90
abbrev m_Link_reachName : Nat := 91
abbrev m_Link_reachPart : Nat := 92
abbrev m_Link_reachFrom : Nat := 93
abbrev m_Link_object : Nat := 94
abbrev m_Link_reachSymbol : Nat := 95
abbrev m_Link_partOf : Nat := 96
abbrev m_Link_stayingTarget : Nat := 97
abbrev m_Link_isShort : Nat := 98
abbrev m_Link_countStaying : Nat := 99
abbrev m_Memory_init : Nat := 100
abbrev m_Memory_rowAt : Nat := 101
abbrev m_Memory_nearest : Nat := 102
abbrev m_Memory_valueOf : Nat := 103
abbrev m_Memory_isName : Nat := 104
abbrev m_Memory_nameStart : Nat := 105
abbrev m_Memory_errorOf : Nat := 106
abbrev m_Memory_rowError : Nat := 107
abbrev m_Memory_load : Nat := 108
abbrev m_Memory_findNames : Nat := 109
abbrev m_Memory_byteAt : Nat := 110
abbrev m_Memory_flagsAt : Nat := 111
abbrev m_Name_init : Nat := 112
abbrev m_Name_setText : Nat := 113
abbrev m_Name_wipe : Nat := 114
abbrev m_Name_append : Nat := 115
abbrev m_Name_renew : Nat := 116
abbrev m_Name_read : Nat := 117
abbrev m_Name_isMissedOrWished : Nat := 118
abbrev m_Name_writeTo : Nat := 119
abbrev m_Name_isDefinedByInput : Nat := 120
abbrev m_Names_init : Nat := 121
abbrev m_Names_at : Nat := 122
abbrev m_Names_enter : Nat := 123
abbrev m_Names_find : Nat := 124
abbrev m_ObjectFile_init : Nat := 125
abbrev m_ObjectFile_groupOf : Nat := 126
abbrev m_ObjectFile_lengthOf : Nat := 127
abbrev m_ObjectFile_num : Nat := 128
abbrev m_ObjectFile_alignOf : Nat := 129
abbrev m_ObjectFile_placeOf : Nat := 130
abbrev m_ObjectFile_isStrings : Nat := 131
abbrev m_ObjectFile_bindOf : Nat := 132
abbrev m_ObjectFile_nameStart : Nat := 133
abbrev m_ObjectFile_typeOf : Nat := 134
abbrev m_ObjectFile_infoOf : Nat := 135
abbrev m_ObjectFile_whereOf : Nat := 136
abbrev m_ObjectFile_isDefining : Nat := 137
abbrev m_ObjectFile_targetOf : Nat := 138
abbrev m_ObjectFile_sitesOf : Nat := 139
abbrev m_ObjectFile_valueOf : Nat := 140
abbrev m_ObjectFile_kindOf : Nat := 141
abbrev m_ObjectFile_flagsOf : Nat := 142
abbrev m_ObjectFile_open : Nat := 143
abbrev m_ObjectFile_readError : Nat := 144
abbrev m_ObjectFile_isHeadGood : Nat := 145
abbrev m_ObjectFile_areRowsGood : Nat := 146
abbrev m_ObjectFile_holds : Nat := 147
abbrev m_ObjectFile_sectionsError : Nat := 148
abbrev m_ObjectFile_findGroup : Nat := 149
abbrev m_ObjectFile_findSymbols : Nat := 150
abbrev m_ObjectFile_linkOf : Nat := 151
abbrev m_ObjectFile_isSymbolGood : Nat := 152
abbrev m_ObjectFile_isNameGood : Nat := 153
abbrev m_ObjectFile_areSitesGood : Nat := 154
abbrev m_ObjectFile_isSiteGood : Nat := 155
abbrev m_ObjectFile_areGroupsGood : Nat := 156
abbrev m_ObjectFile_findStrings : Nat := 157
abbrev m_ObjectFile_isStringRow : Nat := 158
abbrev m_Part_init : Nat := 159
abbrev m_Pool_init : Nat := 160
abbrev m_Pool_clear : Nat := 161
abbrev m_Pool_collect : Nat := 162
abbrev m_Pool_admit : Nat := 163
abbrev m_Pool_isEnd : Nat := 164
abbrev m_Pool_addressIn : Nat := 165
abbrev m_Row_init : Nat := 166
abbrev m_Row_at : Nat := 167
abbrev m_Row_clear : Nat := 168
abbrev m_Row_putAll : Nat := 169
abbrev m_Row_put : Nat := 170
abbrev m_Row_fillTo : Nat := 171
abbrev m_Row_cover : Nat := 172
abbrev m_Row_set : Nat := 173
abbrev m_Row_copy : Nat := 174
abbrev m_Row_putDecimal : Nat := 175
abbrev m_Row_putHighestFirst : Nat := 176
abbrev m_Row_num : Nat := 177
abbrev m_Row_nameLength : Nat := 178
abbrev m_Row_begins : Nat := 179
abbrev m_Row_holds : Nat := 180
abbrev m_Row_putHex : Nat := 181
abbrev m_Scribe_init : Nat := 182
abbrev m_Scribe_writeMerged : Nat := 183
abbrev m_Scribe_numberParts : Nat := 184
abbrev m_Scribe_numberSymbols : Nat := 185
abbrev m_Scribe_listName : Nat := 186
abbrev m_Scribe_mergeParts : Nat := 187
abbrev m_Scribe_nextPlace : Nat := 188
abbrev m_Scribe_putRow : Nat := 189
abbrev m_Scribe_endRow : Nat := 190
abbrev m_Scribe_mergeSites : Nat := 191
abbrev m_Scribe_freshSymbol : Nat := 192
abbrev m_Scribe_mergeSymbols : Nat := 193
abbrev m_Scribe_mergeLocal : Nat := 194
abbrev m_Scribe_putSymbol : Nat := 195
abbrev m_Scribe_mergeName : Nat := 196
abbrev m_Scribe_mergeNames : Nat := 197
abbrev m_Scribe_writePacked : Nat := 198
abbrev m_Scribe_isObject : Nat := 199
abbrev m_Scribe_writeIndex : Nat := 200
abbrev m_Scribe_writeAhead : Nat := 201
abbrev m_Scribe_writeObjects : Nat := 202
abbrev m_Scribe_writeNamed : Nat := 203
abbrev m_Scribe_rowOf : Nat := 204
abbrev m_Scribe_writeSegmentRows : Nat := 205
abbrev m_Scribe_writeList : Nat := 206
abbrev m_Scribe_letterOf : Nat := 207
abbrev m_Scribe_writeMap : Nat := 208
abbrev m_M_init : Nat := 209
abbrev m_M_thrown : Nat := 210
abbrev m_M_feed : Nat := 211
abbrev m_M_throwing : Nat := 212
abbrev m_M_add : Nat := 213
abbrev m_M_fileError : Nat := 214
abbrev m_M_num : Nat := 215
abbrev m_M_objectError : Nat := 216
abbrev m_M_isHeader : Nat := 217
abbrev m_M_sections : Nat := 218
abbrev m_M_lies : Nat := 219
abbrev m_M_type : Nat := 220
abbrev m_M_row : Nat := 221
abbrev m_M_sectionError : Nat := 222
abbrev m_M_beginning : Nat := 223
abbrev m_M_size : Nat := 224
abbrev m_M_isKept : Nat := 225
abbrev m_M_flagsOf : Nat := 226
abbrev m_M_align : Nat := 227
abbrev m_M_isPower : Nat := 228
abbrev m_M_symbolsError : Nat := 229
abbrev m_M_symbols : Nat := 230
abbrev m_M_linkOf : Nat := 231
abbrev m_M_symbolMany : Nat := 232
abbrev m_M_isSymbol : Nat := 233
abbrev m_M_where : Nat := 234
abbrev m_M_symbol : Nat := 235
abbrev m_M_bind : Nat := 236
abbrev m_M_isName : Nat := 237
abbrev m_M_value : Nat := 238
abbrev m_M_symbolSize : Nat := 239
abbrev m_M_sitesError : Nat := 240
abbrev m_M_isSites : Nat := 241
abbrev m_M_info : Nat := 242
abbrev m_M_siteMany : Nat := 243
abbrev m_M_isSite : Nat := 244
abbrev m_M_site : Nat := 245
abbrev m_M_width : Nat := 246
abbrev m_M_isSlotted : Nat := 247
abbrev m_M_groupsError : Nat := 248
abbrev m_M_isGroup : Nat := 249
abbrev m_M_isGroupRight : Nat := 250
abbrev m_M_groupNumber : Nat := 251
abbrev m_M_isMembers : Nat := 252
abbrev m_M_drop : Nat := 253
abbrev m_M_give : Nat := 254
abbrev m_M_isTapeName : Nat := 255
abbrev m_M_toldAt : Nat := 256
abbrev m_M_wish : Nat := 257
abbrev m_M_forget : Nat := 258
abbrev m_M_link : Nat := 259
abbrev m_M_tellNames : Nat := 260
abbrev m_M_entered : Nat := 261
abbrev m_M_find : Nat := 262
abbrev m_M_takeAll : Nat := 263
abbrev m_M_takeFrom : Nat := 264
abbrev m_M_helps : Nat := 265
abbrev m_M_nameOf : Nat := 266
abbrev m_M_nameAt : Nat := 267
abbrev m_M_nameEnd : Nat := 268
abbrev m_M_take : Nat := 269
abbrev m_M_dropGroups : Nat := 270
abbrev m_M_object : Nat := 271
abbrev m_M_isAgain : Nat := 272
abbrev m_M_enter : Nat := 273
abbrev m_M_come : Nat := 274
abbrev m_M_strengthOf : Nat := 275
abbrev m_M_whereNow : Nat := 276
abbrev m_M_say : Nat := 277
abbrev m_M_ownNames : Nat := 278
abbrev m_M_look2 : Nat := 279
abbrev m_M_start : Nat := 280
abbrev m_M_reach : Nat := 281
abbrev m_M_reachName : Nat := 282
abbrev m_M_isGiven : Nat := 283
abbrev m_M_reachSection : Nat := 284
abbrev m_M_reachSites : Nat := 285
abbrev m_M_lay : Nat := 286
abbrev m_M_stays : Nat := 287
abbrev m_M_group : Nat := 288
abbrev m_M_findPool : Nat := 289
abbrev m_M_isStrings : Nat := 290
abbrev m_M_nodeOf : Nat := 291
abbrev m_M_childOf : Nat := 292
abbrev m_M_toPool : Nat := 293
abbrev m_M_findSlots : Nat := 294
abbrev m_M_isShort : Nat := 295
abbrev m_M_shortKind : Nat := 296
abbrev m_M_isInside : Nat := 297
abbrev m_M_isSectionNow : Nat := 298
abbrev m_M_slotOf : Nat := 299
abbrev m_M_layout : Nat := 300
abbrev m_M_findSegments : Nat := 301
abbrev m_M_segmentOf : Nat := 302
abbrev m_M_isCommon : Nat := 303
abbrev m_M_isThreaded : Nat := 304
abbrev m_M_placeSegment : Nat := 305
abbrev m_M_up : Nat := 306
abbrev m_M_placeGroup : Nat := 307
abbrev m_M_placeStrings : Nat := 308
abbrev m_M_byteAddress : Nat := 309
abbrev m_M_placeCommons : Nat := 310
abbrev m_M_findTemplate : Nat := 311
abbrev m_M_ownAddress : Nat := 312
abbrev m_M_own : Nat := 313
abbrev m_M_sites : Nat := 314
abbrev m_M_one : Nat := 315
abbrev m_M_siteValue : Nat := 316
abbrev m_M_symbolAddress : Nat := 317
abbrev m_M_siteAddress : Nat := 318
abbrev m_M_isOfStrings : Nat := 319
abbrev m_M_fillSite : Nat := 320
abbrev m_M_put : Nat := 321
abbrev m_M_runsOver : Nat := 322
abbrev m_M_write : Nat := 323
abbrev m_M_keepLink : Nat := 324
abbrev m_M_named : Nat := 325
abbrev m_M_wider : Nat := 326
abbrev m_M_numberOf : Nat := 327
abbrev m_M_namedSegment : Nat := 328
abbrev m_M_cause : Nat := 329
abbrev m_M_sum : Nat := 330
abbrev m_M_merge : Nat := 331
abbrev m_M_merges : Nat := 332
abbrev m_M_countParts : Nat := 333
abbrev m_M_part : Nat := 334
abbrev m_M_countSymbols : Nat := 335
abbrev m_M_numberName : Nat := 336
abbrev m_M_mergedRow : Nat := 337
abbrev m_M_placeOf : Nat := 338
abbrev m_M_partSize : Nat := 339
abbrev m_M_isPart : Nat := 340
abbrev m_M_textMany : Nat := 341
abbrev m_M_mergedSites : Nat := 342
abbrev m_M_mergedRows : Nat := 343
abbrev m_M_mergedSection : Nat := 344
abbrev m_M_mergedLocals : Nat := 345
abbrev m_M_mergedSymbol : Nat := 346
abbrev m_M_mergedNames : Nat := 347
abbrev m_M_mergedDefinition : Nat := 348
abbrev m_M_pack : Nat := 349
abbrev m_M_findObjects : Nat := 350
abbrev m_M_isDefining : Nat := 351
abbrev m_M_ahead : Nat := 352
abbrev m_M_digits : Nat := 353
abbrev m_M_highFirst : Nat := 354
abbrev m_M_list : Nat := 355
abbrev m_M_sixteen : Nat := 356
abbrev m_M_letterOf : Nat := 357
abbrev m_M_map : Nat := 358
abbrev m_M_wide : Nat := 359
abbrev m_M_sayNumber : Nat := 360
abbrev m_M_boot : Nat := 361
abbrev m_M_triedError : Nat := 362
abbrev m_M_isExecutable : Nat := 363
abbrev m_M_triedNum : Nat := 364
abbrev m_M_rowError : Nat := 365
abbrev m_M_findMemoryNames : Nat := 366
abbrev m_M_memorySymbol : Nat := 367
abbrev m_M_near : Nat := 368
abbrev m_M_rowOf : Nat := 369
abbrev m_M_peek : Nat := 370
abbrev m_M_flags : Nat := 371
abbrev m_M_address : Nat := 372
abbrev m_M_taken : Nat := 373
abbrev m_M_section : Nat := 374
abbrev m_M_place : Nat := 375
abbrev m_M_out : Nat := 376
abbrev m_M_look : Nat := 377
abbrev m_Arrays_fill : Nat := 378
abbrev m_Arrays_rangeCheck : Nat := 379
abbrev m_Arrays_fill_2 : Nat := 380
abbrev m_Arrays_fill_3 : Nat := 381
abbrev m_L_feed : Nat := 382
abbrev m_L_add : Nat := 383
abbrev m_L_drop : Nat := 384
abbrev m_L_give : Nat := 385
abbrev m_L_wish : Nat := 386
abbrev m_L_named : Nat := 387
abbrev m_L_list : Nat := 388
abbrev m_L_sum : Nat := 389
abbrev m_L_map : Nat := 390
abbrev m_L_address : Nat := 391
abbrev m_L_taken : Nat := 392
abbrev m_L_cause : Nat := 393
abbrev m_L_section : Nat := 394
abbrev m_L_place : Nat := 395
abbrev m_L_out : Nat := 396
abbrev m_L_look : Nat := 397
abbrev m_L_law : Nat := 398
